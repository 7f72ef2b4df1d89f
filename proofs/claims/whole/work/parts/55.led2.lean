/-! weights led: the reference -/
theorem rz_out {f : Nat → Bool} {n x : Nat} (hx : f x = false) : ∀ (L : Nat) (s : (Nat → Nat) × (Nat → Nat)), (rz f n L s).1 x = s.1 x
  | 0, _ => rfl
  | L + 1, s => by
    rw [rz]
    cases hp : pick f s.2 n with
    | none => rfl
    | some b =>
      obtain ⟨b1, b2, b3, b4⟩ := (pick_spec (f := f) (K := s.2) n).2 b hp
      show (rz f n L _).1 x = _
      rw [rz_out hx L]
      show (if x = b then _ else _) = _
      rw [if_neg (fun e => by rw [e, b2] at hx; cases hx)]
theorem rz_le {f : Nat → Bool} {n x : Nat} : ∀ (L : Nat) (s : (Nat → Nat) × (Nat → Nat)), (rz f n L s).1 x ≤ s.1 x + L
  | 0, _ => Nat.le_refl _
  | L + 1, s => by
    rw [rz]
    cases hp : pick f s.2 n with
    | none => show s.1 x ≤ _; omega
    | some b =>
      have := rz_le (f := f) (n := n) (x := x) L (fun y => if y = b then s.1 y + 1 else s.1 y, fun y => if y = b then 1 else s.2 y)
      show (rz f n L _).1 x ≤ _
      have e : (if x = b then s.1 x + 1 else s.1 x) ≤ s.1 x + 1 := by split <;> omega
      have e2 : (rz f n L (fun y => if y = b then s.1 y + 1 else s.1 y, fun y => if y = b then 1 else s.2 y)).1 x ≤ (if x = b then s.1 x + 1 else s.1 x) + L := this
      omega
theorem rz_tel {f tel : Nat → Bool} {n x : Nat} (hx : tel x = false) : ∀ (L : Nat) (s : (Nat → Nat) × (Nat → Nat)), L ≤ cnt (fun y => f y && decide (3 ≤ s.2 y)) n → (∀ y, y < n → f y = true → tel y = false → s.2 y ≤ 2) → (rz f n L s).1 x = s.1 x
  | 0, _, _, _ => rfl
  | L + 1, s, h, ht => by
    obtain ⟨b, e1, e2, e3, e4, e5, e6⟩ := rz_step h
    rw [rz, e1]
    show (rz f n L _).1 x = _
    rw [rz_tel hx L _ e6 (fun y hy hf hq => by
      show (if y = b then 1 else s.2 y) ≤ 2
      have := ht y hy hf hq
      split <;> omega)]
    show (if x = b then _ else _) = _
    rw [if_neg (fun e => by rw [e] at hx; have := ht b e2 e3 hx; omega)]
theorem dvS_WI {f tel : Nat → Bool} {n S : Nat} {w : Nat → Nat} (h : WI2 tel n w) (hS : S ≤ 30000) (hn : n ≤ 30) : WI2 tel n (dvS f n S w) := by
  intro x hx
  obtain ⟨h1, h2⟩ := h x hx
  unfold dvS
  by_cases z : gsm f w n = 0
  · rw [if_pos z]; exact ⟨h1, h2⟩
  · rw [if_neg z]
    have hT : 0 < gsm f w n := by omega
    obtain ⟨l1, l2⟩ := left_le (S := S) hT
    have lc := cnt_le (fun x => f x && decide (3 ≤ S * w x % gsm f w n + 2)) n
    constructor
    · cases q : f x with
      | false =>
        rw [rz_out q]
        show (if f x then _ else _) ≤ _
        rw [q]; exact h1
      | true =>
        have a := rz_le (f := f) (n := n) (x := x) (S - gsm f (fun x => S * w x / gsm f w n) n) (fun x => if f x then S * w x / gsm f w n else w x, fun x => S * w x % gsm f w n + 2)
        have b : (if f x then S * w x / gsm f w n else w x) ≤ S := by
          rw [q, if_pos rfl]
          rw [Nat.div_le_iff_le_mul_add_pred hT]
          have := Nat.mul_le_mul_left S (gsm_part (w := w) hx q)
          rw [Nat.mul_comm (gsm f w n) S]; omega
        have c : (rz f n (S - gsm f (fun x => S * w x / gsm f w n) n) (fun x => if f x then S * w x / gsm f w n else w x, fun x => S * w x % gsm f w n + 2)).1 x ≤ (if f x then S * w x / gsm f w n else w x) + (S - gsm f (fun x => S * w x / gsm f w n) n) := a
        omega
    · intro ht
      rw [rz_tel ht _ _ l2 (fun y hy hf hq => by
        show S * w y % _ + 2 ≤ 2
        rw [(h y hy).2 hq]; simp)]
      show (if f x then _ else _) = 0
      rw [h2 ht]
      simp
theorem smr_e {W ρ ρ2 : Mem} (h : SmR W ρ) (e : ρ2.1 = ρ.1) : SmR W ρ2 := by
  unfold SmR at h ⊢
  rw [e]; exact h
/-- in the layer or with the mark j -/
def ing (W : Mem) (a : Int32) (j x : Nat) : Bool := if a = 0 then decide (ly W x = j) else decide (mk W x = j)
theorem is_R {F : Nat} {W ρ : Mem} (hw : WF W) (hs : SmR W ρ) {tel : Nat → Bool} (h20 : ∀ x, x < nm W → ρ.1 20 x = if tel x then 1 else 0) {x : Nat} (hx : x < nm W) (a : Int32) {j : Nat} (hj : j < 4) : f_X12_isOf F ρ (nI x) a (nI j) = some (if (ing W a j x && tel x) = true then 1 else 0, ρ) := by
  have hN := rw_N hw
  have el := rw_l hw hs hx
  have em := rw_m hw hs hx
  unfold f_X12_isOf f_X12_isOf_b28 ing
  simp (disch := omega) only [ck_in, nI_clamp, xbn, h20 x hx, el.1, em.1]
  cases q : tel x with
  | false => simp
  | true =>
    by_cases qa : a = 0
    · by_cases qj : ly W x = j
      · rw [qj]; simp [qa]
      · simp only [qa, if_true, show ¬ (1 : Int32) = 0 by decide, if_false, not_true_eq_false]
        rw [if_pos (show ¬ nI (ly W x) = nI j from fun e => qj ((nI_eq (by omega) (by omega)).mp e))]
        simp [qj]
    · by_cases qj : mk W x = j
      · rw [qj]; simp [qa]
      · simp only [qa, if_true, show ¬ (1 : Int32) = 0 by decide, if_false, not_false_eq_true]
        rw [if_pos (show ¬ nI (mk W x) = nI j from fun e => qj ((nI_eq (by omega) (by omega)).mp e))]
        simp [qj]
/-- what the reference holds: weights w -/
def RW (W : Mem) (tel : Nat → Bool) (w : Nat → Nat) (ρ : Mem) : Prop := SmR W ρ ∧ (∀ x, x < nm W → ρ.1 20 x = if tel x then 1 else 0) ∧ ∀ x, x < nm W → ρ.2.1 19 x = lN (w x)
theorem b0t {b : Bool} {α : Type} {x y : α} (h : b = true) : (if (if b = true then (1 : Int32) else 0) = 0 then x else y) = y := by subst h; rfl
theorem b0f {b : Bool} {α : Type} {x y : α} (h : b = false) : (if (if b = true then (1 : Int32) else 0) = 0 then x else y) = x := by subst h; rfl
theorem gsm_tel {tel : Nat → Bool} {N : Nat} {w : Nat → Nat} (h : ∀ x, x < N → tel x = false → w x = 0) (g : Nat → Bool) {n : Nat} (hn : n ≤ N) : gsm (fun x => g x && tel x) w n = gsm g w n := gsm_cg (fun x hx => by
  cases q : tel x with
  | false => rw [h x (by omega) q]; simp
  | true => simp)
theorem wo_R {F : Nat} (hF : 2000 ≤ F) {W ρ : Mem} (hw : WF W) {tel : Nat → Bool} {w : Nat → Nat} (h : RW W tel w ρ) (hl : WI2 tel (nm W) w) (a : Int32) {j : Nat} (hj : j < 4) : f_X12_weightOf F ρ a (nI j) = some (lN (gsm (ing W a j) w (nm W)), ρ) := by
  have hN := rw_N hw
  rw [← gsm_tel (fun x hx => (hl x hx).2) (ing W a j) (Nat.le_refl _)]
  unfold f_X12_weightOf
  refine run_up (N := nm W) (fun n i => f_X12_weightOf_b5 F n ρ a (nI j) (lN (gsm (fun x => ing W a j x && tel x) w i)) (nI i)) (fun n i hi y hy => ?_) (fun n => ?_) F 0 (Nat.zero_le _) (by omega)
  · have e := is_R (F := F) hw h.1 h.2.1 hi a hj
    rw [gsm] at hy
    unfold f_X12_weightOf_b5 f_X12_weightOf_b37
    cases q : (ing W a j i && tel i) with
    | false =>
      rw [q] at hy
      simp (disch := omega) only [xbn, rw_n hw h.1, br_le_f, e, q, xca, Bool.false_eq_true, if_false, if_true, Int64.add_zero, nI_1, Nat.add_zero] at hy ⊢
      exact hy
    | true =>
      rw [q] at hy
      simp (disch := omega) only [xbn, rw_n hw h.1, br_le_f, e, q, xca, if_true, show ¬ (1 : Int32) = 0 by decide, if_false, ck_in, nI_clamp, h.2.2 i hi, lN_add, nI_1] at hy ⊢
      exact hy
  · unfold f_X12_weightOf_b5
    simp (disch := omega) only [xbn, rw_n hw h.1, br_le_t]
theorem rl_R {F : Nat} (hF : 2000 ≤ F) {W : Mem} (hw : WF W) {g tel : Nat → Bool} : ∀ (L n : Nat) (ρ : Mem) (s : (Nat → Nat) × (Nat → Nat)), SmR W ρ → (∀ x, x < nm W → ρ.2.1 19 x = lN (s.1 x)) → (∀ x, s.2 x < 2 ^ 62) → (∀ x, x < nm W → ρ.2.1 21 x = rk (if (g x && tel x) = true then s.2 x else 0)) → (∀ x, x < nm W → g x = true → tel x = false → s.2 x ≤ 2) → L ≤ cnt (fun x => g x && decide (3 ≤ s.2 x)) (nm W) → L ≤ 30 → L < n → ∃ ρ2, f_X12_parts_b126 F n ρ (lN L) = some ((), ρ2) ∧ ρ2.1 = ρ.1 ∧ ∀ x, x < nm W → ρ2.2.1 19 x = lN ((rz g (nm W) L s).1 x) := by
  have hN := rw_N hw
  intro L
  induction L with
  | zero =>
    intro n ρ s _ h19 _ _ _ _ _ hn
    obtain ⟨n, rfl⟩ : ∃ m, n = m + 1 := ⟨n - 1, by omega⟩
    unfold f_X12_parts_b126
    exact ⟨ρ, by simp (disch := omega) only [lgle, l_0, bl_le_t], rfl, h19⟩
  | succ L ih =>
    intro n ρ s hs h19 hK h21 ht hL hi hn
    obtain ⟨n, rfl⟩ : ∃ m, n = m + 1 := ⟨n - 1, by omega⟩
    obtain ⟨x, e1, e2, e3, e4, ⟨y, y1, y2, y3⟩, e6⟩ := rz_step hL
    have mp := mrg_pick y1 y2 y3 ht
    rw [e1] at mp
    have mx : mrg (fun x => if g x && tel x then s.2 x else 0) (nm W) = x := (Option.some.inj mp).symm
    have tx : tel x = true := by
      cases q : tel x with
      | true => rfl
      | false => have := ht x e2 e3 q; omega
    have hK' : ∀ x, (if (g x && tel x) = true then s.2 x else 0) < 2 ^ 62 := fun x => by
      have := hK x
      split <;> omega
    obtain ⟨ρ2, f1, f2, f3⟩ := ih n (ul (ul ρ 19 x (lN (s.1 x + 1))) 21 x (-1)) (fun y => if y = x then s.1 y + 1 else s.1 y, fun y => if y = x then 1 else s.2 y) (smr_e hs rfl) (fun y hy => by
        show _ = lN (if y = x then s.1 y + 1 else s.1 y)
        rw [ul_c (by omega)]
        by_cases e : y = x
        · subst e; rw [ul_s, if_pos rfl]
        · rw [ul_o e, if_neg e]; exact h19 y hy) (fun y => by
        show (if y = x then 1 else s.2 y) < 2 ^ 62
        have := hK y
        split <;> omega) (fun y hy => by
        show _ = rk (if (g y && tel y) = true then (if y = x then 1 else s.2 y) else 0)
        by_cases e : y = x
        · subst e; rw [ul_s, e3, tx, if_pos (by rfl), if_pos rfl]; rfl
        · rw [ul_o e, ul_c (by omega), if_neg e]; exact h21 y hy) (fun y hy hg hq => by
        show (if y = x then 1 else s.2 y) ≤ 2
        have := ht y hy hg hq
        split <;> omega) e6 (by omega) (by omega)
    refine ⟨ρ2, ?_, f2, fun y hy => by rw [f3 y hy, rz, e1]⟩
    unfold f_X12_parts_b126
    simp (disch := omega) only [lgle, l_0, bl_le_f]
    have n1 : 1 ≤ nm W := by omega
    have key := run_up (N := nm W) (fun n' i => f_X12_parts_b139 F (fun μ' x7' => f_X12_parts_b126 F n μ' x7') n' ρ (lN (L + 1)) (nI (mrg (fun x => if g x && tel x then s.2 x else 0) i)) (nI i)) (r := some ((), ρ2)) (fun n' i hi2 y hy => ?_) (fun n' => ?_) F 1 n1 (by omega)
    · have z : mrg (fun x => if (g x && tel x) = true then s.2 x else 0) 1 = 0 := by rw [mrg]; show (if _ < _ then 0 else 0) = 0; simp
      rw [z] at key
      exact key
    · unfold f_X12_parts_b139 f_X12_parts_b173
      by_cases i0 : i = 0
      · subst i0
        have z : mrg (fun x => if g x && tel x then s.2 x else 0) (0 + 1) = 0 := by rw [mrg]; show (if _ < _ then 0 else 0) = 0; simp
        rw [z] at hy
        have z0 : mrg (fun x => if g x && tel x then s.2 x else 0) 0 = 0 := rfl
        simp (disch := omega) only [xbn, rw_n hw hs, br_le_f, z0, ck_in, nI_clamp, lgle, nI_1]
        rw [if_pos (by rw [Int64.le_iff_toInt_le]; exact Int.le_refl _)]
        exact hy
      · obtain ⟨m1, m2, m3⟩ := mrg_spec (K := fun x => if g x && tel x then s.2 x else 0) i (by omega)
        rw [mrg] at hy
        generalize mrg (fun x => if g x && tel x then s.2 x else 0) i = m at *
        simp (disch := omega) only [xbn, rw_n hw hs, br_le_f, ck_in, nI_clamp, lgle, h21 i hi2, h21 m (by omega), rk_le (hK' i) (hK' m), nI_1]
        by_cases z : (if (g m && tel m) = true then s.2 m else 0) < (if (g i && tel i) = true then s.2 i else 0)
        · rw [if_pos z] at hy
          rw [if_neg (by omega)]
          exact hy
        · rw [if_neg z] at hy
          rw [if_pos (by omega)]
          exact hy
    · unfold f_X12_parts_b139
      rw [mx]
      simp (disch := omega) only [xbn, rw_n hw hs, br_le_t, ck_in, nI_clamp, h19 x e2, l_1, lN_add, lN_sub, Nat.add_sub_cancel]
      exact f1
/-- the known sum of a layer or a mark -/
def kS (W : Mem) (a : Int32) (j : Nat) : Nat := if a = 0 then (W.1 17 j).toNatClampNeg else (W.1 18 j).toNatClampNeg
theorem kS_n {W ρ : Mem} (hw : WF W) (hs : SmR W ρ) (j : Nat) : (j < 4 → ρ.1 17 j = nI (kS W 0 j) ∧ kS W 0 j ≤ 30000) ∧ ∀ a : Int32, ¬ a = 0 → j < 3 → ρ.1 18 j = nI (kS W a j) ∧ kS W a j ≤ 30000 := by
  constructor
  · intro hj
    obtain ⟨v, e, hv⟩ := hw.2.2.2.2.1 j hj
    unfold kS
    rw [if_pos rfl, hs.c (by omega), e, nI_clamp (by omega)]
    exact ⟨rfl, hv⟩
  · intro a ha hj
    obtain ⟨v, e, hv⟩ := hw.2.2.2.2.2.1 j hj
    unfold kS
    rw [if_neg ha, hs.c (by omega), e, nI_clamp (by omega)]
    exact ⟨rfl, hv⟩
theorem pd_R {F : Nat} (hF : 2000 ≤ F) {W ρ : Mem} (hw : WF W) {tel : Nat → Bool} {w : Nat → Nat} (h : RW W tel w ρ) (hl : WI2 tel (nm W) w) (a : Int32) {j : Nat} (hj : j < 4) {S : Nat} (hS : S ≤ 30000) (hT : 0 < gsm (ing W a j) w (nm W)) : ∃ ρ2, f_X12_parts_b35 F ρ a (nI j) (lN (gsm (ing W a j) w (nm W))) (lN S) = some ((), ρ2) ∧ RW W tel (dvS (ing W a j) (nm W) S w) ρ2 := by
  have hN := rw_N hw
  have tb := gsm_b (g := ing W a j) (fun x hx => (hl x hx).1) (Nat.le_refl _) hN
  obtain ⟨l1, l2⟩ := left_le (S := S) hT
  have lc := cnt_le (fun x => ing W a j x && decide (3 ≤ S * w x % gsm (ing W a j) w (nm W) + 2)) (nm W)
  have hgo : ∀ x, dvS (ing W a j) (nm W) S w x = (rz (ing W a j) (nm W) (S - gsm (ing W a j) (fun x => S * w x / gsm (ing W a j) w (nm W)) (nm W)) (fun x => if ing W a j x then S * w x / gsm (ing W a j) w (nm W) else w x, fun x => S * w x % gsm (ing W a j) w (nm W) + 2)).1 x := fun x => by unfold dvS; rw [if_neg (by omega)]
  have hpart : ∀ x, x < nm W → ing W a j x = true → w x ≤ gsm (ing W a j) w (nm W) := fun x hx hg => gsm_part hx hg
  have eq : gsm (fun x => ing W a j x && tel x) (fun x => S * w x / gsm (ing W a j) w (nm W)) (nm W) = gsm (ing W a j) (fun x => S * w x / gsm (ing W a j) w (nm W)) (nm W) := gsm_tel (N := nm W) (fun x hx ht => by rw [(hl x hx).2 ht]; simp) _ (Nat.le_refl _)
  suffices hsf : ∃ ρ2, f_X12_parts_b35 F ρ a (nI j) (lN (gsm (ing W a j) w (nm W))) (lN S) = some ((), ρ2) ∧ ρ2.1 = ρ.1 ∧ ∀ x, x < nm W → ρ2.2.1 19 x = lN (dvS (ing W a j) (nm W) S w x) by
    obtain ⟨ρ2, f1, f2, f3⟩ := hsf
    exact ⟨ρ2, f1, smr_e h.1 f2, fun x hx => by rw [f2]; exact h.2.1 x hx, f3⟩
  simp only [hgo]
  generalize hTe : gsm (ing W a j) w (nm W) = T at *
  unfold f_X12_parts_b35
  refine run_rel (N := nm W) (fun n i ρ' => f_X12_parts_b44 F n ρ' a (nI j) (lN T) (lN S) (lN (S - gsm (fun x => ing W a j x && tel x) (fun x => S * w x / T) i)) (nI i)) (fun i ρ' => ρ'.1 = ρ.1 ∧ (∀ x, x < nm W → ρ'.2.1 19 x = lN (if (decide (x < i) && (ing W a j x && tel x)) = true then S * w x / T else w x)) ∧ ∀ x, x < i → ρ'.2.1 21 x = rk (if (ing W a j x && tel x) = true then S * w x % T + 2 else 0)) (fun o => ∃ ρ2, o = some ((), ρ2) ∧ ρ2.1 = ρ.1 ∧ ∀ x, x < nm W → ρ2.2.1 19 x = lN ((rz (ing W a j) (nm W) (S - gsm (ing W a j) (fun x => S * w x / T) (nm W)) (fun x => if ing W a j x then S * w x / T else w x, fun x => S * w x % T + 2)).1 x)) (fun n i ρ' hi hI => Or.inl ?_) (fun n ρ' hI => ?_) F 0 ρ (Nat.zero_le _) (by omega) ⟨rfl, fun x hx => by simpa using h.2.2 x hx, fun x hx => absurd hx (Nat.not_lt_zero _)⟩
  · obtain ⟨i1, i2, i3⟩ := hI
    have hs : SmR W (ul ρ' 21 i (-2)) := smr_e h.1 i1
    have e := is_R (F := F) hw hs (tel := tel) (fun x hx => by rw [ul_1, i1]; exact h.2.1 x hx) hi a hj
    have n0 := rw_n hw (smr_e h.1 i1)
    cases q : (ing W a j i && tel i) with
    | false =>
      refine ⟨ul ρ' 21 i (-2), ⟨i1, fun x hx => ?_, fun x hx => ?_⟩, fun y hy => ?_⟩
      · rw [ul_c (by omega), i2 x hx]
        by_cases z : x = i
        · subst z; simp [q]
        · simp [show x < i + 1 ↔ x < i by omega]
      · by_cases z : x = i
        · rw [z, ul_s, q]; rfl
        · rw [ul_o z]; exact i3 x (by omega)
      · rw [gsm, q] at hy
        unfold f_X12_parts_b44 f_X12_parts_b120
        simp (disch := omega) only [xbn, n0, br_le_f, ck_in, nI_clamp, e, q, xca, Bool.false_eq_true, if_false, if_true, nI_1, Nat.add_zero] at hy ⊢
        exact hy
    | true =>
      have q' := q
      rw [Bool.and_eq_true] at q'
      have wl := (hl i hi).1
      have wp := hpart i hi q'.1
      have m19 : ρ'.2.1 19 i = lN (w i) := by rw [i2 i hi]; simp
      have sw : S * w i ≤ 30000 * 600000 := Nat.mul_le_mul hS wl
      have qs : S * w i / T ≤ S := by
        rw [Nat.div_le_iff_le_mul_add_pred hT]
        have := Nat.mul_le_mul_left S wp
        rw [Nat.mul_comm T S]; omega
      have mono := gsm_mono (f := fun x => ing W a j x && tel x) (w := fun x => S * w x / T) (i + 1) (nm W - (i + 1))
      rw [show i + 1 + (nm W - (i + 1)) = nm W by omega, gsm, if_pos q, eq] at mono
      refine ⟨ul (ul (ul ρ' 21 i (-2)) 19 i (lN (S * w i / T))) 21 i (lN (S * w i % T)), ⟨i1, fun x hx => ?_, fun x hx => ?_⟩, fun y hy => ?_⟩
      · rw [ul_c (by omega)]
        by_cases z : x = i
        · subst z; rw [ul_s]; simp [q]
        · rw [ul_o z, ul_c (by omega), i2 x hx]
          simp [show x < i + 1 ↔ x < i by omega]
      · by_cases z : x = i
        · rw [z, ul_s, if_pos q]; exact rk_n _
        · rw [ul_o z, ul_c (by omega), ul_o z]; exact i3 x (by omega)
      · rw [gsm, if_pos q] at hy
        unfold f_X12_parts_b44 f_X12_parts_b120
        have g19 : ∀ v, (ul (ul ρ' 21 i (-2)) 19 i v).2.1 19 i = v := fun v => ul_s _ _ _ _
        simp (disch := omega) only [xbn, n0, br_le_f, ck_in, nI_clamp, e, q, xca, if_true, show ¬ (1 : Int32) = 0 by decide, if_false, ul_c, m19, lN_mul, dvl_n, lrem3, pk_lDiv, ul_s, lN_sub, nI_1]
        rw [show S - gsm (fun x => ing W a j x && tel x) (fun x => S * w x / T) i - S * w i / T = S - (gsm (fun x => ing W a j x && tel x) (fun x => S * w x / T) i + S * w i / T) by omega]
        exact hy
  · obtain ⟨i1, i2, i3⟩ := hI
    have hs := smr_e h.1 i1
    unfold f_X12_parts_b44
    simp (disch := omega) only [xbn, rw_n hw hs, br_le_t]
    rw [eq]
    obtain ⟨ρ2, f1, f2, f3⟩ := rl_R hF hw (g := ing W a j) (tel := tel) (S - gsm (ing W a j) (fun x => S * w x / T) (nm W)) F ρ' (fun x => if ing W a j x then S * w x / T else w x, fun x => S * w x % T + 2) hs (fun x hx => by
        rw [i2 x hx]
        show _ = lN (if ing W a j x = true then S * w x / T else w x)
        cases qg : ing W a j x with
        | false => simp
        | true =>
          cases qt : tel x with
          | false => rw [(hl x hx).2 qt]; simp
          | true => simp [hx]) (fun x => by
        show S * w x % T + 2 < 2 ^ 62
        have := Nat.mod_lt (S * w x) hT
        omega) (fun x hx => i3 x hx) (fun x hx _ ht => by
        show S * w x % T + 2 ≤ 2
        rw [(hl x hx).2 ht]; simp) l2 (by omega) (by omega)
    exact ⟨ρ2, f1, f2.trans i1, f3⟩
theorem pa_R {F : Nat} (hF : 2000 ≤ F) {W ρ : Mem} (hw : WF W) {tel : Nat → Bool} {w : Nat → Nat} (h : RW W tel w ρ) (hl : WI2 tel (nm W) w) (a : Int32) {j : Nat} (h0 : a = 0 → j < 4) (h1 : ¬ a = 0 → j < 3) : kS W a j ≤ 30000 ∧ ∃ ρ2, f_X12_parts F ρ a (nI j) = some ((), ρ2) ∧ RW W tel (dvS (ing W a j) (nm W) (kS W a j) w) ρ2 := by
  have hN := rw_N hw
  have hj : j < 4 := by
    by_cases q : a = 0
    · exact h0 q
    · have := h1 q; omega
  have tb := gsm_b (g := ing W a j) (fun x hx => (hl x hx).1) (Nat.le_refl _) hN
  have ks := kS_n hw h.1 j
  have kb : kS W a j ≤ 30000 := by
    by_cases q : a = 0
    · rw [q]; exact (ks.1 (h0 q)).2
    · exact (ks.2 a q (h1 q)).2
  refine ⟨kb, ?_⟩
  unfold f_X12_parts
  rw [wo_R hF hw h hl a hj]
  simp (disch := omega) only [xca, lge, l_0]
  by_cases z : gsm (ing W a j) w (nm W) = 0
  · rw [z, if_neg (by simp)]
    refine ⟨ρ, rfl, ?_⟩
    have : dvS (ing W a j) (nm W) (kS W a j) w = w := by unfold dvS; rw [if_pos z]
    rw [this]; exact h
  · rw [if_pos (show ¬ lN (gsm (ing W a j) w (nm W)) = lN 0 from fun e => z ((pk_lEQ (by omega) (by omega)).mp e))]
    have hT : 0 < gsm (ing W a j) w (nm W) := by omega
    obtain ⟨ρ2, f1, f2⟩ := pd_R hF hw h hl a hj kb hT
    refine ⟨ρ2, ?_, f2⟩
    by_cases q : a = 0
    · have e := (ks.1 (h0 q)).1
      have hj4 := h0 q
      subst q
      rw [if_neg (by decide)]
      simp (disch := omega) only [ck_in, nI_clamp, xbn, e, nI_l]
      exact f1
    · have e := (ks.2 a q (h1 q)).1
      have hj3 := h1 q
      rw [if_pos q]
      simp (disch := omega) only [ck_in, nI_clamp, xbn, e, nI_l]
      exact f1
