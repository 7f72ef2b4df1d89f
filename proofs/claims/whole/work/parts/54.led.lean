/-! weights led: the class -/
def w0 (W : Mem) (k : Nat) (w : Nat → Nat) (d x : Nat) : Nat := if (d.testBit x && decide (¬ vl W x = -1)) = true then TB W k w x else 0
theorem w0_le {W : Mem} (hw : WF W) {k : Nat} {w : Nat → Nat} (ho : OK W k w) (d : Nat) {x : Nat} (hx : x < nm W) : w0 W k w d x ≤ 600000 := by
  have := TB_le hw ho hx
  unfold w0
  split <;> omega
/-- what the class holds: weights w -/
def CW (W : Mem) (w : Nat → Nat) (μ : Mem) : Prop := Rel μ W ∧ ∀ x, x < nm W → μ.1 66 x = nI (w x)
theorem st_C {F : Nat} (hF : 2000 ≤ F) {W : Mem} {k : Nat} {w : Nat → Nat} {t : Nat} {μ : Mem} (h : WY W k w t μ) (ho : OK W k w) {d : Nat} (hd : d < 2 ^ nm W) (hs : ∀ x, x < nm W → d.testBit x = true → 0 < sA W k w x) : ∃ μ2, f_X10_start F μ (some t) (nI (d &&& vbs W)) = some ((), μ2) ∧ SmC μ μ2 ∧ ∀ x, x < nm W → μ2.1 66 x = nI (w0 W k w d x) := by
  have hw := h.1.1
  have hN := rw_N hw
  have hd2 := Nat.lt_of_lt_of_le hd (pow_le30 hN)
  have dl : d &&& vbs W ≤ d := Nat.and_le_left
  unfold f_X10_start
  refine run_rel (N := 30) (fun n i μ' => f_X10_start_b2 F n μ' (some t) (nI (d &&& vbs W)) (nI i)) (fun i μ' => SmC μ μ' ∧ ∀ x, x < i → x < nm W → μ'.1 66 x = nI (w0 W k w d x)) (fun o => ∃ μ2, o = some ((), μ2) ∧ SmC μ μ2 ∧ ∀ x, x < nm W → μ2.1 66 x = nI (w0 W k w d x)) (fun n i μ' hi hI => Or.inl ?_) (fun n μ' hI => ?_) F 0 μ (Nat.zero_le _) (by omega) ⟨SmC.rf μ, fun x hx => absurd hx (Nat.not_lt_zero _)⟩
  · obtain ⟨i1, i2⟩ := hI
    have hy := (h.sm i1).sm (smc_i (k := 66) (by omega) μ' i 0)
    have tb : (d &&& vbs W).testBit i = (d.testBit i && (decide (i < nm W) && decide (¬ vl W i = -1))) := by rw [Nat.testBit_and, vbs_t]
    cases q : (d &&& vbs W).testBit i with
    | false =>
      refine ⟨ui μ' 66 i 0, ⟨i1.tr (smc_i (by omega) _ _ _), fun x hx hxn => ?_⟩, fun y hy2 => ?_⟩
      · by_cases e : x = i
        · subst e
          rw [ui_s]
          rw [tb] at q
          unfold w0
          simp only [hxn, decide_true, Bool.true_and] at q
          rw [q]; rfl
        · rw [ui_o e]; exact i2 x (by omega) hxn
      · unfold f_X10_start_b2 f_X10_start_b49
        simp (disch := omega) only [i_30, br_le_f, ck_in, nI_clamp, xbn, onul, ii_eq, q, xcp, Bool.false_eq_true, if_false, if_true, nI_1]
        exact hy2
    | true =>
      have q' := q
      rw [tb] at q'
      simp only [Bool.and_eq_true, decide_eq_true_eq] at q'
      obtain ⟨db, hin, hv⟩ := q'
      have sp := hs i hin db
      have sh := sh1_C hF hy ho hin 68
      have tb1 := tb_1 (F := F) (ul (ul (ui μ' 66 i 0) 68 0 (lN (ra (sA W k w i) (sB W k w i)))) 68 1 (lN (rb (sA W k w i) (sB W k w i)))) 68 hw ho hin sp (by rw [ul_o (by omega), ul_s]) (ul_s _ _ _ _)
      refine ⟨ui (ul (ul (ui μ' 66 i 0) 68 0 (lN (ra (sA W k w i) (sB W k w i)))) 68 1 (lN (rb (sA W k w i) (sB W k w i)))) 66 i (nI (TB W k w i)), ⟨((i1.tr (smc_i (by omega) _ _ _)).tr (smc_2 _ 68 _ _)).tr (smc_i (by omega) _ _ _), fun x hx hxn => ?_⟩, fun y hy2 => ?_⟩
      · by_cases e : x = i
        · subst e
          rw [ui_s]
          unfold w0
          rw [db]
          simp [hv]
        · rw [ui_o e, ul_1, ul_1, ui_o e]; exact i2 x (by omega) hxn
      · unfold f_X10_start_b2 f_X10_start_b49
        simp (disch := omega) only [i_30, br_le_f, ck_in, nI_clamp, xbn, onul, ii_eq, q, xcp, if_true, show ¬ (1 : Int32) = 0 by decide, if_false, sh, xca, tb1, nI_1]
        exact hy2
  · obtain ⟨i1, i2⟩ := hI
    unfold f_X10_start_b2
    rw [if_pos (by decide)]
    exact ⟨μ', rfl, i1, fun x hx => i2 x (by omega) hx⟩
theorem gsm_b {g : Nat → Bool} {w : Nat → Nat} {N : Nat} (hl : ∀ x, x < N → w x ≤ 600000) {i : Nat} (hi : i ≤ N) (hN : N ≤ 30) : gsm g w i ≤ 18000000 := by
  have := gsm_le (f := g) (w := w) (X := 600000) (n := i) (fun x hx => hl x (by omega))
  omega
theorem mg_t {W : Mem} (g : Nat → Bool) {i : Nat} (hi : i < nm W) : (msk g (nm W)).testBit i = g i := by rw [msk_t]; simp [hi]
theorem su_C {F : Nat} (hF : 2000 ≤ F) {W μ : Mem} {w : Nat → Nat} (h : CW W w μ) (hl : ∀ x, x < nm W → w x ≤ 600000) (g : Nat → Bool) : f_X10_sumOf F μ (nI (msk g (nm W))) = some (nI (gsm g w (nm W)), μ) := by
  have hN := rw_N h.1.1
  have ml := msk_b (f := g) hN
  unfold f_X10_sumOf
  refine run_up (N := nm W) (fun n i => f_X10_sumOf_b4 F n μ (nI (msk g (nm W))) (nI (gsm g w i)) (nI i)) (fun n i hi y hy => ?_) (fun n => ?_) F 0 (Nat.zero_le _) (by omega)
  · have tb := mg_t g hi
    have gb := gsm_b (g := g) hl (Nat.le_of_lt hi) hN
    have wi := hl i hi
    rw [gsm] at hy
    unfold f_X10_sumOf_b4 f_X10_sumOf_b32
    cases q : g i with
    | false =>
      rw [q] at hy
      simp (disch := omega) only [xbn, cw_n h.1, br_le_f, ii_eq, tb, q, xcp, Bool.false_eq_true, if_false, if_true, nI_1, Nat.add_zero] at hy ⊢
      exact hy
    | true =>
      rw [q] at hy
      simp (disch := omega) only [xbn, cw_n h.1, br_le_f, ii_eq, tb, q, xcp, if_true, show ¬ (1 : Int32) = 0 by decide, if_false, ck_in, nI_clamp, h.2 i hi, nI_add, nI_1] at hy ⊢
      exact hy
  · unfold f_X10_sumOf_b4
    simp (disch := omega) only [xbn, cw_n h.1, br_le_t]
/-- the class raises the first of the greatest -/
theorem ra_C {F : Nat} (hF : 2000 ≤ F) {W μ : Mem} {w : Nat → Nat} {g : Nat → Bool} {K : Nat → Nat} (h : CW W w μ) (hK : ∀ x, K x < 2 ^ 62) (h67 : ∀ x, x < nm W → g x = true → μ.2.1 67 x = rk (K x)) {x : Nat} (hp : pick g K (nm W) = some x) : f_X10_raiseGreatestRest F μ (nI (msk g (nm W))) = some ((), ul (ui μ 66 x (nI (w x + 1))) 67 x (-1)) := by
  have hN := rw_N h.1.1
  have ml := msk_b (f := g) hN
  obtain ⟨b1, b2, b3, b4⟩ := (pick_spec (f := g) (K := K) (nm W)).2 x hp
  unfold f_X10_raiseGreatestRest
  refine run_up (N := nm W) (fun n i => f_X10_raiseGreatestRest_b4 F n μ (nI (msk g (nm W))) (oi (bo g (fun c b => decide (K b < K c)) i)) (nI i)) (fun n i hi y hy => ?_) (fun n => ?_) F 0 (Nat.zero_le _) (by omega)
  · have tb := mg_t g hi
    rw [bo] at hy
    unfold f_X10_raiseGreatestRest_b4 f_X10_raiseGreatestRest_b44 f_X10_raiseGreatestRest_b46
    cases q : g i with
    | false =>
      rw [q, if_neg (by decide)] at hy
      simp (disch := omega) only [xbn, cw_n h.1, br_le_f, ii_eq, tb, q, xcp, Bool.false_eq_true, if_false, if_true, nI_1] at hy ⊢
      exact hy
    | true =>
      rw [q, if_pos rfl] at hy
      simp (disch := omega) only [xbn, cw_n h.1, br_le_f, ii_eq, tb, q, xcp, if_true, show ¬ (1 : Int32) = 0 by decide, if_false, ck_in, nI_clamp]
      cases hb0 : bo g (fun c b => decide (K b < K c)) i with
      | none =>
        rw [hb0] at hy
        simp only [oi, if_true, nI_1] at hy ⊢
        exact hy
      | some b =>
        rw [hb0] at hy
        obtain ⟨c1, c2, c3, c4⟩ := (pick_spec (f := g) (K := K) i).2 b hb0
        simp only [oi, decide_eq_true_eq] at hy ⊢
        simp (disch := omega) only [br_m1, ck_in, nI_clamp, lgle, h67 i hi q, h67 b (by omega) c2, rk_le (hK i) (hK b)]
        by_cases z : K b < K i
        · rw [if_pos z] at hy
          rw [if_neg (by omega), nI_1]
          exact hy
        · rw [if_neg z] at hy
          rw [if_pos (by omega), nI_1]
          exact hy
  · unfold f_X10_raiseGreatestRest_b4
    have hp' : bo g (fun c b => decide (K b < K c)) (nm W) = some x := hp
    rw [hp']
    simp (disch := omega) only [xbn, cw_n h.1, br_le_t, oi, br_m1, ck_in, nI_clamp, h.2 x b1, nI_1]
theorem rl_C {F : Nat} (hF : 2000 ≤ F) {W : Mem} {g : Nat → Bool} : ∀ (L n i : Nat) (μ : Mem) (s : (Nat → Nat) × (Nat → Nat)), CW W s.1 μ → (∀ x, s.2 x < 2 ^ 62) → (∀ x, x < nm W → g x = true → μ.2.1 67 x = rk (s.2 x)) → L ≤ cnt (fun x => g x && decide (3 ≤ s.2 x)) (nm W) → i + L ≤ 30 → L < n → ∃ μ2, f_X10_divide_b98 F n μ (nI (msk g (nm W))) (nI (i + L)) (nI i) = some ((), μ2) ∧ SmC μ μ2 ∧ ∀ x, x < nm W → μ2.1 66 x = nI ((rz g (nm W) L s).1 x) := by
  intro L
  induction L with
  | zero =>
    intro n i μ s h _ _ _ hi hn
    obtain ⟨n, rfl⟩ : ∃ m, n = m + 1 := ⟨n - 1, by omega⟩
    unfold f_X10_divide_b98
    rw [br_le_t (by omega) (by omega)]
    exact ⟨μ, rfl, SmC.rf μ, h.2⟩
  | succ L ih =>
    intro n i μ s h hK h67 hL hi hn
    obtain ⟨n, rfl⟩ : ∃ m, n = m + 1 := ⟨n - 1, by omega⟩
    obtain ⟨x, e1, e2, e3, e4, e5, e6⟩ := rz_step hL
    have ra := ra_C hF h hK h67 e1
    have sm : SmC μ (ul (ui μ 66 x (nI (s.1 x + 1))) 67 x (-1)) := (smc_i (k := 66) (by omega) μ x _).tr (smc_l _ 67 x _)
    obtain ⟨μ2, f1, f2, f3⟩ := ih n (i + 1) (ul (ui μ 66 x (nI (s.1 x + 1))) 67 x (-1)) (fun y => if y = x then s.1 y + 1 else s.1 y, fun y => if y = x then 1 else s.2 y) ⟨rel_c h.1 sm, fun y hy => by
        show _ = nI (if y = x then s.1 y + 1 else s.1 y)
        by_cases e : y = x
        · subst e; rw [ul_1, ui_s, if_pos rfl]
        · rw [ul_1, ui_o e, if_neg e]; exact h.2 y hy⟩ (fun y => by
        show (if y = x then 1 else s.2 y) < 2 ^ 62
        have := hK y
        split <;> omega) (fun y hy hg => by
        show _ = rk (if y = x then 1 else s.2 y)
        by_cases e : y = x
        · subst e; rw [ul_s, if_pos rfl]; rfl
        · rw [ul_o e, if_neg e]; exact h67 y hy hg) e6 (by omega) (by omega)
    refine ⟨μ2, ?_, sm.tr f2, fun y hy => by rw [f3 y hy, rz, e1]⟩
    unfold f_X10_divide_b98
    simp (disch := omega) only [i_30, br_le_f, ra, xca, nI_1]
    rw [show i + (L + 1) = i + 1 + L by omega]
    exact f1
theorem dv_C {F : Nat} (hF : 2000 ≤ F) {W μ : Mem} {w : Nat → Nat} (h : CW W w μ) (hl : ∀ x, x < nm W → w x ≤ 600000) (g : Nat → Bool) {S : Nat} (hS : S ≤ 30000) : ∃ μ2, f_X10_divide F μ (nI S) (nI (msk g (nm W))) = some ((), μ2) ∧ SmC μ μ2 ∧ ∀ x, x < nm W → μ2.1 66 x = nI (dvS g (nm W) S w x) := by
  have hN := rw_N h.1.1
  have ml := msk_b (f := g) hN
  have tb := gsm_b (g := g) hl (Nat.le_refl _) hN
  unfold f_X10_divide
  rw [su_C hF h hl g]
  simp (disch := omega) only [xca, xbn, nI_l, lgg, l_0]
  by_cases z : gsm g w (nm W) = 0
  · rw [bl_lt_f (by omega) (by omega)]
    refine ⟨μ, rfl, SmC.rf μ, fun x hx => ?_⟩
    unfold dvS
    rw [if_pos z]; exact h.2 x hx
  · rw [bl_lt_t (by omega) (by omega)]
    have hT : 0 < gsm g w (nm W) := by omega
    obtain ⟨l1, l2⟩ := left_le (S := S) hT
    have lc := cnt_le (fun x => g x && decide (3 ≤ S * w x % gsm g w (nm W) + 2)) (nm W)
    have hgo : ∀ x, dvS g (nm W) S w x = (rz g (nm W) (S - gsm g (fun x => S * w x / gsm g w (nm W)) (nm W)) (fun x => if g x then S * w x / gsm g w (nm W) else w x, fun x => S * w x % gsm g w (nm W) + 2)).1 x := fun x => by unfold dvS; rw [if_neg z]
    have hpart : ∀ x, x < nm W → g x = true → w x ≤ gsm g w (nm W) := fun x hx hg => gsm_part hx hg
    simp only [hgo]
    generalize hTe : gsm g w (nm W) = T at *
    refine run_rel (N := nm W) (fun n i μ' => f_X10_divide_b20 F n μ' (nI S) (nI (msk g (nm W))) (lN T) (nI (S - gsm g (fun x => S * w x / T) i)) (nI i)) (fun i μ' => SmC μ μ' ∧ (∀ x, x < nm W → μ'.1 66 x = nI (if (decide (x < i) && g x) = true then S * w x / T else w x)) ∧ ∀ x, x < i → g x = true → μ'.2.1 67 x = lN (S * w x % T)) (fun o => ∃ μ2, o = some ((), μ2) ∧ SmC μ μ2 ∧ ∀ x, x < nm W → μ2.1 66 x = nI ((rz g (nm W) (S - gsm g (fun x => S * w x / T) (nm W)) (fun x => if g x then S * w x / T else w x, fun x => S * w x % T + 2)).1 x)) (fun n i μ' hi hI => Or.inl ?_) (fun n μ' hI => ?_) F 0 μ (Nat.zero_le _) (by omega) ⟨SmC.rf μ, fun x hx => by simpa using h.2 x hx, fun x hx => absurd hx (Nat.not_lt_zero _)⟩
    · obtain ⟨i1, i2, i3⟩ := hI
      have hr := rel_c h.1 i1
      have tg := mg_t g hi
      cases q : g i with
      | false =>
        refine ⟨μ', ⟨i1, fun x hx => ?_, fun x hx hg => ?_⟩, fun y hy => ?_⟩
        · rw [i2 x hx]
          by_cases e : x = i
          · subst e; simp [q]
          · simp [show x < i + 1 ↔ x < i by omega]
        · have : x ≠ i := fun e => by rw [e, q] at hg; cases hg
          exact i3 x (by omega) hg
        · rw [gsm, q] at hy
          unfold f_X10_divide_b20 f_X10_divide_b89
          simp (disch := omega) only [xbn, cw_n hr, br_le_f, ii_eq, tg, q, xcp, Bool.false_eq_true, if_false, if_true, nI_1, Nat.add_zero] at hy ⊢
          exact hy
      | true =>
        have wl := hl i hi
        have wp := hpart i hi q
        have m66 : μ'.1 66 i = nI (w i) := by rw [i2 i hi]; simp
        have sw : S * w i ≤ 30000 * 600000 := Nat.mul_le_mul hS wl
        have qs : S * w i / T ≤ S := by
          rw [Nat.div_le_iff_le_mul_add_pred hT]
          have := Nat.mul_le_mul_left S wp
          rw [Nat.mul_comm T S]; omega
        have mono := gsm_mono (f := g) (w := fun x => S * w x / T) (i + 1) (nm W - (i + 1))
        rw [show i + 1 + (nm W - (i + 1)) = nm W by omega, gsm, if_pos q] at mono
        refine ⟨ul (ui μ' 66 i (nI (S * w i / T))) 67 i (lN (S * w i % T)), ⟨(i1.tr (smc_i (k := 66) (by omega) _ _ _)).tr (smc_l _ 67 _ _), fun x hx => ?_, fun x hx hg => ?_⟩, fun y hy => ?_⟩
        · by_cases e : x = i
          · subst e; rw [ul_1, ui_s]; simp [q]
          · rw [ul_1, ui_o e, i2 x hx]
            simp [show x < i + 1 ↔ x < i by omega]
        · by_cases e : x = i
          · rw [e, ul_s]
          · rw [ul_o e, ui_2]; exact i3 x (by omega) hg
        · rw [gsm, if_pos q] at hy
          unfold f_X10_divide_b20 f_X10_divide_b89
          simp (disch := omega) only [xbn, cw_n hr, br_le_f, ii_eq, tg, q, xcp, if_true, show ¬ (1 : Int32) = 0 by decide, if_false, ck_in, nI_clamp, m66, nI_l, lN_mul, dvl_n, lrem3, pk_lDiv, lN_i, ul_1, ui_s, pk_sub, nI_1]
          rw [show S - gsm g (fun x => S * w x / T) i - S * w i / T = S - (gsm g (fun x => S * w x / T) i + S * w i / T) by omega]
          exact hy
    · obtain ⟨i1, i2, i3⟩ := hI
      have hr := rel_c h.1 i1
      unfold f_X10_divide_b20
      simp (disch := omega) only [xbn, cw_n hr, br_le_t]
      obtain ⟨μ2, f1, f2, f3⟩ := rl_C hF (S - gsm g (fun x => S * w x / T) (nm W)) F 0 μ' (fun x => if g x then S * w x / T else w x, fun x => S * w x % T + 2) ⟨hr, fun x hx => by rw [i2 x hx]; simp [hx]⟩ (fun x => by
        show S * w x % T + 2 < 2 ^ 62
        have := Nat.mod_lt (S * w x) hT
        omega) (fun x hx hg => by rw [i3 x hx hg]; exact rk_n _) l2 (by omega) (by omega)
      rw [Nat.zero_add] at f1
      exact ⟨μ2, f1, i1.tr f2, f3⟩
