/-! in how many points a name is, and its share -/
theorem cnt_one {n r : Nat} (h : r < n) : cnt (fun u => decide (r = u)) n = 1 := by
  induction n with
  | zero => exact absurd h (Nat.not_lt_zero _)
  | succ n ih =>
    rw [cnt_s]
    by_cases e : r = n
    · subst e
      rw [cnt_0 (fun k hk => by simp; omega), if_pos (by simp)]
    · rw [ih (by omega), if_neg (by simp [e])]
theorem cnt_add1 {f g : Nat → Bool} {n r : Nat} (h : r < n) (h1 : g r = true) (h2 : ∀ u, u ≠ r → g u = f u) : cnt g n = cnt f n + if f r then 0 else 1 := by
  induction n with
  | zero => exact absurd h (Nat.not_lt_zero _)
  | succ n ih =>
    rw [cnt_s, cnt_s]
    by_cases e : r = n
    · subst e
      rw [cnt_cg (fun k hk => h2 k (by omega)), h1, if_pos rfl]
      cases f r <;> simp
    · rw [ih (by omega), h2 n (fun q => e q.symm)]
      omega
/-- the rests modulo s of L numbers from a on -/
def frs (a s : Nat) : Nat → Nat → Bool
  | 0, _ => false
  | L + 1, u => frs a s L u || decide ((a + L) % s = u)
theorem frs_iff {a s u : Nat} : ∀ L, frs a s L u = true ↔ ∃ i, i < L ∧ (a + i) % s = u
  | 0 => by constructor
            · intro h; cases h
            · rintro ⟨j, hj, _⟩; exact absurd hj (Nat.not_lt_zero _)
  | m + 1 => by
    rw [frs, Bool.or_eq_true, frs_iff m, decide_eq_true_eq]
    constructor
    · rintro (⟨j, h1, h2⟩ | h)
      · exact ⟨j, by omega, h2⟩
      · exact ⟨m, by omega, h⟩
    · rintro ⟨j, h1, h2⟩
      by_cases e : j = m
      · subst e; exact Or.inr h2
      · exact Or.inl ⟨j, by omega, h2⟩
theorem frs_cnt {a s : Nat} (hs : 0 < s) : ∀ L, cnt (frs a s L) s = min s L
  | 0 => by rw [cnt_0 (f := frs a s 0) (fun _ _ => rfl), Nat.min_eq_right (by omega)]
  | L + 1 => by
    have hr := Nat.mod_lt (a + L) hs
    rw [cnt_add1 (f := frs a s L) (g := frs a s (L + 1)) hr (by rw [frs]; simp) (fun u hu => by rw [frs]; simp [show ¬ (a + L) % s = u from fun q => hu q.symm]), frs_cnt hs L]
    by_cases q : L < s
    · have : frs a s L ((a + L) % s) = false := by
        rw [← Bool.not_eq_true, frs_iff]
        rintro ⟨i, hi, he⟩
        have h1 := Nat.div_add_mod (a + i) s
        have h2 := Nat.div_add_mod (a + L) s
        rw [he] at h1
        rcases Nat.lt_trichotomy ((a + i) / s) ((a + L) / s) with c | c | c
        · have : s * ((a + i) / s + 1) ≤ s * ((a + L) / s) := Nat.mul_le_mul_left _ c
          rw [Nat.mul_add, Nat.mul_one] at this
          omega
        · rw [c] at h1; omega
        · have : s * ((a + L) / s + 1) ≤ s * ((a + i) / s) := Nat.mul_le_mul_left _ c
          rw [Nat.mul_add, Nat.mul_one] at this
          omega
      rw [this, Nat.min_eq_right (by omega), Nat.min_eq_right (by omega)]
      rfl
    · have : frs a s L ((a + L) % s) = true := by
        rw [frs_iff]
        exact ⟨L - s, by omega, by rw [show a + L = a + (L - s) + s by omega, Nat.add_mod_right]⟩
      rw [this, Nat.min_eq_left (by omega), Nat.min_eq_left (by omega)]
      rfl
/-- points with name x -/
def PW (W : Mem) (k : Nat) (w : Nat → Nat) (x : Nat) : Nat := cnt (fun u => inD W k w u x) (PT W k w)
theorem PW_3 {W : Mem} {w : Nat → Nat} (b1 : 1 ≤ w 0) (x : Nat) : PW W 3 w x = 1 := by
  unfold PW PT inD
  simp only [if_true]
  exact cnt_one (Nat.mod_lt x (by omega))
theorem PW_4 {W : Mem} {w : Nat → Nat} (b3 : 1 ≤ stp W w) (x : Nat) : PW W 4 w x = min (stp W w) (min (ssz W (x + 1)) (stp W w * w 0) - ssz W x) := by
  rw [← frs_cnt (a := ssz W x) (by omega)]
  unfold PW PT
  rw [if_neg (by decide)]
  refine cnt_cg (fun u hu => ?_)
  rw [← rch_inD b3]
  have e : rch W w u x (w 0) = true ↔ frs (ssz W x) (stp W w) (min (ssz W (x + 1)) (stp W w * w 0) - ssz W x) u = true := by
    rw [rch_iff, frs_iff]
    constructor
    · rintro ⟨j, h1, h2, h3⟩
      have m : (j + 1) * stp W w ≤ w 0 * stp W w := Nat.mul_le_mul_right _ h1
      rw [Nat.add_mul, Nat.one_mul, Nat.mul_comm (w 0)] at m
      refine ⟨u + j * stp W w - ssz W x, ?_, ?_⟩
      · rw [Nat.lt_sub_iff_add_lt, Nat.sub_add_cancel h2, Nat.lt_min]
        omega
      · rw [show ssz W x + (u + j * stp W w - ssz W x) = u + j * stp W w by omega, Nat.add_mul_mod_self_right, Nat.mod_eq_of_lt hu]
    · rintro ⟨i, h1, h2⟩
      rw [Nat.lt_sub_iff_add_lt, Nat.lt_min] at h1
      have d := Nat.div_add_mod (ssz W x + i) (stp W w)
      rw [h2] at d
      refine ⟨(ssz W x + i) / stp W w, ?_, ?_, ?_⟩
      · rw [Nat.div_lt_iff_lt_mul (by omega), Nat.mul_comm (w 0)]
        omega
      · rw [Nat.mul_comm]; omega
      · rw [Nat.mul_comm]; omega
  cases h1 : rch W w u x (w 0) with
  | true => rw [h1] at e; exact (e.mp rfl).symm
  | false =>
    rw [h1] at e
    cases h2 : frs (ssz W x) (stp W w) (min (ssz W (x + 1)) (stp W w * w 0) - ssz W x) u with
    | false => rfl
    | true => rw [h2] at e; exact absurd (e.mpr rfl) (by decide)
theorem PW_le (W : Mem) (k : Nat) (w : Nat → Nat) (x : Nat) : PW W k w x ≤ PT W k w := cnt_le _ _
theorem PW_20 {W : Mem} (hw : WF W) {k : Nat} {w : Nat → Nat} (hk : PK W k w) {x : Nat} (hx : x < nm W) : PW W k w x ≤ 20 := by
  rcases hk with ⟨rfl, b1, b2⟩ | ⟨rfl, b1, b2, b3⟩
  · rw [PW_3 b1]; omega
  · rw [PW_4 b3]
    have := (rw_s hw (SmR.rf W) hx).2.2
    have e : ssz W (x + 1) = ssz W x + sz W x := rfl
    have := Nat.min_le_right (stp W w) (min (ssz W (x + 1)) (stp W w * w 0) - ssz W x)
    have := Nat.min_le_left (ssz W (x + 1)) (stp W w * w 0)
    omega
/-- the class's pointsWith -/
theorem pwt_C {F : Nat} {W : Mem} {k : Nat} {w : Nat → Nat} {t : Nat} {μ : Mem} (h : WY W k w t μ) (hk : PK W k w) {x : Nat} (hx : x < nm W) : f_X4_pointsWith F μ t (nI x) = some (nI (PW W k w x), μ) := by
  have hN := rw_N h.1.1
  unfold f_X4_pointsWith
  rcases hk with ⟨rfl, b1, b2⟩ | ⟨rfl, b1, b2, b3⟩
  · rw [(h.k34 (Or.inl rfl)).2, if_pos rfl, PW_3 b1]
    simp only [xbn, not_true_eq_false, if_false]
    rfl
  · have n0 := h.num (show 0 < cntOf 4 by decide)
    have sl := ssz_le W h.1.1 (nm W) (Nat.le_refl _)
    have sl2 := ssz_mono W (a := x + 1) (b := nm W) (by omega)
    have e4 : ssz W (x + 1) = ssz W x + sz W x := rfl
    have fits : stp W w * w 0 ≤ ssz W (nm W) := Nat.div_mul_le_self _ _
    have sp := stp_le h.1.1 w
    rw [(h.k34 (Or.inr rfl)).2, if_neg (by decide), PW_4 b3]
    simp (disch := omega) only [xbn, ite_not, br_le_t, br_le_f, br_lt_t, br_lt_f, br_eq_t, br_eq_f, br_le0_t, br_le0_f, br_lt1_t, br_lt1_f, br_1le_t, br_1le_f, br_eq0_t, br_eq0_f, br_eq1_t, br_eq1_f, br_0le, br_lt0, br_0lt_t, br_0lt_f, br_m1, iof, i_2, i_3, i_4, i_8, i_9, i_10, i_20, i_30, i_90, i_120, i_256, cl_0, cl_1, cl_2, cl_3, Int32.add_zero, nI_add, nI_1, pk_mul, nI_s1, sb_m1, ck_in, ck_0, ck_1, nI_clamp, xcp, xca, xbn, show ¬ (1 : Int32) = 0 by decide, if_false, if_true, ls_eq F h (Or.inr rfl) b2, cw_b h.1 hx, cw_s h.1 hx, n0]
    rw [if_neg (show ¬ w 0 < 1 by omega), show ssz W (nm W) / w 0 = stp W w from rfl]
    unfold mni mxi
    rw [e4]
    rw [Nat.min_comm (ssz W x + sz W x)]
    have m1 : (if nI (stp W w * w 0) < nI (ssz W x + sz W x) then nI (stp W w * w 0) else nI (ssz W x + sz W x)) = nI (min (stp W w * w 0) (ssz W x + sz W x)) := by
      by_cases q : stp W w * w 0 < ssz W x + sz W x
      · rw [br_lt_t q (by omega), Nat.min_eq_left (by omega)]
      · rw [br_lt_f (by omega) (by omega), Nat.min_eq_right (by omega)]
    rw [m1]
    generalize hm : min (stp W w * w 0) (ssz W x + sz W x) = m
    have hml : m ≤ 600 := by rw [← hm]; have := Nat.min_le_left (stp W w * w 0) (ssz W x + sz W x); omega
    generalize stp W w = s at b3 sp
    by_cases q : ssz W x ≤ m
    · rw [pk_sub q]
      by_cases q2 : m - ssz W x < s
      · rw [br_lt_t q2 (by omega), Nat.min_eq_right (by omega)]
        by_cases q3 : m - ssz W x = 0
        · rw [q3]; rfl
        · rw [br_0lt_t (by omega) (by omega)]
      · rw [br_lt_f (by omega) (by omega), Nat.min_eq_left (by omega), br_0lt_t (by omega) (by omega)]
    · have hneg : nI m - nI (ssz W x) < 0 := pk_sneg (by omega) (by omega)
      have h1 : nI m - nI (ssz W x) < nI s := by
        rw [Int32.lt_iff_toInt_lt] at hneg ⊢
        rw [nI_toInt (by omega)]
        rw [show (0 : Int32).toInt = 0 from rfl] at hneg
        omega
      rw [if_pos h1, if_neg (Int32.not_lt.mpr (Int32.le_of_lt hneg)), show m - ssz W x = 0 by omega, Nat.min_eq_right (by omega)]
      rfl
/-- the reference counts once: readiness with its counts -/
def R2 (W : Mem) (k : Nat) (w : Nat → Nat) (ρ : Mem) : Prop := RY W k w ρ ∧ (ρ.1 0 21 = 0 ∨ (ρ.1 0 21 = 1 ∧ ∀ x, x < nm W → ρ.1 15 x = nI (PW W k w x)))
theorem R2.sm {W : Mem} {k : Nat} {w : Nat → Nat} {ρ ρ2 : Mem} (h : R2 W k w ρ) (hc : ρ2.1 = ρ.1) : R2 W k w ρ2 := ⟨h.1.sm hc, by rw [hc]; exact h.2⟩
theorem RY.u15 {W : Mem} {k : Nat} {w : Nat → Nat} {ρ : Mem} (h : RY W k w ρ) (j : Nat) (v : Int32) : RY W k w (ui ρ 15 j v) := by
  obtain ⟨h1, h2, h3, h4, h5⟩ := h
  exact ⟨h1.tr (smr_i (by omega) _ _ _), by rw [ui_c (by omega)]; exact h2, fun x hx => by rw [ui_c (by omega)]; exact h3 x hx, fun q => by rw [ui_c (by omega)]; exact h4 q, h5⟩
theorem RY.u21 {W : Mem} {k : Nat} {w : Nat → Nat} {ρ : Mem} (h : RY W k w ρ) (v : Int32) : RY W k w (ui ρ 0 21 v) := by
  obtain ⟨h1, h2, h3, h4, h5⟩ := h
  exact ⟨h1.tr (smr_0 (by omega) _ _), by rw [ui_o (by omega)]; exact h2, fun x hx => by rw [ui_c (by omega)]; exact h3 x hx, fun q => by rw [ui_o (by omega)]; exact h4 q, h5⟩
theorem wo_0 {F : Nat} {W : Mem} {k : Nat} {w : Nat → Nat} {x1 : Int32} : ∀ (n i : Nat) (ρ : Mem), RY W k w ρ → i ≤ 30 → 30 < n + i → ∃ ρ2, f_X12_waysOf_b14 F n ρ x1 (nI i) = (cal (f_X12_drawsNow F ρ2) fun v1 μ2 => bnd (v1.toInt32) fun v3 => f_X12_waysOf_b41 F F μ2 x1 v3 0) ∧ RY W k w ρ2 ∧ (∀ c, c ≠ 15 → ρ2.1 c = ρ.1 c) ∧ ρ2.2 = ρ.2 ∧ ∀ j, ρ2.1 15 j = if i ≤ j ∧ j < 30 then 0 else ρ.1 15 j := by
  intro n
  induction n with
  | zero => intro i ρ h0 h1 h2; exact absurd h2 (by omega)
  | succ n ih =>
    intro i ρ h0 h1 h2
    unfold f_X12_waysOf_b14
    by_cases hi : i = 30
    · subst hi
      simp (disch := omega) only [iof, i_2, i_3, i_4, i_8, i_9, i_10, i_20, i_30, i_90, i_120, i_256, cl_0, cl_1, cl_2, cl_3, br_le_t]
      refine ⟨ρ, rfl, h0, fun _ _ => rfl, rfl, fun j => ?_⟩
      rw [if_neg (by omega)]
    · simp (disch := omega) only [iof, i_2, i_3, i_4, i_8, i_9, i_10, i_20, i_30, i_90, i_120, i_256, cl_0, cl_1, cl_2, cl_3, br_le_f, xbn, ck_in, nI_clamp, nI_1]
      obtain ⟨ρ2, e1, e2, e3, e4, e5⟩ := ih (i + 1) (ui ρ 15 i 0) (h0.u15 _ _) (by omega) (by omega)
      refine ⟨ρ2, e1, e2, fun c hc => by rw [e3 c hc, ui_ne hc], e4, fun j => ?_⟩
      rw [e5, ui_at]
      by_cases q : j = i
      · subst q
        rw [if_neg (by omega), if_pos rfl, if_pos (by omega)]
      · rw [if_neg q]
        by_cases q2 : i + 1 ≤ j ∧ j < 30
        · rw [if_pos q2, if_pos (by omega)]
        · rw [if_neg q2, if_neg (by omega)]
/-- one draw's bits are added -/
theorem wo_in {F : Nat} {W : Mem} (hw : WF W) {k : Nat} {w : Nat → Nat} {k41 : Mem → Int32 → Int32 → Int32 → Option (Int32 × Mem)} {x1 x2 x3 : Int32} {d : Nat} (hd : d < 2 ^ 30) : ∀ (n i : Nat) (ρ : Mem), RY W k w ρ → i ≤ nm W → nm W < n + i → ∃ ρ2, f_X12_waysOf_b56 F k41 n ρ x1 x2 x3 (nI d) (nI i) = k41 ρ2 x1 x2 (x3 + 1) ∧ RY W k w ρ2 ∧ (∀ c, c ≠ 15 → ρ2.1 c = ρ.1 c) ∧ ρ2.2 = ρ.2 ∧ ∀ j, ρ2.1 15 j = if i ≤ j ∧ j < nm W then ρ.1 15 j + (if d.testBit j then 1 else 0) else ρ.1 15 j := by
  intro n
  induction n with
  | zero => intro i ρ h0 h1 h2; exact absurd h2 (by omega)
  | succ n ih =>
    intro i ρ h0 h1 h2
    have hN := rw_N hw
    have e0 := rw_n hw h0.1
    unfold f_X12_waysOf_b56
    by_cases hi : i = nm W
    · subst hi
      simp (disch := omega) only [xbn, e0, br_le_t]
      refine ⟨ρ, rfl, h0, fun _ _ => rfl, rfl, fun j => ?_⟩
      rw [if_neg (by omega)]
    · simp (disch := omega) only [xbn, e0, br_le_f, ck_in, nI_clamp, nI_1, sh_bit]
      obtain ⟨ρ2, f1, f2, f3, f4, f5⟩ := ih (i + 1) (ui ρ 15 i (ρ.1 15 i + if d.testBit i = true then 1 else 0)) (h0.u15 _ _) (by omega) (by omega)
      refine ⟨ρ2, f1, f2, fun c hc => by rw [f3 c hc, ui_ne hc], f4, fun j => ?_⟩
      rw [f5, ui_at]
      by_cases q : j = i
      · subst q
        rw [if_neg (by omega), if_pos rfl, if_pos (show j ≤ j ∧ j < nm W by omega)]
      · rw [if_neg q]
        by_cases q2 : i + 1 ≤ j ∧ j < nm W
        · rw [if_pos q2, if_pos (show i ≤ j ∧ j < nm W by omega)]
        · rw [if_neg q2, if_neg (show ¬ (i ≤ j ∧ j < nm W) by omega)]
theorem wo_eq {F : Nat} (hF : 2000 ≤ F) {W : Mem} (hw : WF W) {k : Nat} {w : Nat → Nat} {ρ : Mem} (h : R2 W k w ρ) (hk : PK W k w) {x : Nat} (hx : x < nm W) : ∃ ρ2, f_X12_waysOf F ρ (nI x) = some (nI (PW W k w x), ρ2) ∧ R2 W k w ρ2 ∧ ρ2.2 = ρ.2 ∧ ∀ c, c ≠ 0 → c ≠ 15 → ρ2.1 c = ρ.1 c := by
  have hN := rw_N hw
  have hP := PT_le hw hk
  have hp0 := hk.pos
  unfold f_X12_waysOf
  rcases h.2 with q | ⟨q, q2⟩
  · obtain ⟨ρ1, e1, e2, e3, e4, e5⟩ := wo_0 (F := F) (x1 := nI x) F 0 (ui ρ 0 21 1) (h.1.u21 1) (by omega) (by omega)
    have e1' : f_X12_waysOf_b14 F F (ui ρ 0 21 1) (nI x) 0 = _ := e1
    rw [q]
    simp only [xbn, not_true_eq_false, if_false, e1', pt_R hF hw e2 hk, xca, lN_i]
    refine run_rel (N := PT W k w) (fun n i ρ' => f_X12_waysOf_b41 F n ρ' (nI x) (nI (PT W k w)) (nI i)) (fun i ρ' => RY W k w ρ' ∧ ρ'.1 0 21 = 1 ∧ (ρ'.2 = ρ.2 ∧ ∀ c, c ≠ 0 → c ≠ 15 → ρ'.1 c = ρ.1 c) ∧ ∀ y, y < nm W → ρ'.1 15 y = nI (cnt (fun u => inD W k w u y) i)) (fun o => ∃ ρ2, o = some (nI (PW W k w x), ρ2) ∧ R2 W k w ρ2 ∧ ρ2.2 = ρ.2 ∧ ∀ c, c ≠ 0 → c ≠ 15 → ρ2.1 c = ρ.1 c) (fun n i ρ' hi hI => Or.inl ?_) (fun n ρ' hI => ?_) F 0 ρ1 (Nat.zero_le _) (by omega) ⟨e2, by rw [e3 0 (by omega), ui_s], ⟨by rw [e4]; rfl, fun c c0 c1 => by rw [e3 c c1, ui_ne c0]⟩, fun y hy => by rw [e5, if_pos (by omega)]; rfl⟩
    · obtain ⟨i1, i2, i3, i4⟩ := hI
      have hd := Nat.lt_of_lt_of_le (DA_lt (W := W) k w i) (pow_le30 hN)
      obtain ⟨ρ2, f1, f2, f3, f4, f5⟩ := wo_in (F := F) hw (k41 := fun μ' x1' x2' x3' => f_X12_waysOf_b41 F n μ' x1' x2' x3') (x1 := nI x) (x2 := nI (PT W k w)) (x3 := nI i) hd F 0 ρ' i1 (by omega) (by omega)
      refine ⟨ρ2, ⟨f2, by rw [f3 0 (by omega)]; exact i2, ⟨by rw [f4, i3.1], fun c c0 c1 => by rw [f3 c c1, i3.2 c c0 c1]⟩, fun y hy => ?_⟩, fun z hz => ?_⟩
      · rw [f5, if_pos (by omega), i4 y hy, cnt_s]
        have tb : (DA W k w i).testBit y = inD W k w i y := by unfold DA; rw [msk_t]; simp [hy]
        rw [tb]
        cases inD W k w i y
        · simp
        · simp [nI_1]
      · have f1' : f_X12_waysOf_b56 F (fun μ' x1' x2' x3' => f_X12_waysOf_b41 F n μ' x1' x2' x3') F ρ' (nI x) (nI (PT W k w)) (nI i) (nI (DA W k w i)) 0 = f_X12_waysOf_b41 F n ρ2 (nI x) (nI (PT W k w)) (nI i + 1) := f1
        unfold f_X12_waysOf_b41
        simp (disch := omega) only [br_le_f, do_eq hF hw i1 hk (u := i) (by omega), xca, f1', nI_1]
        exact hz
    · obtain ⟨i1, i2, i3, i4⟩ := hI
      unfold f_X12_waysOf_b41 f_X12_waysOf_b94
      simp (disch := omega) only [br_le_t, ck_in, nI_clamp, xbn, i4 x hx]
      exact ⟨ρ', rfl, ⟨i1, Or.inr ⟨i2, i4⟩⟩, i3⟩
  · rw [q]
    unfold f_X12_waysOf_b94
    simp (disch := omega) only [xbn, show ¬ (1 : Int32) = 0 by decide, not_false_eq_true, if_true, ck_in, nI_clamp, q2 x hx]
    exact ⟨ρ, rfl, h, rfl, fun _ _ _ => rfl⟩
