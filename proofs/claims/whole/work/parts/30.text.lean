/-! a plan's text understood: the class -/
def TX (μ : Mem) (t : Nat) (ρ : Mem) (p : Nat) : Prop := μ.1 t 7 = nI (tl ρ p) ∧ tl ρ p ≤ 20 ∧ ∀ i, i < tl ρ p → μ.1 (t + 1) i = ρ.1 12 (20 * p + i)
theorem wi_b {i L : Nat} (hi : i < 2 ^ 31) (hL : L ≤ 1000) : wi (nI i) 0 (nI L - 1) = decide (i < L) := by
  unfold wi
  cases L with
  | zero =>
    have h1 : ¬ nI i ≤ nI 0 - 1 := by
      intro q
      have q2 := Int32.le_iff_toInt_le.mp q
      rw [nI_toInt hi, show (nI 0 - 1).toInt = -1 from rfl] at q2
      omega
    simp [h1]
  | succ L =>
    have h1 := nI_pos' hi
    have h2 : nI i ≤ nI (L + 1) - 1 ↔ i < L + 1 := by
      rw [nI_pred, nI_leI hi (by omega)]
      omega
    simp [h1, h2]
theorem ba_eq (F : Nat) {μ ρ : Mem} {t p : Nat} (h : TX μ t ρ p) {i : Nat} (hi : i ≤ 100) : f_X5_byteAt F μ t (nI i) = some (byt ρ p i, μ) := by
  obtain ⟨h1, h2, h3⟩ := h
  unfold f_X5_byteAt byt
  rw [h1]
  simp only [bnd]
  rw [wi_eq, wi_b (by omega) (by omega)]
  simp only [calp]
  by_cases q : i < tl ρ p
  · simp (disch := omega) only [q, decide_true, if_true, show ¬ (1 : Int32) = 0 by decide, if_false, ck_in, nI_clamp]
    rw [h3 i q]
  · simp only [q, decide_false, if_false, if_true, Bool.false_eq_true]
theorem if_eq (F : Nat) {μ ρ : Mem} {t p : Nat} (h : TX μ t ρ p) {i : Nat} (hi : i ≤ 100) : f_X5_isFigure F μ t (nI i) = some (if fig (byt ρ p i) then 1 else 0, μ) := by
  unfold f_X5_isFigure
  rw [ba_eq F h hi]
  simp only [cal]
  rw [wi_eq]
  simp only [calp, zk01]
  rfl
theorem fig_lt {ρ : Mem} {p i : Nat} (h : fig (byt ρ p i) = true) : i < tl ρ p := by
  rcases Nat.lt_or_ge i (tl ρ p) with q | q
  · exact q
  · unfold byt at h
    rw [if_neg (by omega)] at h
    exact absurd h (by decide)
theorem tx_ui {μ ρ : Mem} {t p : Nat} (h : TX μ t ρ p) (j : Nat) (v : Int32) : TX (ui μ (t + 2) j v) t ρ p := by
  refine ⟨?_, h.2.1, fun i hi => ?_⟩
  · rw [ui_c (by omega)]; exact h.1
  · rw [ui_c (by omega)]; exact h.2.2 i hi
theorem d48 (a b : Int32) : a + b - 48 = a + (b - 48) := by rw [Int32.sub_eq_add_neg, Int32.sub_eq_add_neg, Int32.add_assoc]
theorem fn_loop (F : Nat) {ρ : Mem} {t p cn : Nat} (hc : cn ≤ 4) (sep : Int32) : ∀ (m n i k : Nat) (μ : Mem) (w : Nat → Int32), TX μ t ρ p → k + m = cn → m < n → i + 3 * m ≤ 90 → (∀ j, j < k → μ.1 (t + 2) j = w j) →
    ∃ μ2, f_X5_faultOfNumbers_b5 F n μ t (nI cn) sep (nI i) (nI k) = some ((pgo ρ p sep m i k w).1, μ2) ∧ μ2.2 = μ.2 ∧ (∀ c, c ≠ t + 2 → ∀ j, μ2.1 c j = μ.1 c j) ∧ ((pgo ρ p sep m i k w).1 = -1 → ∀ j, j < cn → μ2.1 (t + 2) j = (pgo ρ p sep m i k w).2 j) := by
  intro m
  induction m with
  | zero =>
    intro n i k μ w h h1 h2 h3 h4
    obtain ⟨n, rfl⟩ : ∃ a, n = a + 1 := ⟨n - 1, by omega⟩
    unfold f_X5_faultOfNumbers_b5 f_X5_faultOfNumbers_b111 pgo
    have hk : k = cn := by omega
    subst hk
    have t1 := h.2.1
    simp (disch := omega) only [bnd, ite_not, br_le_t, br_le_f, br_lt_t, br_lt_f, br_eq_t, br_eq_f, br_le0_t, br_le0_f, br_lt1_t, br_lt1_f, br_1le_t, br_1le_f, br_eq0_t, br_eq0_f, br_eq1_t, br_eq1_f, br_0le, br_lt0, br_0lt_t, br_0lt_f, br_m1, iof, i_2, i_3, i_4, i_8, i_9, i_10, i_20, i_30, i_90, i_120, i_256, cl_0, cl_1, cl_2, cl_3, Int32.add_zero, nI_add, nI_1, pk_mul, nI_s1, sb_m1, ck_in, ck_0, ck_1, nI_clamp, calp, cal, bnd, h.1]
    by_cases q : i < tl ρ p
    · simp (disch := omega) only [bnd, ite_not, br_le_t, br_le_f, br_lt_t, br_lt_f, br_eq_t, br_eq_f, br_le0_t, br_le0_f, br_lt1_t, br_lt1_f, br_1le_t, br_1le_f, br_eq0_t, br_eq0_f, br_eq1_t, br_eq1_f, br_0le, br_lt0, br_0lt_t, br_0lt_f, br_m1, iof, i_2, i_3, i_4, i_8, i_9, i_10, i_20, i_30, i_90, i_120, i_256, cl_0, cl_1, cl_2, cl_3, Int32.add_zero, nI_add, nI_1, pk_mul, nI_s1, sb_m1, ck_in, ck_0, ck_1, nI_clamp, calp, cal, bnd, q, if_true]
      exact ⟨μ, rfl, rfl, fun _ _ _ => rfl, fun _ => h4⟩
    · simp (disch := omega) only [bnd, ite_not, br_le_t, br_le_f, br_lt_t, br_lt_f, br_eq_t, br_eq_f, br_le0_t, br_le0_f, br_lt1_t, br_lt1_f, br_1le_t, br_1le_f, br_eq0_t, br_eq0_f, br_eq1_t, br_eq1_f, br_0le, br_lt0, br_0lt_t, br_0lt_f, br_m1, iof, i_2, i_3, i_4, i_8, i_9, i_10, i_20, i_30, i_90, i_120, i_256, cl_0, cl_1, cl_2, cl_3, Int32.add_zero, nI_add, nI_1, pk_mul, nI_s1, sb_m1, ck_in, ck_0, ck_1, nI_clamp, calp, cal, bnd, q, if_false]
      exact ⟨μ, rfl, rfl, fun _ _ _ => rfl, fun _ => h4⟩
  | succ m ih =>
    intro n i k μ w h h1 h2 h3 h4
    obtain ⟨n, rfl⟩ : ∃ a, n = a + 1 := ⟨n - 1, by omega⟩
    -- a number from place e on
    have num_c : ∀ (e : Nat), e + 3 * m ≤ 88 → ∃ μ2, f_X5_faultOfNumbers_b40 F (fun μ' t' x1' x2' x3' x4' => f_X5_faultOfNumbers_b5 F n μ' t' x1' x2' x3' x4') μ t (nI cn) sep (nI e) (nI k) = some ((match num ρ p e with | none => (nI e, w) | some q => pgo ρ p sep m q.2 (k + 1) (upd w k q.1)).1, μ2) ∧ μ2.2 = μ.2 ∧ (∀ c, c ≠ t + 2 → ∀ j, μ2.1 c j = μ.1 c j) ∧ ((match num ρ p e with | none => (nI e, w) | some q => pgo ρ p sep m q.2 (k + 1) (upd w k q.1)).1 = -1 → ∀ j, j < cn → μ2.1 (t + 2) j = (match num ρ p e with | none => (nI e, w) | some q => pgo ρ p sep m q.2 (k + 1) (upd w k q.1)).2 j) := by
      intro e he
      unfold f_X5_faultOfNumbers_b40 f_X5_faultOfNumbers_b105 num
      simp (disch := omega) only [bnd, ite_not, br_le_t, br_le_f, br_lt_t, br_lt_f, br_eq_t, br_eq_f, br_le0_t, br_le0_f, br_lt1_t, br_lt1_f, br_1le_t, br_1le_f, br_eq0_t, br_eq0_f, br_eq1_t, br_eq1_f, br_0le, br_lt0, br_0lt_t, br_0lt_f, br_m1, iof, i_2, i_3, i_4, i_8, i_9, i_10, i_20, i_30, i_90, i_120, i_256, cl_0, cl_1, cl_2, cl_3, Int32.add_zero, nI_add, nI_1, pk_mul, nI_s1, sb_m1, ck_in, ck_0, ck_1, nI_clamp, calp, cal, bnd, if_eq F h, ba_eq F h]
      by_cases f1 : fig (byt ρ p e) = true
      · have hx := tx_ui h k (byt ρ p e - 48)
        simp (disch := omega) only [bnd, ite_not, br_le_t, br_le_f, br_lt_t, br_lt_f, br_eq_t, br_eq_f, br_le0_t, br_le0_f, br_lt1_t, br_lt1_f, br_1le_t, br_1le_f, br_eq0_t, br_eq0_f, br_eq1_t, br_eq1_f, br_0le, br_lt0, br_0lt_t, br_0lt_f, br_m1, iof, i_2, i_3, i_4, i_8, i_9, i_10, i_20, i_30, i_90, i_120, i_256, cl_0, cl_1, cl_2, cl_3, Int32.add_zero, nI_add, nI_1, pk_mul, nI_s1, sb_m1, ck_in, ck_0, ck_1, nI_clamp, calp, cal, bnd, f1, if_true, show ¬ (1 : Int32) = 0 by decide, if_false, if_eq F hx, ba_eq F hx, ui_s]
        by_cases f2 : fig (byt ρ p (e + 1)) = true
        · simp (disch := omega) only [bnd, ite_not, br_le_t, br_le_f, br_lt_t, br_lt_f, br_eq_t, br_eq_f, br_le0_t, br_le0_f, br_lt1_t, br_lt1_f, br_1le_t, br_1le_f, br_eq0_t, br_eq0_f, br_eq1_t, br_eq1_f, br_0le, br_lt0, br_0lt_t, br_0lt_f, br_m1, iof, i_2, i_3, i_4, i_8, i_9, i_10, i_20, i_30, i_90, i_120, i_256, cl_0, cl_1, cl_2, cl_3, Int32.add_zero, nI_add, nI_1, pk_mul, nI_s1, sb_m1, ck_in, ck_0, ck_1, nI_clamp, calp, cal, bnd, f2, if_true, show ¬ (1 : Int32) = 0 by decide, if_false]
          obtain ⟨μ2, g1, g2, g3, g4⟩ := ih n (e + 2) (k + 1) (ui (ui μ (t + 2) k (byt ρ p e - 48)) (t + 2) k (10 * (byt ρ p e - 48) + (byt ρ p (e + 1) - 48))) (upd w k (10 * (byt ρ p e - 48) + (byt ρ p (e + 1) - 48))) (tx_ui hx _ _) (by omega) (by omega) (by omega) (fun j hj => by
            rw [ui_at]
            by_cases ej : j = k
            · subst ej; rw [if_pos rfl, pk_us]
            · rw [if_neg ej, ui_o ej, pk_un ej]; exact h4 j (by omega))
          refine ⟨μ2, ?_, g2, fun c hc2 j => by rw [g3 c hc2, ui_c hc2, ui_c hc2], g4⟩
          rw [d48]
          exact g1
        · simp (disch := omega) only [bnd, ite_not, br_le_t, br_le_f, br_lt_t, br_lt_f, br_eq_t, br_eq_f, br_le0_t, br_le0_f, br_lt1_t, br_lt1_f, br_1le_t, br_1le_f, br_eq0_t, br_eq0_f, br_eq1_t, br_eq1_f, br_0le, br_lt0, br_0lt_t, br_0lt_f, br_m1, iof, i_2, i_3, i_4, i_8, i_9, i_10, i_20, i_30, i_90, i_120, i_256, cl_0, cl_1, cl_2, cl_3, Int32.add_zero, nI_add, nI_1, pk_mul, nI_s1, sb_m1, ck_in, ck_0, ck_1, nI_clamp, calp, cal, bnd, f2, if_true, show ¬ (1 : Int32) = 0 by decide, if_false]
          obtain ⟨μ2, g1, g2, g3, g4⟩ := ih n (e + 1) (k + 1) (ui μ (t + 2) k (byt ρ p e - 48)) (upd w k (byt ρ p e - 48)) hx (by omega) (by omega) (by omega) (fun j hj => by
            rw [ui_at]
            by_cases ej : j = k
            · subst ej; rw [if_pos rfl, pk_us]
            · rw [if_neg ej, pk_un ej]; exact h4 j (by omega))
          exact ⟨μ2, g1, g2, fun c hc2 j => by rw [g3 c hc2, ui_c hc2], g4⟩
      · simp (disch := omega) only [bnd, ite_not, br_le_t, br_le_f, br_lt_t, br_lt_f, br_eq_t, br_eq_f, br_le0_t, br_le0_f, br_lt1_t, br_lt1_f, br_1le_t, br_1le_f, br_eq0_t, br_eq0_f, br_eq1_t, br_eq1_f, br_0le, br_lt0, br_0lt_t, br_0lt_f, br_m1, iof, i_2, i_3, i_4, i_8, i_9, i_10, i_20, i_30, i_90, i_120, i_256, cl_0, cl_1, cl_2, cl_3, Int32.add_zero, nI_add, nI_1, pk_mul, nI_s1, sb_m1, ck_in, ck_0, ck_1, nI_clamp, calp, cal, bnd, f1, if_true, show ¬ (1 : Int32) = 0 by decide, if_false]
        refine ⟨μ, rfl, rfl, fun _ _ _ => rfl, fun q => absurd q (nI_nm1 (by omega))⟩
    unfold f_X5_faultOfNumbers_b5 pgo
    simp (disch := omega) only [bnd, ite_not, br_le_t, br_le_f, br_lt_t, br_lt_f, br_eq_t, br_eq_f, br_le0_t, br_le0_f, br_lt1_t, br_lt1_f, br_1le_t, br_1le_f, br_eq0_t, br_eq0_f, br_eq1_t, br_eq1_f, br_0le, br_lt0, br_0lt_t, br_0lt_f, br_m1, iof, i_2, i_3, i_4, i_8, i_9, i_10, i_20, i_30, i_90, i_120, i_256, cl_0, cl_1, cl_2, cl_3, Int32.add_zero, nI_add, nI_1, pk_mul, nI_s1, sb_m1, ck_in, ck_0, ck_1, nI_clamp, calp, cal, bnd, ba_eq F h]
    by_cases k0 : k = 0
    · subst k0
      simp (disch := omega) only [bnd, ite_not, br_le_t, br_le_f, br_lt_t, br_lt_f, br_eq_t, br_eq_f, br_le0_t, br_le0_f, br_lt1_t, br_lt1_f, br_1le_t, br_1le_f, br_eq0_t, br_eq0_f, br_eq1_t, br_eq1_f, br_0le, br_lt0, br_0lt_t, br_0lt_f, br_m1, iof, i_2, i_3, i_4, i_8, i_9, i_10, i_20, i_30, i_90, i_120, i_256, cl_0, cl_1, cl_2, cl_3, Int32.add_zero, nI_add, nI_1, pk_mul, nI_s1, sb_m1, ck_in, ck_0, ck_1, nI_clamp, calp, cal, bnd, Nat.lt_irrefl, false_and, if_false]
      exact num_c i (by omega)
    · have k1 : 0 < k := by omega
      simp (disch := omega) only [bnd, ite_not, br_le_t, br_le_f, br_lt_t, br_lt_f, br_eq_t, br_eq_f, br_le0_t, br_le0_f, br_lt1_t, br_lt1_f, br_1le_t, br_1le_f, br_eq0_t, br_eq0_f, br_eq1_t, br_eq1_f, br_0le, br_lt0, br_0lt_t, br_0lt_f, br_m1, iof, i_2, i_3, i_4, i_8, i_9, i_10, i_20, i_30, i_90, i_120, i_256, cl_0, cl_1, cl_2, cl_3, Int32.add_zero, nI_add, nI_1, pk_mul, nI_s1, sb_m1, ck_in, ck_0, ck_1, nI_clamp, calp, cal, bnd, k1, true_and, if_true]
      by_cases f : byt ρ p i = sep
      · simp only [f, if_true, not_true_eq_false, if_false]
        exact num_c (i + 1) (by omega)
      · simp only [f, if_false, not_false_eq_true, if_true]
        exact ⟨μ, rfl, rfl, fun _ _ _ => rfl, fun q => absurd q (nI_nm1 (by omega))⟩
theorem fn_eq {F : Nat} (hF : 2000 ≤ F) {μ ρ : Mem} {t p cn : Nat} (hc : cn ≤ 4) (sep : Int32) (h : TX μ t ρ p) (w : Nat → Int32) : ∃ μ2, f_X5_faultOfNumbers F μ t (nI cn) sep = some ((pgo ρ p sep cn 1 0 w).1, μ2) ∧ μ2.2 = μ.2 ∧ (∀ c, c ≠ t + 2 → ∀ j, μ2.1 c j = μ.1 c j) ∧ ((pgo ρ p sep cn 1 0 w).1 = -1 → ∀ j, j < cn → μ2.1 (t + 2) j = (pgo ρ p sep cn 1 0 w).2 j) := by
  unfold f_X5_faultOfNumbers
  exact fn_loop F hc sep cn F 1 0 μ w h (by omega) (by omega) (by omega) (fun j hj => absurd hj (Nat.not_lt_zero _))
theorem tx_ur {μ ρ : Mem} {t p : Nat} (h : TX μ t ρ p) (c j : Nat) (v : Option Nat) : TX (ur μ c j v) t ρ p := h
theorem un_k (μ μ2 ρ : Mem) {F t p cn k : Nat} {sep : Int32} (hF : 2000 ≤ F) (h : TX μ t ρ p) (hk : kp ρ p = k) (hc : cn = cntOf k) (hs : sep = sepOf k) (h0 : 0 < k) (h5 : k ≤ 5) (v : Nat) (hv : v = t + 2 + k) :
    ∃ μ2, (cal (f_X5_faultOfNumbers F (ur μ t 9 (some v)) t (nI cn) sep) fun v5 μ6 => bnd (ui μ6 t 8 v5) fun μ7 => some ((), μ7)) = some ((), μ2) ∧ μ2.1 t 8 = flt ρ p ∧ μ2.2.2 t 9 = some (t + 2 + kp ρ p) ∧ (flt ρ p = -1 → ∀ j, j < cntOf (kp ρ p) → μ2.1 (t + 2) j = wnt ρ p j) ∧ (∀ c j, c ≠ t + 2 → (c = t → j ≠ 8) → μ2.1 c j = μ.1 c j) ∧ (∀ c j, (c = t → j ≠ 9) → μ2.2.2 c j = μ.2.2 c j) := by
  subst hc; subst hs
  have hc4 : cntOf k ≤ 4 := by unfold cntOf; split <;> (try split) <;> omega
  have e1 : flt ρ p = (pgo ρ p (sepOf k) (cntOf k) 1 0 (fun _ => 0)).1 := by unfold flt prs; rw [hk, if_neg (by omega)]
  have e2 : ∀ j, wnt ρ p j = (pgo ρ p (sepOf k) (cntOf k) 1 0 (fun _ => 0)).2 j := fun j => by unfold wnt prs; rw [hk, if_neg (by omega)]
  obtain ⟨μ3, g1, g2, g3, g4⟩ := fn_eq hF hc4 (sepOf k) (tx_ur h t 9 (some v)) (fun _ => 0)
  rw [g1]
  refine ⟨_, rfl, ?_, ?_, ?_, ?_, ?_⟩
  · rw [ui_s, e1]
  · rw [ui_2, g2, ur_s, hk, hv]
  · intro hf j hj
    rw [hk] at hj
    rw [ui_c (by omega), e2]
    exact g4 (by rw [← e1]; exact hf) j hj
  · intro c j q1 q2
    by_cases e : c = t
    · subst e; rw [ui_o (q2 rfl), g3 _ q1]; rfl
    · rw [ui_c e, g3 c q1]; rfl
  · intro c j q
    rw [ui_2, g2]
    by_cases e : c = t
    · subst e
      rw [ur_eq]
      simp only [if_neg (q rfl)]
    · rw [ur_ne e]
theorem un_eq {F : Nat} (hF : 2000 ≤ F) {μ ρ : Mem} {t p : Nat} (h : TX μ t ρ p) : ∃ μ2, f_X5_understand F μ t = some ((), μ2) ∧ μ2.1 t 8 = flt ρ p ∧ μ2.2.2 t 9 = (if kp ρ p = 0 then none else some (t + 2 + kp ρ p)) ∧ (flt ρ p = -1 → ∀ j, j < cntOf (kp ρ p) → μ2.1 (t + 2) j = wnt ρ p j) ∧ (∀ c j, c ≠ t + 2 → (c = t → j ≠ 8) → μ2.1 c j = μ.1 c j) ∧ (∀ c j, (c = t → j ≠ 9) → μ2.2.2 c j = μ.2.2 c j) := by
  have hb : f_X5_byteAt F μ t 0 = some (byt ρ p 0, μ) := ba_eq F h (i := 0) (by omega)
  unfold f_X5_understand
  rw [hb]
  simp only [cal]
  have hkp : kp ρ p = kd (byt ρ p 0) := rfl
  by_cases c1 : byt ρ p 0 = 97
  · have hk : kp ρ p = 1 := by rw [hkp, c1]; rfl
    rw [if_pos c1, if_neg (by omega)]
    exact un_k μ μ ρ hF h hk (cn := 1) (sep := -1) rfl rfl (by omega) (by omega) (t + 3) rfl
  rw [if_neg c1]
  by_cases c2 : byt ρ p 0 = 101
  · have hk : kp ρ p = 3 := by rw [hkp, c2]; rfl
    rw [if_pos c2, if_neg (by omega)]
    exact un_k μ μ ρ hF h hk (cn := 1) (sep := -1) rfl rfl (by omega) (by omega) (t + 5) rfl
  rw [if_neg c2]
  by_cases c3 : byt ρ p 0 = 108
  · have hk : kp ρ p = 2 := by rw [hkp, c3]; rfl
    rw [if_pos c3, if_neg (by omega)]
    exact un_k μ μ ρ hF h hk (cn := 4) (sep := 44) rfl rfl (by omega) (by omega) (t + 4) rfl
  rw [if_neg c3]
  by_cases c4 : byt ρ p 0 = 116
  · have hk : kp ρ p = 5 := by rw [hkp, c4]; rfl
    rw [if_pos c4, if_neg (by omega)]
    exact un_k μ μ ρ hF h hk (cn := 2) (sep := 120) rfl rfl (by omega) (by omega) (t + 7) rfl
  rw [if_neg c4]
  by_cases c5 : byt ρ p 0 = 122
  · have hk : kp ρ p = 4 := by rw [hkp, c5]; rfl
    rw [if_pos c5, if_neg (by omega)]
    exact un_k μ μ ρ hF h hk (cn := 1) (sep := -1) rfl rfl (by omega) (by omega) (t + 6) rfl
  rw [if_neg c5]
  have hk : kp ρ p = 0 := by rw [hkp]; unfold kd; rw [if_neg c1, if_neg c3, if_neg c2, if_neg c5, if_neg c4]
  have hf : flt ρ p = 0 := by unfold flt prs; rw [if_pos hk]
  rw [if_pos hk]
  refine ⟨_, rfl, ?_, ?_, ?_, ?_, ?_⟩
  · rw [ui_s, hf]
  · rw [ui_2, ur_s]
  · rw [hf]; intro q; exact absurd q (by decide)
  · intro c j q1 q2
    by_cases e : c = t
    · subst e; rw [ui_o (q2 rfl)]; rfl
    · rw [ui_c e]; rfl
  · intro c j q
    rw [ui_2]
    by_cases e : c = t
    · subst e
      rw [ur_eq]
      simp only [if_neg (q rfl)]
    · rw [ur_ne e]
