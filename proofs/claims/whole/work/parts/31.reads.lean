theorem xbn {α β : Type} (x : α) (k : α → β) : bnd x k = k x := Eq.trans (Eq.refl (bnd x k)) (Eq.refl (k x))
theorem xca {α β : Type} (a : α) (μ : Mem) (k : α → Mem → Option β) : cal (some (a, μ)) k = k a μ := Eq.trans (Eq.refl (cal (some (a, μ)) k)) (Eq.refl (k a μ))
theorem xcp {α β : Type} (a : α) (k : α → Option β) : calp (some a) k = k a := Eq.trans (Eq.refl (calp (some a) k)) (Eq.refl (k a))
/-! a plan's text understood: the reference -/
theorem rw_tl {W ρ : Mem} (hw : WF W) (hs : SmR W ρ) {p : Nat} (hp : p < 4) : ρ.1 13 p = nI (tl W p) ∧ tl W p ≤ 20 := by rw [hs.c (by omega)]; exact (hw.2.2.1 p hp).1
theorem hr_eq {F : Nat} {W ρ : Mem} (hw : WF W) (hs : SmR W ρ) {p : Nat} (hp : p < 4) {i : Nat} (h : ρ.1 0 19 = nI i) (hi : i ≤ 100) : f_X12_here F ρ (nI p) = some (byt W p i, ρ) := by
  obtain ⟨t1, t2⟩ := rw_tl hw hs hp
  unfold f_X12_here byt
  by_cases q : i < tl W p
  · simp (disch := omega) only [bnd, ite_not, br_le_t, br_le_f, br_lt_t, br_lt_f, br_eq_t, br_eq_f, br_le0_t, br_le0_f, br_lt1_t, br_lt1_f, br_1le_t, br_1le_f, br_eq0_t, br_eq0_f, br_eq1_t, br_eq1_f, br_0le, br_lt0, br_0lt_t, br_0lt_f, br_m1, iof, i_2, i_3, i_4, i_8, i_9, i_10, i_20, i_30, i_90, i_120, i_256, cl_0, cl_1, cl_2, cl_3, Int32.add_zero, nI_add, nI_1, pk_mul, nI_s1, sb_m1, ck_in, ck_0, ck_1, nI_clamp, calp, cal, bnd, h, t1, q, if_true]
    rw [hs.c (by omega)]
  · simp (disch := omega) only [bnd, ite_not, br_le_t, br_le_f, br_lt_t, br_lt_f, br_eq_t, br_eq_f, br_le0_t, br_le0_f, br_lt1_t, br_lt1_f, br_1le_t, br_1le_f, br_eq0_t, br_eq0_f, br_eq1_t, br_eq1_f, br_0le, br_lt0, br_0lt_t, br_0lt_f, br_m1, iof, i_2, i_3, i_4, i_8, i_9, i_10, i_20, i_30, i_90, i_120, i_256, cl_0, cl_1, cl_2, cl_3, Int32.add_zero, nI_add, nI_1, pk_mul, nI_s1, sb_m1, ck_in, ck_0, ck_1, nI_clamp, calp, cal, bnd, h, t1, q, if_false]
theorem fg_in (F : Nat) (x : Int32) : f_X12_in F x.toInt64 48 57 = some (if fig x then 1 else 0) := in_eq F x 48 57 (A := 48) (B := 57) rfl rfl
theorem num_n {ρ : Mem} {p i : Nat} {q : Int32 × Nat} (h : num ρ p i = some q) : (∃ v, v ≤ 99 ∧ q.1 = nI v) ∧ i < q.2 ∧ q.2 ≤ tl ρ p ∧ q.2 ≤ i + 2 := by
  unfold num at h
  have fg : ∀ x : Int32, fig x = true → ∃ v, v ≤ 9 ∧ x - 48 = nI v := fun x hx => by
    have h1 : 48 ≤ x ∧ x ≤ 57 := by simpa [fig] using hx
    have h0 : ¬ x < 0 := fun q => by
      have a1 := Int32.lt_iff_toInt_lt.mp q
      have a2 := Int32.le_iff_toInt_le.mp h1.1
      rw [show (48 : Int32).toInt = 48 from rfl] at a2
      rw [show (0 : Int32).toInt = 0 from rfl] at a1
      omega
    obtain ⟨a, ha, rfl⟩ := nI_of h0
    have b1 := (nI_leI (a := 48) (by omega) ha).mp h1.1
    have b2 := (nI_leI (b := 57) ha (by omega)).mp h1.2
    exact ⟨a - 48, by omega, pk_sub (b := 48) b1⟩
  by_cases f1 : fig (byt ρ p i) = true
  · rw [if_pos f1] at h
    obtain ⟨a, ha, ea⟩ := fg _ f1
    have l1 := fig_lt f1
    by_cases f2 : fig (byt ρ p (i + 1)) = true
    · rw [if_pos f2] at h
      cases h
      obtain ⟨b, hb, eb⟩ := fg _ f2
      have l2 := fig_lt f2
      refine ⟨⟨10 * a + b, by omega, ?_⟩, by omega, by omega, by omega⟩
      rw [ea, eb, i_10, pk_mul, nI_add]
    · rw [if_neg f2] at h
      cases h
      exact ⟨⟨a, by omega, ea⟩, by omega, by omega, by omega⟩
  · rw [if_neg f1] at h
    cases h
theorem nu_b {F : Nat} {W ρ : Mem} (hw : WF W) (hs : SmR W ρ) {p : Nat} (hp : p < 4) {i : Nat} (h : ρ.1 0 19 = nI i) (hi : i ≤ 50) {to : Nat} (ht : to < 4) (m : Nat) (hm : 3 ≤ m) :
    ∃ ρ2, f_X12_number_b8 F m ρ (nI p) (nI to) (nI i) 0 = some (if (num W p i).isSome then 1 else 0, ρ2) ∧ SmR W ρ2 ∧ ρ2.2 = ρ.2 ∧ ρ2.1 0 17 = ρ.1 0 17 ∧ ρ2.1 0 21 = ρ.1 0 21 ∧ (∀ j, j ≠ to → ρ2.1 14 j = ρ.1 14 j) ∧ (num W p i = none → ρ2.1 0 19 = nI i) ∧ ∀ q, num W p i = some q → ρ2.1 0 19 = nI q.2 ∧ ρ2.1 14 to = q.1 := by
  obtain ⟨n, rfl⟩ : ∃ n, m = n + 1 + 1 + 1 := ⟨m - 3, by omega⟩
  have z : ∀ x : Int32, nI 10 * (0 : Int32) + x - 48 = x - 48 := fun x => by
    rw [Int32.mul_zero, Int32.zero_add]
  rw [f_X12_number_b8]
  unfold f_X12_number_b65
  simp (disch := omega) only [xbn, ite_not, br_le_t, br_le_f, br_lt_t, br_lt_f, br_eq_t, br_eq_f, br_le0_t, br_le0_f, br_lt1_t, br_lt1_f, br_1le_t, br_1le_f, br_eq0_t, br_eq0_f, br_eq1_t, br_eq1_f, br_0le, br_lt0, br_0lt_t, br_0lt_f, br_m1, iof, i_2, i_3, i_4, i_8, i_9, i_10, i_20, i_30, i_90, i_120, i_256, cl_0, cl_1, cl_2, cl_3, Int32.add_zero, nI_add, nI_1, pk_mul, nI_s1, sb_m1, ck_in, ck_0, ck_1, nI_clamp, xcp, xca, xbn, h, hr_eq hw hs hp h, fg_in]
  by_cases f1 : fig (byt W p i) = true
  · have hs1 : SmR W (ui ρ 0 19 (nI (i + 1))) := hs.tr (smr_0 (by omega) _ _)
    have h1 : (ui ρ 0 19 (nI (i + 1))).1 0 19 = nI (i + 1) := ui_s _ _ _ _
    simp (disch := omega) only [xbn, ite_not, br_le_t, br_le_f, br_lt_t, br_lt_f, br_eq_t, br_eq_f, br_le0_t, br_le0_f, br_lt1_t, br_lt1_f, br_1le_t, br_1le_f, br_eq0_t, br_eq0_f, br_eq1_t, br_eq1_f, br_0le, br_lt0, br_0lt_t, br_0lt_f, br_m1, iof, i_2, i_3, i_4, i_8, i_9, i_10, i_20, i_30, i_90, i_120, i_256, cl_0, cl_1, cl_2, cl_3, Int32.add_zero, nI_add, nI_1, pk_mul, nI_s1, sb_m1, ck_in, ck_0, ck_1, nI_clamp, xcp, xca, xbn, f1, if_true, show ¬ (1 : Int32) = 0 by decide, if_false, z]
    rw [f_X12_number_b8]
    unfold f_X12_number_b65
    simp (disch := omega) only [xbn, ite_not, br_le_t, br_le_f, br_lt_t, br_lt_f, br_eq_t, br_eq_f, br_le0_t, br_le0_f, br_lt1_t, br_lt1_f, br_1le_t, br_1le_f, br_eq0_t, br_eq0_f, br_eq1_t, br_eq1_f, br_0le, br_lt0, br_0lt_t, br_0lt_f, br_m1, iof, i_2, i_3, i_4, i_8, i_9, i_10, i_20, i_30, i_90, i_120, i_256, cl_0, cl_1, cl_2, cl_3, Int32.add_zero, nI_add, nI_1, pk_mul, nI_s1, sb_m1, ck_in, ck_0, ck_1, nI_clamp, xcp, xca, xbn, h1, hr_eq hw hs1 hp h1, fg_in]
    by_cases f2 : fig (byt W p (i + 1)) = true
    · have en : num W p i = some (10 * (byt W p i - 48) + (byt W p (i + 1) - 48), i + 2) := by unfold num; rw [if_pos f1, if_pos f2]
      simp (disch := omega) only [xbn, ite_not, br_le_t, br_le_f, br_lt_t, br_lt_f, br_eq_t, br_eq_f, br_le0_t, br_le0_f, br_lt1_t, br_lt1_f, br_1le_t, br_1le_f, br_eq0_t, br_eq0_f, br_eq1_t, br_eq1_f, br_0le, br_lt0, br_0lt_t, br_0lt_f, br_m1, iof, i_2, i_3, i_4, i_8, i_9, i_10, i_20, i_30, i_90, i_120, i_256, cl_0, cl_1, cl_2, cl_3, Int32.add_zero, nI_add, nI_1, pk_mul, nI_s1, sb_m1, ck_in, ck_0, ck_1, nI_clamp, xcp, xca, xbn, f2, if_true, show ¬ (1 : Int32) = 0 by decide, if_false]
      rw [f_X12_number_b8]
      unfold f_X12_number_b65
      simp (disch := omega) only [xbn, ite_not, br_le_t, br_le_f, br_lt_t, br_lt_f, br_eq_t, br_eq_f, br_le0_t, br_le0_f, br_lt1_t, br_lt1_f, br_1le_t, br_1le_f, br_eq0_t, br_eq0_f, br_eq1_t, br_eq1_f, br_0le, br_lt0, br_0lt_t, br_0lt_f, br_m1, iof, i_2, i_3, i_4, i_8, i_9, i_10, i_20, i_30, i_90, i_120, i_256, cl_0, cl_1, cl_2, cl_3, Int32.add_zero, nI_add, nI_1, pk_mul, nI_s1, sb_m1, ck_in, ck_0, ck_1, nI_clamp, xcp, xca, xbn, ui_c, ui_s, ui_o, ui_2, ul_1, ul_22, ul_s, ul_o, ul_c, ur_1, ur_21, ur_s]
      refine ⟨_, by rw [en]; rfl, ?_, ?_, ?_, ?_, ?_, ?_, ?_⟩
      · exact ((hs1.tr (smr_0 (by omega) _ _)).tr (smr_i (by omega) _ _ _))
      · rfl
      · simp (disch := omega) only [ui_c, ui_s, ui_o, ui_2, ul_1, ul_22, ul_s, ul_o, ul_c, ur_1, ur_21, ur_s]
      · simp (disch := omega) only [ui_c, ui_s, ui_o, ui_2, ul_1, ul_22, ul_s, ul_o, ul_c, ur_1, ur_21, ur_s]
      · intro j hj; simp (disch := omega) only [ui_c, ui_s, ui_o, ui_2, ul_1, ul_22, ul_s, ul_o, ul_c, ur_1, ur_21, ur_s]
      · intro q; rw [en] at q; cases q
      · intro q hq
        rw [en] at hq
        cases hq
        simp (disch := omega) only [ui_c, ui_s, ui_o, ui_2, ul_1, ul_22, ul_s, ul_o, ul_c, ur_1, ur_21, ur_s, i_10, z, d48, and_self]
    · have en : num W p i = some (byt W p i - 48, i + 1) := by unfold num; rw [if_pos f1, if_neg f2]
      simp (disch := omega) only [xbn, ite_not, br_le_t, br_le_f, br_lt_t, br_lt_f, br_eq_t, br_eq_f, br_le0_t, br_le0_f, br_lt1_t, br_lt1_f, br_1le_t, br_1le_f, br_eq0_t, br_eq0_f, br_eq1_t, br_eq1_f, br_0le, br_lt0, br_0lt_t, br_0lt_f, br_m1, iof, i_2, i_3, i_4, i_8, i_9, i_10, i_20, i_30, i_90, i_120, i_256, cl_0, cl_1, cl_2, cl_3, Int32.add_zero, nI_add, nI_1, pk_mul, nI_s1, sb_m1, ck_in, ck_0, ck_1, nI_clamp, xcp, xca, xbn, ui_c, ui_s, ui_o, ui_2, ul_1, ul_22, ul_s, ul_o, ul_c, ur_1, ur_21, ur_s, f2, if_true, show ¬ (1 : Int32) = 0 by decide, if_false]
      refine ⟨_, by rw [en]; rfl, ?_, ?_, ?_, ?_, ?_, ?_, ?_⟩
      · exact (hs1.tr (smr_i (by omega) _ _ _))
      · rfl
      · simp (disch := omega) only [ui_c, ui_s, ui_o, ui_2, ul_1, ul_22, ul_s, ul_o, ul_c, ur_1, ur_21, ur_s]
      · simp (disch := omega) only [ui_c, ui_s, ui_o, ui_2, ul_1, ul_22, ul_s, ul_o, ul_c, ur_1, ur_21, ur_s]
      · intro j hj; simp (disch := omega) only [ui_c, ui_s, ui_o, ui_2, ul_1, ul_22, ul_s, ul_o, ul_c, ur_1, ur_21, ur_s]
      · intro q; rw [en] at q; cases q
      · intro q hq
        rw [en] at hq
        cases hq
        simp (disch := omega) only [ui_c, ui_s, ui_o, ui_2, ul_1, ul_22, ul_s, ul_o, ul_c, ur_1, ur_21, ur_s, i_10, z, and_self]
  · have en : num W p i = none := by unfold num; rw [if_neg f1]
    simp (disch := omega) only [xbn, ite_not, br_le_t, br_le_f, br_lt_t, br_lt_f, br_eq_t, br_eq_f, br_le0_t, br_le0_f, br_lt1_t, br_lt1_f, br_1le_t, br_1le_f, br_eq0_t, br_eq0_f, br_eq1_t, br_eq1_f, br_0le, br_lt0, br_0lt_t, br_0lt_f, br_m1, iof, i_2, i_3, i_4, i_8, i_9, i_10, i_20, i_30, i_90, i_120, i_256, cl_0, cl_1, cl_2, cl_3, Int32.add_zero, nI_add, nI_1, pk_mul, nI_s1, sb_m1, ck_in, ck_0, ck_1, nI_clamp, xcp, xca, xbn, ui_c, ui_s, ui_o, ui_2, ul_1, ul_22, ul_s, ul_o, ul_c, ur_1, ur_21, ur_s, h, f1, if_true, show ¬ (1 : Int32) = 0 by decide, if_false]
    refine ⟨_, by rw [en]; rfl, ?_, ?_, ?_, ?_, ?_, ?_, ?_⟩
    · exact (hs.tr (smr_i (by omega) _ _ _))
    · rfl
    · simp (disch := omega) only [ui_c, ui_s, ui_o, ui_2, ul_1, ul_22, ul_s, ul_o, ul_c, ur_1, ur_21, ur_s]
    · simp (disch := omega) only [ui_c, ui_s, ui_o, ui_2, ul_1, ul_22, ul_s, ul_o, ul_c, ur_1, ur_21, ur_s]
    · intro j hj; simp (disch := omega) only [ui_c, ui_s, ui_o, ui_2, ul_1, ul_22, ul_s, ul_o, ul_c, ur_1, ur_21, ur_s]
    · intro q; simp (disch := omega) only [ui_c, ui_s, ui_o, ui_2, ul_1, ul_22, ul_s, ul_o, ul_c, ur_1, ur_21, ur_s, h]
    · intro q hq; rw [en] at hq; cases hq
theorem nu_eq {F : Nat} (hF : 2000 ≤ F) {W ρ : Mem} (hw : WF W) (hs : SmR W ρ) {p : Nat} (hp : p < 4) {i : Nat} (h : ρ.1 0 19 = nI i) (hi : i ≤ 50) {to : Nat} (ht : to < 4) :
    ∃ ρ2, f_X12_number F ρ (nI p) (nI to) = some (if (num W p i).isSome then 1 else 0, ρ2) ∧ SmR W ρ2 ∧ ρ2.2 = ρ.2 ∧ ρ2.1 0 17 = ρ.1 0 17 ∧ ρ2.1 0 21 = ρ.1 0 21 ∧ (∀ j, j ≠ to → ρ2.1 14 j = ρ.1 14 j) ∧ (num W p i = none → ρ2.1 0 19 = nI i) ∧ ∀ q, num W p i = some q → ρ2.1 0 19 = nI q.2 ∧ ρ2.1 14 to = q.1 := by
  unfold f_X12_number
  rw [h]
  exact nu_b hw hs hp h hi ht F (by omega)
/-- the numbers behind the first -/
theorem rd_loop {F : Nat} (hF : 2000 ≤ F) {W : Mem} (hw : WF W) {p mo : Nat} (hp : p < 4) (hm : mo ≤ 3) {sep : Int32} {kb : Int32} (hsep : (kb = 108 ∧ sep = 44) ∨ (¬ kb = 108 ∧ sep = 120)) : ∀ (m n i k : Nat) (ρ : Mem) (w : Nat → Int32), SmR W ρ → k + m = mo + 1 → 0 < k → m < n → i + 3 * m ≤ 40 → ρ.1 0 19 = nI i → i ≤ tl W p → ρ.1 0 17 = kb → (∀ j, j < k → ρ.1 14 j = w j) →
    ∃ ρ2, f_X12_reads_b123 F n ρ (nI p) (nI mo) (nI k) = some ((pgo W p sep m i k w).1, ρ2) ∧ SmR W ρ2 ∧ ρ2.2 = ρ.2 ∧ ρ2.1 0 17 = kb ∧ ρ2.1 0 21 = ρ.1 0 21 ∧ ((pgo W p sep m i k w).1 = -1 → ∀ j, j < mo + 1 → ρ2.1 14 j = (pgo W p sep m i k w).2 j) := by
  intro m
  induction m with
  | zero =>
    intro n i k ρ w hs h1 h0 h2 h3 h4 h5 h6 h7
    obtain ⟨n, rfl⟩ : ∃ a, n = a + 1 := ⟨n - 1, by omega⟩
    obtain ⟨t1, t2⟩ := rw_tl hw hs hp
    unfold f_X12_reads_b123 pgo
    simp (disch := omega) only [bnd, ite_not, br_le_t, br_le_f, br_lt_t, br_lt_f, br_eq_t, br_eq_f, br_le0_t, br_le0_f, br_lt1_t, br_lt1_f, br_1le_t, br_1le_f, br_eq0_t, br_eq0_f, br_eq1_t, br_eq1_f, br_0le, br_lt0, br_0lt_t, br_0lt_f, br_m1, iof, i_2, i_3, i_4, i_8, i_9, i_10, i_20, i_30, i_90, i_120, i_256, cl_0, cl_1, cl_2, cl_3, Int32.add_zero, nI_add, nI_1, pk_mul, nI_s1, sb_m1, ck_in, ck_0, ck_1, nI_clamp, calp, cal, bnd, h4, t1]
    by_cases q : i < tl W p
    · simp (disch := omega) only [bnd, ite_not, br_le_t, br_le_f, br_lt_t, br_lt_f, br_eq_t, br_eq_f, br_le0_t, br_le0_f, br_lt1_t, br_lt1_f, br_1le_t, br_1le_f, br_eq0_t, br_eq0_f, br_eq1_t, br_eq1_f, br_0le, br_lt0, br_0lt_t, br_0lt_f, br_m1, iof, i_2, i_3, i_4, i_8, i_9, i_10, i_20, i_30, i_90, i_120, i_256, cl_0, cl_1, cl_2, cl_3, Int32.add_zero, nI_add, nI_1, pk_mul, nI_s1, sb_m1, ck_in, ck_0, ck_1, nI_clamp, calp, cal, bnd, q, if_true]
      exact ⟨ρ, rfl, hs, rfl, h6, rfl, fun e => absurd e (nI_nm1 (by omega))⟩
    · simp (disch := omega) only [bnd, ite_not, br_le_t, br_le_f, br_lt_t, br_lt_f, br_eq_t, br_eq_f, br_le0_t, br_le0_f, br_lt1_t, br_lt1_f, br_1le_t, br_1le_f, br_eq0_t, br_eq0_f, br_eq1_t, br_eq1_f, br_0le, br_lt0, br_0lt_t, br_0lt_f, br_m1, iof, i_2, i_3, i_4, i_8, i_9, i_10, i_20, i_30, i_90, i_120, i_256, cl_0, cl_1, cl_2, cl_3, Int32.add_zero, nI_add, nI_1, pk_mul, nI_s1, sb_m1, ck_in, ck_0, ck_1, nI_clamp, calp, cal, bnd, q, if_false]
      exact ⟨ρ, rfl, hs, rfl, h6, rfl, fun _ j hj => h7 j (by omega)⟩
  | succ m ih =>
    intro n i k ρ w hs h1 h0 h2 h3 h4 h5 h6 h7
    obtain ⟨n, rfl⟩ : ∃ a, n = a + 1 := ⟨n - 1, by omega⟩
    have sep_ne : sep ≠ -1 := by rcases hsep with ⟨_, q⟩ | ⟨_, q⟩ <;> rw [q] <;> decide
    have body : ∃ ρ2, f_X12_reads_b149 F (fun μ' x1' x2' x3' => f_X12_reads_b123 F n μ' x1' x2' x3') ρ (nI p) (nI mo) (nI k) sep (byt W p i) = some ((pgo W p sep (m + 1) i k w).1, ρ2) ∧ SmR W ρ2 ∧ ρ2.2 = ρ.2 ∧ ρ2.1 0 17 = kb ∧ ρ2.1 0 21 = ρ.1 0 21 ∧ ((pgo W p sep (m + 1) i k w).1 = -1 → ∀ j, j < mo + 1 → ρ2.1 14 j = (pgo W p sep (m + 1) i k w).2 j) := by
      unfold f_X12_reads_b149 pgo
      simp (disch := omega) only [bnd, ite_not, br_le_t, br_le_f, br_lt_t, br_lt_f, br_eq_t, br_eq_f, br_le0_t, br_le0_f, br_lt1_t, br_lt1_f, br_1le_t, br_1le_f, br_eq0_t, br_eq0_f, br_eq1_t, br_eq1_f, br_0le, br_lt0, br_0lt_t, br_0lt_f, br_m1, iof, i_2, i_3, i_4, i_8, i_9, i_10, i_20, i_30, i_90, i_120, i_256, cl_0, cl_1, cl_2, cl_3, Int32.add_zero, nI_add, nI_1, pk_mul, nI_s1, sb_m1, ck_in, ck_0, ck_1, nI_clamp, calp, cal, bnd, h4, h0, true_and, if_true]
      by_cases f : byt W p i = sep
      · have hlt : i < tl W p := by
          rcases Nat.lt_or_ge i (tl W p) with q | q
          · exact q
          · unfold byt at f; rw [if_neg (by omega)] at f; exact absurd f.symm sep_ne
        simp only [f, if_true, not_true_eq_false, if_false]
        have hs1 : SmR W (ui ρ 0 19 (nI (i + 1))) := hs.tr (smr_0 (by omega) _ _)
        obtain ⟨ρ2, g1, g2, gx, g3, g4, g5, g6, g7⟩ := nu_eq hF hw hs1 hp (i := i + 1) (ui_s _ _ _ _) (by omega) (to := k) (by omega)
        rw [g1]
        rw [ui_o (by omega), h6] at g3
        rw [ui_o (by omega)] at g4
        cases en : num W p (i + 1) with
        | none =>
          simp (disch := omega) only [bnd, ite_not, br_le_t, br_le_f, br_lt_t, br_lt_f, br_eq_t, br_eq_f, br_le0_t, br_le0_f, br_lt1_t, br_lt1_f, br_1le_t, br_1le_f, br_eq0_t, br_eq0_f, br_eq1_t, br_eq1_f, br_0le, br_lt0, br_0lt_t, br_0lt_f, br_m1, iof, i_2, i_3, i_4, i_8, i_9, i_10, i_20, i_30, i_90, i_120, i_256, cl_0, cl_1, cl_2, cl_3, Int32.add_zero, nI_add, nI_1, pk_mul, nI_s1, sb_m1, ck_in, ck_0, ck_1, nI_clamp, calp, cal, bnd, g6 en, Option.isSome_none, Bool.false_eq_true, if_false, if_true]
          exact ⟨ρ2, rfl, g2, gx, g3, g4, fun e => absurd e (nI_nm1 (by omega))⟩
        | some q =>
          obtain ⟨a1, a2, a3, a4⟩ := num_n en
          obtain ⟨b1, b2⟩ := g7 q en
          simp (disch := omega) only [bnd, ite_not, br_le_t, br_le_f, br_lt_t, br_lt_f, br_eq_t, br_eq_f, br_le0_t, br_le0_f, br_lt1_t, br_lt1_f, br_1le_t, br_1le_f, br_eq0_t, br_eq0_f, br_eq1_t, br_eq1_f, br_0le, br_lt0, br_0lt_t, br_0lt_f, br_m1, iof, i_2, i_3, i_4, i_8, i_9, i_10, i_20, i_30, i_90, i_120, i_256, cl_0, cl_1, cl_2, cl_3, Int32.add_zero, nI_add, nI_1, pk_mul, nI_s1, sb_m1, ck_in, ck_0, ck_1, nI_clamp, calp, cal, bnd, Option.isSome_some, if_true, show ¬ (1 : Int32) = 0 by decide, if_false]
          obtain ⟨ρ3, c1, c2, cx, c3, c4, c5⟩ := ih n q.2 (k + 1) ρ2 (upd w k q.1) g2 (by omega) (by omega) (by omega) (by omega) b1 a3 g3 (fun j hj => by
            by_cases ej : j = k
            · subst ej; rw [pk_us, b2]
            · rw [pk_un ej, g5 j ej, ui_c (by omega)]; exact h7 j (by omega))
          exact ⟨ρ3, c1, c2, cx.trans gx, c3, c4.trans g4, c5⟩
      · simp only [f, if_false, not_false_eq_true, if_true]
        exact ⟨ρ, rfl, hs, rfl, h6, rfl, fun e => absurd e (nI_nm1 (by omega))⟩
    unfold f_X12_reads_b123
    simp (disch := omega) only [bnd, ite_not, br_le_t, br_le_f, br_lt_t, br_lt_f, br_eq_t, br_eq_f, br_le0_t, br_le0_f, br_lt1_t, br_lt1_f, br_1le_t, br_1le_f, br_eq0_t, br_eq0_f, br_eq1_t, br_eq1_f, br_0le, br_lt0, br_0lt_t, br_0lt_f, br_m1, iof, i_2, i_3, i_4, i_8, i_9, i_10, i_20, i_30, i_90, i_120, i_256, cl_0, cl_1, cl_2, cl_3, Int32.add_zero, nI_add, nI_1, pk_mul, nI_s1, sb_m1, ck_in, ck_0, ck_1, nI_clamp, calp, cal, bnd, hr_eq hw hs hp h4, h6]
    rcases hsep with ⟨q1, q2⟩ | ⟨q1, q2⟩
    · subst q2
      rw [if_pos q1]
      exact body
    · subst q2
      rw [if_neg q1]
      exact body
theorem rd_k {F : Nat} (hF : 2000 ≤ F) {W ρ : Mem} (hw : WF W) (hs : SmR W ρ) {p k : Nat} (hp : p < 4) (hk : kp W p = k) (h0 : 0 < k) (h5 : k ≤ 5) (h1 : ρ.1 0 17 = byt W p 0) (h2 : ρ.1 0 19 = 0) :
    ∃ ρ2, f_X12_reads_b69 F ρ (nI p) = some (flt W p, ρ2) ∧ SmR W ρ2 ∧ ρ2.2 = ρ.2 ∧ ρ2.1 0 17 = byt W p 0 ∧ ρ2.1 0 21 = ρ.1 0 21 ∧ (flt W p = -1 → ∀ j, j < cntOf (kp W p) → ρ2.1 14 j = wnt W p j) := by
  have hc4 : cntOf k ≤ 4 ∧ 0 < cntOf k := by unfold cntOf; split <;> (try split) <;> omega
  obtain ⟨m, hm⟩ : ∃ m, cntOf k = m + 1 := ⟨cntOf k - 1, by omega⟩
  have e1 : flt W p = (pgo W p (sepOf k) (cntOf k) 1 0 (fun _ => 0)).1 := by unfold flt prs; rw [hk, if_neg (by omega)]
  have e2 : ∀ j, wnt W p j = (pgo W p (sepOf k) (cntOf k) 1 0 (fun _ => 0)).2 j := fun j => by unfold wnt prs; rw [hk, if_neg (by omega)]
  have hlt : 0 < tl W p := by
    rcases Nat.eq_zero_or_pos (tl W p) with q | q
    · have : kp W p = 0 := by unfold kp byt; rw [if_neg (by omega)]; rfl
      omega
    · exact q
  have hkb : (k = 2 ∧ byt W p 0 = 108) ∨ (k = 5 ∧ byt W p 0 = 116) ∨ (k ≠ 2 ∧ k ≠ 5 ∧ ¬ byt W p 0 = 108 ∧ ¬ byt W p 0 = 116) := by
    have hkd : kd (byt W p 0) = k := hk
    unfold kd at hkd
    by_cases c1 : byt W p 0 = 97
    · rw [if_pos c1] at hkd; exact Or.inr (Or.inr ⟨by omega, by omega, by rw [c1]; decide, by rw [c1]; decide⟩)
    rw [if_neg c1] at hkd
    by_cases c2 : byt W p 0 = 108
    · rw [if_pos c2] at hkd; exact Or.inl ⟨by omega, c2⟩
    rw [if_neg c2] at hkd
    by_cases c3 : byt W p 0 = 101
    · rw [if_pos c3] at hkd; exact Or.inr (Or.inr ⟨by omega, by omega, c2, by rw [c3]; decide⟩)
    rw [if_neg c3] at hkd
    by_cases c4 : byt W p 0 = 122
    · rw [if_pos c4] at hkd; exact Or.inr (Or.inr ⟨by omega, by omega, c2, by rw [c4]; decide⟩)
    rw [if_neg c4] at hkd
    by_cases c5 : byt W p 0 = 116
    · rw [if_pos c5] at hkd; exact Or.inr (Or.inl ⟨by omega, c5⟩)
    rw [if_neg c5] at hkd
    omega
  have hs1 : SmR W (ui ρ 0 19 1) := hs.tr (smr_0 (by omega) _ _)
  obtain ⟨ρ2, g1, g2, gx, g3, g4, g5, g6, g7⟩ := nu_eq hF hw hs1 hp (i := 1) (ui_s _ _ _ _) (by omega) (to := 0) (by omega)
  rw [ui_o (by omega), h1] at g3
  rw [ui_o (by omega)] at g4
  have g1' : f_X12_number F (ui ρ 0 19 1) (nI p) 0 = _ := g1
  unfold f_X12_reads_b69
  simp only [bnd, h2, Int32.zero_add, g1', cal]
  rw [hk, e1, hm]
  simp only [e2, hm]
  simp only [pgo, Nat.lt_irrefl, false_and, if_false]
  cases en : num W p 1 with
  | none =>
    simp (disch := omega) only [bnd, ite_not, br_le_t, br_le_f, br_lt_t, br_lt_f, br_eq_t, br_eq_f, br_le0_t, br_le0_f, br_lt1_t, br_lt1_f, br_1le_t, br_1le_f, br_eq0_t, br_eq0_f, br_eq1_t, br_eq1_f, br_0le, br_lt0, br_0lt_t, br_0lt_f, br_m1, iof, i_2, i_3, i_4, i_8, i_9, i_10, i_20, i_30, i_90, i_120, i_256, cl_0, cl_1, cl_2, cl_3, Int32.add_zero, nI_add, nI_1, pk_mul, nI_s1, sb_m1, ck_in, ck_0, ck_1, nI_clamp, calp, cal, bnd, g6 en, Option.isSome_none, Bool.false_eq_true, if_false, if_true]
    exact ⟨ρ2, rfl, g2, gx, g3, g4, fun e => absurd e (nI_nm1 (by omega))⟩
  | some q =>
    obtain ⟨a1, a2, a3, a4⟩ := num_n en
    obtain ⟨b1, b2⟩ := g7 q en
    simp (disch := omega) only [bnd, ite_not, br_le_t, br_le_f, br_lt_t, br_lt_f, br_eq_t, br_eq_f, br_le0_t, br_le0_f, br_lt1_t, br_lt1_f, br_1le_t, br_1le_f, br_eq0_t, br_eq0_f, br_eq1_t, br_eq1_f, br_0le, br_lt0, br_0lt_t, br_0lt_f, br_m1, iof, i_2, i_3, i_4, i_8, i_9, i_10, i_20, i_30, i_90, i_120, i_256, cl_0, cl_1, cl_2, cl_3, Int32.add_zero, nI_add, nI_1, pk_mul, nI_s1, sb_m1, ck_in, ck_0, ck_1, nI_clamp, calp, cal, bnd, Option.isSome_some, if_true, show ¬ (1 : Int32) = 0 by decide, if_false, g3]
    unfold f_X12_reads_b120
    have fin : ∀ (mo : Nat) (moI : Int32), m = mo → moI = nI mo → mo ≤ 3 → (0 < m → ((byt W p 0 = 108 ∧ sepOf k = 44) ∨ (¬ byt W p 0 = 108 ∧ sepOf k = 120))) → ∃ ρ3, f_X12_reads_b123 F F ρ2 (nI p) moI 1 = some ((pgo W p (sepOf k) m q.2 (0 + 1) (upd (fun _ => 0) 0 q.1)).1, ρ3) ∧ SmR W ρ3 ∧ ρ3.2 = ρ.2 ∧ ρ3.1 0 17 = byt W p 0 ∧ ρ3.1 0 21 = ρ.1 0 21 ∧ ((pgo W p (sepOf k) m q.2 (0 + 1) (upd (fun _ => 0) 0 q.1)).1 = -1 → ∀ j, j < m + 1 → ρ3.1 14 j = (pgo W p (sepOf k) m q.2 (0 + 1) (upd (fun _ => 0) 0 q.1)).2 j) := by
      intro mo moI em eI h3 hsp
      subst em
      subst eI
      have hj : ∀ j, j < 0 + 1 → ρ2.1 14 j = upd (fun _ => 0) 0 q.1 j := fun j hj => by
        have : j = 0 := by omega
        subst this
        rw [pk_us, b2]
      rcases Nat.eq_zero_or_pos m with m0 | m0
      · subst m0
        by_cases kb : byt W p 0 = 108
        · obtain ⟨ρ3, c1, c2, cx, c3, c4, c5⟩ := rd_loop hF hw hp (mo := 0) (by omega) (sep := 44) (kb := byt W p 0) (Or.inl ⟨kb, rfl⟩) 0 F q.2 1 ρ2 (upd (fun _ => 0) 0 q.1) g2 (by omega) (by omega) (by omega) (by omega) b1 a3 g3 hj
          exact ⟨ρ3, c1, c2, cx.trans gx, c3, c4.trans g4, c5⟩
        · obtain ⟨ρ3, c1, c2, cx, c3, c4, c5⟩ := rd_loop hF hw hp (mo := 0) (by omega) (sep := 120) (kb := byt W p 0) (Or.inr ⟨kb, rfl⟩) 0 F q.2 1 ρ2 (upd (fun _ => 0) 0 q.1) g2 (by omega) (by omega) (by omega) (by omega) b1 a3 g3 hj
          exact ⟨ρ3, c1, c2, cx.trans gx, c3, c4.trans g4, c5⟩
      · obtain ⟨ρ3, c1, c2, cx, c3, c4, c5⟩ := rd_loop hF hw hp (mo := m) h3 (sep := sepOf k) (kb := byt W p 0) (hsp m0) m F q.2 1 ρ2 (upd (fun _ => 0) 0 q.1) g2 (by omega) (by omega) (by omega) (by omega) b1 a3 g3 hj
        exact ⟨ρ3, c1, c2, cx.trans gx, c3, c4.trans g4, c5⟩
    rcases hkb with ⟨k2, kb⟩ | ⟨k5, kb⟩ | ⟨n2, n5, nb, nt⟩
    · subst k2
      have : m = 3 := by have : cntOf 2 = 4 := rfl; omega
      simp only [kb, if_true]
      exact kb ▸ fin 3 3 this rfl (by omega) (fun _ => Or.inl ⟨kb, rfl⟩)
    · subst k5
      have : m = 1 := by have : cntOf 5 = 2 := rfl; omega
      simp only [kb, if_true, show ¬ (116 : Int32) = 108 by decide, if_false]
      exact kb ▸ fin 1 1 this rfl (by omega) (fun _ => Or.inr ⟨by rw [kb]; decide, rfl⟩)
    · have : m = 0 := by
        have : cntOf k = 1 := by unfold cntOf; rw [if_neg n2, if_neg n5]
        omega
      simp only [nb, nt, if_false]
      exact fin 0 0 this rfl (by omega) (fun q0 => absurd q0 (by omega))
theorem rd_eq {F : Nat} (hF : 2000 ≤ F) {W ρ : Mem} (hw : WF W) (hs : SmR W ρ) {p : Nat} (hp : p < 4) :
    ∃ ρ2, f_X12_reads F ρ (nI p) = some (flt W p, ρ2) ∧ SmR W ρ2 ∧ ρ2.2 = ρ.2 ∧ ρ2.1 0 17 = byt W p 0 ∧ ρ2.1 0 21 = 0 ∧ (flt W p = -1 → ∀ j, j < cntOf (kp W p) → ρ2.1 14 j = wnt W p j) := by
  have hs2 : SmR W (ui (ui ρ 0 19 0) 0 21 0) := (hs.tr (smr_0 (by omega) _ _)).tr (smr_0 (by omega) _ _)
  have h19 : (ui (ui ρ 0 19 0) 0 21 0).1 0 19 = nI 0 := by rw [ui_o (by omega), ui_s]; rfl
  have hs5 : SmR W (ui (ui (ui ρ 0 19 0) 0 21 0) 0 17 (byt W p 0)) := hs2.tr (smr_0 (by omega) _ _)
  unfold f_X12_reads
  simp only [bnd, hr_eq hw hs2 hp h19 (by omega), cal, ui_s]
  have hkp : kp W p = kd (byt W p 0) := rfl
  have fin : ∀ k, kp W p = k → 0 < k → k ≤ 5 → ∃ ρ2, f_X12_reads_b69 F (ui (ui (ui ρ 0 19 0) 0 21 0) 0 17 (byt W p 0)) (nI p) = some (flt W p, ρ2) ∧ SmR W ρ2 ∧ ρ2.2 = ρ.2 ∧ ρ2.1 0 17 = byt W p 0 ∧ ρ2.1 0 21 = 0 ∧ (flt W p = -1 → ∀ j, j < cntOf (kp W p) → ρ2.1 14 j = wnt W p j) := by
    intro k hk h0 h5
    obtain ⟨ρ2, c1, c2, cx, c3, c4, c5⟩ := rd_k hF hw hs5 hp hk h0 h5 (ui_s _ _ _ _) (by rw [ui_o (by omega), ui_o (by omega), ui_s])
    exact ⟨ρ2, c1, c2, cx, c3, by rw [c4, ui_o (by omega), ui_s], c5⟩
  by_cases c1 : byt W p 0 = 97
  · rw [if_pos c1]; exact fin 1 (by rw [hkp, c1]; rfl) (by omega) (by omega)
  rw [if_neg c1]
  by_cases c2 : byt W p 0 = 108
  · rw [if_pos c2]; exact fin 2 (by rw [hkp, c2]; rfl) (by omega) (by omega)
  rw [if_neg c2]
  by_cases c3 : byt W p 0 = 101
  · rw [if_pos c3]; exact fin 3 (by rw [hkp, c3]; rfl) (by omega) (by omega)
  rw [if_neg c3]
  by_cases c4 : byt W p 0 = 122
  · rw [if_pos c4]; exact fin 4 (by rw [hkp, c4]; rfl) (by omega) (by omega)
  rw [if_neg c4]
  by_cases c5 : byt W p 0 = 116
  · rw [if_pos c5]; exact fin 5 (by rw [hkp, c5]; rfl) (by omega) (by omega)
  rw [if_neg c5]
  have hk : kp W p = 0 := by rw [hkp]; unfold kd; rw [if_neg c1, if_neg c2, if_neg c3, if_neg c4, if_neg c5]
  have hf : flt W p = 0 := by unfold flt prs; rw [if_pos hk]
  refine ⟨_, by rw [ui_o (by omega), h19, hf]; rfl, hs5, rfl, ui_s _ _ _ _, by rw [ui_o (by omega), ui_s], ?_⟩
  rw [hf]; intro q; exact absurd q (by decide)
