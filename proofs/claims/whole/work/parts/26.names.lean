/-! names: the reference's loops over them, the class's bits -/
theorem al_eq {F : Nat} {W ρ : Mem} (hF : 2000 ≤ F) (hw : WF W) (hs : SmR W ρ) : f_X12_allBits F ρ = some (nI (2 ^ nm W - 1), ρ) := by
  have hN := rw_N hw
  have e0 := rw_n hw hs
  unfold f_X12_allBits
  refine run_up (N := nm W) (fun n i => f_X12_allBits_b4 F n ρ (nI (2 ^ i - 1)) (nI i)) (fun n i hi y hy => ?_) (fun n => ?_) F 0 (Nat.zero_le _) (by omega)
  · have h1 := Nat.one_le_two_pow (n := i)
    unfold f_X12_allBits_b4
    simp (disch := omega) only [bnd, ite_not, br_le_t, br_le_f, br_lt_t, br_lt_f, br_eq_t, br_eq_f, br_le0_t, br_le0_f, br_lt1_t, br_lt1_f, br_1le_t, br_1le_f, br_eq0_t, br_eq0_f, br_eq1_t, br_eq1_f, br_0le, br_lt0, br_0lt_t, br_0lt_f, br_m1, iof, i_2, i_3, i_4, i_8, i_9, i_10, i_20, i_30, i_90, i_120, i_256, cl_0, cl_1, cl_2, cl_3, Int32.add_zero, nI_add, nI_1, pk_mul, nI_s1, sb_m1, ck_in, ck_0, ck_1, nI_clamp, calp, cal, bnd, e0, one_shl, nI_or]
    rw [or_add (by omega), show 2 ^ i - 1 + 2 ^ i = 2 ^ (i + 1) - 1 by rw [Nat.pow_succ]; omega]
    exact hy
  · unfold f_X12_allBits_b4
    simp (disch := omega) only [bnd, ite_not, br_le_t, br_le_f, br_lt_t, br_lt_f, br_eq_t, br_eq_f, br_le0_t, br_le0_f, br_lt1_t, br_lt1_f, br_1le_t, br_1le_f, br_eq0_t, br_eq0_f, br_eq1_t, br_eq1_f, br_0le, br_lt0, br_0lt_t, br_0lt_f, br_m1, iof, i_2, i_3, i_4, i_8, i_9, i_10, i_20, i_30, i_90, i_120, i_256, cl_0, cl_1, cl_2, cl_3, Int32.add_zero, nI_add, nI_1, pk_mul, nI_s1, sb_m1, ck_in, ck_0, ck_1, nI_clamp, calp, cal, bnd, e0]
theorem id_eq {F : Nat} {W ρ : Mem} (hF : 2000 ≤ F) (hw : WF W) (hs : SmR W ρ) (x : Int32) : f_X12_isDraw F ρ x = some (if wi x 0 (nI (2 ^ nm W - 1)) then 1 else 0, ρ) := by
  unfold f_X12_isDraw
  rw [al_eq hF hw hs]
  simp only [cal]
  rw [in_eq F x 0 (nI (2 ^ nm W - 1)) (A := 0) rfl rfl]
  simp only [calp, zk01]
theorem ha_eq {F : Nat} {W μ : Mem} (h : Rel μ W) (x : Int32) : f_X6_hasAll F μ x = some (if wi x 0 (nI (2 ^ nm W - 1)) then 1 else 0, μ) := by
  unfold f_X6_hasAll
  rw [cw_e h]
  simp only [bnd]
  have := hd_iff x (rw_N h.1)
  by_cases q : wi x 0 (nI (2 ^ nm W - 1)) = true
  · rw [if_neg (fun k => k (this.mpr q)), if_pos q]
  · rw [if_pos (fun k => q (this.mp k)), if_neg q]
theorem hn_eq {F : Nat} {W μ : Mem} (h : Rel μ W) (x : Int32) : f_X6_has F μ x = some (if wi x 0 (nI (nm W) - 1) then 1 else 0, μ) := by
  unfold f_X6_has
  rw [cw_n h]
  simp only [bnd]
  rw [wi_eq]
  simp only [calp, zk01]
theorem in_nm {F : Nat} {W ρ : Mem} (hw : WF W) (hs : SmR W ρ) (x : Int32) : f_X12_isName F ρ x = some (if wi x 0 (nI (nm W) - 1) then 1 else 0, ρ) := by
  unfold f_X12_isName
  rw [rw_n hw hs]
  simp only [bnd]
  rw [in_eq F x 0 (nI (nm W) - 1) (A := 0) rfl rfl]
  simp only [calp, zk01]
theorem wi_nm {W : Mem} (hw : WF W) {x : Int32} (h : wi x 0 (nI (nm W) - 1) = true) : ∃ k, k < nm W ∧ x = nI k := wi_len (by have := rw_N hw; omega) h
theorem pl_C (F : Nat) (x : Int32) : f_X11_isPlan F x = some (if wi x 0 3 then 1 else 0) := by unfold f_X11_isPlan; rw [wi_eq]; simp only [calp, zk01]
theorem pl_R (F : Nat) (x : Int32) : f_X12_isPlan F x = some (if wi x 0 3 then 1 else 0) := by unfold f_X12_isPlan; rw [in_eq F x 0 3 (A := 0) (B := 3) rfl rfl]; simp only [calp, zk01]
theorem wi_pl {x : Int32} (h : wi x 0 3 = true) : ∃ p, p < 4 ∧ x = nI p := by
  obtain ⟨j, hj, e⟩ := wi_nat (n := 3) rfl (by decide) h
  exact ⟨j, by omega, e⟩
theorem ab_C (F : Nat) (x : Int32) : f_X11_isAboveOrBelow F x = some (if wi x 0 1 then 1 else 0) := by unfold f_X11_isAboveOrBelow; rw [wi_eq]; simp only [calp, zk01]
/-! how many of a layer, a cluster, a mark, all -/
def nL (W : Mem) (l : Nat) : Nat := cnt (fun k => decide (ly W k = l)) (nm W)
def nC (W : Mem) (c : Nat) : Nat := cnt (fun k => decide (cu W k = c)) (nm W)
def nM (W : Mem) (m : Nat) : Nat := cnt (fun k => decide (mk W k = m)) (nm W)
theorem nL_le (W : Mem) (hw : WF W) (l : Nat) : nL W l ≤ 30 := Nat.le_trans (cnt_le _ _) (rw_N hw)
theorem nC_le (W : Mem) (hw : WF W) (l : Nat) : nC W l ≤ 30 := Nat.le_trans (cnt_le _ _) (rw_N hw)
theorem nM_le (W : Mem) (hw : WF W) (l : Nat) : nM W l ≤ 30 := Nat.le_trans (cnt_le _ _) (rw_N hw)
theorem mo_l {F : Nat} {W ρ : Mem} (hF : 2000 ≤ F) (hw : WF W) (hs : SmR W ρ) {o : Nat} (ho : o < 30) : f_X12_manyOf F ρ 0 (nI o) = some (nI (nL W o), ρ) := by
  have hN := rw_N hw
  have e0 := rw_n hw hs
  unfold f_X12_manyOf
  refine run_up (N := nm W) (fun n i => f_X12_manyOf_b5 F n ρ 0 (nI o) (nI (cnt (fun k => decide (ly W k = o)) i)) (nI i)) (fun n i hi y hy => ?_) (fun n => ?_) F 0 (Nat.zero_le _) (by omega)
  · obtain ⟨e1, e2⟩ := rw_l hw hs hi
    have e3 := cnt_le (fun k => decide (ly W k = o)) i
    unfold f_X12_manyOf_b5 f_X12_manyOf_b56 f_X12_manyOf_b60 f_X12_manyOf_b65
    simp (disch := omega) only [bnd, ite_not, br_le_t, br_le_f, br_lt_t, br_lt_f, br_eq_t, br_eq_f, br_le0_t, br_le0_f, br_lt1_t, br_lt1_f, br_1le_t, br_1le_f, br_eq0_t, br_eq0_f, br_eq1_t, br_eq1_f, br_0le, br_lt0, br_0lt_t, br_0lt_f, br_m1, iof, i_2, i_3, i_4, i_8, i_9, i_10, i_20, i_30, i_90, i_120, i_256, cl_0, cl_1, cl_2, cl_3, Int32.add_zero, nI_add, nI_1, pk_mul, nI_s1, sb_m1, ck_in, ck_0, ck_1, nI_clamp, calp, cal, bnd, e0, e1, show ¬ (0 : Int32) = nI 3 by decide, if_false, if_true]
    rw [cnt_s] at hy
    by_cases q : ly W i = o
    · simp (disch := omega) only [bnd, ite_not, br_le_t, br_le_f, br_lt_t, br_lt_f, br_eq_t, br_eq_f, br_le0_t, br_le0_f, br_lt1_t, br_lt1_f, br_1le_t, br_1le_f, br_eq0_t, br_eq0_f, br_eq1_t, br_eq1_f, br_0le, br_lt0, br_0lt_t, br_0lt_f, br_m1, iof, i_2, i_3, i_4, i_8, i_9, i_10, i_20, i_30, i_90, i_120, i_256, cl_0, cl_1, cl_2, cl_3, Int32.add_zero, nI_add, nI_1, pk_mul, nI_s1, sb_m1, ck_in, ck_0, ck_1, nI_clamp, calp, cal, bnd, q]
      rw [if_pos (by simp [q])] at hy
      exact hy
    · simp (disch := omega) only [bnd, ite_not, br_le_t, br_le_f, br_lt_t, br_lt_f, br_eq_t, br_eq_f, br_le0_t, br_le0_f, br_lt1_t, br_lt1_f, br_1le_t, br_1le_f, br_eq0_t, br_eq0_f, br_eq1_t, br_eq1_f, br_0le, br_lt0, br_0lt_t, br_0lt_f, br_m1, iof, i_2, i_3, i_4, i_8, i_9, i_10, i_20, i_30, i_90, i_120, i_256, cl_0, cl_1, cl_2, cl_3, Int32.add_zero, nI_add, nI_1, pk_mul, nI_s1, sb_m1, ck_in, ck_0, ck_1, nI_clamp, calp, cal, bnd]
      rw [if_neg (by simp [q])] at hy
      exact hy
  · unfold f_X12_manyOf_b5
    simp (disch := omega) only [bnd, ite_not, br_le_t, br_le_f, br_lt_t, br_lt_f, br_eq_t, br_eq_f, br_le0_t, br_le0_f, br_lt1_t, br_lt1_f, br_1le_t, br_1le_f, br_eq0_t, br_eq0_f, br_eq1_t, br_eq1_f, br_0le, br_lt0, br_0lt_t, br_0lt_f, br_m1, iof, i_2, i_3, i_4, i_8, i_9, i_10, i_20, i_30, i_90, i_120, i_256, cl_0, cl_1, cl_2, cl_3, Int32.add_zero, nI_add, nI_1, pk_mul, nI_s1, sb_m1, ck_in, ck_0, ck_1, nI_clamp, calp, cal, bnd, e0]
    rfl
theorem mo_c {F : Nat} {W ρ : Mem} (hF : 2000 ≤ F) (hw : WF W) (hs : SmR W ρ) {o : Nat} (ho : o < 30) : f_X12_manyOf F ρ 1 (nI o) = some (nI (nC W o), ρ) := by
  have hN := rw_N hw
  have e0 := rw_n hw hs
  unfold f_X12_manyOf
  refine run_up (N := nm W) (fun n i => f_X12_manyOf_b5 F n ρ 1 (nI o) (nI (cnt (fun k => decide (cu W k = o)) i)) (nI i)) (fun n i hi y hy => ?_) (fun n => ?_) F 0 (Nat.zero_le _) (by omega)
  · obtain ⟨e1, e2⟩ := rw_c hw hs hi
    have e3 := cnt_le (fun k => decide (cu W k = o)) i
    unfold f_X12_manyOf_b5 f_X12_manyOf_b56 f_X12_manyOf_b60 f_X12_manyOf_b65
    simp (disch := omega) only [bnd, ite_not, br_le_t, br_le_f, br_lt_t, br_lt_f, br_eq_t, br_eq_f, br_le0_t, br_le0_f, br_lt1_t, br_lt1_f, br_1le_t, br_1le_f, br_eq0_t, br_eq0_f, br_eq1_t, br_eq1_f, br_0le, br_lt0, br_0lt_t, br_0lt_f, br_m1, iof, i_2, i_3, i_4, i_8, i_9, i_10, i_20, i_30, i_90, i_120, i_256, cl_0, cl_1, cl_2, cl_3, Int32.add_zero, nI_add, nI_1, pk_mul, nI_s1, sb_m1, ck_in, ck_0, ck_1, nI_clamp, calp, cal, bnd, e0, e1, show ¬ (1 : Int32) = nI 3 by decide, show ¬ (1 : Int32) = 0 by decide, if_false, if_true]
    rw [cnt_s] at hy
    by_cases q : cu W i = o
    · simp (disch := omega) only [bnd, ite_not, br_le_t, br_le_f, br_lt_t, br_lt_f, br_eq_t, br_eq_f, br_le0_t, br_le0_f, br_lt1_t, br_lt1_f, br_1le_t, br_1le_f, br_eq0_t, br_eq0_f, br_eq1_t, br_eq1_f, br_0le, br_lt0, br_0lt_t, br_0lt_f, br_m1, iof, i_2, i_3, i_4, i_8, i_9, i_10, i_20, i_30, i_90, i_120, i_256, cl_0, cl_1, cl_2, cl_3, Int32.add_zero, nI_add, nI_1, pk_mul, nI_s1, sb_m1, ck_in, ck_0, ck_1, nI_clamp, calp, cal, bnd, q]
      rw [if_pos (by simp [q])] at hy
      exact hy
    · simp (disch := omega) only [bnd, ite_not, br_le_t, br_le_f, br_lt_t, br_lt_f, br_eq_t, br_eq_f, br_le0_t, br_le0_f, br_lt1_t, br_lt1_f, br_1le_t, br_1le_f, br_eq0_t, br_eq0_f, br_eq1_t, br_eq1_f, br_0le, br_lt0, br_0lt_t, br_0lt_f, br_m1, iof, i_2, i_3, i_4, i_8, i_9, i_10, i_20, i_30, i_90, i_120, i_256, cl_0, cl_1, cl_2, cl_3, Int32.add_zero, nI_add, nI_1, pk_mul, nI_s1, sb_m1, ck_in, ck_0, ck_1, nI_clamp, calp, cal, bnd]
      rw [if_neg (by simp [q])] at hy
      exact hy
  · unfold f_X12_manyOf_b5
    simp (disch := omega) only [bnd, ite_not, br_le_t, br_le_f, br_lt_t, br_lt_f, br_eq_t, br_eq_f, br_le0_t, br_le0_f, br_lt1_t, br_lt1_f, br_1le_t, br_1le_f, br_eq0_t, br_eq0_f, br_eq1_t, br_eq1_f, br_0le, br_lt0, br_0lt_t, br_0lt_f, br_m1, iof, i_2, i_3, i_4, i_8, i_9, i_10, i_20, i_30, i_90, i_120, i_256, cl_0, cl_1, cl_2, cl_3, Int32.add_zero, nI_add, nI_1, pk_mul, nI_s1, sb_m1, ck_in, ck_0, ck_1, nI_clamp, calp, cal, bnd, e0]
    rfl
theorem mo_m {F : Nat} {W ρ : Mem} (hF : 2000 ≤ F) (hw : WF W) (hs : SmR W ρ) {o : Nat} (ho : o < 30) : f_X12_manyOf F ρ 2 (nI o) = some (nI (nM W o), ρ) := by
  have hN := rw_N hw
  have e0 := rw_n hw hs
  unfold f_X12_manyOf
  refine run_up (N := nm W) (fun n i => f_X12_manyOf_b5 F n ρ 2 (nI o) (nI (cnt (fun k => decide (mk W k = o)) i)) (nI i)) (fun n i hi y hy => ?_) (fun n => ?_) F 0 (Nat.zero_le _) (by omega)
  · obtain ⟨e1, e2⟩ := rw_m hw hs hi
    have e3 := cnt_le (fun k => decide (mk W k = o)) i
    unfold f_X12_manyOf_b5 f_X12_manyOf_b56 f_X12_manyOf_b60 f_X12_manyOf_b65
    simp (disch := omega) only [bnd, ite_not, br_le_t, br_le_f, br_lt_t, br_lt_f, br_eq_t, br_eq_f, br_le0_t, br_le0_f, br_lt1_t, br_lt1_f, br_1le_t, br_1le_f, br_eq0_t, br_eq0_f, br_eq1_t, br_eq1_f, br_0le, br_lt0, br_0lt_t, br_0lt_f, br_m1, iof, i_2, i_3, i_4, i_8, i_9, i_10, i_20, i_30, i_90, i_120, i_256, cl_0, cl_1, cl_2, cl_3, Int32.add_zero, nI_add, nI_1, pk_mul, nI_s1, sb_m1, ck_in, ck_0, ck_1, nI_clamp, calp, cal, bnd, e0, e1, if_false, if_true]
    rw [cnt_s] at hy
    by_cases q : mk W i = o
    · simp (disch := omega) only [bnd, ite_not, br_le_t, br_le_f, br_lt_t, br_lt_f, br_eq_t, br_eq_f, br_le0_t, br_le0_f, br_lt1_t, br_lt1_f, br_1le_t, br_1le_f, br_eq0_t, br_eq0_f, br_eq1_t, br_eq1_f, br_0le, br_lt0, br_0lt_t, br_0lt_f, br_m1, iof, i_2, i_3, i_4, i_8, i_9, i_10, i_20, i_30, i_90, i_120, i_256, cl_0, cl_1, cl_2, cl_3, Int32.add_zero, nI_add, nI_1, pk_mul, nI_s1, sb_m1, ck_in, ck_0, ck_1, nI_clamp, calp, cal, bnd, q]
      rw [if_pos (by simp [q])] at hy
      exact hy
    · simp (disch := omega) only [bnd, ite_not, br_le_t, br_le_f, br_lt_t, br_lt_f, br_eq_t, br_eq_f, br_le0_t, br_le0_f, br_lt1_t, br_lt1_f, br_1le_t, br_1le_f, br_eq0_t, br_eq0_f, br_eq1_t, br_eq1_f, br_0le, br_lt0, br_0lt_t, br_0lt_f, br_m1, iof, i_2, i_3, i_4, i_8, i_9, i_10, i_20, i_30, i_90, i_120, i_256, cl_0, cl_1, cl_2, cl_3, Int32.add_zero, nI_add, nI_1, pk_mul, nI_s1, sb_m1, ck_in, ck_0, ck_1, nI_clamp, calp, cal, bnd]
      rw [if_neg (by simp [q])] at hy
      exact hy
  · unfold f_X12_manyOf_b5
    simp (disch := omega) only [bnd, ite_not, br_le_t, br_le_f, br_lt_t, br_lt_f, br_eq_t, br_eq_f, br_le0_t, br_le0_f, br_lt1_t, br_lt1_f, br_1le_t, br_1le_f, br_eq0_t, br_eq0_f, br_eq1_t, br_eq1_f, br_0le, br_lt0, br_0lt_t, br_0lt_f, br_m1, iof, i_2, i_3, i_4, i_8, i_9, i_10, i_20, i_30, i_90, i_120, i_256, cl_0, cl_1, cl_2, cl_3, Int32.add_zero, nI_add, nI_1, pk_mul, nI_s1, sb_m1, ck_in, ck_0, ck_1, nI_clamp, calp, cal, bnd, e0]
    rfl
theorem mo_3 {F : Nat} {W ρ : Mem} (hF : 2000 ≤ F) (hw : WF W) (hs : SmR W ρ) (x : Int32) : f_X12_manyOf F ρ 3 x = some (nI (nm W), ρ) := by
  have hN := rw_N hw
  have e0 := rw_n hw hs
  unfold f_X12_manyOf
  refine run_up (N := nm W) (fun n i => f_X12_manyOf_b5 F n ρ 3 x (nI i) (nI i)) (fun n i hi y hy => ?_) (fun n => ?_) F 0 (Nat.zero_le _) (by omega)
  · unfold f_X12_manyOf_b5 f_X12_manyOf_b60 f_X12_manyOf_b65
    simp (disch := omega) only [bnd, ite_not, br_le_t, br_le_f, br_lt_t, br_lt_f, br_eq_t, br_eq_f, br_le0_t, br_le0_f, br_lt1_t, br_lt1_f, br_1le_t, br_1le_f, br_eq0_t, br_eq0_f, br_eq1_t, br_eq1_f, br_0le, br_lt0, br_0lt_t, br_0lt_f, br_m1, iof, i_2, i_3, i_4, i_8, i_9, i_10, i_20, i_30, i_90, i_120, i_256, cl_0, cl_1, cl_2, cl_3, Int32.add_zero, nI_add, nI_1, pk_mul, nI_s1, sb_m1, ck_in, ck_0, ck_1, nI_clamp, calp, cal, bnd, e0]
    exact hy
  · unfold f_X12_manyOf_b5
    simp (disch := omega) only [bnd, ite_not, br_le_t, br_le_f, br_lt_t, br_lt_f, br_eq_t, br_eq_f, br_le0_t, br_le0_f, br_lt1_t, br_lt1_f, br_1le_t, br_1le_f, br_eq0_t, br_eq0_f, br_eq1_t, br_eq1_f, br_0le, br_lt0, br_0lt_t, br_0lt_f, br_m1, iof, i_2, i_3, i_4, i_8, i_9, i_10, i_20, i_30, i_90, i_120, i_256, cl_0, cl_1, cl_2, cl_3, Int32.add_zero, nI_add, nI_1, pk_mul, nI_s1, sb_m1, ck_in, ck_0, ck_1, nI_clamp, calp, cal, bnd, e0]
theorem bc_msk (F : Nat) (f : Nat → Bool) {n : Nat} (h : n ≤ 30) : f_J6_bitCount_0f7a4 F (nI (msk f n)) = some (nI (cnt f n)) := by
  have := msk_b (f := f) h
  rw [bc_eq F (by omega), pcn_msk f (by omega)]
theorem sim_many {F : Nat} (hF : 2000 ≤ F) (μ ρ : Mem) (a1 a2 : Int32) (h : Rel μ ρ) : ∃ (r : Int32) (μ2 ρ2 : Mem), f_X11_many F μ a1 a2 = some (r, μ2) ∧ f_X12_many F ρ a1 a2 = some (r, ρ2) ∧ Rel μ2 ρ2 := by
  have hN := rw_N h.1
  have hs := SmR.rf ρ
  unfold f_X11_many f_X12_many f_X11_many_b26 f_X11_many_b54 f_X11_many_b81 f_X12_many_b63 f_X12_many_b64
  rw [wi_eq, wi_eq, wi_eq, in_eq F a2 0 3 (A := 0) (B := 3) rfl rfl, in_eq F a2 0 7 (A := 0) (B := 7) rfl rfl, in_eq F a2 0 2 (A := 0) (B := 2) rfl rfl]
  by_cases e0 : a1 = 0
  · subst e0
    by_cases w : wi a2 0 3 = true
    · obtain ⟨j, hj, rfl⟩ := wi_nat (n := 3) rfl (by decide) w
      refine ⟨nI (nL ρ j), μ, ρ, ?_, ?_, h⟩
      · rw [w]
        simp (disch := omega) only [calp, cal, bnd, ite_not, if_true, show ¬ (1 : Int32) = 0 by decide, if_false, cw_lb h, ck_in, nI_clamp, bc_msk]
        rfl
      · rw [w]
        simp (disch := omega) only [calp, cal, bnd, ite_not, if_true, show ¬ (1 : Int32) = 0 by decide, if_false, mo_l hF h.1 hs]
    · rw [Bool.not_eq_true] at w
      refine ⟨-2, μ, ρ, ?_, ?_, h⟩
      · simp [w, calp]
      · simp [w, calp]
  · by_cases e1 : a1 = 1
    · subst e1
      by_cases w : wi a2 0 7 = true
      · obtain ⟨j, hj, rfl⟩ := wi_nat (n := 7) rfl (by decide) w
        refine ⟨nI (nC ρ j), μ, ρ, ?_, ?_, h⟩
        · rw [w]
          simp (disch := omega) only [calp, cal, bnd, ite_not, if_true, show ¬ (1 : Int32) = 0 by decide, if_false, cw_cb h, ck_in, nI_clamp, bc_msk]
          rfl
        · rw [w]
          simp (disch := omega) only [calp, cal, bnd, ite_not, if_true, show ¬ (1 : Int32) = 0 by decide, if_false, mo_c hF h.1 hs]
      · rw [Bool.not_eq_true] at w
        refine ⟨-2, μ, ρ, ?_, ?_, h⟩
        · simp [w, calp]
        · simp [w, calp]
    · by_cases e2 : a1 = 2
      · subst e2
        by_cases w : wi a2 0 2 = true
        · obtain ⟨j, hj, rfl⟩ := wi_nat (n := 2) rfl (by decide) w
          refine ⟨nI (nM ρ j), μ, ρ, ?_, ?_, h⟩
          · rw [w]
            simp (disch := omega) only [calp, cal, bnd, ite_not, if_true, show ¬ (1 : Int32) = 0 by decide, show ¬ (2 : Int32) = 0 by decide, show ¬ (2 : Int32) = 1 by decide, if_false, cw_mb h, ck_in, nI_clamp, bc_msk]
            rfl
          · rw [w]
            simp (disch := omega) only [calp, cal, bnd, ite_not, if_true, show ¬ (1 : Int32) = 0 by decide, show ¬ (2 : Int32) = 0 by decide, show ¬ (2 : Int32) = 1 by decide, if_false, mo_m hF h.1 hs]
        · rw [Bool.not_eq_true] at w
          refine ⟨-2, μ, ρ, ?_, ?_, h⟩
          · simp [w, calp]
          · simp [w, calp]
      · by_cases e3 : a1 = 3 ∧ a2 = 0
        · obtain ⟨rfl, rfl⟩ := e3
          refine ⟨nI (nm ρ), μ, ρ, ?_, ?_, h⟩
          · simp [bnd, cw_n h]
          · simp [mo_3 hF h.1 hs, cal]
        · refine ⟨-2, μ, ρ, ?_, ?_, h⟩
          · simp only [e0, e1, e2, if_true, not_false_eq_true]
            by_cases q : a1 = 3
            · have q2 : ¬ a2 = 0 := fun k => e3 ⟨q, k⟩
              simp [q, q2]
            · simp [q]
          · simp only [e0, e1, e2, if_true, not_false_eq_true]
            by_cases q : a1 = 3
            · have q2 : ¬ a2 = 0 := fun k => e3 ⟨q, k⟩
              simp [q, q2]
            · simp [q]
theorem bo_l {F : Nat} {W ρ : Mem} (hF : 2000 ≤ F) (hw : WF W) (hs : SmR W ρ) {o : Nat} (ho : o < 30) : f_X12_bitsOf F ρ 0 (nI o) = some (nI (msk (fun k => decide (ly W k = o)) (nm W)), ρ) := by
  have hN := rw_N hw
  have e0 := rw_n hw hs
  unfold f_X12_bitsOf
  refine run_up (N := nm W) (fun n i => f_X12_bitsOf_b5 F n ρ 0 (nI o) (nI (msk (fun k => decide (ly W k = o)) i)) (nI i)) (fun n i hi y hy => ?_) (fun n => ?_) F 0 (Nat.zero_le _) (by omega)
  · obtain ⟨e1, e2⟩ := rw_l hw hs hi
    unfold f_X12_bitsOf_b5 f_X12_bitsOf_b36 f_X12_bitsOf_b48
    simp (disch := omega) only [bnd, ite_not, br_le_t, br_le_f, br_lt_t, br_lt_f, br_eq_t, br_eq_f, br_le0_t, br_le0_f, br_lt1_t, br_lt1_f, br_1le_t, br_1le_f, br_eq0_t, br_eq0_f, br_eq1_t, br_eq1_f, br_0le, br_lt0, br_0lt_t, br_0lt_f, br_m1, iof, i_2, i_3, i_4, i_8, i_9, i_10, i_20, i_30, i_90, i_120, i_256, cl_0, cl_1, cl_2, cl_3, Int32.add_zero, nI_add, nI_1, pk_mul, nI_s1, sb_m1, ck_in, ck_0, ck_1, nI_clamp, calp, cal, bnd, e0, e1, if_false, if_true, one_shl]
    rw [msk_s] at hy
    by_cases q : ly W i = o
    · simp (disch := omega) only [bnd, ite_not, br_le_t, br_le_f, br_lt_t, br_lt_f, br_eq_t, br_eq_f, br_le0_t, br_le0_f, br_lt1_t, br_lt1_f, br_1le_t, br_1le_f, br_eq0_t, br_eq0_f, br_eq1_t, br_eq1_f, br_0le, br_lt0, br_0lt_t, br_0lt_f, br_m1, iof, i_2, i_3, i_4, i_8, i_9, i_10, i_20, i_30, i_90, i_120, i_256, cl_0, cl_1, cl_2, cl_3, Int32.add_zero, nI_add, nI_1, pk_mul, nI_s1, sb_m1, ck_in, ck_0, ck_1, nI_clamp, calp, cal, bnd, q, nI_or, msk_or]
      rw [if_pos (by simp [q])] at hy
      exact hy
    · simp (disch := omega) only [bnd, ite_not, br_le_t, br_le_f, br_lt_t, br_lt_f, br_eq_t, br_eq_f, br_le0_t, br_le0_f, br_lt1_t, br_lt1_f, br_1le_t, br_1le_f, br_eq0_t, br_eq0_f, br_eq1_t, br_eq1_f, br_0le, br_lt0, br_0lt_t, br_0lt_f, br_m1, iof, i_2, i_3, i_4, i_8, i_9, i_10, i_20, i_30, i_90, i_120, i_256, cl_0, cl_1, cl_2, cl_3, Int32.add_zero, nI_add, nI_1, pk_mul, nI_s1, sb_m1, ck_in, ck_0, ck_1, nI_clamp, calp, cal, bnd]
      rw [if_neg (by simp [q])] at hy
      rw [show (0 : Int32) = nI 0 from rfl, nI_or, Nat.or_zero]
      exact hy
  · unfold f_X12_bitsOf_b5
    simp (disch := omega) only [bnd, ite_not, br_le_t, br_le_f, br_lt_t, br_lt_f, br_eq_t, br_eq_f, br_le0_t, br_le0_f, br_lt1_t, br_lt1_f, br_1le_t, br_1le_f, br_eq0_t, br_eq0_f, br_eq1_t, br_eq1_f, br_0le, br_lt0, br_0lt_t, br_0lt_f, br_m1, iof, i_2, i_3, i_4, i_8, i_9, i_10, i_20, i_30, i_90, i_120, i_256, cl_0, cl_1, cl_2, cl_3, Int32.add_zero, nI_add, nI_1, pk_mul, nI_s1, sb_m1, ck_in, ck_0, ck_1, nI_clamp, calp, cal, bnd, e0]
theorem bo_c {F : Nat} {W ρ : Mem} (hF : 2000 ≤ F) (hw : WF W) (hs : SmR W ρ) {o : Nat} (ho : o < 30) : f_X12_bitsOf F ρ 1 (nI o) = some (nI (msk (fun k => decide (cu W k = o)) (nm W)), ρ) := by
  have hN := rw_N hw
  have e0 := rw_n hw hs
  unfold f_X12_bitsOf
  refine run_up (N := nm W) (fun n i => f_X12_bitsOf_b5 F n ρ 1 (nI o) (nI (msk (fun k => decide (cu W k = o)) i)) (nI i)) (fun n i hi y hy => ?_) (fun n => ?_) F 0 (Nat.zero_le _) (by omega)
  · obtain ⟨e1, e2⟩ := rw_c hw hs hi
    unfold f_X12_bitsOf_b5 f_X12_bitsOf_b36 f_X12_bitsOf_b48
    simp (disch := omega) only [bnd, ite_not, br_le_t, br_le_f, br_lt_t, br_lt_f, br_eq_t, br_eq_f, br_le0_t, br_le0_f, br_lt1_t, br_lt1_f, br_1le_t, br_1le_f, br_eq0_t, br_eq0_f, br_eq1_t, br_eq1_f, br_0le, br_lt0, br_0lt_t, br_0lt_f, br_m1, iof, i_2, i_3, i_4, i_8, i_9, i_10, i_20, i_30, i_90, i_120, i_256, cl_0, cl_1, cl_2, cl_3, Int32.add_zero, nI_add, nI_1, pk_mul, nI_s1, sb_m1, ck_in, ck_0, ck_1, nI_clamp, calp, cal, bnd, e0, e1, show ¬ (1 : Int32) = 0 by decide, if_false, if_true, one_shl]
    rw [msk_s] at hy
    by_cases q : cu W i = o
    · simp (disch := omega) only [bnd, ite_not, br_le_t, br_le_f, br_lt_t, br_lt_f, br_eq_t, br_eq_f, br_le0_t, br_le0_f, br_lt1_t, br_lt1_f, br_1le_t, br_1le_f, br_eq0_t, br_eq0_f, br_eq1_t, br_eq1_f, br_0le, br_lt0, br_0lt_t, br_0lt_f, br_m1, iof, i_2, i_3, i_4, i_8, i_9, i_10, i_20, i_30, i_90, i_120, i_256, cl_0, cl_1, cl_2, cl_3, Int32.add_zero, nI_add, nI_1, pk_mul, nI_s1, sb_m1, ck_in, ck_0, ck_1, nI_clamp, calp, cal, bnd, q, nI_or, msk_or]
      rw [if_pos (by simp [q])] at hy
      exact hy
    · simp (disch := omega) only [bnd, ite_not, br_le_t, br_le_f, br_lt_t, br_lt_f, br_eq_t, br_eq_f, br_le0_t, br_le0_f, br_lt1_t, br_lt1_f, br_1le_t, br_1le_f, br_eq0_t, br_eq0_f, br_eq1_t, br_eq1_f, br_0le, br_lt0, br_0lt_t, br_0lt_f, br_m1, iof, i_2, i_3, i_4, i_8, i_9, i_10, i_20, i_30, i_90, i_120, i_256, cl_0, cl_1, cl_2, cl_3, Int32.add_zero, nI_add, nI_1, pk_mul, nI_s1, sb_m1, ck_in, ck_0, ck_1, nI_clamp, calp, cal, bnd]
      rw [if_neg (by simp [q])] at hy
      rw [show (0 : Int32) = nI 0 from rfl, nI_or, Nat.or_zero]
      exact hy
  · unfold f_X12_bitsOf_b5
    simp (disch := omega) only [bnd, ite_not, br_le_t, br_le_f, br_lt_t, br_lt_f, br_eq_t, br_eq_f, br_le0_t, br_le0_f, br_lt1_t, br_lt1_f, br_1le_t, br_1le_f, br_eq0_t, br_eq0_f, br_eq1_t, br_eq1_f, br_0le, br_lt0, br_0lt_t, br_0lt_f, br_m1, iof, i_2, i_3, i_4, i_8, i_9, i_10, i_20, i_30, i_90, i_120, i_256, cl_0, cl_1, cl_2, cl_3, Int32.add_zero, nI_add, nI_1, pk_mul, nI_s1, sb_m1, ck_in, ck_0, ck_1, nI_clamp, calp, cal, bnd, e0]
/-! clusters that have names -/
theorem hasC_cnt (W : Mem) (c : Nat) : ∀ n, hasC W c n = decide (0 < cnt (fun k => decide (cu W k = c)) n)
  | 0 => rfl
  | n + 1 => by
    rw [hasC, hasC_cnt W c n, cnt_s]
    by_cases q : cu W n = c
    · simp [q]
    · simp [q]
def nK (W : Mem) : Nat := cnt (fun c => hasC W c (nm W)) 8
theorem nK_le (W : Mem) : nK W ≤ 8 := cnt_le _ _
theorem cn_eq {F : Nat} {W ρ : Mem} (hF : 2000 ≤ F) (hw : WF W) (hs : SmR W ρ) : f_X12_clustersNow F ρ = some (nI (nK W), ρ) := by
  unfold f_X12_clustersNow
  refine run_up (N := 8) (fun n i => f_X12_clustersNow_b4 F n ρ (nI (cnt (fun c => hasC W c (nm W)) i)) (nI i)) (fun n i hi y hy => ?_) (fun n => ?_) F 0 (Nat.zero_le _) (by omega)
  · have e3 := cnt_le (fun c => hasC W c (nm W)) i
    have e4 := nC_le W hw i
    unfold f_X12_clustersNow_b4 f_X12_clustersNow_b25
    simp (disch := omega) only [bnd, ite_not, br_le_t, br_le_f, br_lt_t, br_lt_f, br_eq_t, br_eq_f, br_le0_t, br_le0_f, br_lt1_t, br_lt1_f, br_1le_t, br_1le_f, br_eq0_t, br_eq0_f, br_eq1_t, br_eq1_f, br_0le, br_lt0, br_0lt_t, br_0lt_f, br_m1, iof, i_2, i_3, i_4, i_8, i_9, i_10, i_20, i_30, i_90, i_120, i_256, cl_0, cl_1, cl_2, cl_3, Int32.add_zero, nI_add, nI_1, pk_mul, nI_s1, sb_m1, ck_in, ck_0, ck_1, nI_clamp, calp, cal, bnd, mo_c hF hw hs]
    rw [cnt_s] at hy
    rcases Nat.eq_zero_or_pos (nC W i) with q | q
    · simp (disch := omega) only [bnd, ite_not, br_le_t, br_le_f, br_lt_t, br_lt_f, br_eq_t, br_eq_f, br_le0_t, br_le0_f, br_lt1_t, br_lt1_f, br_1le_t, br_1le_f, br_eq0_t, br_eq0_f, br_eq1_t, br_eq1_f, br_0le, br_lt0, br_0lt_t, br_0lt_f, br_m1, iof, i_2, i_3, i_4, i_8, i_9, i_10, i_20, i_30, i_90, i_120, i_256, cl_0, cl_1, cl_2, cl_3, Int32.add_zero, nI_add, nI_1, pk_mul, nI_s1, sb_m1, ck_in, ck_0, ck_1, nI_clamp, calp, cal, bnd]
      rw [if_neg (by rw [hasC_cnt]; simp; exact q)] at hy
      exact hy
    · simp (disch := omega) only [bnd, ite_not, br_le_t, br_le_f, br_lt_t, br_lt_f, br_eq_t, br_eq_f, br_le0_t, br_le0_f, br_lt1_t, br_lt1_f, br_1le_t, br_1le_f, br_eq0_t, br_eq0_f, br_eq1_t, br_eq1_f, br_0le, br_lt0, br_0lt_t, br_0lt_f, br_m1, iof, i_2, i_3, i_4, i_8, i_9, i_10, i_20, i_30, i_90, i_120, i_256, cl_0, cl_1, cl_2, cl_3, Int32.add_zero, nI_add, nI_1, pk_mul, nI_s1, sb_m1, ck_in, ck_0, ck_1, nI_clamp, calp, cal, bnd]
      rw [if_pos (by rw [hasC_cnt]; simp; exact q)] at hy
      exact hy
  · unfold f_X12_clustersNow_b4
    simp (disch := omega) only [bnd, ite_not, br_le_t, br_le_f, br_lt_t, br_lt_f, br_eq_t, br_eq_f, br_le0_t, br_le0_f, br_lt1_t, br_lt1_f, br_1le_t, br_1le_f, br_eq0_t, br_eq0_f, br_eq1_t, br_eq1_f, br_0le, br_lt0, br_0lt_t, br_0lt_f, br_m1, iof, i_2, i_3, i_4, i_8, i_9, i_10, i_20, i_30, i_90, i_120, i_256, cl_0, cl_1, cl_2, cl_3, Int32.add_zero, nI_add, nI_1, pk_mul, nI_s1, sb_m1, ck_in, ck_0, ck_1, nI_clamp, calp, cal, bnd]
    rfl
theorem kl_eq {F : Nat} {W μ : Mem} (h : Rel μ W) (t : Nat) : f_X8_clusters F μ t = some (nI (nK W), μ) := by
  unfold f_X8_clusters
  simp (disch := omega) only [calp, cal, bnd, cw_cs h, bc_msk]
  rfl
theorem as_eq {F : Nat} {W ρ : Mem} (hF : 2000 ≤ F) (hw : WF W) (hs : SmR W ρ) : f_X12_allSizes F ρ = some (nI (ssz W (nm W)), ρ) := by
  have hN := rw_N hw
  have e0 := rw_n hw hs
  unfold f_X12_allSizes
  refine run_up (N := nm W) (fun n i => f_X12_allSizes_b4 F n ρ (nI (ssz W i)) (nI i)) (fun n i hi y hy => ?_) (fun n => ?_) F 0 (Nat.zero_le _) (by omega)
  · obtain ⟨e1, e2⟩ := rw_s hw hs hi
    unfold f_X12_allSizes_b4
    simp (disch := omega) only [bnd, ite_not, br_le_t, br_le_f, br_lt_t, br_lt_f, br_eq_t, br_eq_f, br_le0_t, br_le0_f, br_lt1_t, br_lt1_f, br_1le_t, br_1le_f, br_eq0_t, br_eq0_f, br_eq1_t, br_eq1_f, br_0le, br_lt0, br_0lt_t, br_0lt_f, br_m1, iof, i_2, i_3, i_4, i_8, i_9, i_10, i_20, i_30, i_90, i_120, i_256, cl_0, cl_1, cl_2, cl_3, Int32.add_zero, nI_add, nI_1, pk_mul, nI_s1, sb_m1, ck_in, ck_0, ck_1, nI_clamp, calp, cal, bnd, e0, e1]
    exact hy
  · unfold f_X12_allSizes_b4
    simp (disch := omega) only [bnd, ite_not, br_le_t, br_le_f, br_lt_t, br_lt_f, br_eq_t, br_eq_f, br_le0_t, br_le0_f, br_lt1_t, br_lt1_f, br_1le_t, br_1le_f, br_eq0_t, br_eq0_f, br_eq1_t, br_eq1_f, br_0le, br_lt0, br_0lt_t, br_0lt_f, br_m1, iof, i_2, i_3, i_4, i_8, i_9, i_10, i_20, i_30, i_90, i_120, i_256, cl_0, cl_1, cl_2, cl_3, Int32.add_zero, nI_add, nI_1, pk_mul, nI_s1, sb_m1, ck_in, ck_0, ck_1, nI_clamp, calp, cal, bnd, e0]
