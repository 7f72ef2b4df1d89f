/-! values as of the day -/
theorem rw_an {W ρ : Mem} (hw : WF W) (hs : SmR W ρ) : ρ.1 0 10 = nI (an W) ∧ an W ≤ 120 := ⟨by rw [hs.2.2.2.1]; exact hw.2.1.1, hw.2.1.2.1⟩
theorem rw_as {W ρ : Mem} (hw : WF W) (hs : SmR W ρ) : ρ.1 0 14 = nI (asd W) ∧ asd W ≤ 399 := ⟨by rw [hs.2.2.2.2]; exact hw.2.1.2.2.1.1, hw.2.1.2.2.1.2⟩
theorem rw_ao {W ρ : Mem} (hw : WF W) (hs : SmR W ρ) {i : Nat} (hi : i < an W) : ρ.1 9 i = nI (aof W i) ∧ aof W i < nm W := by rw [hs.c (by omega)]; exact (hw.2.1.2.2.2 i hi).1
theorem rw_ad {W ρ : Mem} (hw : WF W) (hs : SmR W ρ) {i : Nat} (hi : i < an W) : ρ.1 11 i = nI (aday W i) ∧ aday W i ≤ 399 := by rw [hs.c (by omega)]; exact (hw.2.1.2.2.2 i hi).2.2
theorem rw_av {W ρ : Mem} (hw : WF W) (hs : SmR W ρ) {i : Nat} (hi : i < an W) : ρ.1 10 i = W.1 10 i ∧ -1 ≤ (W.1 10 i).toInt ∧ (W.1 10 i).toInt ≤ 10000 := by rw [hs.c (by omega)]; exact ⟨rfl, (hw.2.1.2.2.2 i hi).2.1⟩
/-- the place of the last answer of k up to the day -/
def bst (W : Mem) (k : Nat) : Nat → Option Nat
  | 0 => none
  | a + 1 => if aof W a = k ∧ aday W a ≤ asd W ∧ (∀ q ∈ bst W k a, aday W q ≤ aday W a) then some a else bst W k a
theorem bst_lt (W : Mem) (k : Nat) : ∀ a q, bst W k a = some q → q < a
  | 0, q, h => by cases h
  | a + 1, q, h => by
    unfold bst at h
    split at h
    · cases h; exact Nat.lt_succ_self _
    · exact Nat.lt_succ_of_lt (bst_lt W k a q h)
theorem vfold_bst (W : Mem) (k : Nat) : ∀ a, vfold W k a = (bst W k a).map (fun q => (aday W q, W.1 10 q))
  | 0 => rfl
  | a + 1 => by
    have ih := vfold_bst W k a
    unfold vfold bst
    have e : (∀ q ∈ vfold W k a, q.1 ≤ aday W a) ↔ (∀ q ∈ bst W k a, aday W q ≤ aday W a) := by
      rw [ih]
      cases bst W k a with
      | none => simp
      | some b => simp
    by_cases c : aof W a = k ∧ aday W a ≤ asd W ∧ (∀ q ∈ bst W k a, aday W q ≤ aday W a)
    · rw [if_pos c, if_pos ⟨c.1, c.2.1, e.mpr c.2.2⟩]; rfl
    · rw [if_neg c, if_neg (fun q => c ⟨q.1, q.2.1, e.mp q.2.2⟩), ih]
theorem vl_bst (W : Mem) (k : Nat) : vl W k = match bst W k (an W) with | none => -1 | some b => W.1 10 b := by
  unfold vl
  rw [vfold_bst]
  cases bst W k (an W) <;> rfl
def oi (x : Option Nat) : Int32 := match x with | none => -1 | some b => nI b
theorem vl_rg {W : Mem} (hw : WF W) (k : Nat) : -1 ≤ (vl W k).toInt ∧ (vl W k).toInt ≤ 10000 := by
  rw [vl_bst]
  cases e : bst W k (an W) with
  | none => exact ⟨show (-1 : Int) ≤ (-1 : Int32).toInt by decide, show (-1 : Int32).toInt ≤ 10000 by decide⟩
  | some b => exact (rw_av hw (SmR.rf W) (bst_lt W k _ _ e)).2
theorem vl_nat {W : Mem} (hw : WF W) {k : Nat} (h : ¬ vl W k = -1) : ∃ v, v ≤ 10000 ∧ vl W k = nI v := by
  have h1 := vl_rg hw k
  have h0 : ¬ vl W k < 0 := by
    intro q
    have q2 := Int32.lt_iff_toInt_lt.mp q
    have q3 : (0 : Int32).toInt = 0 := rfl
    have : (vl W k).toInt = (-1 : Int32).toInt := by rw [show (-1 : Int32).toInt = -1 from rfl]; omega
    exact h (Int32.toInt_inj.mp this)
  obtain ⟨v, hv, e⟩ := nI_of h0
  refine ⟨v, ?_, e⟩
  rw [e, nI_toInt hv] at h1
  omega
theorem vo_eq {F : Nat} {W ρ : Mem} (hF : 2000 ≤ F) (hw : WF W) (hs : SmR W ρ) {k : Nat} (hk : k < nm W) : f_X12_valueOf F ρ (nI k) = some (vl W k, ρ) := by
  have hN := rw_N hw
  obtain ⟨e0, a0⟩ := rw_an hw hs
  obtain ⟨s0, s1⟩ := rw_as hw hs
  unfold f_X12_valueOf
  refine run_up (N := an W) (fun n i => f_X12_valueOf_b4 F n ρ (nI k) (oi (bst W k i)) (nI i)) (fun n i hi y hy => ?_) (fun n => ?_) F 0 (Nat.zero_le _) (by omega)
  · obtain ⟨o1, o2⟩ := rw_ao hw hs hi
    obtain ⟨d1, d2⟩ := rw_ad hw hs hi
    unfold f_X12_valueOf_b4 f_X12_valueOf_b57 f_X12_valueOf_b55 f_X12_valueOf_b57
    simp (disch := omega) only [bnd, ite_not, br_le_t, br_le_f, br_lt_t, br_lt_f, br_eq_t, br_eq_f, br_le0_t, br_le0_f, br_lt1_t, br_lt1_f, br_1le_t, br_1le_f, br_eq0_t, br_eq0_f, br_eq1_t, br_eq1_f, br_0le, br_lt0, br_0lt_t, br_0lt_f, br_m1, iof, i_2, i_3, i_4, i_8, i_9, i_10, i_20, i_30, i_90, i_120, i_256, cl_0, cl_1, cl_2, cl_3, Int32.add_zero, nI_add, nI_1, pk_mul, nI_s1, sb_m1, ck_in, ck_0, ck_1, nI_clamp, calp, cal, bnd, e0, s0, o1, d1]
    rw [bst] at hy
    by_cases c1 : aof W i = k
    · by_cases c2 : aday W i ≤ asd W
      · simp (disch := omega) only [bnd, ite_not, br_le_t, br_le_f, br_lt_t, br_lt_f, br_eq_t, br_eq_f, br_le0_t, br_le0_f, br_lt1_t, br_lt1_f, br_1le_t, br_1le_f, br_eq0_t, br_eq0_f, br_eq1_t, br_eq1_f, br_0le, br_lt0, br_0lt_t, br_0lt_f, br_m1, iof, i_2, i_3, i_4, i_8, i_9, i_10, i_20, i_30, i_90, i_120, i_256, cl_0, cl_1, cl_2, cl_3, Int32.add_zero, nI_add, nI_1, pk_mul, nI_s1, sb_m1, ck_in, ck_0, ck_1, nI_clamp, calp, cal, bnd]
        cases hb : bst W k i with
        | none =>
          rw [hb, if_pos ⟨c1, c2, fun q hq => by cases hq⟩] at hy
          simp (disch := omega) only [oi, if_true]
          exact hy
        | some b =>
          have hl := bst_lt W k i b hb
          obtain ⟨d3, d4⟩ := rw_ad hw hs (i := b) (by omega)
          simp (disch := omega) only [bnd, ite_not, br_le_t, br_le_f, br_lt_t, br_lt_f, br_eq_t, br_eq_f, br_le0_t, br_le0_f, br_lt1_t, br_lt1_f, br_1le_t, br_1le_f, br_eq0_t, br_eq0_f, br_eq1_t, br_eq1_f, br_0le, br_lt0, br_0lt_t, br_0lt_f, br_m1, iof, i_2, i_3, i_4, i_8, i_9, i_10, i_20, i_30, i_90, i_120, i_256, cl_0, cl_1, cl_2, cl_3, Int32.add_zero, nI_add, nI_1, pk_mul, nI_s1, sb_m1, ck_in, ck_0, ck_1, nI_clamp, calp, cal, bnd, oi, d3]
          by_cases c3 : aday W b ≤ aday W i
          · rw [hb, if_pos ⟨c1, c2, fun q hq => by cases hq; exact c3⟩] at hy
            simp (disch := omega) only [bnd, ite_not, br_le_t, br_le_f, br_lt_t, br_lt_f, br_eq_t, br_eq_f, br_le0_t, br_le0_f, br_lt1_t, br_lt1_f, br_1le_t, br_1le_f, br_eq0_t, br_eq0_f, br_eq1_t, br_eq1_f, br_0le, br_lt0, br_0lt_t, br_0lt_f, br_m1, iof, i_2, i_3, i_4, i_8, i_9, i_10, i_20, i_30, i_90, i_120, i_256, cl_0, cl_1, cl_2, cl_3, Int32.add_zero, nI_add, nI_1, pk_mul, nI_s1, sb_m1, ck_in, ck_0, ck_1, nI_clamp, calp, cal, bnd]
            exact hy
          · rw [hb, if_neg (fun q => c3 (q.2.2 b rfl))] at hy
            simp (disch := omega) only [bnd, ite_not, br_le_t, br_le_f, br_lt_t, br_lt_f, br_eq_t, br_eq_f, br_le0_t, br_le0_f, br_lt1_t, br_lt1_f, br_1le_t, br_1le_f, br_eq0_t, br_eq0_f, br_eq1_t, br_eq1_f, br_0le, br_lt0, br_0lt_t, br_0lt_f, br_m1, iof, i_2, i_3, i_4, i_8, i_9, i_10, i_20, i_30, i_90, i_120, i_256, cl_0, cl_1, cl_2, cl_3, Int32.add_zero, nI_add, nI_1, pk_mul, nI_s1, sb_m1, ck_in, ck_0, ck_1, nI_clamp, calp, cal, bnd]
            exact hy
      · rw [if_neg (fun q => c2 q.2.1)] at hy
        simp (disch := omega) only [bnd, ite_not, br_le_t, br_le_f, br_lt_t, br_lt_f, br_eq_t, br_eq_f, br_le0_t, br_le0_f, br_lt1_t, br_lt1_f, br_1le_t, br_1le_f, br_eq0_t, br_eq0_f, br_eq1_t, br_eq1_f, br_0le, br_lt0, br_0lt_t, br_0lt_f, br_m1, iof, i_2, i_3, i_4, i_8, i_9, i_10, i_20, i_30, i_90, i_120, i_256, cl_0, cl_1, cl_2, cl_3, Int32.add_zero, nI_add, nI_1, pk_mul, nI_s1, sb_m1, ck_in, ck_0, ck_1, nI_clamp, calp, cal, bnd]
        exact hy
    · rw [if_neg (fun q => c1 q.1)] at hy
      simp (disch := omega) only [bnd, ite_not, br_le_t, br_le_f, br_lt_t, br_lt_f, br_eq_t, br_eq_f, br_le0_t, br_le0_f, br_lt1_t, br_lt1_f, br_1le_t, br_1le_f, br_eq0_t, br_eq0_f, br_eq1_t, br_eq1_f, br_0le, br_lt0, br_0lt_t, br_0lt_f, br_m1, iof, i_2, i_3, i_4, i_8, i_9, i_10, i_20, i_30, i_90, i_120, i_256, cl_0, cl_1, cl_2, cl_3, Int32.add_zero, nI_add, nI_1, pk_mul, nI_s1, sb_m1, ck_in, ck_0, ck_1, nI_clamp, calp, cal, bnd]
      exact hy
  · unfold f_X12_valueOf_b4
    rw [vl_bst]
    cases hb : bst W k (an W) with
    | none => simp (disch := omega) only [bnd, ite_not, br_le_t, br_le_f, br_lt_t, br_lt_f, br_eq_t, br_eq_f, br_le0_t, br_le0_f, br_lt1_t, br_lt1_f, br_1le_t, br_1le_f, br_eq0_t, br_eq0_f, br_eq1_t, br_eq1_f, br_0le, br_lt0, br_0lt_t, br_0lt_f, br_m1, iof, i_2, i_3, i_4, i_8, i_9, i_10, i_20, i_30, i_90, i_120, i_256, cl_0, cl_1, cl_2, cl_3, Int32.add_zero, nI_add, nI_1, pk_mul, nI_s1, sb_m1, ck_in, ck_0, ck_1, nI_clamp, calp, cal, bnd, e0, oi, if_true]
    | some b =>
      have hl := bst_lt W k _ b hb
      simp (disch := omega) only [bnd, ite_not, br_le_t, br_le_f, br_lt_t, br_lt_f, br_eq_t, br_eq_f, br_le0_t, br_le0_f, br_lt1_t, br_lt1_f, br_1le_t, br_1le_f, br_eq0_t, br_eq0_f, br_eq1_t, br_eq1_f, br_0le, br_lt0, br_0lt_t, br_0lt_f, br_m1, iof, i_2, i_3, i_4, i_8, i_9, i_10, i_20, i_30, i_90, i_120, i_256, cl_0, cl_1, cl_2, cl_3, Int32.add_zero, nI_add, nI_1, pk_mul, nI_s1, sb_m1, ck_in, ck_0, ck_1, nI_clamp, calp, cal, bnd, e0, oi]
      rw [(rw_av hw hs hl).1]
theorem cnt_v (W : Mem) (n : Nat) : cnt (fun k => decide (¬ vl W k = -1)) n ≤ n := cnt_le _ _
theorem co1_eq {F : Nat} {W ρ : Mem} (hF : 2000 ≤ F) (hw : WF W) (hs : SmR W ρ) : f_X12_count_b63 F F ρ 0 0 = some (nI (cnt (fun k => decide (¬ vl W k = -1)) (nm W)), ρ) := by
  have hN := rw_N hw
  have e0 := rw_n hw hs
  refine run_up (N := nm W) (fun n i => f_X12_count_b63 F n ρ (nI (cnt (fun k => decide (¬ vl W k = -1)) i)) (nI i)) (fun n i hi y hy => ?_) (fun n => ?_) F 0 (Nat.zero_le _) (by omega)
  · have e3 := cnt_le (fun k => decide (¬ vl W k = -1)) i
    unfold f_X12_count_b63 f_X12_count_b86
    simp (disch := omega) only [bnd, ite_not, br_le_t, br_le_f, br_lt_t, br_lt_f, br_eq_t, br_eq_f, br_le0_t, br_le0_f, br_lt1_t, br_lt1_f, br_1le_t, br_1le_f, br_eq0_t, br_eq0_f, br_eq1_t, br_eq1_f, br_0le, br_lt0, br_0lt_t, br_0lt_f, br_m1, iof, i_2, i_3, i_4, i_8, i_9, i_10, i_20, i_30, i_90, i_120, i_256, cl_0, cl_1, cl_2, cl_3, Int32.add_zero, nI_add, nI_1, pk_mul, nI_s1, sb_m1, ck_in, ck_0, ck_1, nI_clamp, calp, cal, bnd, e0, vo_eq hF hw hs]
    rw [cnt_s] at hy
    by_cases q : vl W i = -1
    · simp only [q, if_true, Int32.add_zero]
      rw [if_neg (by simp [q])] at hy
      exact hy
    · simp only [q, if_false, nI_1]
      rw [if_pos (by simp [q])] at hy
      exact hy
  · unfold f_X12_count_b63
    simp (disch := omega) only [bnd, ite_not, br_le_t, br_le_f, br_lt_t, br_lt_f, br_eq_t, br_eq_f, br_le0_t, br_le0_f, br_lt1_t, br_lt1_f, br_1le_t, br_1le_f, br_eq0_t, br_eq0_f, br_eq1_t, br_eq1_f, br_0le, br_lt0, br_0lt_t, br_0lt_f, br_m1, iof, i_2, i_3, i_4, i_8, i_9, i_10, i_20, i_30, i_90, i_120, i_256, cl_0, cl_1, cl_2, cl_3, Int32.add_zero, nI_add, nI_1, pk_mul, nI_s1, sb_m1, ck_in, ck_0, ck_1, nI_clamp, calp, cal, bnd, e0]
/-- those of a draw that have no value -/
def nS (W : Mem) (d n : Nat) : Nat := cnt (fun k => d.testBit k && decide (vl W k = -1)) n
theorem si_eq {F : Nat} {W ρ : Mem} (hF : 2000 ≤ F) (hw : WF W) (hs : SmR W ρ) {d : Nat} (hd : d < 2 ^ nm W) : f_X12_silent_b15 F F ρ (nI d) 0 0 = some (nI (nS W d (nm W)), ρ) := by
  have hN := rw_N hw
  have e0 := rw_n hw hs
  have hd2 := Nat.lt_of_lt_of_le hd (pow_le30 hN)
  refine run_up (N := nm W) (fun n i => f_X12_silent_b15 F n ρ (nI d) (nI (nS W d i)) (nI i)) (fun n i hi y hy => ?_) (fun n => ?_) F 0 (Nat.zero_le _) (by omega)
  · have e3 : nS W d i ≤ i := cnt_le _ i
    unfold f_X12_silent_b15 f_X12_silent_b46 f_X12_silent_b47
    simp (disch := omega) only [bnd, ite_not, br_le_t, br_le_f, br_lt_t, br_lt_f, br_eq_t, br_eq_f, br_le0_t, br_le0_f, br_lt1_t, br_lt1_f, br_1le_t, br_1le_f, br_eq0_t, br_eq0_f, br_eq1_t, br_eq1_f, br_0le, br_lt0, br_0lt_t, br_0lt_f, br_m1, iof, i_2, i_3, i_4, i_8, i_9, i_10, i_20, i_30, i_90, i_120, i_256, cl_0, cl_1, cl_2, cl_3, Int32.add_zero, nI_add, nI_1, pk_mul, nI_s1, sb_m1, ck_in, ck_0, ck_1, nI_clamp, calp, cal, bnd, e0, vo_eq hF hw hs, sh_bit, b1']
    rw [nS, cnt_s, ← nS] at hy
    by_cases q2 : d.testBit i = true
    · rw [if_pos q2]
      by_cases q : vl W i = -1
      · rw [if_pos q]
        rw [if_pos (by simp [q, q2])] at hy
        exact hy
      · rw [if_neg q]
        rw [if_neg (by simp [q])] at hy
        exact hy
    · rw [if_neg q2]
      rw [if_neg (by simp [q2])] at hy
      exact hy
  · unfold f_X12_silent_b15
    simp (disch := omega) only [bnd, ite_not, br_le_t, br_le_f, br_lt_t, br_lt_f, br_eq_t, br_eq_f, br_le0_t, br_le0_f, br_lt1_t, br_lt1_f, br_1le_t, br_1le_f, br_eq0_t, br_eq0_f, br_eq1_t, br_eq1_f, br_0le, br_lt0, br_0lt_t, br_0lt_f, br_m1, iof, i_2, i_3, i_4, i_8, i_9, i_10, i_20, i_30, i_90, i_120, i_256, cl_0, cl_1, cl_2, cl_3, Int32.add_zero, nI_add, nI_1, pk_mul, nI_s1, sb_m1, ck_in, ck_0, ck_1, nI_clamp, calp, cal, bnd, e0]
/-- the class: names of a draw without values, as bits -/
def vbs (W : Mem) : Nat := msk (fun k => decide (¬ vl W k = -1)) (nm W)
theorem vbs_lt {W : Mem} (hw : WF W) : vbs W < 2 ^ 30 := msk_b (rw_N hw)
theorem vbs_t {W : Mem} (k : Nat) : (vbs W).testBit k = (decide (k < nm W) && decide (¬ vl W k = -1)) := msk_t _ _ _
theorem bit_hi {d n k : Nat} (hd : d < 2 ^ n) (h : n ≤ k) : d.testBit k = false := Nat.testBit_lt_two_pow (Nat.lt_of_lt_of_le hd (Nat.pow_le_pow_right (by decide) h))
theorem pcn_dif {W : Mem} (hw : WF W) {d : Nat} (hd : d < 2 ^ nm W) : pcn 32 (dif d (vbs W)) = nS W d (nm W) := by
  have hN := rw_N hw
  rw [cnt_b, cnt_to (n := nm W) (by omega) (fun k hk => bit_hi (Nat.lt_of_le_of_lt (dif_le _ _) hd) hk)]
  refine cnt_cg (fun k hk => ?_)
  rw [dif_t (by omega), vbs_t]
  by_cases q : vl W k = -1 <;> simp [q, hk]
theorem sim_silent {F : Nat} (hF : 2000 ≤ F) (μ ρ : Mem) (a1 : Int32) (h : Rel μ ρ) : ∃ (r : Int32) (μ2 ρ2 : Mem), f_X11_silent F μ a1 = some (r, μ2) ∧ f_X12_silent F ρ a1 = some (r, ρ2) ∧ Rel μ2 ρ2 := by
  have hN := rw_N h.1
  unfold f_X11_silent f_X12_silent
  rw [ha_eq h, id_eq hF h.1 (SmR.rf ρ)]
  simp only [cal]
  by_cases w : wi a1 0 (nI (2 ^ nm ρ - 1)) = true
  · obtain ⟨d, hd, rfl⟩ := wi_draw hN w
    have hd2 := Nat.lt_of_lt_of_le hd (pow_le30 hN)
    have hl := dif_le d (vbs ρ)
    refine ⟨nI (nS ρ d (nm ρ)), μ, ρ, ?_, ?_, h⟩
    · rw [w]
      simp only [if_true, show ¬ (1 : Int32) = 0 by decide, not_false_eq_true, bnd, cw_vb h]
      rw [show msk (fun k => decide (¬ vl ρ k = -1)) (nm ρ) = vbs ρ from rfl, nI_dif, bc_eq F (by omega), pcn_dif h.1 hd]
      rfl
    · rw [w]
      simp only [if_true, show ¬ (1 : Int32) = 0 by decide, not_false_eq_true, si_eq hF h.1 (SmR.rf ρ) hd]
  · rw [Bool.not_eq_true] at w
    rw [w]
    exact ⟨-2, μ, ρ, rfl, rfl, h⟩
theorem ca_tl {W μ : Mem} (h : Rel μ W) {p : Nat} (hp : p < 4) : μ.1 (18 + 9 * p) 7 = W.1 13 p := (h.2.2.2.1 p hp).1
theorem sim_count {F : Nat} (hF : 2000 ≤ F) (μ ρ : Mem) (a1 : Int32) (h : Rel μ ρ) : ∃ (r : Int32), f_X11_count F μ a1 = some (r, μ) ∧ f_X12_count F ρ a1 = some (r, ρ) := by
  have hN := rw_N h.1
  have hs := SmR.rf ρ
  unfold f_X11_count f_X12_count
  by_cases e0 : a1 = 0
  · subst e0
    exact ⟨ρ.1 0 5, by simp only [if_true, bnd, cw_n h, rw_n h.1 hs], by simp only [if_true, bnd]⟩
  rw [if_neg e0, if_neg e0]
  by_cases e1 : a1 = 1
  · subst e1
    refine ⟨nI (cnt (fun k => decide (¬ vl ρ k = -1)) (nm ρ)), ?_, ?_⟩
    · simp (disch := omega) only [if_true, bnd, cw_vb h, bc_msk, calp]
    · simp only [if_true, co1_eq hF h.1 hs]
  rw [if_neg e1, if_neg e1]
  by_cases e2 : a1 = 2
  · subst e2
    exact ⟨ρ.1 0 10, by simp only [if_true, bnd]; rw [h.2.2.1.1], by simp only [if_true, bnd]⟩
  rw [if_neg e2, if_neg e2]
  by_cases e3 : a1 = 3
  · subst e3
    exact ⟨ρ.1 0 14, by simp only [if_true, bnd]; rw [h.2.2.1.2.1], by simp only [if_true, bnd]⟩
  rw [if_neg e3, if_neg e3]
  by_cases e4 : a1 = 4
  · subst e4
    refine ⟨ρ.1 13 0, ?_, ?_⟩
    · rw [if_pos rfl]
      exact congrArg (fun v => some (v, μ)) (ca_tl h (p := 0) (by decide))
    · rw [if_pos rfl]; rfl
  rw [if_neg e4, if_neg e4]
  by_cases e5 : a1 = 5
  · subst e5
    refine ⟨ρ.1 13 1, ?_, ?_⟩
    · rw [if_pos rfl]
      exact congrArg (fun v => some (v, μ)) (ca_tl h (p := 1) (by decide))
    · rw [if_pos rfl]; rfl
  rw [if_neg e5, if_neg e5]
  by_cases e6 : a1 = 6
  · subst e6
    refine ⟨ρ.1 13 2, ?_, ?_⟩
    · rw [if_pos rfl]
      exact congrArg (fun v => some (v, μ)) (ca_tl h (p := 2) (by decide))
    · rw [if_pos rfl]; rfl
  rw [if_neg e6, if_neg e6]
  by_cases e7 : a1 = 7
  · subst e7
    refine ⟨ρ.1 13 3, ?_, ?_⟩
    · rw [if_pos rfl]
      exact congrArg (fun v => some (v, μ)) (ca_tl h (p := 3) (by decide))
    · rw [if_pos rfl]; rfl
  rw [if_neg e7, if_neg e7]
  by_cases e8 : a1 = 8
  · subst e8
    exact ⟨ρ.1 0 4, by simp only [if_true, bnd]; rw [h.2.2.2.2.1.1], by simp only [if_true, bnd]⟩
  rw [if_neg e8, if_neg e8]
  by_cases e9 : a1 = 9
  · subst e9
    refine ⟨nI (nK ρ), ?_, ?_⟩
    · simp (disch := omega) only [if_true, bnd, cw_cs h, bc_msk, calp]
      rfl
    · simp only [if_true, cn_eq hF h.1 hs, cal]
  rw [if_neg e9, if_neg e9]
  exact ⟨-2, rfl, rfl⟩
theorem sim_about {F : Nat} (hF : 2000 ≤ F) (μ ρ : Mem) (a1 a2 : Int32) (h : Rel μ ρ) : ∃ (r : Int32), f_X11_about F μ a1 a2 = some (r, μ) ∧ f_X12_about F ρ a1 a2 = some (r, ρ) := by
  have hN := rw_N h.1
  have hs := SmR.rf ρ
  unfold f_X11_about f_X12_about
  rw [hn_eq h, in_nm h.1 hs]
  simp only [cal]
  by_cases w : wi a1 0 (nI (nm ρ) - 1) = true
  · obtain ⟨k, hk, rfl⟩ := wi_nm h.1 w
    rw [w]
    simp only [if_true, show ¬ (1 : Int32) = 0 by decide, not_false_eq_true]
    by_cases e0 : a2 = 0
    · subst e0
      exact ⟨nI (ly ρ k), by simp (disch := omega) only [if_true, bnd, ck_in, nI_clamp, cw_l h hk], by simp (disch := omega) only [if_true, bnd, ck_in, nI_clamp, rw_l h.1 hs hk]⟩
    rw [if_neg e0, if_neg e0]
    by_cases e1 : a2 = 1
    · subst e1
      exact ⟨nI (cu ρ k), by simp (disch := omega) only [if_true, bnd, ck_in, nI_clamp, cw_c h hk], by simp (disch := omega) only [if_true, bnd, ck_in, nI_clamp, rw_c h.1 hs hk]⟩
    rw [if_neg e1, if_neg e1]
    by_cases e2 : a2 = 2
    · subst e2
      exact ⟨nI (sz ρ k), by simp (disch := omega) only [if_true, bnd, ck_in, nI_clamp, cw_s h hk], by simp (disch := omega) only [if_true, bnd, ck_in, nI_clamp, rw_s h.1 hs hk]⟩
    rw [if_neg e2, if_neg e2]
    by_cases e3 : a2 = 3
    · subst e3
      exact ⟨nI (mk ρ k), by simp (disch := omega) only [if_true, bnd, ck_in, nI_clamp, cw_m h hk], by simp (disch := omega) only [if_true, bnd, ck_in, nI_clamp, rw_m h.1 hs hk]⟩
    rw [if_neg e3, if_neg e3]
    by_cases e4 : a2 = 4
    · subst e4
      exact ⟨vl ρ k, by simp (disch := omega) only [if_true, bnd, ck_in, nI_clamp, cw_v h hk], by simp only [if_true, vo_eq hF h.1 hs hk, cal]⟩
    rw [if_neg e4, if_neg e4]
    exact ⟨-2, rfl, rfl⟩
  · rw [Bool.not_eq_true] at w
    rw [w]
    exact ⟨-2, rfl, rfl⟩
