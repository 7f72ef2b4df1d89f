/-! answers: the class settles its values at each change, the reference looks them up -/
theorem msk_set (f g : Nat → Bool) {n k : Nat} (hk : k < n) (hn : n ≤ 30) (h1 : g k = true) (h2 : ∀ j, j ≠ k → g j = f j) : msk f n ||| 2 ^ k = msk g n := by
  apply Nat.eq_of_testBit_eq
  intro j
  rw [Nat.testBit_or, msk_t, msk_t, Nat.testBit_two_pow]
  by_cases e : j = k
  · subst e; simp [hk, h1]
  · rw [h2 j e]
    simp [show ¬ k = j from fun q => e q.symm]
theorem msk_clr (f g : Nat → Bool) {n k : Nat} (hk : k < n) (hn : n ≤ 30) (h1 : g k = false) (h2 : ∀ j, j ≠ k → g j = f j) : dif (msk f n) (2 ^ k) = msk g n := by
  apply Nat.eq_of_testBit_eq
  intro j
  rcases Nat.lt_or_ge j 32 with q | q
  · rw [dif_t q, msk_t, msk_t, Nat.testBit_two_pow]
    by_cases e : j = k
    · subst e; simp [h1]
    · rw [h2 j e]
      simp [show ¬ k = j from fun q => e q.symm]
  · rw [msk_t, Nat.testBit_lt_two_pow (Nat.lt_of_le_of_lt (dif_le _ _) (Nat.lt_of_lt_of_le (msk_b hn) (Nat.pow_le_pow_right (by decide) (by omega))))]
    simp [show ¬ j < n by omega]
def vA (W : Mem) (k a : Nat) : Int32 := match bst W k a with | none => -1 | some b => W.1 10 b
def dA (W : Mem) (k a : Nat) : Int32 := match bst W k a with | none => 0 | some b => nI (aday W b)
theorem vl_vA (W : Mem) (k : Nat) : vl W k = vA W k (an W) := vl_bst W k
theorem bst_no {W : Mem} {k a : Nat} (h : ¬ (aof W a = k ∧ aday W a ≤ asd W ∧ (∀ q ∈ bst W k a, aday W q ≤ aday W a))) : bst W k (a + 1) = bst W k a := by rw [bst, if_neg h]
theorem bst_yes {W : Mem} {k a : Nat} (h : aof W a = k ∧ aday W a ≤ asd W ∧ (∀ q ∈ bst W k a, aday W q ≤ aday W a)) : bst W k (a + 1) = some a := by rw [bst, if_pos h]
/-- the class's answers are W's -/
def AN (μ W : Mem) : Prop := μ.1 1 10 = nI (nm W) ∧ μ.1 12 5 = nI (an W) ∧ μ.1 12 6 = nI (asd W) ∧ ∀ i, i < an W → μ.1 13 i = nI (aof W i) ∧ μ.1 14 i = W.1 10 i ∧ μ.1 15 i = nI (aday W i)
def WA (W : Mem) : Prop := nm W ≤ 30 ∧ an W ≤ 120 ∧ asd W ≤ 399 ∧ ∀ i, i < an W → aof W i < nm W ∧ aday W i ≤ 399
def SI (W μs : Mem) (a : Nat) (μ : Mem) : Prop := (∀ c j, c ≠ 6 → c ≠ 16 → (c = 1 → j ≠ 14) → μ.1 c j = μs.1 c j) ∧ μ.2 = μs.2 ∧ (∀ k, k < nm W → μ.1 6 k = vA W k a) ∧ (∀ k, k < nm W → μ.1 16 k = dA W k a) ∧ μ.1 1 14 = nI (msk (fun k => decide (¬ vA W k a = -1)) (nm W))
theorem st_loop {F : Nat} (hF : 2000 ≤ F) {W μs : Mem} (hW : WA W) (hA : AN μs W) {μ : Mem} (h0 : SI W μs 0 μ) : ∃ μ2, f_X0_settle_b30 F F μ 0 = some ((), μ2) ∧ SI W μs (an W) μ2 := by
  obtain ⟨w1, w2, w3, w4⟩ := hW
  obtain ⟨a1, a2, a3, a4⟩ := hA
  refine run_rel (N := an W) (fun n i μ => f_X0_settle_b30 F n μ (nI i)) (SI W μs) (fun o => ∃ μ2, o = some ((), μ2) ∧ SI W μs (an W) μ2) (fun n i μ hi hI => Or.inl ?_) (fun n μ hI => ?_) F 0 μ (Nat.zero_le _) (by omega) h0
  · obtain ⟨i1, i2, i3, i4, i5⟩ := hI
    obtain ⟨b1, b2, b3⟩ := a4 i hi
    obtain ⟨d1, d2⟩ := w4 i hi
    have e5 : μ.1 12 5 = nI (an W) := by rw [i1 12 5 (by omega) (by omega) (by omega)]; exact a2
    have e6 : μ.1 12 6 = nI (asd W) := by rw [i1 12 6 (by omega) (by omega) (by omega)]; exact a3
    have e13 : μ.1 13 i = nI (aof W i) := by rw [i1 13 i (by omega) (by omega) (by omega)]; exact b1
    have e14 : μ.1 14 i = W.1 10 i := by rw [i1 14 i (by omega) (by omega) (by omega)]; exact b2
    have e15 : μ.1 15 i = nI (aday W i) := by rw [i1 15 i (by omega) (by omega) (by omega)]; exact b3
    have e16 := i4 _ d1
    by_cases c2 : aday W i ≤ asd W
    · have c3 : ((∀ q ∈ bst W (aof W i) i, aday W q ≤ aday W i) ∧ ∃ x, dA W (aof W i) i = nI x ∧ x ≤ aday W i) ∨ (¬ (∀ q ∈ bst W (aof W i) i, aday W q ≤ aday W i) ∧ ∃ x, dA W (aof W i) i = nI x ∧ aday W i < x ∧ x ≤ 399) := by
        unfold dA
        cases hb : bst W (aof W i) i with
        | none => exact Or.inl ⟨fun q hq => (by cases hq), 0, rfl, Nat.zero_le _⟩
        | some b =>
          have hl := bst_lt W _ i b hb
          by_cases c : aday W b ≤ aday W i
          · exact Or.inl ⟨fun q hq => (by cases hq; exact c), _, rfl, c⟩
          · exact Or.inr ⟨fun q => c (q b rfl), _, rfl, by omega, (w4 b (by omega)).2⟩
      rcases c3 with ⟨c3, x, hx, hxl⟩ | ⟨c3, x, hx, hxl, hxm⟩
      · -- taken
        have hk : ∀ k, k ≠ aof W i → bst W k (i + 1) = bst W k i := fun k hk => bst_no (fun q => hk q.1.symm)
        have hy : bst W (aof W i) (i + 1) = some i := bst_yes ⟨rfl, c2, c3⟩
        have hv : vA W (aof W i) (i + 1) = W.1 10 i := by unfold vA; rw [hy]
        have hd : dA W (aof W i) (i + 1) = nI (aday W i) := by unfold dA; rw [hy]
        have hv2 : ∀ k, k ≠ aof W i → vA W k (i + 1) = vA W k i := fun k q => by unfold vA; rw [hk k q]
        have hd2 : ∀ k, k ≠ aof W i → dA W k (i + 1) = dA W k i := fun k q => by unfold dA; rw [hk k q]
        rw [hx] at e16
        have hmb : ∀ f : Nat → Bool, msk f (nm W) < 2 ^ 30 := fun f => msk_b w1
        by_cases cv : W.1 10 i = -1
        · refine ⟨ui (ui (ui μ 16 (aof W i) (nI (aday W i))) 6 (aof W i) (W.1 10 i)) 1 14 (nI (msk (fun k => decide (¬ vA W k (i + 1) = -1)) (nm W))), ⟨fun c j q1 q2 q3 => ?_, i2, fun k hk => ?_, fun k hk => ?_, ui_s _ _ _ _⟩, fun y hy2 => ?_⟩
          · by_cases e : c = 1
            · subst e; rw [ui_o (q3 rfl), ui_c (by omega), ui_c (by omega)]; exact i1 1 j q1 q2 q3
            · rw [ui_c e, ui_c q1, ui_c q2]; exact i1 c j q1 q2 q3
          · rw [ui_c (by omega), ui_at]
            by_cases e : k = aof W i
            · rw [if_pos e, e, hv]
            · rw [if_neg e, ui_c (by omega), i3 k hk, hv2 k e]
          · rw [ui_c (by omega), ui_c (by omega), ui_at]
            by_cases e : k = aof W i
            · rw [if_pos e, e, hd]
            · rw [if_neg e, i4 k hk, hd2 k e]
          · unfold f_X0_settle_b30 f_X0_settle_b99
            simp (disch := omega) only [xbn, ite_not, br_le_t, br_le_f, br_lt_t, br_lt_f, br_eq_t, br_eq_f, br_le0_t, br_le0_f, br_lt1_t, br_lt1_f, br_1le_t, br_1le_f, br_eq0_t, br_eq0_f, br_eq1_t, br_eq1_f, br_0le, br_lt0, br_0lt_t, br_0lt_f, br_m1, iof, i_2, i_3, i_4, i_8, i_9, i_10, i_20, i_30, i_90, i_120, i_256, cl_0, cl_1, cl_2, cl_3, Int32.add_zero, nI_add, nI_1, pk_mul, nI_s1, sb_m1, ck_in, ck_0, ck_1, nI_clamp, xcp, xca, xbn, e5, e6, e13, e15, e16, f_X6_hold, ui_c, ui_s, ui_o, ui_2, ul_1, ul_22, ul_s, ul_o, ul_c, ur_1, ur_21, ur_s, e14, cv, if_true, one_shl, i5, nI_dif]
            rw [msk_clr _ (fun k => decide (¬ vA W k (i + 1) = -1)) d1 w1 (by rw [hv, cv]; rfl) (fun j hj => by rw [hv2 j hj])]
            rw [cv] at hy2
            exact hy2
        · refine ⟨ui (ui (ui μ 16 (aof W i) (nI (aday W i))) 6 (aof W i) (W.1 10 i)) 1 14 (nI (msk (fun k => decide (¬ vA W k (i + 1) = -1)) (nm W))), ⟨fun c j q1 q2 q3 => ?_, i2, fun k hk => ?_, fun k hk => ?_, ui_s _ _ _ _⟩, fun y hy2 => ?_⟩
          · by_cases e : c = 1
            · subst e; rw [ui_o (q3 rfl), ui_c (by omega), ui_c (by omega)]; exact i1 1 j q1 q2 q3
            · rw [ui_c e, ui_c q1, ui_c q2]; exact i1 c j q1 q2 q3
          · rw [ui_c (by omega), ui_at]
            by_cases e : k = aof W i
            · rw [if_pos e, e, hv]
            · rw [if_neg e, ui_c (by omega), i3 k hk, hv2 k e]
          · rw [ui_c (by omega), ui_c (by omega), ui_at]
            by_cases e : k = aof W i
            · rw [if_pos e, e, hd]
            · rw [if_neg e, i4 k hk, hd2 k e]
          · unfold f_X0_settle_b30 f_X0_settle_b99
            simp (disch := omega) only [xbn, ite_not, br_le_t, br_le_f, br_lt_t, br_lt_f, br_eq_t, br_eq_f, br_le0_t, br_le0_f, br_lt1_t, br_lt1_f, br_1le_t, br_1le_f, br_eq0_t, br_eq0_f, br_eq1_t, br_eq1_f, br_0le, br_lt0, br_0lt_t, br_0lt_f, br_m1, iof, i_2, i_3, i_4, i_8, i_9, i_10, i_20, i_30, i_90, i_120, i_256, cl_0, cl_1, cl_2, cl_3, Int32.add_zero, nI_add, nI_1, pk_mul, nI_s1, sb_m1, ck_in, ck_0, ck_1, nI_clamp, xcp, xca, xbn, e5, e6, e13, e15, e16, f_X6_hold, ui_c, ui_s, ui_o, ui_2, ul_1, ul_22, ul_s, ul_o, ul_c, ur_1, ur_21, ur_s, e14, cv, if_false, if_true, one_shl, i5, nI_or]
            rw [msk_set _ (fun k => decide (¬ vA W k (i + 1) = -1)) d1 w1 (by rw [hv]; simp [cv]) (fun j hj => by rw [hv2 j hj])]
            exact hy2
      · have hk : ∀ k, bst W k (i + 1) = bst W k i := fun k => bst_no (fun q => by have := q.2.2; rw [← q.1] at this; exact c3 this)
        rw [hx] at e16
        refine ⟨μ, ⟨i1, i2, fun k hk2 => ?_, fun k hk2 => ?_, ?_⟩, fun y hy => ?_⟩
        · rw [i3 k hk2]; unfold vA; rw [hk]
        · rw [i4 k hk2]; unfold dA; rw [hk]
        · rw [i5]; unfold vA; simp only [hk]
        · unfold f_X0_settle_b30 f_X0_settle_b99
          simp (disch := omega) only [xbn, ite_not, br_le_t, br_le_f, br_lt_t, br_lt_f, br_eq_t, br_eq_f, br_le0_t, br_le0_f, br_lt1_t, br_lt1_f, br_1le_t, br_1le_f, br_eq0_t, br_eq0_f, br_eq1_t, br_eq1_f, br_0le, br_lt0, br_0lt_t, br_0lt_f, br_m1, iof, i_2, i_3, i_4, i_8, i_9, i_10, i_20, i_30, i_90, i_120, i_256, cl_0, cl_1, cl_2, cl_3, Int32.add_zero, nI_add, nI_1, pk_mul, nI_s1, sb_m1, ck_in, ck_0, ck_1, nI_clamp, xcp, xca, xbn, e5, e6, e13, e15, e16]
          exact hy
    · have hk : ∀ k, bst W k (i + 1) = bst W k i := fun k => bst_no (fun q => c2 q.2.1)
      refine ⟨μ, ⟨i1, i2, fun k hk2 => ?_, fun k hk2 => ?_, ?_⟩, fun y hy => ?_⟩
      · rw [i3 k hk2]; unfold vA; rw [hk]
      · rw [i4 k hk2]; unfold dA; rw [hk]
      · rw [i5]; unfold vA; simp only [hk]
      · unfold f_X0_settle_b30 f_X0_settle_b99
        simp (disch := omega) only [xbn, ite_not, br_le_t, br_le_f, br_lt_t, br_lt_f, br_eq_t, br_eq_f, br_le0_t, br_le0_f, br_lt1_t, br_lt1_f, br_1le_t, br_1le_f, br_eq0_t, br_eq0_f, br_eq1_t, br_eq1_f, br_0le, br_lt0, br_0lt_t, br_0lt_f, br_m1, iof, i_2, i_3, i_4, i_8, i_9, i_10, i_20, i_30, i_90, i_120, i_256, cl_0, cl_1, cl_2, cl_3, Int32.add_zero, nI_add, nI_1, pk_mul, nI_s1, sb_m1, ck_in, ck_0, ck_1, nI_clamp, xcp, xca, xbn, e5, e6, e13, e15]
        exact hy
  · have e5 : μ.1 12 5 = nI (an W) := by rw [hI.1 12 5 (by omega) (by omega) (by omega)]; exact a2
    unfold f_X0_settle_b30
    simp (disch := omega) only [xbn, ite_not, br_le_t, br_le_f, br_lt_t, br_lt_f, br_eq_t, br_eq_f, br_le0_t, br_le0_f, br_lt1_t, br_lt1_f, br_1le_t, br_1le_f, br_eq0_t, br_eq0_f, br_eq1_t, br_eq1_f, br_0le, br_lt0, br_0lt_t, br_0lt_f, br_m1, iof, i_2, i_3, i_4, i_8, i_9, i_10, i_20, i_30, i_90, i_120, i_256, cl_0, cl_1, cl_2, cl_3, Int32.add_zero, nI_add, nI_1, pk_mul, nI_s1, sb_m1, ck_in, ck_0, ck_1, nI_clamp, xcp, xca, xbn, e5]
    exact ⟨μ, rfl, hI⟩
theorem fv_loop {F N : Nat} (hN : N ≤ 30) : ∀ (n i : Nat) (μ : Mem), i ≤ N → N < n + i → μ.1 1 10 = nI N → ∃ μ2, f_X6_forgetValues_b7 F n μ (nI i) = some ((), μ2) ∧ μ2.2 = μ.2 ∧ (∀ c, c ≠ 6 → μ2.1 c = μ.1 c) ∧ ∀ j, μ2.1 6 j = if i ≤ j ∧ j < N then -1 else μ.1 6 j := by
  intro n
  induction n with
  | zero => intro i μ h1 h2; exact absurd h2 (by omega)
  | succ n ih =>
    intro i μ h1 h2 h3
    unfold f_X6_forgetValues_b7
    by_cases hi : i = N
    · subst hi
      simp (disch := omega) only [xbn, ite_not, br_le_t, br_le_f, br_lt_t, br_lt_f, br_eq_t, br_eq_f, br_le0_t, br_le0_f, br_lt1_t, br_lt1_f, br_1le_t, br_1le_f, br_eq0_t, br_eq0_f, br_eq1_t, br_eq1_f, br_0le, br_lt0, br_0lt_t, br_0lt_f, br_m1, iof, i_2, i_3, i_4, i_8, i_9, i_10, i_20, i_30, i_90, i_120, i_256, cl_0, cl_1, cl_2, cl_3, Int32.add_zero, nI_add, nI_1, pk_mul, nI_s1, sb_m1, ck_in, ck_0, ck_1, nI_clamp, xcp, xca, xbn, h3]
      refine ⟨μ, rfl, rfl, fun _ _ => rfl, fun j => ?_⟩
      rw [if_neg (by omega)]
    · simp (disch := omega) only [xbn, ite_not, br_le_t, br_le_f, br_lt_t, br_lt_f, br_eq_t, br_eq_f, br_le0_t, br_le0_f, br_lt1_t, br_lt1_f, br_1le_t, br_1le_f, br_eq0_t, br_eq0_f, br_eq1_t, br_eq1_f, br_0le, br_lt0, br_0lt_t, br_0lt_f, br_m1, iof, i_2, i_3, i_4, i_8, i_9, i_10, i_20, i_30, i_90, i_120, i_256, cl_0, cl_1, cl_2, cl_3, Int32.add_zero, nI_add, nI_1, pk_mul, nI_s1, sb_m1, ck_in, ck_0, ck_1, nI_clamp, xcp, xca, xbn, h3]
      obtain ⟨μ2, e1, e2, e3, e4⟩ := ih (i + 1) (ui μ 6 i (-1)) (by omega) (by omega) (by rw [ui_c (by omega)]; exact h3)
      refine ⟨μ2, e1, e2, fun c hc => by rw [e3 c hc, ui_ne hc], fun j => ?_⟩
      rw [e4, ui_at]
      by_cases q : j = i
      · subst q
        rw [if_neg (by omega), if_pos rfl, if_pos (by omega)]
      · rw [if_neg q]
        by_cases q2 : i + 1 ≤ j ∧ j < N
        · rw [if_pos q2, if_pos (by omega)]
        · rw [if_neg q2, if_neg (by omega)]
theorem ld_loop {F : Nat} : ∀ (n i : Nat) (μ : Mem), i ≤ 30 → 30 < n + i → ∃ μ2, f_X0_settle_b9 F n μ (nI i) = f_X0_settle_b30 F F μ2 0 ∧ μ2.2 = μ.2 ∧ (∀ c, c ≠ 16 → μ2.1 c = μ.1 c) ∧ ∀ j, μ2.1 16 j = if i ≤ j ∧ j < 30 then 0 else μ.1 16 j := by
  intro n
  induction n with
  | zero => intro i μ h1 h2; exact absurd h2 (by omega)
  | succ n ih =>
    intro i μ h1 h2
    unfold f_X0_settle_b9
    by_cases hi : i = 30
    · subst hi
      simp (disch := omega) only [xbn, ite_not, br_le_t, br_le_f, br_lt_t, br_lt_f, br_eq_t, br_eq_f, br_le0_t, br_le0_f, br_lt1_t, br_lt1_f, br_1le_t, br_1le_f, br_eq0_t, br_eq0_f, br_eq1_t, br_eq1_f, br_0le, br_lt0, br_0lt_t, br_0lt_f, br_m1, iof, i_2, i_3, i_4, i_8, i_9, i_10, i_20, i_30, i_90, i_120, i_256, cl_0, cl_1, cl_2, cl_3, Int32.add_zero, nI_add, nI_1, pk_mul, nI_s1, sb_m1, ck_in, ck_0, ck_1, nI_clamp, xcp, xca, xbn]
      refine ⟨μ, rfl, rfl, fun _ _ => rfl, fun j => ?_⟩
      rw [if_neg (by omega)]
    · simp (disch := omega) only [xbn, ite_not, br_le_t, br_le_f, br_lt_t, br_lt_f, br_eq_t, br_eq_f, br_le0_t, br_le0_f, br_lt1_t, br_lt1_f, br_1le_t, br_1le_f, br_eq0_t, br_eq0_f, br_eq1_t, br_eq1_f, br_0le, br_lt0, br_0lt_t, br_0lt_f, br_m1, iof, i_2, i_3, i_4, i_8, i_9, i_10, i_20, i_30, i_90, i_120, i_256, cl_0, cl_1, cl_2, cl_3, Int32.add_zero, nI_add, nI_1, pk_mul, nI_s1, sb_m1, ck_in, ck_0, ck_1, nI_clamp, xcp, xca, xbn]
      obtain ⟨μ2, e1, e2, e3, e4⟩ := ih (i + 1) (ui μ 16 i 0) (by omega) (by omega)
      refine ⟨μ2, e1, e2, fun c hc => by rw [e3 c hc, ui_ne hc], fun j => ?_⟩
      rw [e4, ui_at]
      by_cases q : j = i
      · subst q
        rw [if_neg (by omega), if_pos rfl, if_pos (by omega)]
      · rw [if_neg q]
        by_cases q2 : i + 1 ≤ j ∧ j < 30
        · rw [if_pos q2, if_pos (by omega)]
        · rw [if_neg q2, if_neg (by omega)]
theorem msk_0 {f : Nat → Bool} : ∀ {n : Nat}, (∀ k, k < n → f k = false) → msk f n = 0
  | 0, _ => rfl
  | n + 1, h => by rw [msk_s, msk_0 (fun k hk => h k (by omega)), h n (by omega)]; rfl
theorem st_eq {F : Nat} (hF : 2000 ≤ F) {W μ : Mem} (hW : WA W) (hA : AN μ W) : ∃ μ2, f_X0_settle F μ = some ((), μ2) ∧ SI W μ (an W) μ2 := by
  unfold f_X0_settle f_X6_forgetValues
  obtain ⟨μ2, e1, e2, e3, e4⟩ := fv_loop (F := F) hW.1 F 0 (ui μ 1 14 0) (by omega) (by have := hW.1; omega) (by rw [ui_o (by omega)]; exact hA.1)
  obtain ⟨μ3, f1, f2, f3, f4⟩ := ld_loop (F := F) F 0 μ2 (by omega) (by omega)
  have e1' : f_X6_forgetValues_b7 F F (ui μ 1 14 0) 0 = some ((), μ2) := e1
  have f1' : f_X0_settle_b9 F F μ2 0 = f_X0_settle_b30 F F μ3 0 := f1
  simp only [xbn, e1', xca, f1']
  refine st_loop hF hW hA ⟨fun c j q1 q2 q3 => ?_, ?_, fun k hk => ?_, fun k hk => ?_, ?_⟩
  · rw [f3 c q2, e3 c q1]
    by_cases e : c = 1
    · subst e; exact ui_o (q3 rfl)
    · exact ui_c e j
  · rw [f2, e2]; rfl
  · rw [f3 6 (by omega), e4, if_pos (by omega)]; rfl
  · rw [f4, if_pos (by have := hW.1; omega)]; rfl
  · rw [f3 1 (by omega), e3 1 (by omega), ui_s, msk_0 (f := fun k => decide (¬ vA W k 0 = -1)) (fun k hk => by simp [vA, bst])]; rfl
theorem rel_a {μ μ2 ρ ρ2 : Mem} (h : Rel μ ρ) (hc : ∀ c j, c ≠ 6 → (c < 12 ∨ 16 < c) → (c = 1 → j ≠ 14) → μ2.1 c j = μ.1 c j) (hc2 : μ2.2.2 = μ.2.2) (hr : ∀ c j, c ≠ 9 → c ≠ 10 → c ≠ 11 → (c = 0 → j ≠ 10 ∧ j ≠ 14) → ρ2.1 c j = ρ.1 c j)
    (h2 : WFa ρ2) (h3 : RAn μ2 ρ2) (h4 : ∀ k, k < nm ρ → μ2.1 6 k = vl ρ2 k) (h5 : μ2.1 1 14 = nI (msk (fun k => decide (¬ vl ρ2 k = -1)) (nm ρ))) : Rel μ2 ρ2 := by
  obtain ⟨⟨w1, w2, w3, w4, w5⟩, r1, r2, r3, r4, r5⟩ := h
  have eN : gN ρ ρ2 := ⟨hr 0 5 (by omega) (by omega) (by omega) (by omega), fun c q1 q2 j => hr c j (by omega) (by omega) (by omega) (by omega)⟩
  have eP : gP ρ ρ2 := fun c q1 q2 j => hr c j (by omega) (by omega) (by omega) (by omega)
  have eS : gS ρ ρ2 := ⟨hr 0 4 (by omega) (by omega) (by omega) (by omega), fun c q1 q2 j => hr c j (by omega) (by omega) (by omega) (by omega)⟩
  have eK : gK ρ ρ2 := fun c q1 j => hr c j (by omega) (by omega) (by omega) (by omega)
  refine ⟨⟨u_WFn eN w1, h2, u_WFp eP w3, u_WFs eS w4, u_WFk eK w5⟩, ?_, h3,
    u_RPl eP ⟨fun p hp k hk j => hc _ j (by omega) (by omega) (by omega), fun p hp => by rw [hc2], fun p hp k q1 q2 j hj => hc _ j (by omega) (by omega) (by omega)⟩ r3, u_RSh eS ⟨hc 0 8 (by omega) (by omega) (by omega), fun c q1 q2 j => hc c j (by omega) (by omega) (by omega)⟩ r4, u_RKn eK (fun c q1 j => hc c j (by omega) (by omega) (by omega)) r5⟩
  obtain ⟨n1, n2, n3, n4, n5, n6, n7, n8, n9⟩ := r1
  have k1 : ∀ j, j ≠ 14 → μ2.1 1 j = μ.1 1 j := fun j hj => hc 1 j (by omega) (by omega) (fun _ => hj)
  have k2 : ∀ c, c ≠ 6 → 2 ≤ c → c ≤ 11 → ∀ j, μ2.1 c j = μ.1 c j := fun c q0 q1 q2 j => hc c j q0 (by omega) (by omega)
  refine ⟨by rw [k1 10 (by omega), eN.1]; exact n1, fun k hk => ?_, fun l hl => ?_, fun c hc3 => ?_, fun m hm => ?_, ?_, ?_, ?_, ?_⟩
  · rw [u_nm eN] at hk
    obtain ⟨a1, a2, a3, a4, a5, a6, a7⟩ := n2 k hk
    rw [k2 2 (by omega) (by omega) (by omega), k2 3 (by omega) (by omega) (by omega), k2 4 (by omega) (by omega) (by omega), k2 5 (by omega) (by omega) (by omega), k2 10 (by omega) (by omega) (by omega), u_ssz eN, u_sz eN, eN.2 5 (by omega) (by omega), eN.2 6 (by omega) (by omega), eN.2 7 (by omega) (by omega), eN.2 8 (by omega) (by omega)]
    exact ⟨a1, a2, a3, a4, h4 k hk, a6, fun x hx => by rw [k2 11 (by omega) (by omega) (by omega)]; exact a7 x hx⟩
  · rw [k2 7 (by omega) (by omega) (by omega), u_ly eN, u_nm eN]; exact n3 l hl
  · rw [k2 8 (by omega) (by omega) (by omega), u_cu eN, u_nm eN]; exact n4 c hc3
  · rw [k2 9 (by omega) (by omega) (by omega), u_mk eN, u_nm eN]; exact n5 m hm
  · rw [k1 11 (by omega), u_nm eN]; exact n6
  · rw [k1 12 (by omega), u_nm eN]; simp only [u_hasC eN]; exact n7
  · rw [k1 13 (by omega), u_nm eN, u_ssz eN]; exact n8
  · rw [u_nm eN]; exact h5
theorem sim_asOf {F : Nat} (hF : 2000 ≤ F) (μ ρ : Mem) (a1 : Int32) (h : Rel μ ρ) : ∃ (r : Int32) (μ2 ρ2 : Mem), f_X11_asOf F μ a1 = some (r, μ2) ∧ f_X12_asOf F ρ a1 = some (r, ρ2) ∧ Rel μ2 ρ2 := by
  unfold f_X11_asOf f_X12_asOf f_X12_isDay f_X0_look
  rw [wi_eq, in_eq F a1 0 399 (A := 0) (B := 399) rfl rfl]
  by_cases w : wi a1 0 399 = true
  · obtain ⟨d, hd, rfl⟩ := wi_nat (n := 399) rfl (by decide) w
    have hs := SmR.rf ρ
    have hN := rw_N h.1
    obtain ⟨n0, n1⟩ := rw_an h.1 hs
    have ea : asd (ui ρ 0 14 (nI d)) = d := by unfold asd; rw [ui_s, nI_clamp (by omega)]
    have en : an (ui ρ 0 14 (nI d)) = an ρ := by unfold an; rw [ui_o (by omega)]
    have em : nm (ui ρ 0 14 (nI d)) = nm ρ := by unfold nm; rw [ui_o (by omega)]
    have eo : ∀ i, aof (ui ρ 0 14 (nI d)) i = aof ρ i := fun i => by unfold aof; rw [ui_c (by omega)]
    have ed : ∀ i, aday (ui ρ 0 14 (nI d)) i = aday ρ i := fun i => by unfold aday; rw [ui_c (by omega)]
    have hW : WA (ui ρ 0 14 (nI d)) := ⟨by rw [em]; exact hN, by rw [en]; exact n1, by rw [ea]; exact hd, fun i hi => by rw [en] at hi; rw [eo, ed, em]; exact ⟨(rw_ao h.1 hs hi).2, (rw_ad h.1 hs hi).2⟩⟩
    obtain ⟨c1, c2, c3⟩ := h.2.2.1
    have hA : AN (ui μ 12 6 (nI d)) (ui ρ 0 14 (nI d)) := ⟨by rw [ui_c (by omega), em]; exact cw_n h, by rw [ui_o (by omega), en, c1]; exact n0, by rw [ui_s, ea], fun i hi => by
      rw [en] at hi
      rw [eo, ed, ui_c (by omega), ui_c (by omega), ui_c (by omega), ui_c (by omega), (c3 i hi).1, (c3 i hi).2.1, (c3 i hi).2.2]
      exact ⟨(rw_ao h.1 hs hi).1, rfl, (rw_ad h.1 hs hi).1⟩⟩
    obtain ⟨μ2, e1, i1, i2, i3, i4, i5⟩ := st_eq hF hW hA
    refine ⟨ρ.1 0 14, μ2, ui ρ 0 14 (nI d), ?_, ?_, ?_⟩
    · rw [w]
      simp (disch := omega) only [xbn, ite_not, br_le_t, br_le_f, br_lt_t, br_lt_f, br_eq_t, br_eq_f, br_le0_t, br_le0_f, br_lt1_t, br_lt1_f, br_1le_t, br_1le_f, br_eq0_t, br_eq0_f, br_eq1_t, br_eq1_f, br_0le, br_lt0, br_0lt_t, br_0lt_f, br_m1, iof, i_2, i_3, i_4, i_8, i_9, i_10, i_20, i_30, i_90, i_120, i_256, cl_0, cl_1, cl_2, cl_3, Int32.add_zero, nI_add, nI_1, pk_mul, nI_s1, sb_m1, ck_in, ck_0, ck_1, nI_clamp, xcp, xca, xbn, if_true, show ¬ (1 : Int32) = 0 by decide, if_false, e1, c2]
    · rw [w]
      simp (disch := omega) only [xbn, ite_not, br_le_t, br_le_f, br_lt_t, br_lt_f, br_eq_t, br_eq_f, br_le0_t, br_le0_f, br_lt1_t, br_lt1_f, br_1le_t, br_1le_f, br_eq0_t, br_eq0_f, br_eq1_t, br_eq1_f, br_0le, br_lt0, br_0lt_t, br_0lt_f, br_m1, iof, i_2, i_3, i_4, i_8, i_9, i_10, i_20, i_30, i_90, i_120, i_256, cl_0, cl_1, cl_2, cl_3, Int32.add_zero, nI_add, nI_1, pk_mul, nI_s1, sb_m1, ck_in, ck_0, ck_1, nI_clamp, xcp, xca, xbn, if_true, show ¬ (1 : Int32) = 0 by decide, if_false, zk01]
      rfl
    · refine rel_a h (fun c j q1 q2 q3 => ?_) (by rw [i2]; rfl) (fun c j q1 q2 q3 q4 => ?_) ⟨?_, ?_, ?_, fun i hi => ?_⟩ ⟨?_, ?_, fun i hi => ?_⟩ (fun k hk => ?_) ?_
      · rw [i1 c j q1 (by omega) q3, ui_c (by omega)]
      · by_cases e : c = 0
        · subst e; exact ui_o (q4 rfl).2
        · exact ui_c e j
      · rw [ui_o (by omega), en]; exact n0
      · rw [en]; exact n1
      · rw [ui_s, ea]; exact ⟨rfl, hd⟩
      · rw [en] at hi
        rw [ui_c (by omega), ui_c (by omega), ui_c (by omega), eo, ed, em]
        exact h.1.2.1.2.2.2 i hi
      · rw [i1 12 5 (by omega) (by omega) (by omega), ui_o (by omega), ui_o (by omega)]; exact c1
      · rw [i1 12 6 (by omega) (by omega) (by omega), ui_s, ui_s]
      · rw [en] at hi
        rw [i1 13 i (by omega) (by omega) (by omega), i1 14 i (by omega) (by omega) (by omega), i1 15 i (by omega) (by omega) (by omega), ui_c (by omega), ui_c (by omega), ui_c (by omega), ui_c (by omega), ui_c (by omega), ui_c (by omega)]
        exact c3 i hi
      · rw [i3 k (by rw [em]; exact hk), vl_vA]
      · rw [i5, em]; simp only [vl_vA]
  · rw [Bool.not_eq_true] at w
    rw [w]
    exact ⟨-2, μ, ρ, rfl, rfl, h⟩
