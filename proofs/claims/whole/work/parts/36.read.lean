theorem rd2_loop {F : Nat} (hF : 2000 ≤ F) {j L : Nat} (hj : j < 4) (hL : L ≤ 90) : ∀ (n e : Nat) (μ ρ : Mem), 4 * e ≤ L → 25 < n + e → Rel μ ρ → ss ρ j = L → ¬ ρ.1 1 j = -1 →
    ∃ (r : Int32) (μ2 ρ2 : Mem), f_X11_read_b35 F n μ (55 + 2 * j) (nI e) (nI (4 * e)) = some (r, μ2) ∧ f_X12_read_b29 F n ρ (nI j) (nI e) 1 = some (r, ρ2) ∧ Rel μ2 ρ2 := by
  intro n
  induction n with
  | zero => intro e μ ρ h1 h2; exact absurd h2 (by omega)
  | succ n ih =>
    intro e μ ρ h1 h2 h hss hf
    have ws := (h.1.2.2.2.1 j hj).2.1
    have hs4 := h.2.2.2.2.1.2 j hj
    rw [hss] at ws
    have c3 : μ.1 (55 + 2 * j) 3 = nI L := by rw [hs4.1, ws]
    rw [f_X11_read_b35, f_X12_read_b29]
    by_cases q : L ≤ 4 * e + 3
    · refine ⟨nI e, μ, ρ, ?_, ?_, h⟩
      · simp (disch := omega) only [xbn, ite_not, br_le_t, br_le_f, br_lt_t, br_lt_f, br_eq_t, br_eq_f, br_le0_t, br_le0_f, br_lt1_t, br_lt1_f, br_1le_t, br_1le_f, br_eq0_t, br_eq0_f, br_eq1_t, br_eq1_f, br_0le, br_lt0, br_0lt_t, br_0lt_f, br_m1, iof, i_2, i_3, i_4, i_8, i_9, i_10, i_20, i_30, i_90, i_120, i_256, cl_0, cl_1, cl_2, cl_3, Int32.add_zero, nI_add, nI_1, pk_mul, nI_s1, sb_m1, ck_in, ck_0, ck_1, nI_clamp, xcp, xca, xbn, c3]
      · simp (disch := omega) only [xbn, ite_not, br_le_t, br_le_f, br_lt_t, br_lt_f, br_eq_t, br_eq_f, br_le0_t, br_le0_f, br_lt1_t, br_lt1_f, br_1le_t, br_1le_f, br_eq0_t, br_eq0_f, br_eq1_t, br_eq1_f, br_0le, br_lt0, br_0lt_t, br_0lt_f, br_m1, iof, i_2, i_3, i_4, i_8, i_9, i_10, i_20, i_30, i_90, i_120, i_256, cl_0, cl_1, cl_2, cl_3, Int32.add_zero, nI_add, nI_1, pk_mul, nI_s1, sb_m1, ck_in, ck_0, ck_1, nI_clamp, xcp, xca, xbn, ws, show ¬ (1 : Int32) = 0 by decide, if_false]
    · have it : ∀ x, x < L → μ.1 (55 + 2 * j + 1) x = ρ.1 3 (90 * j + x) := fun x hx => by
        rcases hs4.2 with ⟨l1, l2⟩ | ⟨l1, l2, l3, l4⟩
        · exact absurd l2 hf
        · exact l4 x (by omega)
      obtain ⟨r, μ2, ρ2, e1, e2, e3, e4, e5, e6⟩ := en_eq hF μ ρ (ρ.1 3 (90 * j + 4 * e)) (ρ.1 3 (90 * j + 4 * e + 1)) (ρ.1 3 (90 * j + 4 * e + 2)) (ρ.1 3 (90 * j + 4 * e + 3)) h
      have i0 := it (4 * e) (by omega)
      have i1 := it (4 * e + 1) (by omega)
      have i2 := it (4 * e + 2) (by omega)
      have i3 := it (4 * e + 3) (by omega)
      rw [← Nat.add_assoc] at i1 i2 i3
      simp (disch := omega) only [xbn, ite_not, br_le_t, br_le_f, br_lt_t, br_lt_f, br_eq_t, br_eq_f, br_le0_t, br_le0_f, br_lt1_t, br_lt1_f, br_1le_t, br_1le_f, br_eq0_t, br_eq0_f, br_eq1_t, br_eq1_f, br_0le, br_lt0, br_0lt_t, br_0lt_f, br_m1, iof, i_2, i_3, i_4, i_8, i_9, i_10, i_20, i_30, i_90, i_120, i_256, cl_0, cl_1, cl_2, cl_3, Int32.add_zero, nI_add, nI_1, pk_mul, nI_s1, sb_m1, ck_in, ck_0, ck_1, nI_clamp, xcp, xca, xbn, c3, ws, show ¬ (1 : Int32) = 0 by decide, if_false, i0, i1, i2, i3, e1, e2, f_X12_read_b103, f_X12_read_b114]
      have bad : ∀ v : Int32, r = v → v < 0 → ∃ (r2 : Int32) (μ3 ρ3 : Mem), (if 0 ≤ r then f_X11_read_b35 F n μ2 (55 + 2 * j) (nI (e + 1)) (nI (4 * e + 4)) else some (nI e, μ2)) = some (r2, μ3) ∧ (if r < 0 then f_X12_read_b29 F n ρ2 (nI j) (nI e + 0) 0 else f_X12_read_b29 F n ρ2 (nI j) (nI (e + 1)) 1) = some (r2, ρ3) ∧ Rel μ3 ρ3 := by
        intro v hv hlt
        rw [hv, if_neg (Int32.not_le.mpr hlt), if_pos hlt, Int32.add_zero]
        obtain ⟨n, rfl⟩ : ∃ a, n = a + 1 := ⟨n - 1, by omega⟩
        refine ⟨nI e, μ2, ρ2, rfl, ?_, e3⟩
        rw [f_X12_read_b29, if_pos rfl]
      rcases e6 with e6 | e6 | ⟨k, hk, e6⟩
      · have := bad (-2) e6 (by decide)
        rw [Int32.add_zero] at this
        exact this
      · have := bad (-4) e6 (by decide)
        rw [Int32.add_zero] at this
        exact this
      · subst e6
        simp (disch := omega) only [xbn, ite_not, br_le_t, br_le_f, br_lt_t, br_lt_f, br_eq_t, br_eq_f, br_le0_t, br_le0_f, br_lt1_t, br_lt1_f, br_1le_t, br_1le_f, br_eq0_t, br_eq0_f, br_eq1_t, br_eq1_f, br_0le, br_lt0, br_0lt_t, br_0lt_f, br_m1, iof, i_2, i_3, i_4, i_8, i_9, i_10, i_20, i_30, i_90, i_120, i_256, cl_0, cl_1, cl_2, cl_3, Int32.add_zero, nI_add, nI_1, pk_mul, nI_s1, sb_m1, ck_in, ck_0, ck_1, nI_clamp, xcp, xca, xbn]
        exact ih (e + 1) μ2 ρ2 (by omega) (by omega) e3 (by unfold ss; rw [e5 2 (by omega)]; exact hss) (by rw [e5 1 (by omega)]; exact hf)
theorem sim_read {F : Nat} (hF : 2000 ≤ F) (μ ρ : Mem) (a1 : Int32) (h : Rel μ ρ) : ∃ (r : Int32) (μ2 ρ2 : Mem), f_X11_read F μ a1 = some (r, μ2) ∧ f_X12_read F ρ a1 = some (r, ρ2) ∧ Rel μ2 ρ2 := by
  unfold f_X11_read f_X12_read f_X11_findingOf f_X12_met
  rw [sh_C, sh_R]
  simp only [calp, cal, bnd]
  by_cases w1 : wi a1 0 3 = true
  · rw [w1]
    obtain ⟨j, hj, rfl⟩ := wi_nat (n := 3) rfl (by decide) w1
    simp only [if_true, show ¬ (1 : Int32) = 0 by decide, if_false, not_false_eq_true, ck_in (show j < 4 by omega) (by decide), nI_clamp (show j < 2 ^ 31 by omega)]
    have ws := h.1.2.2.2.1 j (by omega)
    rcases (h.2.2.2.2.1.2 j (by omega)).2 with ⟨l1, l2⟩ | ⟨l1, l2, l3, l4⟩
    · rw [l1, l2]
      exact ⟨_, _, _, rfl, rfl, rel_find h 1⟩
    · have hge : 0 ≤ ρ.1 1 j := by
        rcases ws.1 with q | q | q | q
        · exact absurd q l2
        · rw [q]; decide
        · rw [q]; decide
        · rw [q]; decide
      rw [l1, if_pos hge, if_pos rfl]
      exact rd2_loop hF (by omega) ws.2.2 F 0 μ ρ (by omega) (by omega) h rfl l2
  · rw [Bool.not_eq_true] at w1
    rw [w1]
    exact ⟨-2, μ, ρ, rfl, rfl, h⟩
