theorem wr_loop (F : Nat) {N L j d : Nat} (hj : j < 4) (hN : N ≤ 30) (hd : d < 2 ^ 30) : ∀ (n i w : Nat) (μ ρ : Mem), i ≤ N → N < n + i → w ≤ i → Rel μ ρ → nm ρ = N → ss ρ j = L → ¬ ρ.1 1 j = -1 →
    ∃ (r : Int32) (μ2 ρ2 : Mem), f_X11_write_b47 F n μ (nI d) (55 + 2 * j) (nI w) (nI i) = some (r, μ2) ∧ f_X12_write_b38 F n ρ (nI j) (nI d) (nI w) (nI i) = some (r, ρ2) ∧ Rel μ2 ρ2 := by
  intro n
  induction n with
  | zero => intro i w μ ρ h1 h2; exact absurd h2 (by omega)
  | succ n ih =>
    intro i w μ ρ h1 h2 h3 h hnm hss hf
    have c0 := cw_n h
    have e0 := rw_n h.1 (SmR.rf ρ)
    have ws := h.1.2.2.2.1 j hj
    have hs4 := h.2.2.2.2.1.2 j hj
    unfold f_X11_write_b47 f_X12_write_b38 f_X11_write_b88 f_X12_write_b92
    rw [hnm] at c0 e0
    rw [hss] at ws
    have w2 : ρ.1 2 j = nI L := ws.2.1
    have wl : L ≤ 90 := ws.2.2
    by_cases hi : i = N
    · subst hi
      simp (disch := omega) only [bnd, ite_not, br_le_t, br_le_f, br_lt_t, br_lt_f, br_eq_t, br_eq_f, br_le0_t, br_le0_f, br_lt1_t, br_lt1_f, br_1le_t, br_1le_f, br_eq0_t, br_eq0_f, br_eq1_t, br_eq1_f, br_0le, br_lt0, br_0lt_t, br_0lt_f, br_m1, iof, i_2, i_3, i_4, i_8, i_9, i_10, i_20, i_30, i_90, i_120, i_256, cl_0, cl_1, cl_2, cl_3, Int32.add_zero, nI_add, nI_1, pk_mul, nI_s1, sb_m1, ck_in, ck_0, ck_1, nI_clamp, calp, cal, bnd, c0, e0]
      exact ⟨_, _, _, rfl, rfl, h⟩
    · simp (disch := omega) only [bnd, ite_not, br_le_t, br_le_f, br_lt_t, br_lt_f, br_eq_t, br_eq_f, br_le0_t, br_le0_f, br_lt1_t, br_lt1_f, br_1le_t, br_1le_f, br_eq0_t, br_eq0_f, br_eq1_t, br_eq1_f, br_0le, br_lt0, br_0lt_t, br_0lt_f, br_m1, iof, i_2, i_3, i_4, i_8, i_9, i_10, i_20, i_30, i_90, i_120, i_256, cl_0, cl_1, cl_2, cl_3, Int32.add_zero, nI_add, nI_1, pk_mul, nI_s1, sb_m1, ck_in, ck_0, ck_1, nI_clamp, calp, cal, bnd, c0, e0, hs4.1, w2]
      by_cases q : L ≤ w
      · simp (disch := omega) only [bnd, ite_not, br_le_t, br_le_f, br_lt_t, br_lt_f, br_eq_t, br_eq_f, br_le0_t, br_le0_f, br_lt1_t, br_lt1_f, br_1le_t, br_1le_f, br_eq0_t, br_eq0_f, br_eq1_t, br_eq1_f, br_0le, br_lt0, br_0lt_t, br_0lt_f, br_m1, iof, i_2, i_3, i_4, i_8, i_9, i_10, i_20, i_30, i_90, i_120, i_256, cl_0, cl_1, cl_2, cl_3, Int32.add_zero, nI_add, nI_1, pk_mul, nI_s1, sb_m1, ck_in, ck_0, ck_1, nI_clamp, calp, cal, bnd]
        exact ⟨_, _, _, rfl, rfl, h⟩
      · simp (disch := omega) only [bnd, ite_not, br_le_t, br_le_f, br_lt_t, br_lt_f, br_eq_t, br_eq_f, br_le0_t, br_le0_f, br_lt1_t, br_lt1_f, br_1le_t, br_1le_f, br_eq0_t, br_eq0_f, br_eq1_t, br_eq1_f, br_0le, br_lt0, br_0lt_t, br_0lt_f, br_m1, iof, i_2, i_3, i_4, i_8, i_9, i_10, i_20, i_30, i_90, i_120, i_256, cl_0, cl_1, cl_2, cl_3, Int32.add_zero, nI_add, nI_1, pk_mul, nI_s1, sb_m1, ck_in, ck_0, ck_1, nI_clamp, calp, cal, bnd, ii_eq, sh_bit, b1']
        by_cases b : d.testBit i = true
        · simp only [b, if_true, show ¬ (1 : Int32) = 0 by decide, if_false, f_X7_store, f_X12_low, bnd]
          have l3 : μ.1 (55 + 2 * j) 2 = ρ.1 1 j := by
            rcases hs4.2 with ⟨l1, l2⟩ | ⟨l1, l2, l3, l4⟩
            · exact absurd l2 hf
            · exact l3
          rw [l3]
          have next : ∀ v : Int32, ∃ (r : Int32) (μ2 ρ2 : Mem), f_X11_write_b47 F n (ui μ (55 + 2 * j + 1) w v) (nI d) (55 + 2 * j) (nI (w + 1)) (nI (i + 1)) = some (r, μ2) ∧ f_X12_write_b38 F n (ui ρ 3 (90 * j + w) v) (nI j) (nI d) (nI (w + 1)) (nI (i + 1)) = some (r, ρ2) ∧ Rel μ2 ρ2 := fun v => by
            refine ih (i + 1) (w + 1) _ _ (by omega) (by omega) (by omega) (rel_item h hj (by omega) v) ?_ ?_ ?_
            · unfold nm; rw [ui_c (by omega)]; exact hnm
            · unfold ss; rw [ui_c (by omega)]; exact hss
            · rw [ui_c (by omega)]; exact hf
          by_cases f0 : ρ.1 1 j = 0
          · simp (disch := omega) only [bnd, ite_not, br_le_t, br_le_f, br_lt_t, br_lt_f, br_eq_t, br_eq_f, br_le0_t, br_le0_f, br_lt1_t, br_lt1_f, br_1le_t, br_1le_f, br_eq0_t, br_eq0_f, br_eq1_t, br_eq1_f, br_0le, br_lt0, br_0lt_t, br_0lt_f, br_m1, iof, i_2, i_3, i_4, i_8, i_9, i_10, i_20, i_30, i_90, i_120, i_256, cl_0, cl_1, cl_2, cl_3, Int32.add_zero, nI_add, nI_1, pk_mul, nI_s1, sb_m1, ck_in, ck_0, ck_1, nI_clamp, calp, cal, bnd, f0, if_true, if_false, not_true_eq_false]
            exact next _
          · by_cases f1 : ρ.1 1 j = 1
            · simp (disch := omega) only [bnd, ite_not, br_le_t, br_le_f, br_lt_t, br_lt_f, br_eq_t, br_eq_f, br_le0_t, br_le0_f, br_lt1_t, br_lt1_f, br_1le_t, br_1le_f, br_eq0_t, br_eq0_f, br_eq1_t, br_eq1_f, br_0le, br_lt0, br_0lt_t, br_0lt_f, br_m1, iof, i_2, i_3, i_4, i_8, i_9, i_10, i_20, i_30, i_90, i_120, i_256, cl_0, cl_1, cl_2, cl_3, Int32.add_zero, nI_add, nI_1, pk_mul, nI_s1, sb_m1, ck_in, ck_0, ck_1, nI_clamp, calp, cal, bnd, f1, show ¬ (1 : Int32) = 0 by decide, if_true, if_false, not_true_eq_false, not_false_eq_true]
              exact next _
            · simp (disch := omega) only [bnd, ite_not, br_le_t, br_le_f, br_lt_t, br_lt_f, br_eq_t, br_eq_f, br_le0_t, br_le0_f, br_lt1_t, br_lt1_f, br_1le_t, br_1le_f, br_eq0_t, br_eq0_f, br_eq1_t, br_eq1_f, br_0le, br_lt0, br_0lt_t, br_0lt_f, br_m1, iof, i_2, i_3, i_4, i_8, i_9, i_10, i_20, i_30, i_90, i_120, i_256, cl_0, cl_1, cl_2, cl_3, Int32.add_zero, nI_add, nI_1, pk_mul, nI_s1, sb_m1, ck_in, ck_0, ck_1, nI_clamp, calp, cal, bnd, f0, f1, if_false, if_true, not_false_eq_true]
              exact next _
        · simp only [b, if_false, if_true, bnd]
          exact ih (i + 1) w μ ρ (by omega) (by omega) (by omega) h hnm hss hf
theorem sim_write {F : Nat} (hF : 2000 ≤ F) (μ ρ : Mem) (a1 a2 : Int32) (h : Rel μ ρ) : ∃ (r : Int32) (μ2 ρ2 : Mem), f_X11_write F μ a1 a2 = some (r, μ2) ∧ f_X12_write F ρ a1 a2 = some (r, ρ2) ∧ Rel μ2 ρ2 := by
  have hN := rw_N h.1
  unfold f_X11_write f_X12_write f_X11_findingOf f_X12_met
  rw [sh_C, sh_R, ha_eq h, id_eq hF h.1 (SmR.rf ρ)]
  simp only [calp, cal, bnd]
  by_cases w1 : wi a1 0 3 = true
  · rw [w1]
    by_cases w : wi a2 0 (nI (2 ^ nm ρ - 1)) = true
    · rw [w]
      obtain ⟨d, hd, rfl⟩ := wi_draw hN w
      have hd2 := Nat.lt_of_lt_of_le hd (pow_le30 hN)
      obtain ⟨j, hj, rfl⟩ := wi_nat (n := 3) rfl (by decide) w1
      simp only [if_true, show ¬ (1 : Int32) = 0 by decide, if_false, not_false_eq_true, ck_in (show j < 4 by omega) (by decide), nI_clamp (show j < 2 ^ 31 by omega)]
      have ws := h.1.2.2.2.1 j (by omega)
      rcases (h.2.2.2.2.1.2 j (by omega)).2 with ⟨l1, l2⟩ | ⟨l1, l2, l3, l4⟩
      · rw [l1, l2]
        exact ⟨_, _, _, rfl, rfl, rel_find h 1⟩
      · have hge : 0 ≤ ρ.1 1 j := by
          rcases ws.1 with q | q | q | q
          · exact absurd q l2
          · rw [q]; decide
          · rw [q]; decide
          · rw [q]; decide
        rw [l1, if_pos hge, if_pos rfl]
        exact wr_loop F (by omega) hN hd2 F 0 0 μ ρ (by omega) (by omega) (by omega) h rfl rfl l2
    · rw [Bool.not_eq_true] at w
      rw [w]
      exact ⟨-2, μ, ρ, rfl, rfl, h⟩
  · rw [Bool.not_eq_true] at w1
    rw [w1]
    exact ⟨-2, μ, ρ, rfl, rfl, h⟩
