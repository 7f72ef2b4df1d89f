theorem sim_answer {F : Nat} (hF : 2000 ≤ F) (μ ρ : Mem) (a1 a2 a3 : Int32) (h : Rel μ ρ) : ∃ (r : Int32) (μ2 ρ2 : Mem), f_X11_answer F μ a1 a2 a3 = some (r, μ2) ∧ f_X12_answer F ρ a1 a2 a3 = some (r, ρ2) ∧ Rel μ2 ρ2 := by
  unfold f_X11_answer f_X12_answer f_X12_isDay f_X0_tell
  rw [hn_eq h, in_nm h.1 (SmR.rf ρ), wi_eq, wi_eq, in_eq F a2 (-1) 10000 (A := -1) (B := 10000) rfl rfl, in_eq F a3 0 399 (A := 0) (B := 399) rfl rfl]
  by_cases w1 : wi a1 0 (nI (nm ρ) - 1) = true
  · by_cases w2 : wi a2 (-1) 10000 = true
    · by_cases w3 : wi a3 0 399 = true
      · obtain ⟨k, hk, rfl⟩ := wi_nm h.1 w1
        obtain ⟨d, hd, rfl⟩ := wi_nat (n := 399) rfl (by decide) w3
        have hs := SmR.rf ρ
        have hN := rw_N h.1
        obtain ⟨n0, n1⟩ := rw_an h.1 hs
        obtain ⟨s0, s1⟩ := rw_as h.1 hs
        obtain ⟨c1, c2, c3⟩ := h.2.2.1
        rw [w1, w2, w3]
        by_cases full : an ρ = 120
        · refine ⟨-4, μ, ρ, ?_, ?_, h⟩
          · simp (disch := omega) only [xbn, ite_not, br_le_t, br_le_f, br_lt_t, br_lt_f, br_eq_t, br_eq_f, br_le0_t, br_le0_f, br_lt1_t, br_lt1_f, br_1le_t, br_1le_f, br_eq0_t, br_eq0_f, br_eq1_t, br_eq1_f, br_0le, br_lt0, br_0lt_t, br_0lt_f, br_m1, iof, i_2, i_3, i_4, i_8, i_9, i_10, i_20, i_30, i_90, i_120, i_256, cl_0, cl_1, cl_2, cl_3, Int32.add_zero, nI_add, nI_1, pk_mul, nI_s1, sb_m1, ck_in, ck_0, ck_1, nI_clamp, xcp, xca, xbn, if_true, show ¬ (1 : Int32) = 0 by decide, if_false, c1, n0]
          · simp (disch := omega) only [xbn, ite_not, br_le_t, br_le_f, br_lt_t, br_lt_f, br_eq_t, br_eq_f, br_le0_t, br_le0_f, br_lt1_t, br_lt1_f, br_1le_t, br_1le_f, br_eq0_t, br_eq0_f, br_eq1_t, br_eq1_f, br_0le, br_lt0, br_0lt_t, br_0lt_f, br_m1, iof, i_2, i_3, i_4, i_8, i_9, i_10, i_20, i_30, i_90, i_120, i_256, cl_0, cl_1, cl_2, cl_3, Int32.add_zero, nI_add, nI_1, pk_mul, nI_s1, sb_m1, ck_in, ck_0, ck_1, nI_clamp, xcp, xca, xbn, if_true, show ¬ (1 : Int32) = 0 by decide, if_false, n0, zk01, show zk (1 : Int32) (some (1 : Int32)) = some 1 from rfl]
        · have v2 : -1 ≤ a2.toInt ∧ a2.toInt ≤ 10000 := by
            have q : -1 ≤ a2 ∧ a2 ≤ 10000 := by simpa [wi] using w2
            exact ⟨Int32.le_iff_toInt_le.mp q.1, Int32.le_iff_toInt_le.mp q.2⟩
          obtain ⟨ρ2, hρ2⟩ : ∃ ρ2, ρ2 = ui (ui (ui (ui ρ 9 (an ρ) (nI k)) 10 (an ρ) a2) 11 (an ρ) (nI d)) 0 10 (nI (an ρ + 1)) := ⟨_, rfl⟩
          have g0 : ∀ j, ρ2.1 0 j = if j = 10 then nI (an ρ + 1) else ρ.1 0 j := fun j => by rw [hρ2, ui_at, ui_c (by omega), ui_c (by omega), ui_c (by omega)]
          have g9 : ∀ j, ρ2.1 9 j = if j = an ρ then nI k else ρ.1 9 j := fun j => by rw [hρ2, ui_c (by omega), ui_c (by omega), ui_c (by omega), ui_at]
          have g10 : ∀ j, ρ2.1 10 j = if j = an ρ then a2 else ρ.1 10 j := fun j => by rw [hρ2, ui_c (by omega), ui_c (by omega), ui_at, ui_c (by omega)]
          have g11 : ∀ j, ρ2.1 11 j = if j = an ρ then nI d else ρ.1 11 j := fun j => by rw [hρ2, ui_c (by omega), ui_at, ui_c (by omega), ui_c (by omega)]
          have go : ∀ c j, c ≠ 9 → c ≠ 10 → c ≠ 11 → c ≠ 0 → ρ2.1 c j = ρ.1 c j := fun c j q1 q2 q3 q4 => by rw [hρ2, ui_c q4, ui_c q3, ui_c q2, ui_c q1]
          have en : an ρ2 = an ρ + 1 := by
            show (ρ2.1 0 10).toNatClampNeg = _
            rw [g0, if_pos rfl, nI_clamp (by omega)]
          have ea : asd ρ2 = asd ρ := by
            show (ρ2.1 0 14).toNatClampNeg = _
            rw [g0, if_neg (by omega)]; rfl
          have em : nm ρ2 = nm ρ := by
            show (ρ2.1 0 5).toNatClampNeg = _
            rw [g0, if_neg (by omega)]; rfl
          have eo : ∀ i, aof ρ2 i = if i = an ρ then k else aof ρ i := fun i => by
            show (ρ2.1 9 i).toNatClampNeg = _
            rw [g9]
            by_cases q : i = an ρ
            · rw [if_pos q, if_pos q, nI_clamp (by omega)]
            · rw [if_neg q, if_neg q]; rfl
          have ed : ∀ i, aday ρ2 i = if i = an ρ then d else aday ρ i := fun i => by
            show (ρ2.1 11 i).toNatClampNeg = _
            rw [g11]
            by_cases q : i = an ρ
            · rw [if_pos q, if_pos q, nI_clamp (by omega)]
            · rw [if_neg q, if_neg q]; rfl
          have hW : WA ρ2 := by
            refine ⟨by omega, by omega, by omega, fun i hi => ?_⟩
            rw [en] at hi
            rw [eo, ed, em]
            by_cases q : i = an ρ
            · rw [if_pos q, if_pos q]; exact ⟨hk, hd⟩
            · rw [if_neg q, if_neg q]; exact ⟨(rw_ao h.1 hs (by omega)).2, (rw_ad h.1 hs (by omega)).2⟩
          obtain ⟨μ1, hμ1⟩ : ∃ μ1, μ1 = ui (ui (ui (ui μ 13 (an ρ) (nI k)) 14 (an ρ) a2) 15 (an ρ) (nI d)) 12 5 (nI (an ρ + 1)) := ⟨_, rfl⟩
          have m12 : ∀ j, μ1.1 12 j = if j = 5 then nI (an ρ + 1) else μ.1 12 j := fun j => by rw [hμ1, ui_at, ui_c (by omega), ui_c (by omega), ui_c (by omega)]
          have m13 : ∀ j, μ1.1 13 j = if j = an ρ then nI k else μ.1 13 j := fun j => by rw [hμ1, ui_c (by omega), ui_c (by omega), ui_c (by omega), ui_at]
          have m14 : ∀ j, μ1.1 14 j = if j = an ρ then a2 else μ.1 14 j := fun j => by rw [hμ1, ui_c (by omega), ui_c (by omega), ui_at, ui_c (by omega)]
          have m15 : ∀ j, μ1.1 15 j = if j = an ρ then nI d else μ.1 15 j := fun j => by rw [hμ1, ui_c (by omega), ui_at, ui_c (by omega), ui_c (by omega)]
          have mo : ∀ c j, c < 12 ∨ 16 ≤ c → μ1.1 c j = μ.1 c j := fun c j q => by rw [hμ1, ui_c (by omega), ui_c (by omega), ui_c (by omega), ui_c (by omega)]
          have hA : AN μ1 ρ2 := by
            refine ⟨by rw [mo 1 10 (by omega), em]; exact cw_n h, by rw [m12, if_pos rfl, en], by rw [m12, if_neg (by omega), ea, c2]; exact s0, fun i hi => ?_⟩
            rw [en] at hi
            rw [m13, m14, m15, eo, ed, g10]
            by_cases q : i = an ρ
            · simp only [q, if_true, and_self]
            · rw [if_neg q, if_neg q, if_neg q, if_neg q, if_neg q, if_neg q, (c3 i (by omega)).1, (c3 i (by omega)).2.1, (c3 i (by omega)).2.2]
              exact ⟨(rw_ao h.1 hs (by omega)).1, rfl, (rw_ad h.1 hs (by omega)).1⟩
          obtain ⟨μ2, e1, i1, i2, i3, i4, i5⟩ := st_eq hF hW hA
          rw [hμ1] at e1
          have t5 : μ2.1 12 5 = nI (an ρ + 1) := by rw [i1 12 5 (by omega) (by omega) (by omega), m12, if_pos rfl]
          refine ⟨nI (an ρ + 1), μ2, ρ2, ?_, ?_, ?_⟩
          · simp (disch := omega) only [xbn, ite_not, br_le_t, br_le_f, br_lt_t, br_lt_f, br_eq_t, br_eq_f, br_le0_t, br_le0_f, br_lt1_t, br_lt1_f, br_1le_t, br_1le_f, br_eq0_t, br_eq0_f, br_eq1_t, br_eq1_f, br_0le, br_lt0, br_0lt_t, br_0lt_f, br_m1, iof, i_2, i_3, i_4, i_8, i_9, i_10, i_20, i_30, i_90, i_120, i_256, cl_0, cl_1, cl_2, cl_3, Int32.add_zero, nI_add, nI_1, pk_mul, nI_s1, sb_m1, ck_in, ck_0, ck_1, nI_clamp, xcp, xca, xbn, ui_c, ui_s, ui_o, ui_2, ul_1, ul_22, ul_s, ul_o, ul_c, ur_1, ur_21, ur_s, if_true, show ¬ (1 : Int32) = 0 by decide, if_false, c1, n0, e1, t5]
          · rw [hρ2]
            simp (disch := omega) only [xbn, ite_not, br_le_t, br_le_f, br_lt_t, br_lt_f, br_eq_t, br_eq_f, br_le0_t, br_le0_f, br_lt1_t, br_lt1_f, br_1le_t, br_1le_f, br_eq0_t, br_eq0_f, br_eq1_t, br_eq1_f, br_0le, br_lt0, br_0lt_t, br_0lt_f, br_m1, iof, i_2, i_3, i_4, i_8, i_9, i_10, i_20, i_30, i_90, i_120, i_256, cl_0, cl_1, cl_2, cl_3, Int32.add_zero, nI_add, nI_1, pk_mul, nI_s1, sb_m1, ck_in, ck_0, ck_1, nI_clamp, xcp, xca, xbn, ui_c, ui_s, ui_o, ui_2, ul_1, ul_22, ul_s, ul_o, ul_c, ur_1, ur_21, ur_s, if_true, show ¬ (1 : Int32) = 0 by decide, if_false, n0, show zk (1 : Int32) (some (1 : Int32)) = some 1 from rfl]
          · refine rel_a h (fun c j q1 q2 q3 => ?_) (by rw [i2, hμ1]; rfl) (fun c j q1 q2 q3 q4 => ?_) ⟨?_, ?_, ?_, fun i hi => ?_⟩ ⟨?_, ?_, fun i hi => ?_⟩ (fun x hx => ?_) ?_
            · rw [i1 c j q1 (by omega) q3, mo c j (by omega)]
            · by_cases e : c = 0
              · subst e; rw [g0, if_neg (q4 rfl).1]
              · exact go c j q1 q2 q3 e
            · rw [g0, if_pos rfl, en]
            · omega
            · rw [g0, if_neg (by omega), ea]; exact ⟨s0, s1⟩
            · rw [en] at hi
              rw [g9, g10, g11, eo, ed, em]
              by_cases q : i = an ρ
              · simp only [q, if_true]
                exact ⟨⟨trivial, hk⟩, v2, trivial, hd⟩
              · simp only [q, if_false]
                exact h.1.2.1.2.2.2 i (by omega)
            · rw [t5, g0, if_pos rfl]
            · rw [i1 12 6 (by omega) (by omega) (by omega), m12, if_neg (by omega), g0, if_neg (by omega)]; exact c2
            · rw [en] at hi
              rw [i1 13 i (by omega) (by omega) (by omega), i1 14 i (by omega) (by omega) (by omega), i1 15 i (by omega) (by omega) (by omega), m13, m14, m15, g9, g10, g11]
              by_cases q : i = an ρ
              · simp only [q, if_true, and_self]
              · simp only [q, if_false]
                exact c3 i (by omega)
            · rw [i3 x (by omega), vl_vA]
            · rw [i5, em]; simp only [vl_vA]
      · rw [Bool.not_eq_true] at w3
        rw [w1, w2, w3]
        exact ⟨-2, μ, ρ, rfl, rfl, h⟩
    · rw [Bool.not_eq_true] at w2
      rw [w1, w2]
      exact ⟨-2, μ, ρ, rfl, rfl, h⟩
  · rw [Bool.not_eq_true] at w1
    rw [w1]
    exact ⟨-2, μ, ρ, rfl, rfl, h⟩
