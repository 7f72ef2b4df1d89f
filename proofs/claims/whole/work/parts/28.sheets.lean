/-! sheets: a new one, copied, written -/
theorem w3 {x : Int32} (h : wi x 0 2 = true) : x = 0 ∨ x = 1 ∨ x = 2 := by
  obtain ⟨j, hj, rfl⟩ := wi_nat (n := 2) rfl (by decide) h
  rcases (show j = 0 ∨ j = 1 ∨ j = 2 by omega) with rfl | rfl | rfl
  · exact Or.inl rfl
  · exact Or.inr (Or.inl rfl)
  · exact Or.inr (Or.inr rfl)
theorem sim_sheet {F : Nat} (hF : 2000 ≤ F) (μ ρ : Mem) (a1 a2 a3 : Int32) (h : Rel μ ρ) : ∃ (r : Int32) (μ2 ρ2 : Mem), f_X11_sheet F μ a1 a2 a3 = some (r, μ2) ∧ f_X12_sheet F ρ a1 a2 a3 = some (r, ρ2) ∧ Rel μ2 ρ2 := by
  unfold f_X11_sheet f_X12_sheet f_X7_renew f_X11_findingOf f_X12_met
  rw [sh_C, sh_R, fo_C, in_eq F a2 0 2 (A := 0) (B := 2) rfl rfl]
  simp only [calp]
  by_cases w1 : wi a1 0 3 = true
  · rw [w1]
    by_cases w2 : wi a2 0 2 = true
    · rw [w2]
      obtain ⟨j, hj, rfl⟩ := wi_nat (n := 3) rfl (by decide) w1
      simp only [if_true, show ¬ (1 : Int32) = 0 by decide, if_false, ck_in (show j < 4 by omega) (by decide), nI_clamp (show j < 2 ^ 31 by omega), bnd]
      by_cases q : a3 ≤ 90
      · rw [if_pos q, if_pos q]
        by_cases q0 : 0 ≤ a3
        · rw [if_pos q0, if_pos q0]
          obtain ⟨n, hn, rfl⟩ := wi_nat (x := a3) (n := 90) (b := 90) rfl (by decide) (by simp [wi]; exact ⟨q0, q⟩)
          obtain ⟨μ2, e1, e2, e3, e4⟩ := rn_loop F (55 + 2 * j) F 0 (ui (ui (ui μ (55 + 2 * j) 1 0) (55 + 2 * j) 2 a2) (55 + 2 * j) 3 (nI n)) (by omega) (by omega)
          obtain ⟨ρ2, f1, f2, f3, f4⟩ := rs_loop F (s := j) (m := n) (by omega) hn F 0 (ui (ui ρ 1 j a2) 2 j (nI n)) (by omega) (by omega)
          have e1' : f_X7_renew_b17 F F (ui (ui (ui μ (55 + 2 * j) 1 0) (55 + 2 * j) 2 a2) (55 + 2 * j) 3 (nI n)) (55 + 2 * j) 0 = some ((), μ2) := e1
          have f1' : f_X12_sheet_b55 F F (ui (ui ρ 1 j a2) 2 j (nI n)) (nI j) (nI n) 0 = some (nI n, ρ2) := f1
          refine ⟨nI n, μ2, ρ2, by rw [e1']; rfl, f1', ?_⟩
          have g1 : ∀ s, ρ2.1 1 s = if s = j then a2 else ρ.1 1 s := fun s => by rw [f3 1 (by omega), ui_c (by omega), ui_at]
          have g2 : ∀ s, ρ2.1 2 s = if s = j then nI n else ρ.1 2 s := fun s => by rw [f3 2 (by omega), ui_at, ui_c (by omega)]
          have g3 : ∀ s, ss ρ2 s = if s = j then n else ss ρ s := fun s => by
            unfold ss
            rw [g2]
            by_cases es : s = j
            · rw [if_pos es, if_pos es, nI_clamp (by omega)]
            · rw [if_neg es, if_neg es]
          have ha := w3 w2
          refine rel_s h (fun c q _ i => ?_) ?_ (fun c q i => ?_) (fun i _ => ?_) (fun s hs => ?_) ⟨?_, fun s hs => ?_⟩
          · rw [e3 c (by omega), ui_c (by omega), ui_c (by omega), ui_c (by omega)]
          · rw [e2]; rfl
          · rw [f3 c (by omega), ui_c (by omega), ui_c (by omega)]
          · rw [f3 0 (by omega), ui_c (by omega), ui_c (by omega)]
          · rw [g1, g2, g3]
            by_cases es : s = j
            · rw [if_pos es, if_pos es, if_pos es]
              exact ⟨Or.inr ha, rfl, hn⟩
            · rw [if_neg es, if_neg es, if_neg es]
              exact h.1.2.2.2.1 s hs
          · rw [e3 0 (by omega), f3 0 (by omega), ui_c (by omega), ui_c (by omega), ui_c (by omega), ui_c (by omega), ui_c (by omega)]
            exact h.2.2.2.2.1.1
          · rw [g1, g2, g3]
            by_cases es : s = j
            · subst es
              rw [if_pos rfl, if_pos rfl, if_pos rfl]
              refine ⟨by rw [e3 _ (by omega), ui_s], Or.inr ⟨?_, ?_, ?_, fun i hi => ?_⟩⟩
              · rw [e3 _ (by omega), ui_o (by omega), ui_o (by omega), ui_s]
              · rcases ha with rfl | rfl | rfl <;> decide
              · rw [e3 _ (by omega), ui_o (by omega), ui_s]
              · rw [e4, if_pos (by omega), f4, if_pos (by omega)]
            · rw [if_neg es, if_neg es, if_neg es]
              have h4 := h.2.2.2.2.1.2 s hs
              have hl := (h.1.2.2.2.1 s hs).2.2
              rw [e3 _ (by omega), ui_c (by omega), ui_c (by omega), ui_c (by omega), e3 _ (by omega), ui_c (by omega), ui_c (by omega), ui_c (by omega), e3 _ (by omega), ui_c (by omega), ui_c (by omega), ui_c (by omega)]
              refine ⟨h4.1, ?_⟩
              rcases h4.2 with r | ⟨r1, r2, r3, r4⟩
              · exact Or.inl r
              · refine Or.inr ⟨r1, r2, r3, fun i hi => ?_⟩
                rw [e3 _ (by omega), ui_c (by omega), ui_c (by omega), ui_c (by omega), f4, if_neg (by omega), ui_c (by omega), ui_c (by omega)]
                exact r4 i hi
        · rw [if_neg q0, if_neg q0]
          exact ⟨_, _, _, rfl, rfl, rel_find h 5⟩
      · rw [if_neg q, if_neg q]
        exact ⟨-2, μ, ρ, rfl, rfl, h⟩
    · rw [Bool.not_eq_true] at w2
      rw [w2]
      exact ⟨-2, μ, ρ, rfl, rfl, h⟩
  · rw [Bool.not_eq_true] at w1
    rw [w1]
    exact ⟨-2, μ, ρ, rfl, rfl, h⟩
/-- the reference's copy: out of the sheet, then into the other -/
theorem cp1 (F : Nat) {s i t j m : Nat} (hs : s < 4) (him : i + m ≤ 90) : ∀ (n a : Nat) (ρ : Mem), a ≤ m → m < n + a → ∃ ρ2, f_X12_copy_b120 F n ρ (nI s) (nI i) (nI t) (nI j) (nI m) (nI a) = f_X12_copy_b157 F F ρ2 (nI t) (nI j) (nI m) 0 ∧ ρ2.2 = ρ.2 ∧ (∀ c, c ≠ 4 → ρ2.1 c = ρ.1 c) ∧ ∀ b, ρ2.1 4 b = if a ≤ b ∧ b < m then ρ.1 3 (90 * s + i + b) else ρ.1 4 b := by
  intro n
  induction n with
  | zero => intro a ρ h1 h2; exact absurd h2 (by omega)
  | succ n ih =>
    intro a ρ h1 h2
    unfold f_X12_copy_b120
    by_cases ha : a = m
    · subst ha
      simp (disch := omega) only [bnd, ite_not, br_le_t, br_le_f, br_lt_t, br_lt_f, br_eq_t, br_eq_f, br_le0_t, br_le0_f, br_lt1_t, br_lt1_f, br_1le_t, br_1le_f, br_eq0_t, br_eq0_f, br_eq1_t, br_eq1_f, br_0le, br_lt0, br_0lt_t, br_0lt_f, br_m1, iof, i_2, i_3, i_4, i_8, i_9, i_10, i_20, i_30, i_90, i_120, i_256, cl_0, cl_1, cl_2, cl_3, Int32.add_zero, nI_add, nI_1, pk_mul, nI_s1, sb_m1, ck_in, ck_0, ck_1, nI_clamp, calp, cal, bnd]
      refine ⟨ρ, rfl, rfl, fun _ _ => rfl, fun b => ?_⟩
      rw [if_neg (by omega)]
    · simp (disch := omega) only [bnd, ite_not, br_le_t, br_le_f, br_lt_t, br_lt_f, br_eq_t, br_eq_f, br_le0_t, br_le0_f, br_lt1_t, br_lt1_f, br_1le_t, br_1le_f, br_eq0_t, br_eq0_f, br_eq1_t, br_eq1_f, br_0le, br_lt0, br_0lt_t, br_0lt_f, br_m1, iof, i_2, i_3, i_4, i_8, i_9, i_10, i_20, i_30, i_90, i_120, i_256, cl_0, cl_1, cl_2, cl_3, Int32.add_zero, nI_add, nI_1, pk_mul, nI_s1, sb_m1, ck_in, ck_0, ck_1, nI_clamp, calp, cal, bnd]
      obtain ⟨ρ2, e1, e2, e3, e4⟩ := ih (a + 1) (ui ρ 4 a (ρ.1 3 (90 * s + i + a))) (by omega) (by omega)
      refine ⟨ρ2, e1, e2, fun c hc => by rw [e3 c hc, ui_ne hc], fun b => ?_⟩
      rw [e4, ui_at, ui_c (by omega)]
      by_cases q : b = a
      · subst q
        rw [if_neg (by omega), if_pos rfl, if_pos (by omega)]
      · rw [if_neg q]
        by_cases q2 : a + 1 ≤ b ∧ b < m
        · rw [if_pos q2, if_pos (by omega)]
        · rw [if_neg q2, if_neg (by omega)]
theorem cp2 (F : Nat) {t j m : Nat} (ht : t < 4) (hjm : j + m ≤ 90) : ∀ (n a : Nat) (ρ : Mem), a ≤ m → m < n + a → ∃ ρ2, f_X12_copy_b157 F n ρ (nI t) (nI j) (nI m) (nI a) = some (1, ρ2) ∧ ρ2.2 = ρ.2 ∧ (∀ c, c ≠ 3 → ρ2.1 c = ρ.1 c) ∧ ∀ b, ρ2.1 3 b = if 90 * t + j + a ≤ b ∧ b < 90 * t + j + m then ρ.1 4 (b - (90 * t + j)) else ρ.1 3 b := by
  intro n
  induction n with
  | zero => intro a ρ h1 h2; exact absurd h2 (by omega)
  | succ n ih =>
    intro a ρ h1 h2
    unfold f_X12_copy_b157
    by_cases ha : a = m
    · subst ha
      simp (disch := omega) only [bnd, ite_not, br_le_t, br_le_f, br_lt_t, br_lt_f, br_eq_t, br_eq_f, br_le0_t, br_le0_f, br_lt1_t, br_lt1_f, br_1le_t, br_1le_f, br_eq0_t, br_eq0_f, br_eq1_t, br_eq1_f, br_0le, br_lt0, br_0lt_t, br_0lt_f, br_m1, iof, i_2, i_3, i_4, i_8, i_9, i_10, i_20, i_30, i_90, i_120, i_256, cl_0, cl_1, cl_2, cl_3, Int32.add_zero, nI_add, nI_1, pk_mul, nI_s1, sb_m1, ck_in, ck_0, ck_1, nI_clamp, calp, cal, bnd]
      refine ⟨ρ, rfl, rfl, fun _ _ => rfl, fun b => ?_⟩
      rw [if_neg (by omega)]
    · simp (disch := omega) only [bnd, ite_not, br_le_t, br_le_f, br_lt_t, br_lt_f, br_eq_t, br_eq_f, br_le0_t, br_le0_f, br_lt1_t, br_lt1_f, br_1le_t, br_1le_f, br_eq0_t, br_eq0_f, br_eq1_t, br_eq1_f, br_0le, br_lt0, br_0lt_t, br_0lt_f, br_m1, iof, i_2, i_3, i_4, i_8, i_9, i_10, i_20, i_30, i_90, i_120, i_256, cl_0, cl_1, cl_2, cl_3, Int32.add_zero, nI_add, nI_1, pk_mul, nI_s1, sb_m1, ck_in, ck_0, ck_1, nI_clamp, calp, cal, bnd]
      obtain ⟨ρ2, e1, e2, e3, e4⟩ := ih (a + 1) (ui ρ 3 (90 * t + j + a) (ρ.1 4 a)) (by omega) (by omega)
      refine ⟨ρ2, e1, e2, fun c hc => by rw [e3 c hc, ui_ne hc], fun b => ?_⟩
      rw [e4, ui_at, ui_c (by omega)]
      by_cases q : b = 90 * t + j + a
      · rw [if_neg (by omega), if_pos q, if_pos (by omega), show b - (90 * t + j) = a by omega]
      · rw [if_neg q]
        by_cases q2 : 90 * t + j + (a + 1) ≤ b ∧ b < 90 * t + j + m
        · rw [if_pos q2, if_pos (by omega)]
        · rw [if_neg q2, if_neg (by omega)]
/-- whether there are n items from i on: the class's reaches -/
theorem re_eq (F : Nat) (μ : Mem) (t : Nat) {L : Nat} (hl : μ.1 t 3 = nI L) (hL : L ≤ 90) (x y : Int32) : f_X7_reaches F μ t x y = some (if 0 ≤ x ∧ 0 ≤ y ∧ (lg_cmp (x.toInt64 + y.toInt64) (nI L).toInt64 ≤ 0) then 1 else 0, μ) := by
  unfold f_X7_reaches
  rw [hl]
  simp only [bnd]
  by_cases hx : x < 0
  · rw [if_pos hx, if_neg (fun q => absurd hx (Int32.not_lt.mpr q.1))]
  · by_cases hy : y < 0
    · rw [if_neg hx, if_pos hy, if_neg (fun q => absurd hy (Int32.not_lt.mpr q.2.1))]
    · rw [if_neg hx, if_neg hy]
      obtain ⟨a, ha, rfl⟩ := nI_of hx
      obtain ⟨b, hb, rfl⟩ := nI_of hy
      have e : lg_cmp ((nI a).toInt64 + (nI b).toInt64) (nI L).toInt64 ≤ 0 ↔ a + b ≤ L := by
        rw [nI_l ha, nI_l hb, nI_l (by omega), lN_add, lgle, pk_lLE (by omega) (by omega)]
      by_cases q1 : L < a
      · rw [if_pos (nI_lt q1 ha), if_neg (fun q => absurd (e.mp q.2.2) (by omega))]
      · rw [if_neg (nI_nlt (by omega) (by omega)), pk_sub (by omega)]
        by_cases q2 : L - a < b
        · rw [if_pos (nI_lt q2 hb), if_neg (fun q => absurd (e.mp q.2.2) (by omega))]
        · rw [if_neg (nI_nlt (by omega) (by omega)), if_pos ⟨nI_pos' ha, nI_pos' hb, e.mpr (by omega)⟩]
theorem sim_copy {F : Nat} (hF : 2000 ≤ F) (μ ρ : Mem) (a1 a2 a3 a4 a5 : Int32) (h : Rel μ ρ) : ∃ (r : Int32) (μ2 ρ2 : Mem), f_X11_copy F μ a1 a2 a3 a4 a5 = some (r, μ2) ∧ f_X12_copy F ρ a1 a2 a3 a4 a5 = some (r, ρ2) ∧ Rel μ2 ρ2 := by
  unfold f_X11_copy f_X12_copy f_X11_copy_b97 f_X11_copy_b49 f_X12_copy_b111 f_X12_copy_b35 f_X11_findingOf f_X12_met
  rw [sh_C, sh_R, sh_C, sh_R]
  simp only [calp, cal, bnd]
  by_cases w1 : wi a1 0 3 = true
  · by_cases w2 : wi a3 0 3 = true
    · rw [w1, w2]
      obtain ⟨s, hs, rfl⟩ := wi_nat (n := 3) rfl (by decide) w1
      obtain ⟨t, ht, rfl⟩ := wi_nat (n := 3) rfl (by decide) w2
      simp only [if_true, show ¬ (1 : Int32) = 0 by decide, if_false, not_false_eq_true, ck_in (show s < 4 by omega) (by decide), nI_clamp (show s < 2 ^ 31 by omega), ck_in (show t < 4 by omega) (by decide), nI_clamp (show t < 2 ^ 31 by omega)]
      have ws := h.1.2.2.2.1 s (by omega)
      have wt := h.1.2.2.2.1 t (by omega)
      have hs4 := h.2.2.2.2.1.2 s (by omega)
      have ht4 := h.2.2.2.2.1.2 t (by omega)
      rcases hs4.2 with ⟨l1, l2⟩ | ⟨l1, l2, l3, l4⟩
      · rw [l1, l2]
        exact ⟨_, _, _, rfl, rfl, rel_find h 1⟩
      · have hge : ¬ ρ.1 1 s < 0 := by
          rcases ws.1 with q | q | q | q
          · exact absurd q l2
          · rw [q]; decide
          · rw [q]; decide
          · rw [q]; decide
        rw [l1, if_neg hge]
        simp only [if_true, not_true_eq_false, if_false]
        rcases ht4.2 with ⟨k1, k2⟩ | ⟨k1, k2, k3, k4⟩
        · rw [k1, k2]
          exact ⟨_, _, _, rfl, rfl, rel_find h 1⟩
        · have hge2 : 0 ≤ ρ.1 1 t := by
            rcases wt.1 with q | q | q | q
            · exact absurd q k2
            · rw [q]; decide
            · rw [q]; decide
            · rw [q]; decide
          rw [k1, l3, k3, if_pos rfl, if_pos hge2]
          by_cases e : ρ.1 1 s = ρ.1 1 t
          · rw [if_pos e, if_pos e]
            simp only [re_eq F μ _ (hs4.1.trans ws.2.1) ws.2.2, re_eq F μ _ (ht4.1.trans wt.2.1) wt.2.2, ws.2.1, wt.2.1]
            by_cases n2 : a2 < 0
            · rw [if_pos n2, if_neg (show ¬ (0 ≤ a2 ∧ 0 ≤ a5 ∧ lg_cmp (a2.toInt64 + a5.toInt64) (nI (ss ρ s)).toInt64 ≤ 0) from fun q => absurd n2 (Int32.not_lt.mpr q.1))]
              exact ⟨_, _, _, rfl, rfl, rel_find h 2⟩
            · by_cases n4 : a4 < 0
              · rw [if_neg n2, if_pos n4, if_neg (show ¬ (0 ≤ a4 ∧ 0 ≤ a5 ∧ lg_cmp (a4.toInt64 + a5.toInt64) (nI (ss ρ t)).toInt64 ≤ 0) from fun q => absurd n4 (Int32.not_lt.mpr q.1))]
                by_cases c1 : (0 ≤ a2 ∧ 0 ≤ a5 ∧ lg_cmp (a2.toInt64 + a5.toInt64) (nI (ss ρ s)).toInt64 ≤ 0)
                · rw [if_pos c1]; exact ⟨_, _, _, rfl, rfl, rel_find h 2⟩
                · rw [if_neg c1]; exact ⟨_, _, _, rfl, rfl, rel_find h 2⟩
              · by_cases n5 : a5 < 0
                · rw [if_neg n2, if_neg n4, if_pos n5, if_neg (show ¬ (0 ≤ a2 ∧ 0 ≤ a5 ∧ lg_cmp (a2.toInt64 + a5.toInt64) (nI (ss ρ s)).toInt64 ≤ 0) from fun q => absurd n5 (Int32.not_lt.mpr q.2.1))]
                  exact ⟨_, _, _, rfl, rfl, rel_find h 2⟩
                · rw [if_neg n2, if_neg n4, if_neg n5]
                  by_cases c1 : lg_cmp (a2.toInt64 + a5.toInt64) (nI (ss ρ s)).toInt64 ≤ 0
                  · rw [if_neg (Int32.not_lt.mpr c1), if_pos (show (0 ≤ a2 ∧ 0 ≤ a5 ∧ lg_cmp (a2.toInt64 + a5.toInt64) (nI (ss ρ s)).toInt64 ≤ 0) from ⟨Int32.not_lt.mp n2, Int32.not_lt.mp n5, c1⟩)]
                    by_cases c2 : lg_cmp (a4.toInt64 + a5.toInt64) (nI (ss ρ t)).toInt64 ≤ 0
                    · rw [if_pos c2, if_pos (show (0 ≤ a4 ∧ 0 ≤ a5 ∧ lg_cmp (a4.toInt64 + a5.toInt64) (nI (ss ρ t)).toInt64 ≤ 0) from ⟨Int32.not_lt.mp n4, Int32.not_lt.mp n5, c2⟩)]
                      obtain ⟨i, hi, rfl⟩ := nI_of n2
                      obtain ⟨j, hj, rfl⟩ := nI_of n4
                      obtain ⟨m, hm, rfl⟩ := nI_of n5
                      rw [nI_l hi, nI_l hm, nI_l (by omega), lN_add, lgle, pk_lLE (by omega) (by omega)] at c1
                      rw [nI_l hj, nI_l hm, nI_l (by omega), lN_add, lgle, pk_lLE (by omega) (by omega)] at c2
                      obtain ⟨ρ1, e1, e2, e3, e4⟩ := cp1 F (s := s) (i := i) (t := t) (j := j) (m := m) (by omega) (by omega) F 0 ρ (by omega) (by omega)
                      obtain ⟨ρ2, f1, f2, f3, f4⟩ := cp2 F (t := t) (j := j) (m := m) (by omega) (by omega) F 0 ρ1 (by omega) (by omega)
                      have e1' : f_X12_copy_b120 F F ρ (nI s) (nI i) (nI t) (nI j) (nI m) 0 = some (1, ρ2) := by
                        rw [show (0 : Int32) = nI 0 from rfl, e1]; exact f1
                      have ha : acp (α := Int32 × Mem) (nI i) (nI j) (nI m) 90 90 = fun k => k () := by
                        funext k
                        unfold acp
                        rw [nI_clamp hi, nI_clamp hj, nI_clamp hm, if_neg]
                        rintro (q | q | q | q | q)
                        · exact n2 q
                        · exact n4 q
                        · exact n5 q
                        · omega
                        · omega
                      simp only [if_true, show ¬ (1 : Int32) = 0 by decide, if_false, not_false_eq_true, ha, nI_clamp hi, nI_clamp hj, nI_clamp hm]
                      refine ⟨1, _, ρ2, rfl, e1', ?_⟩
                      have h1 : Rel μ ρ1 := rel_same h (SmC.rf μ) ⟨fun c hc => e3 c (by omega), by rw [e3 0 (by omega)], by rw [e3 0 (by omega)], by rw [e3 0 (by omega)], by rw [e3 0 (by omega)]⟩
                      have gs : ss ρ2 = ss ρ1 := by funext x; unfold ss; rw [f3 2 (by omega)]
                      have gs1 : ss ρ1 = ss ρ := by funext x; unfold ss; rw [e3 2 (by omega)]
                      have hc : ∀ (c k : Nat) (f : Nat → Int32) (b : Nat), c ≠ k → (uc μ k f).1 c b = μ.1 c b := fun c k f b q => by unfold uc; simp only [if_neg q]
                      have hc2 : ∀ (k : Nat) (f : Nat → Int32) (b : Nat), (uc μ k f).1 k b = f b := fun k f b => by unfold uc; simp only [if_true]
                      refine rel_s h1 (fun c q _ b => hc c _ _ b (by omega)) rfl (fun c q b => by rw [f3 c (by omega)]) (fun b _ => by rw [f3 0 (by omega)]) (fun x hx => ?_) ⟨?_, fun x hx => ?_⟩
                      · rw [gs, f3 1 (by omega), f3 2 (by omega)]
                        exact h1.1.2.2.2.1 x hx
                      · rw [hc _ _ _ _ (by omega), f3 0 (by omega)]
                        exact h1.2.2.2.2.1.1
                      · have h4 := h1.2.2.2.2.1.2 x hx
                        have hl := (h1.1.2.2.2.1 x hx).2.2
                        rw [hc (55 + 2 * x) _ _ _ (by omega), hc (55 + 2 * x) _ _ _ (by omega), hc (55 + 2 * x) _ _ _ (by omega), f3 1 (by omega), f3 2 (by omega), gs]
                        refine ⟨h4.1, ?_⟩
                        rcases h4.2 with r | ⟨r1, r2, r3, r4⟩
                        · exact Or.inl r
                        · refine Or.inr ⟨r1, r2, r3, fun b hb => ?_⟩
                          rw [f4]
                          by_cases ex : x = t
                          · subst ex
                            rw [hc2]
                            by_cases q : j ≤ b ∧ b < j + m
                            · rw [pk_cpy_in q.1 q.2, if_pos (by omega), show 90 * x + b - (90 * x + j) = b - j by omega, e4, if_pos (by omega), l4 (i + (b - j)) (by omega), show 90 * s + i + (b - j) = 90 * s + (i + (b - j)) by omega]
                            · rw [pk_cpy_out (by omega), if_neg (by omega)]
                              exact r4 b hb
                          · rw [hc _ _ _ _ (by omega), if_neg (by omega)]
                            exact r4 b hb
                    · rw [if_neg c2, if_neg (show ¬ (0 ≤ a4 ∧ 0 ≤ a5 ∧ lg_cmp (a4.toInt64 + a5.toInt64) (nI (ss ρ t)).toInt64 ≤ 0) from fun q => c2 q.2.2)]
                      exact ⟨_, _, _, rfl, rfl, rel_find h 2⟩
                  · rw [if_pos (Int32.not_le.mp c1), if_neg (show ¬ (0 ≤ a2 ∧ 0 ≤ a5 ∧ lg_cmp (a2.toInt64 + a5.toInt64) (nI (ss ρ s)).toInt64 ≤ 0) from fun q => c1 q.2.2)]
                    exact ⟨_, _, _, rfl, rfl, rel_find h 2⟩
          · rw [if_neg e, if_neg e]
            exact ⟨_, _, _, rfl, rfl, rel_find h 4⟩
    · rw [Bool.not_eq_true] at w2
      rw [w1, w2]
      exact ⟨-2, μ, ρ, rfl, rfl, h⟩
  · rw [Bool.not_eq_true] at w1
    rw [w1]
    exact ⟨-2, μ, ρ, rfl, rfl, h⟩
