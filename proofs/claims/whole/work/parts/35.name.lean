/-! a name more: name, read -/
/-- the line: places of the new name -/
theorem ll_loop {F : Nat} {s0 sz k : Nat} (hk : k < 30) (hs : s0 + sz ≤ 600) : ∀ (n i : Nat) (μ : Mem), i ≤ sz → sz < n + i → μ.1 4 k = nI sz → μ.1 1 13 = nI (s0 + i) → ∃ μ2, f_X6_layOnLine_b12 F n μ (nI k) (nI i) = some ((), μ2) ∧ μ2.2 = μ.2 ∧ μ2.1 1 13 = nI (s0 + sz) ∧ (∀ c j, c ≠ 11 → (c = 1 → j ≠ 13) → μ2.1 c j = μ.1 c j) ∧ ∀ j, μ2.1 11 j = if s0 + i ≤ j ∧ j < s0 + sz then nI k else μ.1 11 j := by
  intro n
  induction n with
  | zero => intro i μ h1 h2; exact absurd h2 (by omega)
  | succ n ih =>
    intro i μ h1 h2 h3 h4
    unfold f_X6_layOnLine_b12
    by_cases hi : i = sz
    · subst hi
      simp (disch := omega) only [xbn, ite_not, br_le_t, br_le_f, br_lt_t, br_lt_f, br_eq_t, br_eq_f, br_le0_t, br_le0_f, br_lt1_t, br_lt1_f, br_1le_t, br_1le_f, br_eq0_t, br_eq0_f, br_eq1_t, br_eq1_f, br_0le, br_lt0, br_0lt_t, br_0lt_f, br_m1, iof, i_2, i_3, i_4, i_8, i_9, i_10, i_20, i_30, i_90, i_120, i_256, cl_0, cl_1, cl_2, cl_3, Int32.add_zero, nI_add, nI_1, pk_mul, nI_s1, sb_m1, ck_in, ck_0, ck_1, nI_clamp, xcp, xca, xbn, h3]
      refine ⟨μ, rfl, rfl, h4, fun _ _ _ _ => rfl, fun j => ?_⟩
      rw [if_neg (by omega)]
    · simp (disch := omega) only [xbn, ite_not, br_le_t, br_le_f, br_lt_t, br_lt_f, br_eq_t, br_eq_f, br_le0_t, br_le0_f, br_lt1_t, br_lt1_f, br_1le_t, br_1le_f, br_eq0_t, br_eq0_f, br_eq1_t, br_eq1_f, br_0le, br_lt0, br_0lt_t, br_0lt_f, br_m1, iof, i_2, i_3, i_4, i_8, i_9, i_10, i_20, i_30, i_90, i_120, i_256, cl_0, cl_1, cl_2, cl_3, Int32.add_zero, nI_add, nI_1, pk_mul, nI_s1, sb_m1, ck_in, ck_0, ck_1, nI_clamp, xcp, xca, xbn, ui_c, ui_s, ui_o, ui_2, ul_1, ul_22, ul_s, ul_o, ul_c, ur_1, ur_21, ur_s, h3, h4]
      obtain ⟨μ2, e1, e2, e3, e4, e5⟩ := ih (i + 1) (ui (ui μ 11 (s0 + i) (nI k)) 1 13 (nI (s0 + i + 1))) (by omega) (by omega) (by rw [ui_c (by omega), ui_c (by omega)]; exact h3) (by rw [ui_s]; rfl)
      refine ⟨μ2, e1, e2, e3, fun c j q1 q2 => ?_, fun j => ?_⟩
      · rw [e4 c j q1 q2]
        by_cases e : c = 1
        · subst e; rw [ui_o (q2 rfl), ui_c (by omega)]
        · rw [ui_c e, ui_c q1]
      · rw [e5, ui_c (by omega), ui_at]
        by_cases q : j = s0 + i
        · subst q
          rw [if_neg (by omega), if_pos rfl, if_pos (by omega)]
        · rw [if_neg q]
          by_cases q2 : s0 + (i + 1) ≤ j ∧ j < s0 + sz
          · rw [if_pos q2, if_pos (by omega)]
          · rw [if_neg q2, if_neg (by omega)]
theorem vl_new {W : Mem} (hw : WF W) {k : Nat} (hk : nm W ≤ k) : vl W k = -1 := by
  rw [vl_bst]
  have : ∀ a, a ≤ an W → bst W k a = none := by
    intro a
    induction a with
    | zero => intro _; rfl
    | succ a ih =>
      intro ha
      rw [bst, if_neg, ih (by omega)]
      intro q
      have := (rw_ao hw (SmR.rf W) (i := a) (by omega)).2
      omega
  rw [this _ (Nat.le_refl _)]
theorem ssz_mono (W : Mem) : ∀ {a b : Nat}, a ≤ b → ssz W a ≤ ssz W b := by
  intro a b h
  obtain ⟨d, rfl⟩ := Nat.le.dest h
  induction d with
  | zero => exact Nat.le_refl _
  | succ d ih => exact Nat.le_trans (ih (by omega)) (Nat.le_add_right _ _)
/-- one name more on both sides: as Sim wants it, with the answer told apart -/
theorem en_eq {F : Nat} (hF : 2000 ≤ F) (μ ρ : Mem) (a1 a2 a3 a4 : Int32) (h : Rel μ ρ) : ∃ (r : Int32) (μ2 ρ2 : Mem), f_X6_enter F μ a1 a2 a3 a4 = some (r, μ2) ∧ f_X12_name F ρ a1 a2 a3 a4 = some (r, ρ2) ∧ Rel μ2 ρ2 ∧ (∀ c, (c < 1 ∨ 11 < c) → μ2.1 c = μ.1 c) ∧ (∀ c, (1 ≤ c ∧ c < 5) → ρ2.1 c = ρ.1 c) ∧ (r = -2 ∨ r = -4 ∨ ∃ k, k < 30 ∧ r = nI k) := by
  unfold f_X6_enter f_X12_name f_X6_layOnLine
  rw [wi_eq, wi_eq, wi_eq, wi_eq, in_eq F a1 0 3 (A := 0) (B := 3) rfl rfl, in_eq F a2 0 7 (A := 0) (B := 7) rfl rfl, in_eq F a3 1 20 (A := 1) (B := 20) rfl rfl, in_eq F a4 0 2 (A := 0) (B := 2) rfl rfl]
  by_cases w1 : wi a1 0 3 = true
  · by_cases w2 : wi a2 0 7 = true
    · by_cases w3 : wi a3 1 20 = true
      · by_cases w4 : wi a4 0 2 = true
        · have w3' : wi a3 0 20 = true ∧ ¬ a3 = 0 := by
            have q : 1 ≤ a3 ∧ a3 ≤ 20 := by simpa [wi] using w3
            have q1 := Int32.le_iff_toInt_le.mp q.1
            have o1 : (1 : Int32).toInt = 1 := rfl
            have o0 : (0 : Int32).toInt = 0 := rfl
            refine ⟨?_, fun e => by rw [e, o1, o0] at q1; omega⟩
            have : (0 : Int32) ≤ a3 := Int32.le_iff_toInt_le.mpr (by rw [o0]; omega)
            simp [wi, this, q.2]
          obtain ⟨l, hl, rfl⟩ := wi_nat (n := 3) rfl (by decide) w1
          obtain ⟨c, hc, rfl⟩ := wi_nat (n := 7) rfl (by decide) w2
          obtain ⟨s, hs, rfl⟩ := wi_nat (n := 20) rfl (by decide) w3'.1
          obtain ⟨m, hm, rfl⟩ := wi_nat (n := 2) rfl (by decide) w4
          have hs1 : 1 ≤ s := by
            rcases Nat.eq_zero_or_pos s with q | q
            · subst q; exact absurd rfl w3'.2
            · exact q
          have sr := SmR.rf ρ
          have hN := rw_N h.1
          have e0 := rw_n h.1 sr
          have c0 := cw_n h
          rw [w1, w2, w3, w4]
          by_cases full : nm ρ = 30
          · refine ⟨-4, μ, ρ, ?_, ?_, h, fun _ _ => rfl, fun _ _ => rfl, Or.inr (Or.inl rfl)⟩
            · simp (disch := omega) only [xbn, ite_not, br_le_t, br_le_f, br_lt_t, br_lt_f, br_eq_t, br_eq_f, br_le0_t, br_le0_f, br_lt1_t, br_lt1_f, br_1le_t, br_1le_f, br_eq0_t, br_eq0_f, br_eq1_t, br_eq1_f, br_0le, br_lt0, br_0lt_t, br_0lt_f, br_m1, iof, i_2, i_3, i_4, i_8, i_9, i_10, i_20, i_30, i_90, i_120, i_256, cl_0, cl_1, cl_2, cl_3, Int32.add_zero, nI_add, nI_1, pk_mul, nI_s1, sb_m1, ck_in, ck_0, ck_1, nI_clamp, xcp, xca, xbn, if_true, show ¬ (1 : Int32) = 0 by decide, if_false, c0]
            · simp (disch := omega) only [xbn, ite_not, br_le_t, br_le_f, br_lt_t, br_lt_f, br_eq_t, br_eq_f, br_le0_t, br_le0_f, br_lt1_t, br_lt1_f, br_1le_t, br_1le_f, br_eq0_t, br_eq0_f, br_eq1_t, br_eq1_f, br_0le, br_lt0, br_0lt_t, br_0lt_f, br_m1, iof, i_2, i_3, i_4, i_8, i_9, i_10, i_20, i_30, i_90, i_120, i_256, cl_0, cl_1, cl_2, cl_3, Int32.add_zero, nI_add, nI_1, pk_mul, nI_s1, sb_m1, ck_in, ck_0, ck_1, nI_clamp, xcp, xca, xbn, if_true, show ¬ (1 : Int32) = 0 by decide, if_false, e0]
          · have hlt : nm ρ < 30 := by omega
            have sl := ssz_le ρ h.1 (nm ρ) (Nat.le_refl _)
            obtain ⟨N, hNe⟩ : ∃ N, N = nm ρ := ⟨_, rfl⟩
            rw [← hNe] at e0 c0 full hlt sl hN
            obtain ⟨ρ2, hρ2⟩ : ∃ ρ2, ρ2 = ui (ui (ui (ui (ui ρ 5 N (nI l)) 6 N (nI c)) 7 N (nI s)) 8 N (nI m)) 0 5 (nI (N + 1)) := ⟨_, rfl⟩
            have g0 : ∀ j, ρ2.1 0 j = if j = 5 then nI (N + 1) else ρ.1 0 j := fun j => by rw [hρ2, ui_at, ui_c (by omega), ui_c (by omega), ui_c (by omega), ui_c (by omega)]
            have g5 : ∀ j, ρ2.1 5 j = if j = N then nI l else ρ.1 5 j := fun j => by rw [hρ2, ui_c (by omega), ui_c (by omega), ui_c (by omega), ui_c (by omega), ui_at]
            have g6 : ∀ j, ρ2.1 6 j = if j = N then nI c else ρ.1 6 j := fun j => by rw [hρ2, ui_c (by omega), ui_c (by omega), ui_c (by omega), ui_at, ui_c (by omega)]
            have g7 : ∀ j, ρ2.1 7 j = if j = N then nI s else ρ.1 7 j := fun j => by rw [hρ2, ui_c (by omega), ui_c (by omega), ui_at, ui_c (by omega), ui_c (by omega)]
            have g8 : ∀ j, ρ2.1 8 j = if j = N then nI m else ρ.1 8 j := fun j => by rw [hρ2, ui_c (by omega), ui_at, ui_c (by omega), ui_c (by omega), ui_c (by omega)]
            have go : ∀ x, x ≠ 0 → (x < 5 ∨ 8 < x) → ρ2.1 x = ρ.1 x := fun x q1 q2 => by rw [hρ2, ui_ne (by omega), ui_ne (by omega), ui_ne (by omega), ui_ne (by omega), ui_ne (by omega)]
            have em : nm ρ2 = N + 1 := by
              show (ρ2.1 0 5).toNatClampNeg = _
              rw [g0, if_pos rfl, nI_clamp (by omega)]
            have el : ∀ k, ly ρ2 k = if k = N then l else ly ρ k := fun k => by
              show (ρ2.1 5 k).toNatClampNeg = _
              rw [g5]
              by_cases q : k = N
              · rw [if_pos q, if_pos q, nI_clamp (by omega)]
              · rw [if_neg q, if_neg q]; rfl
            have ec : ∀ k, cu ρ2 k = if k = N then c else cu ρ k := fun k => by
              show (ρ2.1 6 k).toNatClampNeg = _
              rw [g6]
              by_cases q : k = N
              · rw [if_pos q, if_pos q, nI_clamp (by omega)]
              · rw [if_neg q, if_neg q]; rfl
            have es : ∀ k, sz ρ2 k = if k = N then s else sz ρ k := fun k => by
              show (ρ2.1 7 k).toNatClampNeg = _
              rw [g7]
              by_cases q : k = N
              · rw [if_pos q, if_pos q, nI_clamp (by omega)]
              · rw [if_neg q, if_neg q]; rfl
            have ek : ∀ k, mk ρ2 k = if k = N then m else mk ρ k := fun k => by
              show (ρ2.1 8 k).toNatClampNeg = _
              rw [g8]
              by_cases q : k = N
              · rw [if_pos q, if_pos q, nI_clamp (by omega)]
              · rw [if_neg q, if_neg q]; rfl
            have ess : ∀ k, k ≤ N → ssz ρ2 k = ssz ρ k := by
              intro k
              induction k with
              | zero => intro _; rfl
              | succ k ih => intro hk; unfold ssz; rw [ih (by omega), es, if_neg (by omega)]
            have eA : gA ρ ρ2 := ⟨by rw [g0, if_neg (by omega)], by rw [g0, if_neg (by omega)], fun x q1 q2 j => by rw [go x (by omega) (by omega)]⟩
            have eP : gP ρ ρ2 := fun x q1 q2 j => by rw [go x (by omega) (by omega)]
            have eS : gS ρ ρ2 := ⟨by rw [g0, if_neg (by omega)], fun x q1 q2 j => by rw [go x (by omega) (by omega)]⟩
            have eK : gK ρ ρ2 := fun x q1 j => by rw [go x (by omega) (by omega)]
            have hml : ∀ f : Nat → Bool, msk f N < 2 ^ N := fun f => msk_lt f N
            obtain ⟨n1, n2, n3, n4, n5, n6, n7, n8, n9⟩ := h.2.1
            rw [← hNe] at n2 n3 n4 n5 n6 n7 n8 n9
            -- the class's memory before the line is laid
            obtain ⟨μ1, hμ1⟩ : ∃ μ1, μ1 = ui (ui (ui (ui (ui (ui (ui (ui (ui (ui (ui (ui μ 1 10 (nI (N + 1))) 2 N (nI l)) 3 N (nI c)) 4 N (nI s)) 5 N (nI m)) 6 N (-1)) 1 11 (nI (msk (fun _ => true) (N + 1)))) 7 l (nI (msk (fun k => decide (ly ρ2 k = l)) (N + 1)))) 8 c (nI (msk (fun k => decide (cu ρ2 k = c)) (N + 1)))) 9 m (nI (msk (fun k => decide (mk ρ2 k = m)) (N + 1)))) 1 12 (nI (msk (fun x => hasC ρ2 x (N + 1)) 8))) 10 N (nI (ssz ρ N)) := ⟨_, rfl⟩
            have p1 : ∀ j, μ1.1 1 j = if j = 12 then nI (msk (fun x => hasC ρ2 x (N + 1)) 8) else if j = 11 then nI (msk (fun _ => true) (N + 1)) else if j = 10 then nI (N + 1) else μ.1 1 j := fun j => by
              rw [hμ1, ui_c (by omega), ui_at, ui_c (by omega), ui_c (by omega), ui_c (by omega), ui_at, ui_c (by omega), ui_c (by omega), ui_c (by omega), ui_c (by omega), ui_c (by omega), ui_at]
            have p2 : ∀ j, μ1.1 2 j = if j = N then nI l else μ.1 2 j := fun j => by
              rw [hμ1, ui_c (by omega), ui_c (by omega), ui_c (by omega), ui_c (by omega), ui_c (by omega), ui_c (by omega), ui_c (by omega), ui_c (by omega), ui_c (by omega), ui_c (by omega), ui_at, ui_c (by omega)]
            have p3 : ∀ j, μ1.1 3 j = if j = N then nI c else μ.1 3 j := fun j => by
              rw [hμ1, ui_c (by omega), ui_c (by omega), ui_c (by omega), ui_c (by omega), ui_c (by omega), ui_c (by omega), ui_c (by omega), ui_c (by omega), ui_c (by omega), ui_at, ui_c (by omega), ui_c (by omega)]
            have p4 : ∀ j, μ1.1 4 j = if j = N then nI s else μ.1 4 j := fun j => by
              rw [hμ1, ui_c (by omega), ui_c (by omega), ui_c (by omega), ui_c (by omega), ui_c (by omega), ui_c (by omega), ui_c (by omega), ui_c (by omega), ui_at, ui_c (by omega), ui_c (by omega), ui_c (by omega)]
            have p5 : ∀ j, μ1.1 5 j = if j = N then nI m else μ.1 5 j := fun j => by
              rw [hμ1, ui_c (by omega), ui_c (by omega), ui_c (by omega), ui_c (by omega), ui_c (by omega), ui_c (by omega), ui_c (by omega), ui_at, ui_c (by omega), ui_c (by omega), ui_c (by omega), ui_c (by omega)]
            have p6 : ∀ j, μ1.1 6 j = if j = N then -1 else μ.1 6 j := fun j => by
              rw [hμ1, ui_c (by omega), ui_c (by omega), ui_c (by omega), ui_c (by omega), ui_c (by omega), ui_c (by omega), ui_at, ui_c (by omega), ui_c (by omega), ui_c (by omega), ui_c (by omega), ui_c (by omega)]
            have p7 : ∀ j, μ1.1 7 j = if j = l then nI (msk (fun k => decide (ly ρ2 k = l)) (N + 1)) else μ.1 7 j := fun j => by
              rw [hμ1, ui_c (by omega), ui_c (by omega), ui_c (by omega), ui_c (by omega), ui_at, ui_c (by omega), ui_c (by omega), ui_c (by omega), ui_c (by omega), ui_c (by omega), ui_c (by omega), ui_c (by omega)]
            have p8 : ∀ j, μ1.1 8 j = if j = c then nI (msk (fun k => decide (cu ρ2 k = c)) (N + 1)) else μ.1 8 j := fun j => by
              rw [hμ1, ui_c (by omega), ui_c (by omega), ui_c (by omega), ui_at, ui_c (by omega), ui_c (by omega), ui_c (by omega), ui_c (by omega), ui_c (by omega), ui_c (by omega), ui_c (by omega), ui_c (by omega)]
            have p9 : ∀ j, μ1.1 9 j = if j = m then nI (msk (fun k => decide (mk ρ2 k = m)) (N + 1)) else μ.1 9 j := fun j => by
              rw [hμ1, ui_c (by omega), ui_c (by omega), ui_at, ui_c (by omega), ui_c (by omega), ui_c (by omega), ui_c (by omega), ui_c (by omega), ui_c (by omega), ui_c (by omega), ui_c (by omega), ui_c (by omega)]
            have p10 : ∀ j, μ1.1 10 j = if j = N then nI (ssz ρ N) else μ.1 10 j := fun j => by
              rw [hμ1, ui_at, ui_c (by omega), ui_c (by omega), ui_c (by omega), ui_c (by omega), ui_c (by omega), ui_c (by omega), ui_c (by omega), ui_c (by omega), ui_c (by omega), ui_c (by omega), ui_c (by omega)]
            have po : ∀ x, (x < 1 ∨ 10 < x) → μ1.1 x = μ.1 x := fun x q => by
              rw [hμ1, ui_ne (by omega), ui_ne (by omega), ui_ne (by omega), ui_ne (by omega), ui_ne (by omega), ui_ne (by omega), ui_ne (by omega), ui_ne (by omega), ui_ne (by omega), ui_ne (by omega), ui_ne (by omega), ui_ne (by omega)]
            obtain ⟨μ2, f1, f2, f3, f4, f5⟩ := ll_loop (F := F) (s0 := ssz ρ N) (sz := s) (k := N) (by omega) (by omega) F 0 μ1 (by omega) (by omega) (by rw [p4, if_pos rfl]) (by rw [p1, if_neg (by omega), if_neg (by omega), if_neg (by omega)]; exact n8)
            have f1' : f_X6_layOnLine_b12 F F μ1 (nI N) 0 = some ((), μ2) := f1
            -- masks with the new name
            have ml : ∀ x, x < 4 → msk (fun k => decide (ly ρ2 k = x)) (N + 1) = msk (fun k => decide (ly ρ k = x)) N + if l = x then 2 ^ N else 0 := fun x hx => by
              rw [msk_s, msk_cg (f := fun k => decide (ly ρ2 k = x)) (g := fun k => decide (ly ρ k = x)) (fun k hk => by rw [el, if_neg (by omega)]), el, if_pos rfl]
              simp only [decide_eq_true_eq]
            have mc : ∀ x, x < 8 → msk (fun k => decide (cu ρ2 k = x)) (N + 1) = msk (fun k => decide (cu ρ k = x)) N + if c = x then 2 ^ N else 0 := fun x hx => by
              rw [msk_s, msk_cg (f := fun k => decide (cu ρ2 k = x)) (g := fun k => decide (cu ρ k = x)) (fun k hk => by rw [ec, if_neg (by omega)]), ec, if_pos rfl]
              simp only [decide_eq_true_eq]
            have mm : ∀ x, x < 3 → msk (fun k => decide (mk ρ2 k = x)) (N + 1) = msk (fun k => decide (mk ρ k = x)) N + if m = x then 2 ^ N else 0 := fun x hx => by
              rw [msk_s, msk_cg (f := fun k => decide (mk ρ2 k = x)) (g := fun k => decide (mk ρ k = x)) (fun k hk => by rw [ek, if_neg (by omega)]), ek, if_pos rfl]
              simp only [decide_eq_true_eq]
            have hcc : ∀ x n, n ≤ N → hasC ρ2 x n = hasC ρ x n := by
              intro x n
              induction n with
              | zero => intro _; rfl
              | succ n ih => intro hn; rw [hasC, hasC, ih (by omega), ec, if_neg (by omega)]
            have hc1 : ∀ x, hasC ρ2 x (N + 1) = (hasC ρ x N || decide (c = x)) := fun x => by rw [hasC, hcc x N (Nat.le_refl _), ec, if_pos rfl]
            have wf2 : WFn ρ2 := by
              refine ⟨by rw [g0, if_pos rfl, em], by omega, fun k hk => ?_⟩
              rw [em] at hk
              rw [g5, g6, g7, g8, el, ec, es, ek]
              by_cases q : k = N
              · simp only [q, if_true, true_and]
                omega
              · simp only [q, if_false]
                exact h.1.1.2.2 k (by omega)
            have wfa : WFa ρ2 := by
              have w := h.1.2.1
              unfold WFa at *
              rw [u_an eA, u_asd eA, eA.1, eA.2.1, em]
              refine ⟨w.1, w.2.1, w.2.2.1, fun i hi => ?_⟩
              rw [u_aof eA, u_aday eA, eA.2.2 9 (by omega) (by omega), eA.2.2 10 (by omega) (by omega), eA.2.2 11 (by omega) (by omega)]
              obtain ⟨y1, y2, y3⟩ := w.2.2.2 i hi
              exact ⟨⟨y1.1, by omega⟩, y2, y3⟩
            have vlN : vl ρ2 N = -1 := by rw [u_vl eA]; exact vl_new h.1 (by omega)
            have rel2 : Rel μ2 ρ2 := by
              have q4 : ∀ c j, c ≠ 11 → (c = 1 → j ≠ 13) → μ2.1 c j = μ1.1 c j := f4
              refine ⟨⟨wf2, wfa, u_WFp eP h.1.2.2.1, u_WFs eS h.1.2.2.2.1, u_WFk eK h.1.2.2.2.2⟩, ⟨?_, fun k hk => ?_, fun x hx => ?_, fun x hx => ?_, fun x hx => ?_, ?_, ?_, ?_, ?_⟩, u_RAn eA (fun x q1 q2 j => ?_) h.2.2.1, u_RPl eP ⟨fun p hp k hk j => ?_, fun p hp => ?_, fun p hp k q1 q2 j hj => ?_⟩ h.2.2.2.1, u_RSh eS ⟨?_, fun x q1 q2 j => ?_⟩ h.2.2.2.2.1, u_RKn eK (fun x q1 j => ?_) h.2.2.2.2.2⟩
              · rw [q4 1 10 (by omega) (by omega), p1, if_neg (by omega), if_neg (by omega), if_pos rfl, g0, if_pos rfl]
              · rw [em] at hk
                rw [q4 2 k (by omega) (by omega), q4 3 k (by omega) (by omega), q4 4 k (by omega) (by omega), q4 5 k (by omega) (by omega), q4 6 k (by omega) (by omega), q4 10 k (by omega) (by omega), p2, p3, p4, p5, p6, p10, g5, g6, g7, g8, es, ess k (by omega)]
                by_cases q : k = N
                · subst q
                  simp only [if_true, vlN, true_and]
                  intro x hx
                  rw [f5, if_pos (by omega)]
                · simp only [q, if_false]
                  obtain ⟨y1, y2, y3, y4, y5, y6, y7⟩ := n2 k (by omega)
                  refine ⟨y1, y2, y3, y4, by rw [y5, u_vl eA], y6, fun x hx => ?_⟩
                  have hm1 := ssz_mono ρ (a := k + 1) (b := N) (by omega)
                  have hm2 : ssz ρ (k + 1) = ssz ρ k + sz ρ k := rfl
                  rw [f5, if_neg (by omega), po 11 (by omega)]
                  exact y7 x hx
              · rw [q4 7 x (by omega) (by omega), p7, em]
                by_cases q : x = l
                · rw [if_pos q, q]
                · rw [if_neg q, ml x hx, if_neg (fun e => q e.symm), Nat.add_zero]; exact n3 x hx
              · rw [q4 8 x (by omega) (by omega), p8, em]
                by_cases q : x = c
                · rw [if_pos q, q]
                · rw [if_neg q, mc x hx, if_neg (fun e => q e.symm), Nat.add_zero]; exact n4 x hx
              · rw [q4 9 x (by omega) (by omega), p9, em]
                by_cases q : x = m
                · rw [if_pos q, q]
                · rw [if_neg q, mm x hx, if_neg (fun e => q e.symm), Nat.add_zero]; exact n5 x hx
              · rw [q4 1 11 (by omega) (by omega), p1, if_neg (by omega), if_pos rfl, em]
              · rw [q4 1 12 (by omega) (by omega), p1, if_pos rfl, em]
              · rw [f3, em]
                show nI (ssz ρ N + s) = nI (ssz ρ2 N + sz ρ2 N)
                rw [ess N (Nat.le_refl _), es, if_pos rfl]
              · rw [q4 1 14 (by omega) (by omega), p1, if_neg (by omega), if_neg (by omega), if_neg (by omega), em, msk_s, vlN, u_vl eA]
                simp only [not_true_eq_false, decide_false, Bool.false_eq_true, if_false, Nat.add_zero]
                exact n9
              · rw [q4 x j (by omega) (by omega), po x (by omega)]
              · rw [q4 _ j (by omega) (by omega), po _ (by omega)]
              · rw [f2, hμ1]; rfl
              · rw [q4 _ j (by omega) (by omega), po _ (by omega)]
              · rw [q4 0 8 (by omega) (by omega), po 0 (by omega)]
              · rw [q4 x j (by omega) (by omega), po x (by omega)]
              · rw [q4 x j (by omega) (by omega), po x (by omega)]
            refine ⟨nI N, μ2, ρ2, ?_, ?_, rel2, fun x hx => ?_, fun x hx => go x (by omega) (by omega), Or.inr (Or.inr ⟨N, hlt, rfl⟩)⟩
            · have t1 : msk (fun _ => true) N ||| 2 ^ N = msk (fun _ => true) (N + 1) := by rw [msk_or]; rfl
              have t2 : msk (fun k => decide (ly ρ k = l)) N ||| 2 ^ N = msk (fun k => decide (ly ρ2 k = l)) (N + 1) := by rw [msk_or, ml l (by omega), if_pos rfl]
              have t3 : msk (fun k => decide (cu ρ k = c)) N ||| 2 ^ N = msk (fun k => decide (cu ρ2 k = c)) (N + 1) := by rw [msk_or, mc c (by omega), if_pos rfl]
              have t4 : msk (fun k => decide (mk ρ k = m)) N ||| 2 ^ N = msk (fun k => decide (mk ρ2 k = m)) (N + 1) := by rw [msk_or, mm m (by omega), if_pos rfl]
              have t5 : msk (fun x => hasC ρ x N) 8 ||| 2 ^ c = msk (fun x => hasC ρ2 x (N + 1)) 8 := msk_set _ _ (by omega) (by omega) (by rw [hc1]; simp) (fun j hj => by rw [hc1]; simp [show ¬ c = j from fun e => hj e.symm])
              rw [hμ1] at f1'
              simp (disch := omega) only [xbn, ite_not, br_le_t, br_le_f, br_lt_t, br_lt_f, br_eq_t, br_eq_f, br_le0_t, br_le0_f, br_lt1_t, br_lt1_f, br_1le_t, br_1le_f, br_eq0_t, br_eq0_f, br_eq1_t, br_eq1_f, br_0le, br_lt0, br_0lt_t, br_0lt_f, br_m1, iof, i_2, i_3, i_4, i_8, i_9, i_10, i_20, i_30, i_90, i_120, i_256, cl_0, cl_1, cl_2, cl_3, Int32.add_zero, nI_add, nI_1, pk_mul, nI_s1, sb_m1, ck_in, ck_0, ck_1, nI_clamp, xcp, xca, xbn, ui_c, ui_s, ui_o, ui_2, ul_1, ul_22, ul_s, ul_o, ul_c, ur_1, ur_21, ur_s, if_true, show ¬ (1 : Int32) = 0 by decide, if_false, c0, n6, n3, n4, n5, n7, n8, one_shl, nI_or, t1, t2, t3, t4, t5, f1']
            · rw [hρ2]
              simp (disch := omega) only [xbn, ite_not, br_le_t, br_le_f, br_lt_t, br_lt_f, br_eq_t, br_eq_f, br_le0_t, br_le0_f, br_lt1_t, br_lt1_f, br_1le_t, br_1le_f, br_eq0_t, br_eq0_f, br_eq1_t, br_eq1_f, br_0le, br_lt0, br_0lt_t, br_0lt_f, br_m1, iof, i_2, i_3, i_4, i_8, i_9, i_10, i_20, i_30, i_90, i_120, i_256, cl_0, cl_1, cl_2, cl_3, Int32.add_zero, nI_add, nI_1, pk_mul, nI_s1, sb_m1, ck_in, ck_0, ck_1, nI_clamp, xcp, xca, xbn, ui_c, ui_s, ui_o, ui_2, ul_1, ul_22, ul_s, ul_o, ul_c, ur_1, ur_21, ur_s, if_true, show ¬ (1 : Int32) = 0 by decide, if_false, e0, Nat.add_sub_cancel]
            · funext j
              rw [f4 x j (by omega) (by omega), po x (by omega)]
        · rw [Bool.not_eq_true] at w4
          rw [w1, w2, w3, w4]
          exact ⟨-2, μ, ρ, rfl, rfl, h, fun _ _ => rfl, fun _ _ => rfl, Or.inl rfl⟩
      · rw [Bool.not_eq_true] at w3
        rw [w1, w2, w3]
        exact ⟨-2, μ, ρ, rfl, rfl, h, fun _ _ => rfl, fun _ _ => rfl, Or.inl rfl⟩
    · rw [Bool.not_eq_true] at w2
      rw [w1, w2]
      exact ⟨-2, μ, ρ, rfl, rfl, h, fun _ _ => rfl, fun _ _ => rfl, Or.inl rfl⟩
  · rw [Bool.not_eq_true] at w1
    rw [w1]
    exact ⟨-2, μ, ρ, rfl, rfl, h, fun _ _ => rfl, fun _ _ => rfl, Or.inl rfl⟩
theorem sim_name {F : Nat} (hF : 2000 ≤ F) (μ ρ : Mem) (a1 a2 a3 a4 : Int32) (h : Rel μ ρ) : ∃ (r : Int32) (μ2 ρ2 : Mem), f_X11_name F μ a1 a2 a3 a4 = some (r, μ2) ∧ f_X12_name F ρ a1 a2 a3 a4 = some (r, ρ2) ∧ Rel μ2 ρ2 := by
  obtain ⟨r, μ2, ρ2, e1, e2, e3, _⟩ := en_eq hF μ ρ a1 a2 a3 a4 h
  exact ⟨r, μ2, ρ2, by unfold f_X11_name; rw [e1]; rfl, e2, e3⟩
