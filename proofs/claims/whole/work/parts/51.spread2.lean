/-! the reference's spreads; spread, wider -/
theorem spr_R {F : Nat} (hF : 2000 ≤ F) {W ρ : Mem} (hw : WF W) {k : Nat} {w : Nat → Nat} (h : RY W k w ρ) (hk : k = 1 ∨ k = 2) {g : Nat} (hg : g < cntOf k) (hok : gok W k w g = true) (h0 : 0 < w g) (hle : w g ≤ gs W k g) (e0 : ρ.2.1 0 27 = lN (SPf W k w g).1) (e1 : ρ.2.1 0 28 = lN (SPf W k w g).2) :
    (avl W (gf W k g) (nm W) = true ∧ ∃ ρ2, f_X12_spreads F ρ (nI (msk (gf W k g) (nm W))) (nI (w g)) = some (1, ρ2) ∧ ρ2.1 = ρ.1 ∧ ρ2.2.1 0 27 = lN (SPf W k w (g + 1)).1 ∧ ρ2.2.1 0 28 = lN (SPf W k w (g + 1)).2) ∨ (avl W (gf W k g) (nm W) = false ∧ f_X12_spreads F ρ (nI (msk (gf W k g) (nm W))) (nI (w g)) = some (0, ρ)) := by
  have hN := rw_N hw
  have en := rw_n hw h.1
  have hml := msk_b (f := gf W k g) hN
  have gl := gs_le hw k g
  unfold f_X12_spreads
  refine run_rel (N := nm W) (fun n i (_ : Unit) => f_X12_spreads_b8 F n ρ (nI (msk (gf W k g) (nm W))) (nI (w g)) (lN (s1 W (gf W k g) i)) (lN (s2 W (gf W k g) i)) (nI i)) (fun i _ => avl W (gf W k g) i = true) (fun o => (avl W (gf W k g) (nm W) = true ∧ ∃ ρ2, o = some (1, ρ2) ∧ ρ2.1 = ρ.1 ∧ ρ2.2.1 0 27 = lN (SPf W k w (g + 1)).1 ∧ ρ2.2.1 0 28 = lN (SPf W k w (g + 1)).2) ∨ (avl W (gf W k g) (nm W) = false ∧ o = some (0, ρ))) (fun n i _ hi hI => ?_) (fun n _ hI => ?_) F 0 () (Nat.zero_le _) (by omega) rfl
  · have tb : (msk (gf W k g) (nm W)).testBit i = gf W k g i := by rw [msk_t]; simp [hi]
    have ev := vo_eq hF hw h.1 hi
    cases q : gf W k g i with
    | false =>
      refine Or.inl ⟨(), by rw [avl, hI, q]; rfl, fun y hy => ?_⟩
      rw [s1, s2, q] at hy
      unfold f_X12_spreads_b8 f_X12_spreads_b60
      simp (disch := omega) only [xbn, en, br_le_f, sh_bit, b1', ite_not, tb, q, Bool.false_eq_true, if_false, nI_1, Nat.add_zero] at hy ⊢
      exact hy
    | true =>
      by_cases hv : vl W i = -1
      · refine Or.inr (Or.inr ⟨?_, ?_⟩)
        · cases ha : avl W (gf W k g) (nm W) with
          | false => rfl
          | true => exact absurd hv ((avl_iff _).mp ha i hi q)
        · have c : ¬ 0 ≤ lg_cmp (vl W i).toInt64 0 := by rw [hv]; decide
          unfold f_X12_spreads_b8
          simp (disch := omega) only [xbn, en, br_le_f, sh_bit, b1', ite_not, tb, q, if_true, ev, xca, c, if_false]
      · obtain ⟨v1, v2⟩ := vn_n hw hv
        have v3 : (vl W i).toInt64 = lN (vn W i) := by rw [v1, nI_l (by omega)]
        have c : 0 ≤ lg_cmp (lN (vn W i)) 0 := by rw [lgge, l_0, pk_lLE (by omega) (by omega)]; omega
        refine Or.inl ⟨(), by rw [avl, hI, q]; simp [hv], fun y hy => ?_⟩
        rw [s1, s2, q] at hy
        unfold f_X12_spreads_b8 f_X12_spreads_b60
        simp (disch := omega) only [xbn, en, br_le_f, sh_bit, b1', ite_not, tb, q, if_true, ev, xca, v3, c, lN_mul, lN_add, nI_1] at hy ⊢
        exact hy
  · refine Or.inl ⟨hI, ?_⟩
    have hv := (avl_iff _).mp hI
    have q1 := s1_le hw hv (nm W) (Nat.le_refl _)
    have q2 := s2_le hw hv (nm W) (Nat.le_refl _)
    have q3 := cs_2 W (gf W k g) (nm W)
    rw [show cnt (gf W k g) (nm W) = gs W k g from rfl] at q1 q2 q3
    have t1 : gs W k g * s2 W (gf W k g) (nm W) ≤ 30 * 3000000000 := Nat.mul_le_mul gl (by omega)
    have on : f_X12_ones F (nI (msk (gf W k g) (nm W))) = some (nI (gs W k g)) := by rw [on_eq (F := F) (by omega) (by omega), pcn_msk _ (by omega)]; rfl
    unfold f_X12_spreads_b8
    simp (disch := omega) only [xbn, en, br_le_t, on, xcp]
    rw [SPf]
    by_cases q : w g < gs W k g
    · have eA : (nI (gs W k g) - nI (w g)).toInt64 * ((nI (gs W k g)).toInt64 * lN (s2 W (gf W k g) (nm W)) - lN (s1 W (gf W k g) (nm W)) * lN (s1 W (gf W k g) (nm W))) = lN (vA2 W k w g) := by
        rw [pk_sub hle, nI_l (by omega), nI_l (by omega), lN_mul, lN_mul, lN_sub q3, lN_mul]
        rfl
      have eB : (nI (w g)).toInt64 * (nI (gs W k g) - 1).toInt64 = lN (vB2 W k w g) := by
        rw [nI_s1 (by omega), nI_l (by omega), nI_l (by omega), lN_mul]
        rfl
      obtain ⟨a1, a2, a3⟩ := vAB hw h0 q hI
      obtain ⟨f1, f2⟩ := sp_fit hw hk hg hok ⟨h0, q⟩ hI
      obtain ⟨g1, g2, g3, g4⟩ := SPf_b hw hk (g := g) (by omega) hok
      rw [br_le_f q (by omega), if_pos (show 0 < w g ∧ w g < gs W k g from ⟨h0, q⟩), eA, eB]
      generalize vA2 W k w g = m at f1
      generalize vB2 W k w g = nn at a1 f1 f2
      generalize (SPf W k w g).1 = a at e0 g3 g4 f1
      generalize (SPf W k w g).2 = b at e1 g1 g2 g4 f1 f2
      have m63 : m < 2 ^ 63 := by
        have : m * 1 ≤ m * b := Nat.mul_le_mul_left _ g1
        omega
      have n63 : nn < 2 ^ 63 := by
        have : 1 * nn ≤ b * nn := Nat.mul_le_mul_right _ g1
        omega
      have x1 := bc_R hF ρ m63 a1 n63
      have ral := ra_le m nn
      have rbl := rb_le m nn
      have rbp := rb_pos (x := m) a1
      have u1 : a * rb m nn ≤ a * nn := Nat.mul_le_mul_left _ rbl
      have u2 : ra m nn * b ≤ m * b := Nat.mul_le_mul_right _ ral
      have u3 : b * rb m nn ≤ b * nn := Nat.mul_le_mul_left _ rbl
      have u4 : 0 < b * rb m nn := Nat.mul_pos g1 rbp
      have x2 := bc_R hF (ul (ul ρ 0 24 (lN (ra m nn))) 0 25 (lN (rb m nn))) (x := a * rb m nn + ra m nn * b) (y := b * rb m nn) (by omega) u4 (by omega)
      rw [(fa_R a1).1, (fa_R a1).2] at x2
      rw [x1]
      simp (disch := omega) only [xca, ul_s, ul_o, e0, e1, lN_mul, lN_add, x2]
      exact ⟨_, rfl, rfl, by rw [ul_o (by omega), ul_s], by rw [ul_s]⟩
    · rw [br_le_t (by omega) (by omega), if_neg (show ¬ (0 < w g ∧ w g < gs W k g) from fun z => q z.2)]
      exact ⟨ρ, rfl, rfl, e0, e1⟩
theorem gok_no {W : Mem} {k : Nat} {w : Nat → Nat} {i : Nat} (h0 : 0 < w i) (ha : avl W (gf W k i) (nm W) = false) : gok W k w (i + 1) = false := by
  rw [gok, ha]
  simp
  omega
theorem gok_f {W : Mem} {k : Nat} {w : Nat → Nat} {i : Nat} (h : gok W k w i = false) : gok W k w (i + 1) = false := by rw [gok, h]; rfl
/-- groups are no smaller than what is wanted of them -/
theorem cb_le {W : Mem} {k : Nat} {w : Nat → Nat} (ho : OK W k w) (hk : k = 1 ∨ k = 2) : ∀ g, g < cntOf k → w g ≤ gs W k g := by
  intro g hg
  have h1 := ho.1
  rcases hk with rfl | rfl
  · rw [cbk1] at h1
    have : g = 0 := Nat.lt_one_iff.mp hg
    subst this
    rw [gs_1]; exact h1.2
  · rw [cbk2] at h1
    rw [gs_2]; exact h1.1 g hg
theorem fsp_t {F : Nat} (hF : 2000 ≤ F) {W ρ : Mem} (hw : WF W) (hs : SmR W ρ) {p : Nat} (hp : p < 4) (hc : CB W p) (hk : kp W p = 1 ∨ kp W p = 2) (ho : OK W (kp W p) (wq W p)) : ∃ ρ2, f_X12_findSpread F ρ (nI p) = some (if gok W (kp W p) (wq W p) (cntOf (kp W p)) then 1 else 0, ρ2) ∧ SmR W ρ2 ∧ (gok W (kp W p) (wq W p) (cntOf (kp W p)) = true → ρ2.2.1 0 27 = lN (SPf W (kp W p) (wq W p) (cntOf (kp W p))).1 ∧ ρ2.2.1 0 28 = lN (SPf W (kp W p) (wq W p) (cntOf (kp W p))).2) := by
  have hN := rw_N hw
  have hs2 : SmR W (ul (ul ρ 0 27 0) 0 28 1) := hs
  obtain ⟨ρ1, r1, r2, r3, r4⟩ := (cr_eq hF hw hs2 hp).1 hc
  have z27 : ρ1.2.1 0 27 = lN 0 := by rw [r4, ul_o (by omega), ul_s]; rfl
  have z28 : ρ1.2.1 0 28 = lN 1 := by rw [r4, ul_s]; rfl
  have hle := cb_le ho hk
  have h99 := ho.2.2.2
  have h1 := ho.1
  unfold f_X12_findSpread f_X12_findSpread_b38
  simp only [xbn, r1, xca, show ¬ (1 : Int32) = 0 by decide, if_false]
  rw [r2.2.1]
  generalize wq W p = w at *
  rcases hk with ek | ek
  · rw [ek] at r2 h1 hle h99 ⊢
    rw [cbk1] at h1
    have n0 := r2.2.2.1 0 (by decide)
    have ea : f_X12_allBits F ρ1 = some (nI (msk (gf W 1 0) (nm W)), ρ1) := by
      show _ = some (nI (msk (fun _ => true) (nm W)), ρ1)
      rw [msk_all]; exact al_eq hF hw r2.1
    simp only [kc, if_true, not_true_eq_false, if_false, ea, xca, ck_0 (show 0 < 4 by decide), cl_0, n0]
    rcases spr_R hF hw r2 (Or.inl rfl) (g := 0) (by decide) rfl h1.1 (hle 0 (by decide)) z27 z28 with ⟨ha, ρ2, e1, e2, e3, e4⟩ | ⟨ha, e1⟩
    · have hg : gok W 1 w (cntOf 1) = true := by show gok W 1 w 1 = true; rw [gok, ha]; simp [gok]
      rw [e1, hg]
      exact ⟨ρ2, rfl, (r2.sm e2).1, fun _ => ⟨e3, e4⟩⟩
    · have hg : gok W 1 w (cntOf 1) = false := gok_no h1.1 ha
      rw [e1, hg]
      exact ⟨ρ1, rfl, r2.1, fun q => by cases q⟩
  · rw [ek] at r2 h1 hle h99 ⊢
    simp only [kc, show ¬ (2 : Nat) = 1 by decide, if_true, if_false, show ¬ (108 : Int32) = 97 by decide, not_false_eq_true]
    refine run_rel (N := 4) (fun n i (s : Bool × Mem) => f_X12_findSpread_b66 F n s.2 (if s.1 then 1 else 0) (nI i)) (fun i s => RY W 2 w s.2 ∧ s.1 = gok W 2 w i ∧ (s.1 = true → s.2.2.1 0 27 = lN (SPf W 2 w i).1 ∧ s.2.2.1 0 28 = lN (SPf W 2 w i).2)) (fun o => ∃ ρ2, o = some (if gok W 2 w (cntOf 2) then 1 else 0, ρ2) ∧ SmR W ρ2 ∧ (gok W 2 w (cntOf 2) = true → ρ2.2.1 0 27 = lN (SPf W 2 w (cntOf 2)).1 ∧ ρ2.2.1 0 28 = lN (SPf W 2 w (cntOf 2)).2)) (fun n i s hi hI => Or.inl ?_) (fun n s hI => ?_) F 0 (true, ρ1) (Nat.zero_le _) (by omega) ⟨r2, rfl, fun _ => ⟨z27, z28⟩⟩
    · obtain ⟨b, ρ'⟩ := s
      obtain ⟨i1, i2, i3⟩ := hI
      have i1' : RY W 2 w ρ' := i1
      have ni := i1'.2.2.1 i hi
      cases hb : b with
      | false =>
        have g0 : gok W 2 w i = false := by rw [hb] at i2; exact i2.symm
        refine ⟨(false, ρ'), ⟨i1', (gok_f g0).symm, fun q => by cases q⟩, fun y hy => ?_⟩
        unfold f_X12_findSpread_b66 f_X12_findSpread_b107 f_X12_findSpread_b108
        simp (disch := omega) only [i_4, br_le_f, Bool.false_eq_true, if_false, if_true, nI_1] at hy ⊢
        exact hy
      | true =>
        have g0 : gok W 2 w i = true := by rw [hb] at i2; exact i2.symm
        obtain ⟨k27, k28⟩ := i3 hb
        have b99 := h99 i hi
        by_cases w0 : w i = 0
        · refine ⟨(true, ρ'), ⟨i1', by rw [gok, g0]; simp [w0], fun _ => by rw [SPf, if_neg (by omega)]; exact ⟨k27, k28⟩⟩, fun y hy => ?_⟩
          unfold f_X12_findSpread_b66 f_X12_findSpread_b103 f_X12_findSpread_b108
          simp (disch := omega) only [i_4, br_le_f, if_true, show ¬ (1 : Int32) = 0 by decide, if_false, ck_in, nI_clamp, ni, xbn, br_eq0_t, nI_1] at hy ⊢
          exact hy
        · have eg : msk (gf W 2 i) (nm W) = msk (fun k => decide (ly W k = i)) (nm W) := by unfold gf; rw [if_neg (by decide)]
          rcases spr_R hF hw i1' (Or.inr rfl) (g := i) hi g0 (by omega) (hle i hi) k27 k28 with ⟨ha, ρ2, e1, e2, e3, e4⟩ | ⟨ha, e1⟩
          · refine ⟨(true, ρ2), ⟨i1'.sm e2, by rw [gok, g0, ha]; simp, fun _ => ⟨e3, e4⟩⟩, fun y hy => ?_⟩
            rw [eg] at e1
            unfold f_X12_findSpread_b66 f_X12_findSpread_b103 f_X12_findSpread_b108
            simp (disch := omega) only [i_4, br_le_f, if_true, show ¬ (1 : Int32) = 0 by decide, if_false, ck_in, nI_clamp, ni, xbn, br_eq0_f, bo_l hF hw i1'.1 (show i < 30 by omega), xca, e1, nI_1] at hy ⊢
            exact hy
          · refine ⟨(false, ρ'), ⟨i1', (gok_no (by omega) ha).symm, fun q => by cases q⟩, fun y hy => ?_⟩
            rw [eg] at e1
            unfold f_X12_findSpread_b66 f_X12_findSpread_b107 f_X12_findSpread_b108
            simp (disch := omega) only [i_4, br_le_f, if_true, show ¬ (1 : Int32) = 0 by decide, Bool.false_eq_true, if_false, ck_in, nI_clamp, ni, xbn, br_eq0_f, bo_l hF hw i1'.1 (show i < 30 by omega), xca, e1, nI_1] at hy ⊢
            exact hy
    · obtain ⟨b, ρ'⟩ := s
      obtain ⟨i1, i2, i3⟩ := hI
      have i1' : RY W 2 w ρ' := i1
      have i2' : b = gok W 2 w (cntOf 2) := i2
      unfold f_X12_findSpread_b66
      simp (disch := omega) only [i_4, br_le_t, zk01]
      rw [i2'] at i3 ⊢
      exact ⟨ρ', rfl, i1'.1, i3⟩
theorem fsp_f {F : Nat} (hF : 2000 ≤ F) {W ρ : Mem} (hw : WF W) (hs : SmR W ρ) {p : Nat} (hp : p < 4) (hc : ¬ (CB W p ∧ (kp W p = 1 ∨ kp W p = 2))) : ∃ ρ2, f_X12_findSpread F ρ (nI p) = some (0, ρ2) ∧ SmR W ρ2 := by
  have hs2 : SmR W (ul (ul ρ 0 27 0) 0 28 1) := hs
  unfold f_X12_findSpread
  by_cases c : CB W p
  · obtain ⟨ρ1, r1, r2, r3, r4⟩ := (cr_eq hF hw hs2 hp).1 c
    obtain ⟨_, q2, _, _, k1, k5⟩ := id r2
    refine ⟨ρ1, ?_, r2.1⟩
    simp only [xbn, r1, xca, show ¬ (1 : Int32) = 0 by decide, if_false, q2]
    rcases (show kp W p = 3 ∨ kp W p = 4 ∨ kp W p = 5 by
      rcases (show kp W p = 1 ∨ kp W p = 2 ∨ kp W p = 3 ∨ kp W p = 4 ∨ kp W p = 5 by omega) with e | e | e | e | e
      · exact absurd ⟨c, Or.inl e⟩ hc
      · exact absurd ⟨c, Or.inr e⟩ hc
      · exact Or.inl e
      · exact Or.inr (Or.inl e)
      · exact Or.inr (Or.inr e)) with e | e | e <;> rw [e] <;> rfl
  · obtain ⟨ρ1, r1, r2⟩ := (cr_eq hF hw hs2 hp).2 c
    refine ⟨ρ1, ?_, r2⟩
    simp only [xbn, r1, xca, if_true]
theorem so_t {F : Nat} (hF : 2000 ≤ F) {W μ : Mem} (h : Rel μ W) {p : Nat} (hp : p < 4) (hc : CB W p) (hk : kp W p = 1 ∨ kp W p = 2) (c : Nat) : ∃ μ2, f_X11_spreadOf F μ (nI p) c = some (if gok W (kp W p) (wq W p) (cntOf (kp W p)) then 1 else 0, μ2) ∧ SmC μ μ2 ∧ (∀ x j, x ≠ c → μ2.2.1 x j = μ.2.1 x j) ∧ (gok W (kp W p) (wq W p) (cntOf (kp W p)) = true → μ2.2.1 c 0 = lN (SPf W (kp W p) (wq W p) (cntOf (kp W p))).1 ∧ μ2.2.1 c 1 = lN (SPf W (kp W p) (wq W p) (cntOf (kp W p))).2) := by
  obtain ⟨c1, c2, c3⟩ := q_C hF h hp hc
  obtain ⟨μ2, e1, e2, e3, e4⟩ := spi_C hF c2 c3 hk (cb_le c3 hk) c
  have k102 := (c2.k12 hk).1
  refine ⟨μ2, ?_, e2, e3, e4⟩
  unfold f_X11_spreadOf
  simp (disch := omega) only [ck_in, nI_clamp, c1, xca, instk, castk, onul, vd_1 k102, k102, if_true, show ¬ (1 : Int32) = 0 by decide, if_false, e1, zk01]
theorem so_f {F : Nat} (hF : 2000 ≤ F) {W μ : Mem} (h : Rel μ W) {p : Nat} (hp : p < 4) (hc : ¬ (CB W p ∧ (kp W p = 1 ∨ kp W p = 2))) (c : Nat) : f_X11_spreadOf F μ (nI p) c = some (0, μ) := by
  unfold f_X11_spreadOf
  by_cases q : CB W p
  · obtain ⟨c1, c2, c3⟩ := q_C hF h hp q
    obtain ⟨_, _, _, _, _, k1, k5⟩ := id c2
    simp (disch := omega) only [ck_in, nI_clamp, c1, xca, instk, onul, show ¬ (102 : Nat) = 104 by decide, show ¬ (102 : Nat) = 108 by decide, if_false, if_true]
    rcases (show kp W p = 3 ∨ kp W p = 4 ∨ kp W p = 5 by
      rcases (show kp W p = 1 ∨ kp W p = 2 ∨ kp W p = 3 ∨ kp W p = 4 ∨ kp W p = 5 by omega) with e | e | e | e | e
      · exact absurd ⟨q, Or.inl e⟩ hc
      · exact absurd ⟨q, Or.inr e⟩ hc
      · exact Or.inl e
      · exact Or.inr (Or.inl e)
      · exact Or.inr (Or.inr e)) with e | e | e
    · exact vd_2 (c2.k34 (Or.inl e)).1 _ _ _
    · exact vd_2 (c2.k34 (Or.inr e)).1 _ _ _
    · exact vd_3 (c2.k5 e) _ _ _
  · simp (disch := omega) only [ck_in, nI_clamp, pw_f hF h hp q, xca, instk, onul, if_true]
theorem sim_spread {F : Nat} (hF : 2000 ≤ F) (μ ρ : Mem) (a1 a2 : Int32) (h : Rel μ ρ) : ∃ (r : Int64) (μ2 ρ2 : Mem), f_X11_spread F μ a1 a2 = some (r, μ2) ∧ f_X12_spread F ρ a1 a2 = some (r, ρ2) ∧ Rel μ2 ρ2 := by
  unfold f_X11_spread f_X12_spread f_X11_spread_b14 f_X12_spread_b17
  rw [pl_C, pl_R, ab_C, in_eq F a2 0 1 (A := 0) (B := 1) rfl rfl]
  simp only [al_C, al_R]
  by_cases w1 : wi a1 0 3 = true
  · by_cases w2 : wi a2 0 1 = true
    · obtain ⟨p, hp, rfl⟩ := wi_pl w1
      rw [w1, w2]
      by_cases c : CB ρ p ∧ (kp ρ p = 1 ∨ kp ρ p = 2)
      · have c3 := (q_C hF h hp c.1).2.2
        obtain ⟨μ2, e1, e2, e3, e4⟩ := so_t hF h hp c.1 c.2 73
        obtain ⟨ρ2, g1, g2, g3⟩ := fsp_t hF h.1 (SmR.rf ρ) hp c.1 c.2 c3
        simp only [xcp, xca, xbn, if_true, show ¬ (1 : Int32) = 0 by decide, if_false, not_false_eq_true, e1, g1]
        cases hg : gok ρ (kp ρ p) (wq ρ p) (cntOf (kp ρ p)) with
        | true =>
          obtain ⟨f1, f2⟩ := e4 hg
          obtain ⟨f3, f4⟩ := g3 hg
          refine ⟨if a2 = 0 then lN (SPf ρ (kp ρ p) (wq ρ p) (cntOf (kp ρ p))).1 else lN (SPf ρ (kp ρ p) (wq ρ p) (cntOf (kp ρ p))).2, μ2, ρ2, ?_, ?_, q_end h e2 (ρ := ρ) g2⟩
          · simp only [if_true, show ¬ (1 : Int32) = 0 by decide, not_false_eq_true, td_eq F μ2 73 w2, xca, f1, f2]
          · simp only [if_true, show ¬ (1 : Int32) = 0 by decide, if_false, f3, f4]
            by_cases q : a2 = 0
            · simp only [q, not_true_eq_false, if_false, if_true]
            · simp only [q, not_false_eq_true, if_true, if_false]
        | false =>
          exact ⟨nol (-3), μ2, ρ2, rfl, rfl, q_end h e2 (ρ := ρ) g2⟩
      · obtain ⟨ρ2, g1, g2⟩ := fsp_f hF h.1 (SmR.rf ρ) hp c
        simp only [xcp, xca, xbn, if_true, show ¬ (1 : Int32) = 0 by decide, if_false, not_false_eq_true, so_f hF h hp c, g1]
        exact ⟨nol (-3), μ, ρ2, rfl, rfl, q_end h (SmC.rf μ) (ρ := ρ) g2⟩
    · rw [Bool.not_eq_true] at w2
      rw [w1, w2]
      exact ⟨nol (-2), μ, ρ, rfl, rfl, h⟩
  · rw [Bool.not_eq_true] at w1
    rw [w1]
    exact ⟨nol (-2), μ, ρ, rfl, rfl, h⟩
/-! two fractions against each other -/
def cmq (s : Int32) (a b c d : Nat) : Int32 := if a * d = c * b then 0 else if c * b < a * d then s else -s
theorem cm_fl {a b c d : Nat} (hb : 0 < b) (hd : 0 < d) (h : a / b < c / d) : a * d < c * b := by
  have e1 := Nat.div_add_mod a b
  have m1 := Nat.mod_lt a hb
  have l1 : a < (a / b + 1) * b := by rw [Nat.add_mul, Nat.one_mul, Nat.mul_comm (a / b)]; omega
  have l2 : (a / b + 1) * b * d ≤ c / d * b * d := Nat.mul_le_mul_right _ (Nat.mul_le_mul_right _ h)
  have l3 : c / d * b * d = c / d * d * b := by ac_rfl
  have l4 : c / d * d * b ≤ c * b := Nat.mul_le_mul_right _ (Nat.div_mul_le_self c d)
  have l5 : a * d < (a / b + 1) * b * d := Nat.mul_lt_mul_of_pos_right l1 hd
  omega
theorem cm_rs {a b c d : Nat} (h : a / b = c / d) : ∃ z, a * d = z + a % b * d ∧ c * b = z + c % d * b := by
  have e1 := Nat.div_add_mod a b
  have e2 := Nat.div_add_mod c d
  refine ⟨a / b * b * d, ?_, ?_⟩
  · rw [← Nat.add_mul, Nat.mul_comm (a / b), e1]
  · have z : a / b * b * d = d * (c / d) * b := by rw [h]; ac_rfl
    rw [z, ← Nat.add_mul, e2]
theorem cmq_fl {s : Int32} {a b c d : Nat} (hb : 0 < b) (hd : 0 < d) (h : a / b ≠ c / d) : cmq s a b c d = if c / d < a / b then s else -s := by
  unfold cmq
  rcases Nat.lt_or_ge (a / b) (c / d) with q | q
  · have := cm_fl hb hd q
    rw [if_neg (by omega), if_neg (by omega), if_neg (by omega)]
  · have q2 : c / d < a / b := by omega
    have := cm_fl hd hb q2
    rw [if_neg (by omega), if_pos (by omega), if_pos q2]
theorem cmq_rs {s : Int32} {a b c d : Nat} (h : a / b = c / d) : cmq s a b c d = if a % b * d = c % d * b then 0 else if c % d * b < a % b * d then s else -s := by
  obtain ⟨z, e1, e2⟩ := cm_rs h
  unfold cmq
  rw [e1, e2]
  by_cases q : a % b * d = c % d * b
  · rw [if_pos q, if_pos (by omega)]
  · rw [if_neg q, if_neg (by omega)]
    by_cases q2 : c % d * b < a % b * d
    · rw [if_pos q2, if_pos (by omega)]
    · rw [if_neg q2, if_neg (by omega)]
theorem lrem2 (a b : Nat) : lN a - lN (a / b) * lN b = lN (a % b) := by
  have e := Nat.div_add_mod a b
  rw [Nat.mul_comm] at e
  rw [lN_mul, lN_sub (by omega), show a - a / b * b = a % b by omega]
theorem lrem3 (a b : Nat) : lN a - lN (a / b * b) = lN (a % b) := by
  have := lrem2 a b
  rw [lN_mul] at this
  exact this
/-- one step of the reference's walk: it ends, or goes on with the rests -/
theorem wd_step {F n : Nat} {ρ : Mem} {s : Int32} {a b c d : Nat} (hb : 0 < b) (hd : 0 < d) (a63 : a < 2 ^ 63) (b63 : b < 2 ^ 63) (c63 : c < 2 ^ 63) (d63 : d < 2 ^ 63) :
    f_X12_wider_b65 F (n + 1) ρ (lN a) (lN b) (lN c) (lN d) s = some (cmq s a b c d, ρ) ∨ (0 < a % b ∧ 0 < c % d ∧ f_X12_wider_b65 F (n + 1) ρ (lN a) (lN b) (lN c) (lN d) s = f_X12_wider_b65 F n ρ (lN b) (lN (a % b)) (lN d) (lN (c % d)) (-s) ∧ cmq s a b c d = cmq (-s) b (a % b) d (c % d)) := by
  have q1 := Nat.div_le_self a b
  have q2 := Nat.div_le_self c d
  have m1 := Nat.mod_lt a hb
  have m2 := Nat.mod_lt c hd
  rw [f_X12_wider_b65]
  unfold f_X12_wider_b128
  simp (disch := omega) only [dvl_n, xbn, pk_lDiv, lrem2, lge, l_0, lgle]
  by_cases e : a / b = c / d
  · rw [bl_eq_t e]
    have em := cmq_rs (s := s) e
    by_cases r1 : a % b = 0
    · refine Or.inl ?_
      rw [bl_eq_t r1]
      by_cases r2 : c % d = 0
      · have ev : cmq s a b c d = 0 := by rw [em, r1, r2, Nat.zero_mul, Nat.zero_mul, if_pos rfl]
        have eq : lN (a % b) = lN (c % d) := by rw [r1, r2]
        rw [ev]
        simp only [eq, not_true_eq_false, if_false]
      · have p : 0 < c % d * b := Nat.mul_pos (Nat.pos_of_ne_zero r2) hb
        have ev : cmq s a b c d = -s := by rw [em, r1, Nat.zero_mul, if_neg (show ¬ 0 = c % d * b by omega), if_neg (show ¬ c % d * b < 0 by omega)]
        have nq : ¬ lN (a % b) = lN (c % d) := fun z => by rw [pk_lEQ (by omega) (by omega)] at z; omega
        rw [ev]
        simp only [nq, not_false_eq_true, if_true]
        rw [bl_le_t (by omega) (by omega)]
    · rw [bl_eq_f r1 (by omega) (by omega)]
      by_cases r2 : c % d = 0
      · refine Or.inl ?_
        have p : 0 < a % b * d := Nat.mul_pos (Nat.pos_of_ne_zero r1) hd
        have ev : cmq s a b c d = s := by rw [em, r2, Nat.zero_mul, if_neg (show ¬ a % b * d = 0 by omega), if_pos (show 0 < a % b * d from p)]
        have nz : lN (c % d) = lN 0 := by rw [r2]
        have nq : ¬ lN (a % b) = lN 0 := fun z => by rw [pk_lEQ (by omega) (by omega)] at z; omega
        rw [ev]
        simp only [nz, not_true_eq_false, if_false, nq, not_false_eq_true, if_true]
        rw [bl_le_f (by omega) (by omega)]
      · refine Or.inr ⟨Nat.pos_of_ne_zero r1, Nat.pos_of_ne_zero r2, ?_, ?_⟩
        · have nq : ¬ lN (c % d) = lN 0 := fun z => by rw [pk_lEQ (by omega) (by omega)] at z; omega
          simp only [nq, not_false_eq_true, if_true]
        · rw [em]
          unfold cmq
          rw [Nat.mul_comm b, Nat.mul_comm d, Int32.neg_neg]
          by_cases t : a % b * d = c % d * b
          · rw [if_pos t, if_pos t.symm]
          · rw [if_neg t, if_neg (show ¬ c % d * b = a % b * d from fun z => t z.symm)]
            by_cases t2 : c % d * b < a % b * d
            · rw [if_pos t2, if_neg (show ¬ a % b * d < c % d * b by omega)]
            · rw [if_neg t2, if_pos (show a % b * d < c % d * b by omega)]
  · refine Or.inl ?_
    rw [bl_eq_f e (by omega) (by omega), cmq_fl hb hd e]
    by_cases t : c / d < a / b
    · rw [bl_le_f t (by omega), if_pos t]
    · rw [bl_le_t (by omega) (by omega), if_neg t]
theorem wd_loop {F : Nat} {ρ : Mem} : ∀ (m n : Nat) (s : Int32) (a b c d : Nat), 0 < b → 0 < d → a < 2 ^ 63 → b < 2 ^ 63 → c < 2 ^ 63 → d < 2 ^ 63 → b < 2 ^ m → 2 * m ≤ n → f_X12_wider_b65 F n ρ (lN a) (lN b) (lN c) (lN d) s = some (cmq s a b c d, ρ) := by
  intro m
  induction m with
  | zero => intro n s a b c d hb; intros; exact absurd hb (by omega)
  | succ m ih =>
    intro n s a b c d hb hd a63 b63 c63 d63 hm hn
    obtain ⟨n, rfl⟩ : ∃ x, n = x + 1 + 1 := ⟨n - 2, by omega⟩
    rcases wd_step (F := F) (n := n + 1) (ρ := ρ) (s := s) hb hd a63 b63 c63 d63 with e | ⟨r1, r2, e1, e2⟩
    · exact e
    · have m1 := Nat.mod_lt a hb
      have m2 := Nat.mod_lt c hd
      rw [e1, e2]
      rcases wd_step (F := F) (n := n) (ρ := ρ) (s := -s) r1 r2 b63 (show a % b < 2 ^ 63 by omega) d63 (show c % d < 2 ^ 63 by omega) with f | ⟨t1, t2, f1, f2⟩
      · exact f
      · have m3 := Nat.mod_lt b r1
        have m4 := Nat.mod_lt d r2
        rw [f1, f2]
        exact ih n _ _ _ _ _ t1 t2 (by omega) (by omega) (by omega) (by omega) (eu_half hm (by omega) hb) (by omega)
theorem lc_eq (F : Nat) {a b : Nat} (ha : a < 2 ^ 63) (hb : b < 2 ^ 63) : f_J13_compare_74951 F (lN a) (lN b) = some (if a = b then 0 else if b < a then 1 else -1) := by
  unfold f_J13_compare_74951
  simp only [lgge, lge]
  by_cases q : a = b
  · subst q
    rw [bl_le_t (Nat.le_refl _) ha]
    simp only [not_true_eq_false, if_false, if_true]
  · have nq : ¬ lN a = lN b := fun z => q ((pk_lEQ ha hb).mp z)
    by_cases q2 : b < a
    · rw [bl_le_t (by omega) ha, if_neg q, if_pos q2]
      simp only [nq, not_false_eq_true, if_true]
    · rw [bl_le_f (by omega) hb, if_neg q, if_neg q2]
theorem cw_C {F : Nat} (μ : Mem) (x y : Nat) {a b c d : Nat} (ea : μ.2.1 x 0 = lN a) (eb : μ.2.1 x 1 = lN b) (ec : μ.2.1 y 0 = lN c) (ed : μ.2.1 y 1 = lN d) (hb : 0 < b) (hd : 0 < d) (a63 : a < 2 ^ 63) (c63 : c < 2 ^ 63) (hb2 : b ≤ 21381376) (hd2 : d ≤ 21381376) : f_X1_compareWith F μ x y = some (cmq 1 a b c d, μ) := by
  have q1 := Nat.div_le_self a b
  have q2 := Nat.div_le_self c d
  have m1 := Nat.mod_lt a hb
  have m2 := Nat.mod_lt c hd
  have p1 : a % b * d ≤ 21381376 * 21381376 := Nat.mul_le_mul (by omega) hd2
  have p2 : c % d * b ≤ 21381376 * 21381376 := Nat.mul_le_mul (by omega) hb2
  unfold f_X1_compareWith
  simp only [rd_C (F := F) μ x ea eb hb (by omega) a63, rd_C (F := F) μ y ec ed hd (by omega) c63, xca, lc_eq F (show a / b < 2 ^ 63 by omega) (show c / d < 2 ^ 63 by omega), xcp]
  by_cases e : a / b = c / d
  · rw [if_pos e]
    simp (disch := omega) only [not_true_eq_false, if_false, lgl, lgg, lgle, lgge, lge, l_0, l_1, l_1000, bl_le_t, bl_le_f, bl_lt_t, bl_lt_f, bl_eq_t, bl_eq_f, dvl_n, dvi_n, nI_l, lN_add, lN_mul, lN_1, xbn, ea, eb, ec, ed, pk_lDiv, lrem2, lrem3]
    rw [lc_eq F (by omega) (by omega), xcp, cmq_rs e]
  · rw [if_neg e, cmq_fl hb hd e]
    by_cases t : c / d < a / b
    · rw [if_pos t]; rfl
    · rw [if_neg t]; rfl
theorem sim_wider {F : Nat} (hF : 2000 ≤ F) (μ ρ : Mem) (a1 a2 : Int32) (h : Rel μ ρ) : ∃ (r : Int32) (μ2 ρ2 : Mem), f_X11_wider F μ a1 a2 = some (r, μ2) ∧ f_X12_wider F ρ a1 a2 = some (r, ρ2) ∧ Rel μ2 ρ2 := by
  unfold f_X11_wider f_X12_wider
  rw [pl_C, pl_R, pl_C, pl_R]
  by_cases w1 : wi a1 0 3 = true
  · by_cases w2 : wi a2 0 3 = true
    · obtain ⟨p, hp, rfl⟩ := wi_pl w1
      obtain ⟨q, hq, rfl⟩ := wi_pl w2
      rw [w1, w2]
      by_cases c : CB ρ p ∧ (kp ρ p = 1 ∨ kp ρ p = 2)
      · have c3 := (q_C hF h hp c.1).2.2
        obtain ⟨μ2, e1, e2, e3, e4⟩ := so_t hF h hp c.1 c.2 73
        obtain ⟨ρ2, g1, g2, g3⟩ := fsp_t hF h.1 (SmR.rf ρ) hp c.1 c.2 c3
        simp only [xcp, xca, xbn, if_true, show ¬ (1 : Int32) = 0 by decide, if_false, not_false_eq_true, e1, g1]
        cases hg : gok ρ (kp ρ p) (wq ρ p) (cntOf (kp ρ p)) with
        | false => exact ⟨-3, μ2, ρ2, rfl, rfl, q_end h e2 (ρ := ρ) g2⟩
        | true =>
          have h2 := rel_c h e2
          obtain ⟨f1, f2⟩ := e4 hg
          obtain ⟨f3, f4⟩ := g3 hg
          simp only [if_true, show ¬ (1 : Int32) = 0 by decide, if_false, not_false_eq_true]
          by_cases c' : CB ρ q ∧ (kp ρ q = 1 ∨ kp ρ q = 2)
          · have c3' := (q_C hF h hq c'.1).2.2
            obtain ⟨μ3, e1', e2', e3', e4'⟩ := so_t hF h2 hq c'.1 c'.2 74
            obtain ⟨ρ3, g1', g2', g3'⟩ := fsp_t hF h.1 g2 hq c'.1 c'.2 c3'
            simp only [xcp, xca, xbn, e1', g1']
            cases hg' : gok ρ (kp ρ q) (wq ρ q) (cntOf (kp ρ q)) with
            | false => exact ⟨-3, μ3, ρ3, rfl, rfl, q_end h (e2.tr e2') (ρ := ρ) g2'⟩
            | true =>
              obtain ⟨f1', f2'⟩ := e4' hg'
              obtain ⟨f3', f4'⟩ := g3' hg'
              obtain ⟨b1, b2, b3, b4⟩ := SPf_b h.1 c.2 (Nat.le_refl _) hg
              obtain ⟨d1, d2, d3, d4⟩ := SPf_b h.1 c'.2 (Nat.le_refl _) hg'
              have cw := cw_C (F := F) μ3 73 74 (by rw [e3' 73 0 (by omega)]; exact f1) (by rw [e3' 73 1 (by omega)]; exact f2) f1' f2' b1 d1 (by omega) (by omega) b2 d2
              have wl := wd_loop (F := F) (ρ := ρ3) 63 F 1 (SPf ρ (kp ρ p) (wq ρ p) (cntOf (kp ρ p))).1 (SPf ρ (kp ρ p) (wq ρ p) (cntOf (kp ρ p))).2 (SPf ρ (kp ρ q) (wq ρ q) (cntOf (kp ρ q))).1 (SPf ρ (kp ρ q) (wq ρ q) (cntOf (kp ρ q))).2 b1 d1 (by omega) (by omega) (by omega) (by omega) (by omega) (by omega)
              refine ⟨cmq 1 (SPf ρ (kp ρ p) (wq ρ p) (cntOf (kp ρ p))).1 (SPf ρ (kp ρ p) (wq ρ p) (cntOf (kp ρ p))).2 (SPf ρ (kp ρ q) (wq ρ q) (cntOf (kp ρ q))).1 (SPf ρ (kp ρ q) (wq ρ q) (cntOf (kp ρ q))).2, μ3, ρ3, ?_, ?_, q_end h (e2.tr e2') (ρ := ρ) g2'⟩
              · simp only [if_true, show ¬ (1 : Int32) = 0 by decide, if_false, not_false_eq_true, cw, xca]
              · simp only [if_true, show ¬ (1 : Int32) = 0 by decide, if_false, not_false_eq_true, f3, f4, f3', f4', wl]
          · obtain ⟨ρ3, g1', g2'⟩ := fsp_f hF h.1 g2 hq c'
            simp only [xcp, xca, xbn, so_f hF h2 hq c', g1']
            exact ⟨-3, μ2, ρ3, rfl, rfl, q_end h e2 (ρ := ρ) g2'⟩
      · obtain ⟨ρ2, g1, g2⟩ := fsp_f hF h.1 (SmR.rf ρ) hp c
        simp only [xcp, xca, xbn, if_true, show ¬ (1 : Int32) = 0 by decide, if_false, not_false_eq_true, so_f hF h hp c, g1]
        exact ⟨-3, μ, ρ2, rfl, rfl, q_end h (SmC.rf μ) (ρ := ρ) g2⟩
    · rw [Bool.not_eq_true] at w2
      rw [w1, w2]
      exact ⟨-2, μ, ρ, rfl, rfl, h⟩
  · rw [Bool.not_eq_true] at w1
    rw [w1]
    exact ⟨-2, μ, ρ, rfl, rfl, h⟩
