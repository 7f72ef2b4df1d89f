/-! share, both -/
def sA (W : Mem) (k : Nat) (w : Nat → Nat) (x : Nat) : Nat := if k = 1 then w 0 else if k = 2 then w (ly W x) else if k = 5 then w 0 * tC W w (cu W x) else PW W k w x
def sB (W : Mem) (k : Nat) (w : Nat → Nat) (x : Nat) : Nat := if k = 1 then nm W else if k = 2 then nL W (ly W x) else if k = 5 then nK W * nC W (cu W x) else PT W k w
/-- a plan that can be, its numbers of two figures -/
def OK (W : Mem) (k : Nat) (w : Nat → Nat) : Prop := cbk W k w ∧ 1 ≤ k ∧ k ≤ 5 ∧ ∀ j, j < cntOf k → w j ≤ 99
theorem OK.pk {W : Mem} {k : Nat} {w : Nat → Nat} (h : OK W k w) (hk : k = 3 ∨ k = 4) : PK W k w := by
  obtain ⟨h1, h2, h3, h4⟩ := h
  rcases hk with rfl | rfl
  · rw [cbk3] at h1
    exact Or.inl ⟨rfl, h1.1, h1.2⟩
  · rw [cbk4] at h1
    exact Or.inr ⟨rfl, h1.1, h4 0 (by decide), h1.2⟩
theorem sAB {W : Mem} (hw : WF W) {k : Nat} {w : Nat → Nat} (h : OK W k w) {x : Nat} (hx : x < nm W) : sA W k w x ≤ 3000 ∧ 0 < sB W k w x ∧ sB W k w x ≤ 600 := by
  obtain ⟨h1, h2, h3, h4⟩ := id h
  have hN := rw_N hw
  unfold sA sB
  rcases (show k = 1 ∨ k = 2 ∨ k = 3 ∨ k = 4 ∨ k = 5 by omega) with rfl | rfl | rfl | rfl | rfl
  · have := h4 0 (by decide)
    rw [if_pos rfl, if_pos rfl]; omega
  · have := h4 (ly W x) (rw_l hw (SmR.rf W) hx).2
    have l := nL_le W hw (ly W x)
    have p : 0 < nL W (ly W x) := cnt_pos hx (by simp)
    rw [if_neg (by decide), if_pos rfl, if_neg (by decide), if_pos rfl]; omega
  · have hp := h.pk (Or.inl rfl)
    have a := PW_20 hw hp hx
    have b := PT_le hw hp
    have c := hp.pos
    simp only [show ¬ (3 : Nat) = 1 by decide, show ¬ (3 : Nat) = 2 by decide, show ¬ (3 : Nat) = 5 by decide, if_false]
    omega
  · have hp := h.pk (Or.inr rfl)
    have a := PW_20 hw hp hx
    have b := PT_le hw hp
    have c := hp.pos
    simp only [show ¬ (4 : Nat) = 1 by decide, show ¬ (4 : Nat) = 2 by decide, show ¬ (4 : Nat) = 5 by decide, if_false]
    omega
  · rw [cbk5] at h1
    have a := h4 0 (by decide)
    have l := nC_le W hw (cu W x)
    have t := tC_le W w (cu W x)
    have p : 0 < nC W (cu W x) := cnt_pos hx (by simp)
    have hK := nK_le W
    have m1 : w 0 * tC W w (cu W x) ≤ 99 * 30 := Nat.mul_le_mul a (by omega)
    have m2 : nK W * nC W (cu W x) ≤ 8 * 30 := Nat.mul_le_mul hK l
    have m3 : 0 < nK W * nC W (cu W x) := Nat.mul_pos (by omega) p
    simp only [show ¬ (5 : Nat) = 1 by decide, show ¬ (5 : Nat) = 2 by decide, if_false, if_true]
    omega
/-- the class: the share comes to fraction c -/
theorem sh1_C {F : Nat} (hF : 2000 ≤ F) {W : Mem} {k : Nat} {w : Nat → Nat} {t : Nat} {μ : Mem} (h : WY W k w t μ) (ho : OK W k w) {x : Nat} (hx : x < nm W) (c : Nat) : vdis t (f_X2_shareOfOne F μ t (nI x) c) (f_X4_shareOfOne F μ t (nI x) c) (f_X8_shareOfOne F μ t (nI x) c) = some ((), ul (ul μ c 0 (lN (ra (sA W k w x) (sB W k w x)))) c 1 (lN (rb (sA W k w x) (sB W k w x)))) := by
  obtain ⟨s1, s2, s3⟩ := sAB h.1.1 ho hx
  obtain ⟨h1, h2, h3, h4⟩ := id ho
  have hN := rw_N h.1.1
  have fin := bc_C hF μ c (x := sA W k w x) (y := sB W k w x) (by omega) s2 (by omega)
  rcases (show k = 1 ∨ k = 2 ∨ k = 3 ∨ k = 4 ∨ k = 5 by omega) with rfl | rfl | rfl | rfl | rfl
  · have b0 := h4 0 (by decide)
    have gz := gz_eq F h (Or.inl rfl) (g := 0) (by decide)
    rw [gs_1] at gz
    have gz' : f_X2_sizeOf F μ t 0 = some (nI (nm W), μ) := gz
    have e1 : sA W 1 w x = w 0 := rfl
    have e2 : sB W 1 w x = nm W := rfl
    rw [vd_1 (h.k12 (Or.inl rfl)).1]
    unfold f_X2_shareOfOne f_X2_groupOf
    rw [(h.k12 (Or.inl rfl)).2.1, if_pos rfl]
    simp (disch := omega) only [xbn, if_true, xca, ck_0, cl_0, h.num (show 0 < cntOf 1 by decide), gz', nI_l]
    rw [e1, e2] at fin
    rw [fin, xca]
    rfl
  · have l := rw_l h.1.1 (SmR.rf W) hx
    have b0 := h4 (ly W x) l.2
    have ln := nL_le W h.1.1 (ly W x)
    have gz := gz_eq F h (Or.inr rfl) (g := ly W x) l.2
    rw [gs_2] at gz
    have e1 : sA W 2 w x = w (ly W x) := rfl
    have e2 : sB W 2 w x = nL W (ly W x) := rfl
    have nn := h.num (j := ly W x) l.2
    rw [vd_1 (h.k12 (Or.inr rfl)).1]
    unfold f_X2_shareOfOne f_X2_groupOf
    rw [(h.k12 (Or.inr rfl)).2.1, if_neg (by decide)]
    simp (disch := omega) only [xbn, show ¬ (1 : Int32) = 0 by decide, if_false, xca, ck_in, nI_clamp, cw_l h.1 hx, nn, gz, nI_l]
    rw [e1, e2] at fin
    rw [fin, xca]
    rfl
  · have hp := ho.pk (Or.inl rfl)
    have a := PW_20 h.1.1 hp hx
    have b := PT_le h.1.1 hp
    have e1 : sA W 3 w x = PW W 3 w x := rfl
    have e2 : sB W 3 w x = PT W 3 w := rfl
    rw [vd_2 (h.k34 (Or.inl rfl)).1]
    unfold f_X4_shareOfOne
    simp (disch := omega) only [pwt_C h hp hx, pt_C F h hp, xca, nI_l]
    rw [e1, e2] at fin
    rw [fin, xca]
    rfl
  · have hp := ho.pk (Or.inr rfl)
    have a := PW_20 h.1.1 hp hx
    have b := PT_le h.1.1 hp
    have e1 : sA W 4 w x = PW W 4 w x := rfl
    have e2 : sB W 4 w x = PT W 4 w := rfl
    rw [vd_2 (h.k34 (Or.inr rfl)).1]
    unfold f_X4_shareOfOne
    simp (disch := omega) only [pwt_C h hp hx, pt_C F h hp, xca, nI_l]
    rw [e1, e2] at fin
    rw [fin, xca]
    rfl
  · have b0 := h4 0 (by decide)
    have b1 := h4 1 (by decide)
    have cc := rw_c h.1.1 (SmR.rf W) hx
    have l := nC_le W h.1.1 (cu W x)
    have tl := tC_le W w (cu W x)
    have hK := nK_le W
    have e1 : sA W 5 w x = w 0 * tC W w (cu W x) := rfl
    have e2 : sB W 5 w x = nK W * nC W (cu W x) := rfl
    rw [vd_3 (h.k5 rfl)]
    unfold f_X8_shareOfOne
    simp (disch := omega) only [xbn, xca, ck_in, ck_0, cl_0, nI_clamp, cw_c h.1 hx, h.num (show 0 < cntOf 5 by decide), to_eq F h b1 cc.2, kl_eq h.1, cs_eq F h.1 t cc.2, nI_l, lN_mul]
    rw [e1, e2] at fin
    rw [fin, xca]
    rfl
/-- the reference's findShare -/
theorem fs_eq {F : Nat} (hF : 2000 ≤ F) {W : Mem} (hw : WF W) {k : Nat} {w : Nat → Nat} {ρ : Mem} (h : R2 W k w ρ) (ho : OK W k w) {x : Nat} (hx : x < nm W) : ∃ ρ2, f_X12_findShare F ρ (nI x) = some ((), ρ2) ∧ R2 W k w ρ2 ∧ ρ2.2.1 0 24 = lN (ra (sA W k w x) (sB W k w x)) ∧ ρ2.2.1 0 25 = lN (rb (sA W k w x) (sB W k w x)) ∧ (∀ c j, (c = 0 → j ≠ 24 ∧ j ≠ 25) → ρ2.2.1 c j = ρ.2.1 c j) ∧ ∀ c, c ≠ 0 → c ≠ 15 → ρ2.1 c = ρ.1 c := by
  obtain ⟨s1, s2, s3⟩ := sAB hw ho hx
  obtain ⟨h1, h2, h3, h4⟩ := id ho
  obtain ⟨r1, r2, r3, r4, _⟩ := id h.1
  have hN := rw_N hw
  have e0 := rw_n hw r1
  have fin : ∀ ρ1 : Mem, R2 W k w ρ1 → ρ1.2 = ρ.2 → (∀ c, c ≠ 0 → c ≠ 15 → ρ1.1 c = ρ.1 c) → f_X12_findShare F ρ (nI x) = (cal (f_X12_becomes F ρ1 (lN (sA W k w x)) (lN (sB W k w x))) fun _ μ13 => some ((), μ13)) → ∃ ρ2, f_X12_findShare F ρ (nI x) = some ((), ρ2) ∧ R2 W k w ρ2 ∧ ρ2.2.1 0 24 = lN (ra (sA W k w x) (sB W k w x)) ∧ ρ2.2.1 0 25 = lN (rb (sA W k w x) (sB W k w x)) ∧ (∀ c j, (c = 0 → j ≠ 24 ∧ j ≠ 25) → ρ2.2.1 c j = ρ.2.1 c j) ∧ ∀ c, c ≠ 0 → c ≠ 15 → ρ2.1 c = ρ.1 c := by
    intro ρ1 a1 a2 a3 a4
    rw [bc_R hF ρ1 (by omega) s2 (by omega), xca] at a4
    refine ⟨_, a4, a1.sm rfl, ?_, ul_s _ _ _ _, fun c j hc => ?_, fun c c0 c1 => a3 c c0 c1⟩
    · rw [ul_o (by omega), ul_s]
    · by_cases e : c = 0
      · subst e
        rw [ul_o (hc rfl).2, ul_o (hc rfl).1, a2]
      · rw [ul_c e, ul_c e, a2]
  have go : ∀ b : Bool, (b = true ↔ k = 3 ∨ k = 4) → f_X12_goesRound F ρ = some (if b then 1 else 0, ρ) := by
    intro b hb
    unfold f_X12_goesRound f_X12_goesRound_b18
    rw [r2]
    rcases (show k = 1 ∨ k = 2 ∨ k = 3 ∨ k = 4 ∨ k = 5 by omega) with rfl | rfl | rfl | rfl | rfl
    · have : b = false := by cases b with | false => rfl | true => exact absurd (hb.mp rfl) (by decide)
      rw [this]; rfl
    · have : b = false := by cases b with | false => rfl | true => exact absurd (hb.mp rfl) (by decide)
      rw [this]; rfl
    · rw [hb.mpr (Or.inl rfl)]; rfl
    · rw [hb.mpr (Or.inr rfl)]; rfl
    · have : b = false := by cases b with | false => rfl | true => exact absurd (hb.mp rfl) (by decide)
      rw [this]; rfl
  rcases (show k = 1 ∨ k = 2 ∨ k = 3 ∨ k = 4 ∨ k = 5 by omega) with rfl | rfl | rfl | rfl | rfl
  · have b0 := h4 0 (by decide)
    refine fin ρ h rfl (fun _ _ _ => rfl) ?_
    unfold f_X12_findShare
    rw [go false (by decide)]
    simp only [xca, xbn, r2, kc, if_true, Bool.false_eq_true, if_false, not_true_eq_false, ck_0 (show 0 < 4 by decide), cl_0, r3 0 (by decide), e0]
    rw [nI_l (by omega), nI_l (by omega)]
    rfl
  · have l := rw_l hw r1 hx
    have b0 := h4 (ly W x) l.2
    have ln := nL_le W hw (ly W x)
    have n0 := r3 (ly W x) l.2
    refine fin ρ h rfl (fun _ _ _ => rfl) ?_
    unfold f_X12_findShare
    rw [go false (by decide)]
    simp (disch := omega) only [xca, xbn, r2, kc, show ¬ (2 : Nat) = 1 by decide, if_true, Bool.false_eq_true, if_false, show ¬ (108 : Int32) = 97 by decide, not_false_eq_true, not_true_eq_false, ck_in, nI_clamp, l.1, n0, mo_l hF hw r1, nI_l]
    rfl
  · have hp := ho.pk (Or.inl rfl)
    have b := PT_le hw hp
    have a := PW_20 hw hp hx
    obtain ⟨ρ1, e1, e2, e3, e4⟩ := wo_eq hF hw h hp hx
    refine fin ρ1 e2 e3 e4 ?_
    unfold f_X12_findShare
    rw [go true (by decide)]
    simp (disch := omega) only [xca, if_true, show ¬ (1 : Int32) = 0 by decide, if_false, e1, pt_R hF hw e2.1 hp, nI_l]
    rfl
  · have hp := ho.pk (Or.inr rfl)
    have b := PT_le hw hp
    have a := PW_20 hw hp hx
    obtain ⟨ρ1, e1, e2, e3, e4⟩ := wo_eq hF hw h hp hx
    refine fin ρ1 e2 e3 e4 ?_
    unfold f_X12_findShare
    rw [go true (by decide)]
    simp (disch := omega) only [xca, if_true, show ¬ (1 : Int32) = 0 by decide, if_false, e1, pt_R hF hw e2.1 hp, nI_l]
    rfl
  · have b0 := h4 0 (by decide)
    have b1 := h4 1 (by decide)
    have cc := rw_c hw r1 hx
    have l := nC_le W hw (cu W x)
    have tl := tC_le W w (cu W x)
    have hK := nK_le W
    refine fin ρ h rfl (fun _ _ _ => rfl) ?_
    unfold f_X12_findShare
    rw [go false (by decide)]
    simp (disch := omega) only [xca, xbn, r2, kc, show ¬ (5 : Nat) = 1 by decide, show ¬ (5 : Nat) = 2 by decide, show ¬ (5 : Nat) = 3 by decide, show ¬ (5 : Nat) = 4 by decide, if_true, Bool.false_eq_true, if_false, show ¬ (116 : Int32) = 97 by decide, show ¬ (116 : Int32) = 108 by decide, not_false_eq_true, not_true_eq_false, ck_in, ck_0, cl_0, nI_clamp, cc.1, r3 0 (show 0 < cntOf 5 by decide), oc_eq hF hw h.1 b1 cc.2, cn_eq hF hw r1, mo_c hF hw r1, nI_l, lN_mul]
    rfl
/-- a query's frame: the plan can be -/
theorem q_C {F : Nat} (hF : 2000 ≤ F) {W μ : Mem} (h : Rel μ W) {p : Nat} (hp : p < 4) (hc : CB W p) : f_X5_possibleWay F μ (18 + 9 * p) = some (some (18 + 9 * p + 2 + kp W p), μ) ∧ WY W (kp W p) (wq W p) (18 + 9 * p + 2 + kp W p) μ ∧ OK W (kp W p) (wq W p) := by
  obtain ⟨c1, c2, c3⟩ := pw_t hF h hp hc
  obtain ⟨_, _, _, _, _, k1, k5⟩ := id c2
  exact ⟨c1, c2, hc.2, k1, k5, c3⟩
theorem q_R {F : Nat} (hF : 2000 ≤ F) {W ρ : Mem} (hw : WF W) (hs : SmR W ρ) {p : Nat} (hp : p < 4) (hc : CB W p) : ∃ ρ2, f_X12_canBe F ρ (nI p) = some (1, ρ2) ∧ R2 W (kp W p) (wq W p) ρ2 := by
  obtain ⟨ρ1, r1, r2, r3, _⟩ := (cr_eq hF hw hs hp).1 hc
  exact ⟨ρ1, r1, r2, Or.inl r3⟩
theorem smc_2 (μ : Mem) (c : Nat) (a b : Int64) : SmC μ (ul (ul μ c 0 a) c 1 b) := (smc_l μ c 0 a).tr (smc_l _ c 1 b)
theorem td_eq (F : Nat) (μ : Mem) (c : Nat) {x : Int32} (h : wi x 0 1 = true) : f_X1_told F μ c x = some (if x = 0 then μ.2.1 c 0 else μ.2.1 c 1, μ) := by
  unfold f_X1_told
  by_cases q : x = 0
  · simp only [q, not_true_eq_false, if_false, xbn, if_true]
  · simp only [q, not_false_eq_true, if_true, xbn, if_false]
theorem sim_share {F : Nat} (hF : 2000 ≤ F) (μ ρ : Mem) (a1 a2 a3 : Int32) (h : Rel μ ρ) : ∃ (r : Int64) (μ2 ρ2 : Mem), f_X11_share F μ a1 a2 a3 = some (r, μ2) ∧ f_X12_share F ρ a1 a2 a3 = some (r, ρ2) ∧ SmC μ μ2 ∧ SmR ρ ρ2 := by
  unfold f_X11_share f_X12_share f_X11_share_b25 f_X12_share_b25
  rw [pl_C, pl_R, hn_eq h, in_nm h.1 (SmR.rf ρ), ab_C, in_eq F a3 0 1 (A := 0) (B := 1) rfl rfl, al_C, al_R, al_C, al_R]
  by_cases w1 : wi a1 0 3 = true
  · by_cases w2 : wi a2 0 (nI (nm ρ) - 1) = true
    · by_cases w3 : wi a3 0 1 = true
      · obtain ⟨p, hp, rfl⟩ := wi_pl w1
        obtain ⟨x, hx, rfl⟩ := wi_nm h.1 w2
        have hN := rw_N h.1
        rw [w1, w2, w3]
        by_cases c : CB ρ p
        · obtain ⟨c1, c2, c3⟩ := q_C hF h hp c
          obtain ⟨ρ1, r1, r2⟩ := q_R hF h.1 (SmR.rf ρ) hp c
          obtain ⟨ρ2, d1, d2, d3, d4, d5⟩ := fs_eq hF h.1 r2 c3 hx
          have e1 := sh1_C hF c2 c3 hx 73
          refine ⟨if a3 = 0 then lN (ra (sA ρ (kp ρ p) (wq ρ p) x) (sB ρ (kp ρ p) (wq ρ p) x)) else lN (rb (sA ρ (kp ρ p) (wq ρ p) x) (sB ρ (kp ρ p) (wq ρ p) x)), _, ρ2, ?_, ?_, smc_2 μ 73 (lN (ra (sA ρ (kp ρ p) (wq ρ p) x) (sB ρ (kp ρ p) (wq ρ p) x))) (lN (rb (sA ρ (kp ρ p) (wq ρ p) x) (sB ρ (kp ρ p) (wq ρ p) x))), d2.1.1⟩
          · simp (disch := omega) only [xcp, xca, xbn, if_true, show ¬ (1 : Int32) = 0 by decide, if_false, not_false_eq_true, ck_in, nI_clamp, c1, onul, e1, td_eq F _ 73 w3, ul_s, ul_o]
          · simp (disch := omega) only [xcp, xca, xbn, if_true, show ¬ (1 : Int32) = 0 by decide, if_false, not_false_eq_true, r1, d1, d3, d4]
            by_cases q : a3 = 0
            · simp only [q, not_true_eq_false, if_false, if_true]
            · simp only [q, not_false_eq_true, if_true, if_false]
        · obtain ⟨ρ2, r1, r2⟩ := (cr_eq hF h.1 (SmR.rf ρ) hp).2 c
          refine ⟨nol (-3), μ, ρ2, ?_, ?_, SmC.rf μ, r2⟩
          · simp (disch := omega) only [xcp, xca, xbn, if_true, show ¬ (1 : Int32) = 0 by decide, if_false, not_false_eq_true, ck_in, nI_clamp, pw_f hF h hp c, onul]
          · simp (disch := omega) only [xcp, xca, xbn, if_true, show ¬ (1 : Int32) = 0 by decide, if_false, not_false_eq_true, r1, not_true_eq_false]
      · rw [Bool.not_eq_true] at w3
        rw [w1, w2, w3]
        exact ⟨_, μ, ρ, rfl, rfl, SmC.rf μ, SmR.rf ρ⟩
    · rw [Bool.not_eq_true] at w2
      rw [w1, w2]
      exact ⟨_, μ, ρ, rfl, rfl, SmC.rf μ, SmR.rf ρ⟩
  · rw [Bool.not_eq_true] at w1
    rw [w1]
    exact ⟨_, μ, ρ, rfl, rfl, SmC.rf μ, SmR.rf ρ⟩
