/-! who is best asked again -/
/-- 1000 by a share, cut -/
def TB (W : Mem) (k : Nat) (w : Nat → Nat) (x : Nat) : Nat := 1000 * rb (sA W k w x) (sB W k w x) / ra (sA W k w x) (sB W k w x)
theorem TB_le {W : Mem} (hw : WF W) {k : Nat} {w : Nat → Nat} (ho : OK W k w) {x : Nat} (hx : x < nm W) : TB W k w x ≤ 600000 := by
  have a := sAB hw ho hx
  have b := rb_le (sA W k w x) (sB W k w x)
  have c := Nat.div_le_self (1000 * rb (sA W k w x) (sB W k w x)) (ra (sA W k w x) (sB W k w x))
  unfold TB
  omega
theorem tb_1 {F : Nat} (μ : Mem) (c : Nat) {W : Mem} (hw : WF W) {k : Nat} {w : Nat → Nat} (ho : OK W k w) {x : Nat} (hx : x < nm W) (hp : 0 < sA W k w x) (ea : μ.2.1 c 0 = lN (ra (sA W k w x) (sB W k w x))) (eb : μ.2.1 c 1 = lN (rb (sA W k w x) (sB W k w x))) : f_X1_thousandBy F μ c = some (nI (TB W k w x), μ) := by
  have a := sAB hw ho hx
  have b := rb_le (sA W k w x) (sB W k w x)
  have c := ra_le (sA W k w x) (sB W k w x)
  have p := ra_pos (y := sB W k w x) hp
  unfold f_X1_thousandBy TB
  simp (disch := omega) only [lgl, lgg, lgle, lgge, lge, l_0, l_1, l_1000, bl_le_t, bl_le_f, bl_lt_t, bl_lt_f, bl_eq_t, bl_eq_f, dvl_n, dvi_n, nI_l, lN_add, lN_mul, lN_1, xbn, ea, eb, pk_lDiv, lN_i]
/-- a silent name of the draw -/
def sln (W : Mem) (d i : Nat) : Bool := d.testBit i && decide (vl W i = -1)
def gn (W : Mem) (k : Nat) (w : Nat → Nat) (d : Nat) : Nat → Nat → Nat
  | 0, _ => 0
  | i + 1, c => gn W k w d i c + if (sln W d i && decide (cu W i = c)) = true then TB W k w i else 0
def hS (W : Mem) (d c : Nat) : Nat → Bool
  | 0 => false
  | i + 1 => hS W d c i || (sln W d i && decide (cu W i = c))
def may (W : Mem) (d i : Nat) : Nat := msk (fun c => hS W d c i) 8
theorem gn_le {W : Mem} (hw : WF W) {k : Nat} {w : Nat → Nat} (ho : OK W k w) (d c : Nat) : ∀ i, i ≤ nm W → gn W k w d i c ≤ 600000 * i
  | 0, _ => Nat.le_refl _
  | i + 1, hi => by
    have ih := gn_le hw ho d c i (by omega)
    have t := TB_le hw ho (x := i) (by omega)
    rw [gn]
    split <;> omega
theorem gn_no {W : Mem} {k : Nat} {w : Nat → Nat} {d i : Nat} (h : sln W d i = false) (c : Nat) : gn W k w d (i + 1) c = gn W k w d i c := by rw [gn, h]; rfl
theorem may_no {W : Mem} {d i : Nat} (h : sln W d i = false) : may W d (i + 1) = may W d i := by
  unfold may
  exact msk_cg (fun c _ => by rw [hS, h, Bool.false_and, Bool.or_false])
theorem may_yes {W : Mem} {d i : Nat} (h : sln W d i = true) (hc : cu W i < 8) : may W d i ||| 2 ^ cu W i = may W d (i + 1) := by
  unfold may
  exact msk_set _ _ hc (by omega) (by rw [hS, h]; simp) (fun c hc2 => by rw [hS]; simp [show ¬ cu W i = c from fun q => hc2 q.symm])
theorem may_lt (W : Mem) (d i : Nat) : may W d i < 2 ^ 8 := msk_lt _ _
/-- the class: gains gathered -/
theorem gg_0 {F : Nat} {x1 : Option Nat} {x2 x3 : Int32} : ∀ (n i : Nat) (μ : Mem), i ≤ 8 → 8 < n + i → ∃ μ2, f_X3_gatherGains_b5 F n μ x1 x2 x3 (nI i) = f_X3_gatherGains_b29 F F μ2 x1 x2 x3 0 ∧ μ2.2 = μ.2 ∧ (∀ c, c ≠ 71 → μ2.1 c = μ.1 c) ∧ ∀ j, μ2.1 71 j = if i ≤ j ∧ j < 8 then 0 else μ.1 71 j := by
  intro n
  induction n with
  | zero => intro i μ h1 h2; exact absurd h2 (by omega)
  | succ n ih =>
    intro i μ h1 h2
    unfold f_X3_gatherGains_b5
    by_cases hi : i = 8
    · subst hi
      simp (disch := omega) only [i_8, br_le_t]
      refine ⟨μ, rfl, rfl, fun _ _ => rfl, fun j => ?_⟩
      rw [if_neg (by omega)]
    · simp (disch := omega) only [i_8, br_le_f, ck_in, nI_clamp, xbn, nI_1]
      obtain ⟨μ2, e1, e2, e3, e4⟩ := ih (i + 1) (ui μ 71 i 0) (by omega) (by omega)
      refine ⟨μ2, e1, e2, fun c hc => by rw [e3 c hc, ui_ne hc], fun j => ?_⟩
      rw [e4, ui_at]
      by_cases q : j = i
      · subst q
        rw [if_neg (by omega), if_pos rfl, if_pos (by omega)]
      · rw [if_neg q]
        by_cases q2 : i + 1 ≤ j ∧ j < 8
        · rw [if_pos q2, if_pos (show i ≤ j ∧ j < 8 by omega)]
        · rw [if_neg q2, if_neg (show ¬ (i ≤ j ∧ j < 8) by omega)]
theorem smc_71 {μ μ2 : Mem} (h1 : ∀ c, c ≠ 71 → μ2.1 c = μ.1 c) (h2 : μ2.2.2 = μ.2.2) : SmC μ μ2 := ⟨by rw [h1 0 (by omega)], fun c hc => h1 c (by omega), fun p hp => ⟨h1 _ (by omega), h1 _ (by omega), h1 _ (by omega), by rw [h2]⟩, fun p hp m a b j c => by rw [h1 _ (by omega)]⟩
theorem gg_eq {F : Nat} (hF : 2000 ≤ F) {W : Mem} {k : Nat} {w : Nat → Nat} {t : Nat} {μ : Mem} (h : WY W k w t μ) (ho : OK W k w) {d : Nat} (hd : d < 2 ^ nm W) (hs : ∀ x, x < nm W → d.testBit x = true → 0 < sA W k w x) : ∃ μ2, f_X3_gatherGains F μ (some t) (nI (dif d (vbs W))) = some (nI (may W d (nm W)), μ2) ∧ SmC μ μ2 ∧ ∀ c, c < 8 → μ2.1 71 c = nI (gn W k w d (nm W) c) := by
  have hw := h.1.1
  have hN := rw_N hw
  have hd2 := Nat.lt_of_lt_of_le hd (pow_le30 hN)
  have dl := dif_le d (vbs W)
  obtain ⟨μ1, e1, e2, e3, e4⟩ := gg_0 (F := F) (x1 := some t) (x2 := nI (dif d (vbs W))) (x3 := 0) F 0 μ (by omega) (by omega)
  have e1' : f_X3_gatherGains_b5 F F μ (some t) (nI (dif d (vbs W))) 0 0 = _ := e1
  unfold f_X3_gatherGains
  rw [e1']
  have m0 : (0 : Int32) = nI (may W d 0) := by unfold may; rw [msk_0 (f := fun c => hS W d c 0) (fun _ _ => rfl)]; rfl
  have key := run_rel (N := nm W) (fun n i μ' => f_X3_gatherGains_b29 F n μ' (some t) (nI (dif d (vbs W))) (nI (may W d i)) (nI i)) (fun i μ' => SmC μ μ' ∧ ∀ c, c < 8 → μ'.1 71 c = nI (gn W k w d i c)) (fun o => ∃ μ2, o = some (nI (may W d (nm W)), μ2) ∧ SmC μ μ2 ∧ ∀ c, c < 8 → μ2.1 71 c = nI (gn W k w d (nm W) c)) (fun n i μ' hi hI => Or.inl ?_) (fun n μ' hI => ?_) F 0 μ1 (Nat.zero_le _) (by omega) ⟨smc_71 e3 (by rw [e2]), fun c hc => by rw [e4, if_pos (by omega)]; rfl⟩
  · rw [← m0] at key
    exact key
  · obtain ⟨i1, i2⟩ := hI
    have hy := h.sm i1
    have tb : (dif d (vbs W)).testBit i = sln W d i := by
      rw [dif_t (by omega), vbs_t]
      unfold sln
      by_cases q : vl W i = -1 <;> simp [q, hi]
    cases q : sln W d i with
    | false =>
      refine ⟨μ', ⟨i1, fun c hc => by rw [gn_no q]; exact i2 c hc⟩, fun y hy2 => ?_⟩
      rw [may_no q] at hy2
      unfold f_X3_gatherGains_b29 f_X3_gatherGains_b104
      simp (disch := omega) only [xbn, cw_n hy.1, br_le_f, onul, ii_eq, tb, q, xcp, Bool.false_eq_true, if_false, if_true, nI_1]
      exact hy2
    | true =>
      have db : d.testBit i = true := by unfold sln at q; simp at q; exact q.1
      have cc := rw_c hw (SmR.rf W) hi
      have sp := hs i hi db
      have sh := sh1_C hF hy ho hi 72
      have tb1 := tb_1 (F := F) (ul (ul μ' 72 0 (lN (ra (sA W k w i) (sB W k w i)))) 72 1 (lN (rb (sA W k w i) (sB W k w i)))) 72 hw ho hi sp (by rw [ul_o (by omega), ul_s]) (ul_s _ _ _ _)
      have g0 := i2 (cu W i) cc.2
      refine ⟨ui (ul (ul μ' 72 0 (lN (ra (sA W k w i) (sB W k w i)))) 72 1 (lN (rb (sA W k w i) (sB W k w i)))) 71 (cu W i) (nI (gn W k w d i (cu W i) + TB W k w i)), ⟨(i1.tr (smc_2 μ' 72 _ _)).tr (smc_i (by omega) _ _ _), fun c hc => ?_⟩, fun y hy2 => ?_⟩
      · rw [ui_at, gn, q]
        by_cases e : c = cu W i
        · rw [if_pos e, e]; simp
        · rw [if_neg e]
          simp [show ¬ cu W i = c from fun z => e z.symm]
          exact i2 c hc
      · rw [← may_yes q cc.2, ← nI_or] at hy2
        unfold f_X3_gatherGains_b29 f_X3_gatherGains_b104
        simp (disch := omega) only [xbn, cw_n hy.1, br_le_f, onul, ii_eq, tb, q, xcp, if_true, show ¬ (1 : Int32) = 0 by decide, if_false, sh, xca, ck_in, nI_clamp, ul_1, ui_c, cw_c hy.1 hi, g0, tb1, nI_add, one_shl, nI_1]
        exact hy2
  · obtain ⟨i1, i2⟩ := hI
    have hy := h.sm i1
    unfold f_X3_gatherGains_b29
    simp (disch := omega) only [xbn, cw_n hy.1, br_le_t]
    exact ⟨μ', rfl, i1, i2⟩
/-- sums over the clusters of a set -/
def smb (f : Nat → Nat) (s : Nat) : Nat → Nat
  | 0 => 0
  | c + 1 => smb f s c + if s.testBit c then f c else 0
theorem smb_le {f : Nat → Nat} {s X : Nat} (h : ∀ c, c < 8 → f c ≤ X) : ∀ c, c ≤ 8 → smb f s c ≤ X * c
  | 0, _ => Nat.zero_le _
  | c + 1, hc => by
    have ih := smb_le h (s := s) c (by omega)
    have t := h c (by omega)
    rw [smb, Nat.mul_add, Nat.mul_one]
    split <;> omega
theorem tg_C {F : Nat} (hF : 2000 ≤ F) (μ : Mem) {r : Nat} (hk : kindC r - 1000 = 8) {f : Nat → Nat} {X s : Nat} (hf : ∀ c, c < 8 → μ.1 r c = nI (f c)) (hX : ∀ c, c < 8 → f c ≤ X) (hX2 : X ≤ 100000000) (hs : s < 2 ^ 31) : f_X3_together F μ r (nI s) = some (nI (smb f s 8), μ) := by
  unfold f_X3_together
  refine run_up (N := 8) (fun n i => f_X3_together_b4 F n μ r (nI s) (nI (smb f s i)) (nI i)) (fun n i hi y hy => ?_) (fun n => ?_) F 0 (Nat.zero_le _) (by omega)
  · have l := smb_le hX (s := s) i (by omega)
    unfold f_X3_together_b4 f_X3_together_b24
    rw [smb] at hy
    cases q : s.testBit i with
    | false =>
      rw [q] at hy
      simp (disch := omega) only [i_8, br_le_f, ii_eq, q, xcp, Bool.false_eq_true, if_false, if_true, nI_1, Nat.add_zero] at hy ⊢
      exact hy
    | true =>
      rw [q] at hy
      simp (disch := omega) only [i_8, br_le_f, ii_eq, q, xcp, if_true, show ¬ (1 : Int32) = 0 by decide, if_false, hk, ck_in, nI_clamp, hf i hi, xbn, nI_add, nI_1] at hy ⊢
      exact hy
  · unfold f_X3_together_b4
    rw [if_pos (by decide)]
/-- costs by clusters -/
def cst (W : Mem) (c : Nat) : Nat := (W.1 22 c).toNatClampNeg
theorem cst_n {W : Mem} (hw : WF W) {c : Nat} (hc : c < 8) : W.1 22 c = nI (cst W c) ∧ cst W c ≤ 100 := by
  obtain ⟨v, e, hv⟩ := hw.2.2.2.2.2.2 c hc
  unfold cst
  rw [e, nI_clamp (by omega)]
  exact ⟨rfl, hv⟩
/-- the best of the sets 1 .. i: set, gain, cost -/
def agS (W : Mem) (g : Nat → Nat) (m pr : Nat) : Nat → Nat × Nat × Nat
  | 0 => (0, 0, 0)
  | i + 1 => if dif (i + 1) m = 0 ∧ smb (cst W) (i + 1) 8 ≤ pr ∧ ((agS W g m pr i).2.1 < smb g (i + 1) 8 ∨ (smb g (i + 1) 8 = (agS W g m pr i).2.1 ∧ smb (cst W) (i + 1) 8 < (agS W g m pr i).2.2)) then (i + 1, smb g (i + 1) 8, smb (cst W) (i + 1) 8) else agS W g m pr i
theorem agS_le {W : Mem} (hw : WF W) {g : Nat → Nat} (hg : ∀ c, c < 8 → g c ≤ 20000000) (m pr : Nat) : ∀ i, i ≤ 255 → (agS W g m pr i).1 ≤ 255 ∧ (agS W g m pr i).2.1 ≤ 160000000 ∧ (agS W g m pr i).2.2 ≤ 800
  | 0, _ => ⟨Nat.zero_le _, Nat.zero_le _, Nat.zero_le _⟩
  | i + 1, hi => by
    have ih := agS_le hw hg m pr i (by omega)
    have l1 := smb_le (f := g) (s := i + 1) hg 8 (Nat.le_refl _)
    have l2 := smb_le (f := cst W) (s := i + 1) (fun c hc => (cst_n hw hc).2) 8 (Nat.le_refl _)
    rw [agS]
    split
    · exact ⟨hi, by show smb g (i + 1) 8 ≤ _; omega, by show smb (cst W) (i + 1) 8 ≤ _; omega⟩
    · exact ih
theorem sk_eq {F : Nat} (hF : 2000 ≤ F) {W : Mem} {k : Nat} {w : Nat → Nat} {t : Nat} {μ : Mem} (h : WY W k w t μ) (ho : OK W k w) {d pr : Nat} (hd : d < 2 ^ nm W) (hs : ∀ x, x < nm W → d.testBit x = true → 0 < sA W k w x) (hp : pr ≤ 800) : ∃ μ2, f_X3_seek F μ (some t) (nI d) (nI pr) = some ((), μ2) ∧ SmC μ μ2 ∧ μ2.1 69 4 = nI (agS W (gn W k w d (nm W)) (may W d (nm W)) pr 255).1 ∧ μ2.1 69 5 = nI (agS W (gn W k w d (nm W)) (may W d (nm W)) pr 255).2.1 ∧ μ2.1 69 6 = nI (agS W (gn W k w d (nm W)) (may W d (nm W)) pr 255).2.2 := by
  have hw := h.1.1
  have hN := rw_N hw
  obtain ⟨μ1, e1, e2, e3⟩ := gg_eq hF h ho hd hs
  have hg : ∀ c, c < 8 → gn W k w d (nm W) c ≤ 20000000 := fun c _ => by have := gn_le hw ho d c (nm W) (Nat.le_refl _); omega
  have ml := may_lt W d (nm W)
  unfold f_X3_seek
  rw [cw_vb h.1, show msk (fun k => decide (¬ vl W k = -1)) (nm W) = vbs W from rfl]
  simp only [xbn]
  rw [nI_dif, e1]
  simp only [xca]
  refine run_rel (N := 255) (fun n i μ' => f_X3_seek_b36 F n μ' (nI pr) (nI (may W d (nm W))) (nI (i + 1))) (fun i μ' => SmC μ μ' ∧ (∀ c, c < 8 → μ'.1 71 c = nI (gn W k w d (nm W) c)) ∧ μ'.1 69 4 = nI (agS W (gn W k w d (nm W)) (may W d (nm W)) pr i).1 ∧ μ'.1 69 5 = nI (agS W (gn W k w d (nm W)) (may W d (nm W)) pr i).2.1 ∧ μ'.1 69 6 = nI (agS W (gn W k w d (nm W)) (may W d (nm W)) pr i).2.2) (fun o => ∃ μ2, o = some ((), μ2) ∧ SmC μ μ2 ∧ μ2.1 69 4 = nI (agS W (gn W k w d (nm W)) (may W d (nm W)) pr 255).1 ∧ μ2.1 69 5 = nI (agS W (gn W k w d (nm W)) (may W d (nm W)) pr 255).2.1 ∧ μ2.1 69 6 = nI (agS W (gn W k w d (nm W)) (may W d (nm W)) pr 255).2.2) (fun n i μ' hi hI => Or.inl ?_) (fun n μ' hI => ?_) F 0 _ (Nat.zero_le _) (by omega) ⟨((e2.tr (smc_i (k := 69) (by omega) _ 4 0)).tr (smc_i (k := 69) (by omega) _ 5 0)).tr (smc_i (k := 69) (by omega) _ 6 0), fun c hc => by rw [ui_c (by omega), ui_c (by omega), ui_c (by omega)]; exact e3 c hc, by rw [ui_o (by omega), ui_o (by omega), ui_s]; rfl, by rw [ui_o (by omega), ui_s]; rfl, by rw [ui_s]; rfl⟩
  · obtain ⟨i1, i2, i3, i4, i5⟩ := hI
    have hy := h.sm i1
    have rl := hy.1
    have c70 : ∀ c, c < 8 → μ'.1 70 c = nI (cst W c) := fun c hc => by rw [rl.2.2.2.2.2.2.2 c hc]; exact (cst_n hw hc).1
    have t70 := tg_C hF μ' (r := 70) rfl c70 (fun c hc => (cst_n hw hc).2) (by omega) (s := i + 1) (by omega)
    have t71 := tg_C hF μ' (r := 71) rfl i2 hg (by omega) (s := i + 1) (by omega)
    have l1 := smb_le (s := i + 1) hg 8 (Nat.le_refl _)
    have l2 := smb_le (f := cst W) (s := i + 1) (fun c hc => (cst_n hw hc).2) 8 (Nat.le_refl _)
    obtain ⟨a1, a2, a3⟩ := agS_le hw hg (may W d (nm W)) pr i (by omega)
    have dl := dif_le (i + 1) (may W d (nm W))
    have keep : ¬ (dif (i + 1) (may W d (nm W)) = 0 ∧ smb (cst W) (i + 1) 8 ≤ pr ∧ ((agS W (gn W k w d (nm W)) (may W d (nm W)) pr i).2.1 < smb (gn W k w d (nm W)) (i + 1) 8 ∨ (smb (gn W k w d (nm W)) (i + 1) 8 = (agS W (gn W k w d (nm W)) (may W d (nm W)) pr i).2.1 ∧ smb (cst W) (i + 1) 8 < (agS W (gn W k w d (nm W)) (may W d (nm W)) pr i).2.2))) → agS W (gn W k w d (nm W)) (may W d (nm W)) pr (i + 1) = agS W (gn W k w d (nm W)) (may W d (nm W)) pr i := fun z => by rw [agS, if_neg z]
    have take : (dif (i + 1) (may W d (nm W)) = 0 ∧ smb (cst W) (i + 1) 8 ≤ pr ∧ ((agS W (gn W k w d (nm W)) (may W d (nm W)) pr i).2.1 < smb (gn W k w d (nm W)) (i + 1) 8 ∨ (smb (gn W k w d (nm W)) (i + 1) 8 = (agS W (gn W k w d (nm W)) (may W d (nm W)) pr i).2.1 ∧ smb (cst W) (i + 1) 8 < (agS W (gn W k w d (nm W)) (may W d (nm W)) pr i).2.2))) → agS W (gn W k w d (nm W)) (may W d (nm W)) pr (i + 1) = (i + 1, smb (gn W k w d (nm W)) (i + 1) 8, smb (cst W) (i + 1) 8) := fun z => by rw [agS, if_pos z]
    generalize agS W (gn W k w d (nm W)) (may W d (nm W)) pr (i + 1) = sn at keep take ⊢
    generalize agS W (gn W k w d (nm W)) (may W d (nm W)) pr i = so at i3 i4 i5 a1 a2 a3 keep take
    generalize smb (gn W k w d (nm W)) (i + 1) 8 = gg at t71 l1 keep take
    generalize smb (cst W) (i + 1) 8 = cc at t70 l2 keep take
    have kp2 : sn = so → ∃ s', (SmC μ s' ∧ (∀ c, c < 8 → s'.1 71 c = nI (gn W k w d (nm W) c)) ∧ s'.1 69 4 = nI sn.1 ∧ s'.1 69 5 = nI sn.2.1 ∧ s'.1 69 6 = nI sn.2.2) ∧ s' = μ' := fun z => ⟨μ', ⟨i1, i2, by rw [z]; exact i3, by rw [z]; exact i4, by rw [z]; exact i5⟩, rfl⟩
    by_cases q : dif (i + 1) (may W d (nm W)) = 0
    · by_cases qp : cc ≤ pr
      · by_cases q1 : so.2.1 < gg
        · have z := take ⟨q, qp, Or.inl q1⟩
          refine ⟨ui (ui (ui μ' 69 4 (nI (i + 1))) 69 5 (nI gg)) 69 6 (nI cc), ⟨((i1.tr (smc_i (k := 69) (by omega) _ 4 _)).tr (smc_i (k := 69) (by omega) _ 5 _)).tr (smc_i (k := 69) (by omega) _ 6 _), fun c hc => by rw [ui_c (by omega), ui_c (by omega), ui_c (by omega)]; exact i2 c hc, by rw [ui_o (by omega), ui_o (by omega), ui_s, z], by rw [ui_o (by omega), ui_s, z], by rw [ui_s, z]⟩, fun y hy2 => ?_⟩
          unfold f_X3_seek_b36 f_X3_seek_b106 f_X3_seek_b111 f_X3_seek_b142
          simp (disch := omega) only [i_256, br_le_f, nI_dif, br_eq0_t, t70, t71, xca, xbn, i4, br_lt_t, br_lt_f, show ¬ (1 : Int32) = 0 by decide, if_false, nI_1]
          exact hy2
        · by_cases q2 : gg = so.2.1 ∧ cc < so.2.2
          · have z := take ⟨q, qp, Or.inr q2⟩
            refine ⟨ui (ui (ui μ' 69 4 (nI (i + 1))) 69 5 (nI gg)) 69 6 (nI cc), ⟨((i1.tr (smc_i (k := 69) (by omega) _ 4 _)).tr (smc_i (k := 69) (by omega) _ 5 _)).tr (smc_i (k := 69) (by omega) _ 6 _), fun c hc => by rw [ui_c (by omega), ui_c (by omega), ui_c (by omega)]; exact i2 c hc, by rw [ui_o (by omega), ui_o (by omega), ui_s, z], by rw [ui_o (by omega), ui_s, z], by rw [ui_s, z]⟩, fun y hy2 => ?_⟩
            unfold f_X3_seek_b36 f_X3_seek_b106 f_X3_seek_b110 f_X3_seek_b111 f_X3_seek_b142
            simp (disch := omega) only [i_256, br_le_f, nI_dif, br_eq0_t, t70, t71, xca, xbn, i4, i5, ite_not, br_lt_f, br_eq_t, show ¬ (1 : Int32) = 0 by decide, if_false, nI_1]
            exact hy2
          · obtain ⟨s', hs1, hs2⟩ := kp2 (keep (fun z => z.2.2.elim q1 q2))
            refine ⟨s', hs1, fun y hy2 => ?_⟩
            rw [hs2] at hy2
            unfold f_X3_seek_b36 f_X3_seek_b106 f_X3_seek_b110 f_X3_seek_b111 f_X3_seek_b142
            simp (disch := omega) only [i_256, br_le_f, nI_dif, br_eq0_t, t70, t71, xca, xbn, i4, i5, ite_not, br_lt_f, if_true, nI_1]
            by_cases q3 : gg = so.2.1
            · rw [br_eq_t q3, br_le_t (by omega) (by omega)]
              exact hy2
            · rw [br_eq_f q3 (by omega) (by omega)]
              exact hy2
      · obtain ⟨s', hs1, hs2⟩ := kp2 (keep (fun z => qp z.2.1))
        refine ⟨s', hs1, fun y hy2 => ?_⟩
        rw [hs2] at hy2
        unfold f_X3_seek_b36 f_X3_seek_b106 f_X3_seek_b110 f_X3_seek_b111 f_X3_seek_b142
        simp (disch := omega) only [i_256, br_le_f, nI_dif, br_eq0_t, t70, t71, xca, xbn, br_lt_t, ite_self, nI_1]
        exact hy2
    · obtain ⟨s', hs1, hs2⟩ := kp2 (keep (fun z => q z.1))
      refine ⟨s', hs1, fun y hy2 => ?_⟩
      rw [hs2] at hy2
      unfold f_X3_seek_b36 f_X3_seek_b142
      simp (disch := omega) only [i_256, br_le_f, nI_dif, br_eq0_f, nI_1]
      exact hy2
  · obtain ⟨i1, i2, i3, i4, i5⟩ := hI
    unfold f_X3_seek_b36
    rw [if_pos (by decide)]
    exact ⟨μ', rfl, i1, i3, i4, i5⟩
/-- the reference's walk over the sets -/
theorem ag_in {F : Nat} (hF : 2000 ≤ F) {W ρ : Mem} (hw : WF W) (hsm : SmR W ρ) {g : Nat → Nat} (hg : ∀ c, c < 8 → ρ.2.1 23 c = lN (g c)) (hgl : ∀ c, c < 8 → g c ≤ 20000000) {k169 : Mem → Int32 → Int32 → Int32 → Int32 → Int64 → Int32 → Int32 → Option (Int32 × Mem)} {x3 x4 x6 x7 x10 : Int32} {x8 : Int64} {s : Nat} (hs : s < 2 ^ 31) :
    f_X12_again_b196 F k169 F ρ x3 x4 x6 x7 x8 x10 (nI s) 0 0 0 = f_X12_again_b196 F k169 1 ρ x3 x4 x6 x7 x8 x10 (nI s) (lN (smb g s 8)) (nI (smb (cst W) s 8)) (nI 8) := by
  refine run_up (N := 8) (fun n i => f_X12_again_b196 F k169 n ρ x3 x4 x6 x7 x8 x10 (nI s) (lN (smb g s i)) (nI (smb (cst W) s i)) (nI i)) (fun n i hi y hy => ?_) (fun n => ?_) F 0 (Nat.zero_le _) (by omega)
  · have e22 : ρ.1 22 i = nI (cst W i) := by rw [hsm.c (by omega)]; exact (cst_n hw hi).1
    unfold f_X12_again_b196 f_X12_again_b227 f_X12_again_b254
    rw [smb, smb] at hy
    cases q : s.testBit i with
    | false =>
      rw [q] at hy
      simp (disch := omega) only [i_8, br_le_f, sh_bit, b1', ite_not, q, xbn, Bool.false_eq_true, if_false, Int32.add_zero, Int64.add_zero, nI_1, Nat.add_zero] at hy ⊢
      exact hy
    | true =>
      rw [q] at hy
      simp (disch := omega) only [i_8, br_le_f, sh_bit, b1', ite_not, q, xbn, if_true, ck_in, nI_clamp, hg i hi, e22, lN_add, nI_add, nI_1] at hy ⊢
      exact hy
  · have c : (8 : Int32) ≤ nI 8 := by decide
    unfold f_X12_again_b196
    simp only [c, if_true]
theorem ag_out {F : Nat} (hF : 2000 ≤ F) {W ρ : Mem} (hw : WF W) (hsm : SmR W ρ) {g : Nat → Nat} (hg : ∀ c, c < 8 → ρ.2.1 23 c = lN (g c)) (hgl : ∀ c, c < 8 → g c ≤ 20000000) {m pr : Nat} (hm : m < 2 ^ 8) (hp : pr ≤ 800) (x4 : Int32) : f_X12_again_b169 F F ρ (nI pr) x4 (nI m) 0 0 0 1 = some (if x4 = 0 then nI (agS W g m pr 255).1 else if x4 = 1 then nI (agS W g m pr 255).2.1 else nI (agS W g m pr 255).2.2, ρ) := by
  refine run_up (N := 255) (fun n i => f_X12_again_b169 F n ρ (nI pr) x4 (nI m) (nI (agS W g m pr i).1) (lN (agS W g m pr i).2.1) (nI (agS W g m pr i).2.2) (nI (i + 1))) (fun n i hi y hy => ?_) (fun n => ?_) F 0 (Nat.zero_le _) (by omega)
  · have l1 := smb_le (s := i + 1) hgl 8 (Nat.le_refl _)
    have l2 := smb_le (f := cst W) (s := i + 1) (fun c hc => (cst_n hw hc).2) 8 (Nat.le_refl _)
    obtain ⟨a1, a2, a3⟩ := agS_le hw hgl m pr i (by omega)
    have dl := dif_le (i + 1) m
    have inn : ∀ (k169 : Mem → Int32 → Int32 → Int32 → Int32 → Int64 → Int32 → Int32 → Option (Int32 × Mem)), f_X12_again_b196 F k169 F ρ (nI pr) x4 (nI m) (nI (agS W g m pr i).1) (lN (agS W g m pr i).2.1) (nI (agS W g m pr i).2.2) (nI (i + 1)) 0 0 0 = f_X12_again_b196 F k169 1 ρ (nI pr) x4 (nI m) (nI (agS W g m pr i).1) (lN (agS W g m pr i).2.1) (nI (agS W g m pr i).2.2) (nI (i + 1)) (lN (smb g (i + 1) 8)) (nI (smb (cst W) (i + 1) 8)) (nI 8) := fun k169 => ag_in hF hw hsm hg hgl (by omega)
    have hn : agS W g m pr (i + 1) = if dif (i + 1) m = 0 ∧ smb (cst W) (i + 1) 8 ≤ pr ∧ ((agS W g m pr i).2.1 < smb g (i + 1) 8 ∨ (smb g (i + 1) 8 = (agS W g m pr i).2.1 ∧ smb (cst W) (i + 1) 8 < (agS W g m pr i).2.2)) then (i + 1, smb g (i + 1) 8, smb (cst W) (i + 1) 8) else agS W g m pr i := rfl
    rw [hn] at hy
    unfold f_X12_again_b169
    simp (disch := omega) only [i_256, br_le_f, nI_dif, ite_not, inn]
    unfold f_X12_again_b196 f_X12_again_b292 f_X12_again_b304
    by_cases q : dif (i + 1) m = 0
    · simp (disch := omega) only [br_eq0_t, i_8, br_le_t, lgg, lge, nI_1]
      by_cases qp : smb (cst W) (i + 1) 8 ≤ pr
      · rw [br_lt_f qp (by omega)]
        by_cases q1 : (agS W g m pr i).2.1 < smb g (i + 1) 8
        · rw [if_pos ⟨q, qp, Or.inl q1⟩] at hy
          rw [bl_lt_t q1 (by omega)]
          exact hy
        · rw [bl_lt_f (by omega) (by omega)]
          by_cases q2 : smb g (i + 1) 8 = (agS W g m pr i).2.1
          · rw [if_neg (show ¬ ¬ lN (smb g (i + 1) 8) = lN (agS W g m pr i).2.1 from fun z => z (by rw [q2]))]
            by_cases q3 : smb (cst W) (i + 1) 8 < (agS W g m pr i).2.2
            · rw [if_pos ⟨q, qp, Or.inr ⟨q2, q3⟩⟩] at hy
              rw [br_le_f q3 (by omega)]
              exact hy
            · rw [if_neg (fun z => z.2.2.elim q1 (fun z2 => q3 z2.2))] at hy
              rw [br_le_t (by omega) (by omega)]
              exact hy
          · rw [if_neg (fun z => z.2.2.elim q1 (fun z2 => q2 z2.1))] at hy
            rw [if_pos (show ¬ lN (smb g (i + 1) 8) = lN (agS W g m pr i).2.1 from fun z => q2 ((pk_lEQ (by omega) (by omega)).mp z))]
            exact hy
      · rw [if_neg (fun z => qp z.2.1)] at hy
        rw [br_lt_t (by omega) (by omega)]
        exact hy
    · rw [if_neg (fun z => q z.1)] at hy
      simp (disch := omega) only [br_eq0_f, nI_1]
      exact hy
  · unfold f_X12_again_b169
    rw [if_pos (by decide), lN_i]
    by_cases q0 : x4 = 0
    · simp only [q0, not_true_eq_false, if_false, if_true]
    · by_cases q1 : x4 = 1
      · simp only [q1, show ¬ (1 : Int32) = 0 by decide, not_false_eq_true, not_true_eq_false, if_false, if_true]
      · simp only [q0, q1, not_false_eq_true, if_false, if_true]
theorem ga_0 {F : Nat} {x2 x3 x4 x6 : Int32} : ∀ (n i : Nat) (ρ : Mem), i ≤ 8 → 8 < n + i → ∃ ρ2, f_X12_again_b50 F n ρ x2 x3 x4 x6 (nI i) = f_X12_again_b74 F F ρ2 x2 x3 x4 x6 0 ∧ ρ2.1 = ρ.1 ∧ ∀ j, ρ2.2.1 23 j = if i ≤ j ∧ j < 8 then 0 else ρ.2.1 23 j := by
  intro n
  induction n with
  | zero => intro i ρ h1 h2; exact absurd h2 (by omega)
  | succ n ih =>
    intro i ρ h1 h2
    unfold f_X12_again_b50
    by_cases hi : i = 8
    · subst hi
      simp (disch := omega) only [i_8, br_le_t]
      refine ⟨ρ, rfl, rfl, fun j => ?_⟩
      rw [if_neg (by omega)]
    · simp (disch := omega) only [i_8, br_le_f, ck_in, nI_clamp, xbn, nI_1]
      obtain ⟨ρ2, e1, e2, e3⟩ := ih (i + 1) (ul ρ 23 i 0) (by omega) (by omega)
      refine ⟨ρ2, e1, e2, fun j => ?_⟩
      rw [e3]
      by_cases q : j = i
      · subst q
        rw [if_neg (by omega), ul_s, if_pos (by omega)]
      · rw [ul_o q]
        by_cases q2 : i + 1 ≤ j ∧ j < 8
        · rw [if_pos q2, if_pos (show i ≤ j ∧ j < 8 by omega)]
        · rw [if_neg q2, if_neg (show ¬ (i ≤ j ∧ j < 8) by omega)]
theorem ga_eq {F : Nat} (hF : 2000 ≤ F) {W : Mem} (hw : WF W) {k : Nat} {w : Nat → Nat} {ρ : Mem} (h : R2 W k w ρ) (ho : OK W k w) {d pr : Nat} (hd : d < 2 ^ nm W) (hs : ∀ x, x < nm W → d.testBit x = true → 0 < sA W k w x) (hp : pr ≤ 800) (x4 : Int32) : ∃ ρ2, f_X12_again_b50 F F ρ (nI d) (nI pr) x4 0 0 = some (if x4 = 0 then nI (agS W (gn W k w d (nm W)) (may W d (nm W)) pr 255).1 else if x4 = 1 then nI (agS W (gn W k w d (nm W)) (may W d (nm W)) pr 255).2.1 else nI (agS W (gn W k w d (nm W)) (may W d (nm W)) pr 255).2.2, ρ2) ∧ SmR W ρ2 := by
  have hN := rw_N hw
  have hd2 := Nat.lt_of_lt_of_le hd (pow_le30 hN)
  have hgl : ∀ c, c < 8 → gn W k w d (nm W) c ≤ 20000000 := fun c _ => by have := gn_le hw ho d c (nm W) (Nat.le_refl _); omega
  obtain ⟨ρ1, e1, e2, e3⟩ := ga_0 (F := F) (x2 := nI d) (x3 := nI pr) (x4 := x4) (x6 := 0) F 0 ρ (by omega) (by omega)
  have e1' : f_X12_again_b50 F F ρ (nI d) (nI pr) x4 0 0 = _ := e1
  rw [e1']
  have m0 : (0 : Int32) = nI (may W d 0) := by unfold may; rw [msk_0 (f := fun c => hS W d c 0) (fun _ _ => rfl)]; rfl
  have key := run_rel (N := nm W) (fun n i ρ' => f_X12_again_b74 F n ρ' (nI d) (nI pr) x4 (nI (may W d i)) (nI i)) (fun i ρ' => R2 W k w ρ' ∧ ∀ c, c < 8 → ρ'.2.1 23 c = lN (gn W k w d i c)) (fun o => ∃ ρ2, o = some (if x4 = 0 then nI (agS W (gn W k w d (nm W)) (may W d (nm W)) pr 255).1 else if x4 = 1 then nI (agS W (gn W k w d (nm W)) (may W d (nm W)) pr 255).2.1 else nI (agS W (gn W k w d (nm W)) (may W d (nm W)) pr 255).2.2, ρ2) ∧ SmR W ρ2) (fun n i ρ' hi hI => Or.inl ?_) (fun n ρ' hI => ?_) F 0 ρ1 (Nat.zero_le _) (by omega) ⟨h.sm e2, fun c hc => by rw [e3, if_pos (by omega)]; rfl⟩
  · rw [← m0] at key
    exact key
  · obtain ⟨i1, i2⟩ := hI
    have e0 := rw_n hw i1.1.1
    have ev := vo_eq hF hw i1.1.1 hi
    cases q : sln W d i with
    | false =>
      refine ⟨ρ', ⟨i1, fun c hc => by rw [gn_no q]; exact i2 c hc⟩, fun y hy2 => ?_⟩
      rw [may_no q] at hy2
      unfold f_X12_again_b74 f_X12_again_b151
      simp (disch := omega) only [xbn, e0, br_le_f, sh_bit, b1', ite_not, ev, xca, nI_1]
      by_cases b : d.testBit i = true
      · have v : ¬ vl W i = -1 := by
          unfold sln at q
          rw [b] at q
          simpa using q
        rw [if_pos b, if_neg v]
        exact hy2
      · rw [if_neg b]
        exact hy2
    | true =>
      have q' := q
      unfold sln at q'
      simp only [Bool.and_eq_true, decide_eq_true_eq] at q'
      have cc := rw_c hw i1.1.1 hi
      have sp := hs i hi q'.1
      have a := sAB hw ho hi
      have b := rb_le (sA W k w i) (sB W k w i)
      have c := ra_le (sA W k w i) (sB W k w i)
      have p := ra_pos (y := sB W k w i) sp
      obtain ⟨ρ4, c1, c2, c3, c4, c5, c6⟩ := fs_eq hF hw i1 ho hi
      have cc4 : ρ4.1 6 i = nI (cu W i) := by rw [c6 6 (by omega) (by omega)]; exact cc.1
      have g0 : ρ4.2.1 23 (cu W i) = lN (gn W k w d i (cu W i)) := by rw [c5 23 _ (by omega)]; exact i2 _ cc.2
      refine ⟨ul ρ4 23 (cu W i) (lN (gn W k w d i (cu W i) + TB W k w i)), ⟨c2.sm rfl, fun x hx => ?_⟩, fun y hy2 => ?_⟩
      · rw [gn, q]
        by_cases e : x = cu W i
        · rw [e, ul_s]; simp
        · rw [ul_o e, c5 23 _ (by omega), i2 x hx]
          simp [show ¬ cu W i = x from fun z => e z.symm]
      · rw [← may_yes q cc.2, ← nI_or] at hy2
        have eT : lN (1000 * rb (sA W k w i) (sB W k w i)) / lN (ra (sA W k w i) (sB W k w i)) = lN (TB W k w i) := pk_lDiv (by omega) p (by omega)
        unfold f_X12_again_b74 f_X12_again_b151
        simp (disch := omega) only [xbn, e0, br_le_f, sh_bit, b1', ite_not, ev, xca, q'.1, q'.2, if_true, c1, ck_in, nI_clamp, cc4, g0, c3, c4, l_1000, lN_mul, dvl_n, eT, lN_add, ul_1, one_shl, nI_1]
        exact hy2
  · obtain ⟨i1, i2⟩ := hI
    have e0 := rw_n hw i1.1.1
    have ml := may_lt W d (nm W)
    unfold f_X12_again_b74
    simp (disch := omega) only [xbn, e0, br_le_t]
    exact ⟨ρ', ag_out hF hw i1.1.1 i2 hgl ml hp x4, i1.1.1⟩
theorem sim_again {F : Nat} (hF : 2000 ≤ F) (μ ρ : Mem) (a1 a2 a3 a4 : Int32) (h : Rel μ ρ) : ∃ (r : Int32) (μ2 ρ2 : Mem), f_X11_again F μ a1 a2 a3 a4 = some (r, μ2) ∧ f_X12_again F ρ a1 a2 a3 a4 = some (r, ρ2) ∧ Rel μ2 ρ2 := by
  unfold f_X11_again f_X12_again
  rw [wi_eq, wi_eq, in_eq F a3 0 800 (A := 0) (B := 800) rfl rfl, in_eq F a4 0 2 (A := 0) (B := 2) rfl rfl]
  by_cases w3 : wi a3 0 800 = true
  · by_cases w4 : wi a4 0 2 = true
    · obtain ⟨pr, hpr, rfl⟩ := wi_nat (n := 800) rfl (by decide) w3
      rw [w3, w4]
      obtain ⟨r, ρ1, e1, e2, e3, e4⟩ := rf_eq hF h (SmR.rf ρ) a1 a2
      simp only [xcp, xca, xbn, if_true, show ¬ (1 : Int32) = 0 by decide, if_false, not_false_eq_true, e1, e2]
      rcases e4 with rfl | rfl | ⟨rfl, p, d, hp, rfl, hd, rfl, c, r2⟩
      · exact ⟨-2, μ, ρ1, rfl, rfl, q_end h (SmC.rf μ) (ρ := ρ) e3⟩
      · exact ⟨-3, μ, ρ1, rfl, rfl, q_end h (SmC.rf μ) (ρ := ρ) e3⟩
      · have hm := MK_ok hF h hp hd c e1
        obtain ⟨c1, c2, c3⟩ := q_C hF h hp c
        obtain ⟨D, M, B, hb⟩ := SB_ex h.1 c3 hm
        have hs : ∀ x, x < nm ρ → d.testBit x = true → 0 < sA ρ (kp ρ p) (wq ρ p) x := fun x hx hdx => (hb.2.2.2.2 x hx hdx).1
        obtain ⟨μ2, f1, f2, f3, f4, f5⟩ := sk_eq hF c2 c3 hd hs hpr
        obtain ⟨ρ2, g1, g2⟩ := ga_eq hF h.1 r2 c3 hd hs hpr a4
        refine ⟨_, μ2, ρ2, ?_, by rw [if_pos (show (0 : Int32) = 0 from rfl)]; exact g1, q_end h f2 (ρ := ρ) g2⟩
        rw [if_pos (by decide)]
        simp (disch := omega) only [ck_in, nI_clamp, c1, xca, f1, f3, f4, f5]
        by_cases q0 : a4 = 0
        · simp only [q0, if_true]
        · by_cases q1 : a4 = 1
          · simp only [q1, show ¬ (1 : Int32) = 0 by decide, if_false, if_true]
          · simp only [q0, q1, if_false]
    · rw [Bool.not_eq_true] at w4
      rw [w3, w4]
      exact ⟨-2, μ, ρ, rfl, rfl, h⟩
  · rw [Bool.not_eq_true] at w3
    rw [w3]
    exact ⟨-2, μ, ρ, rfl, rfl, h⟩
