/-! weights led: the rounds, and what is told -/
def lrs (W : Mem) (a : Int32) : Nat → (Nat → Nat) → Nat → Nat
  | 0, w => w
  | j + 1, w => dvS (ing W a j) (nm W) (kS W a j) (lrs W a j w)
def ldr (W : Mem) (w : Nat → Nat) : Nat → Nat → Nat
  | 0 => w
  | r + 1 => lrs W 1 3 (lrs W 0 4 (ldr W w r))
theorem kS_l {W : Mem} (hw : WF W) {a : Int32} {j : Nat} (h0 : a = 0 → j < 4) (h1 : ¬ a = 0 → j < 3) : kS W a j ≤ 30000 := by
  have ks := kS_n hw (SmR.rf W) j
  by_cases q : a = 0
  · rw [q]; exact (ks.1 (h0 q)).2
  · exact (ks.2 a q (h1 q)).2
theorem ing0 (W : Mem) (j : Nat) : (fun k => decide (ly W k = j)) = ing W 0 j := by funext x; unfold ing; rw [if_pos rfl]
theorem ing1 (W : Mem) (j : Nat) : (fun k => decide (mk W k = j)) = ing W 1 j := by funext x; unfold ing; rw [if_neg (by decide)]
theorem lb_C {F : Nat} (hF : 2000 ≤ F) {W : Mem} {tel : Nat → Bool} (k17 : Mem → Int32 → Int32 → Option (Unit × Mem)) (x3 x4 : Int32) {w : Nat → Nat} {μ : Mem} (h : CW W w μ) (hl : WI2 tel (nm W) w) : ∃ μ2, f_X10_lead_b62 F k17 F μ x3 x4 0 = k17 μ2 x3 (x4 + 1) ∧ SmC μ μ2 ∧ CW W (lrs W 1 3 w) μ2 ∧ WI2 tel (nm W) (lrs W 1 3 w) := by
  have hw := h.1.1
  have hN := rw_N hw
  refine run_rel (N := 3) (fun n i μ' => f_X10_lead_b62 F k17 n μ' x3 x4 (nI i)) (fun i μ' => SmC μ μ' ∧ CW W (lrs W 1 i w) μ' ∧ WI2 tel (nm W) (lrs W 1 i w)) (fun o => ∃ μ2, o = k17 μ2 x3 (x4 + 1) ∧ SmC μ μ2 ∧ CW W (lrs W 1 3 w) μ2 ∧ WI2 tel (nm W) (lrs W 1 3 w)) (fun n i μ' hi hI => Or.inl ?_) (fun n μ' hI => ?_) F 0 μ (Nat.zero_le _) (by omega) ⟨SmC.rf μ, h, hl⟩
  · obtain ⟨i1, i2, i3⟩ := hI
    have kb := kS_l hw (a := 1) (j := i) (fun z => absurd z (by decide)) (fun _ => hi)
    have k65 : μ'.1 65 i = nI (kS W 1 i) := by rw [i2.1.2.2.2.2.2.2.1 i hi]; exact ((kS_n hw (SmR.rf W) i).2 1 (by decide) hi).1
    have m9 : μ'.1 9 i = nI (msk (ing W 1 i) (nm W)) := by rw [cw_mb i2.1 hi, ing1]
    obtain ⟨μ2, f1, f2, f3⟩ := dv_C hF i2 (fun x hx => (i3 x hx).1) (ing W 1 i) kb
    refine ⟨μ2, ⟨i1.tr f2, ⟨rel_c i2.1 f2, f3⟩, dvS_WI i3 kb hN⟩, fun y hy => ?_⟩
    unfold f_X10_lead_b62
    simp (disch := omega) only [i_3, br_le_f, ck_in, nI_clamp, xbn, k65, m9, f1, xca, nI_1]
    exact hy
  · obtain ⟨i1, i2, i3⟩ := hI
    unfold f_X10_lead_b62
    rw [if_pos (by decide)]
    exact ⟨μ', rfl, i1, i2, i3⟩
theorem la_C {F : Nat} (hF : 2000 ≤ F) {W : Mem} {tel : Nat → Bool} (k17 : Mem → Int32 → Int32 → Option (Unit × Mem)) (x3 x4 : Int32) {w : Nat → Nat} {μ : Mem} (h : CW W w μ) (hl : WI2 tel (nm W) w) : ∃ μ2, f_X10_lead_b26 F k17 F μ x3 x4 0 = k17 μ2 x3 (x4 + 1) ∧ SmC μ μ2 ∧ CW W (lrs W 1 3 (lrs W 0 4 w)) μ2 ∧ WI2 tel (nm W) (lrs W 1 3 (lrs W 0 4 w)) := by
  have hw := h.1.1
  have hN := rw_N hw
  refine run_rel (N := 4) (fun n i μ' => f_X10_lead_b26 F k17 n μ' x3 x4 (nI i)) (fun i μ' => SmC μ μ' ∧ CW W (lrs W 0 i w) μ' ∧ WI2 tel (nm W) (lrs W 0 i w)) (fun o => ∃ μ2, o = k17 μ2 x3 (x4 + 1) ∧ SmC μ μ2 ∧ CW W (lrs W 1 3 (lrs W 0 4 w)) μ2 ∧ WI2 tel (nm W) (lrs W 1 3 (lrs W 0 4 w))) (fun n i μ' hi hI => Or.inl ?_) (fun n μ' hI => ?_) F 0 μ (Nat.zero_le _) (by omega) ⟨SmC.rf μ, h, hl⟩
  · obtain ⟨i1, i2, i3⟩ := hI
    have kb := kS_l hw (a := 0) (j := i) (fun _ => hi) (fun z => absurd rfl z)
    have k64 : μ'.1 64 i = nI (kS W 0 i) := by rw [i2.1.2.2.2.2.2.1 i hi]; exact ((kS_n hw (SmR.rf W) i).1 hi).1
    have m7 : μ'.1 7 i = nI (msk (ing W 0 i) (nm W)) := by rw [cw_lb i2.1 hi, ing0]
    obtain ⟨μ2, f1, f2, f3⟩ := dv_C hF i2 (fun x hx => (i3 x hx).1) (ing W 0 i) kb
    refine ⟨μ2, ⟨i1.tr f2, ⟨rel_c i2.1 f2, f3⟩, dvS_WI i3 kb hN⟩, fun y hy => ?_⟩
    unfold f_X10_lead_b26
    simp (disch := omega) only [i_4, br_le_f, ck_in, nI_clamp, xbn, k64, m7, f1, xca, nI_1]
    exact hy
  · obtain ⟨i1, i2, i3⟩ := hI
    unfold f_X10_lead_b26
    rw [if_pos (by decide)]
    obtain ⟨μ2, f1, f2, f3, f4⟩ := lb_C hF k17 x3 x4 i2 i3
    exact ⟨μ2, f1, i1.tr f2, f3, f4⟩
def tlg (W : Mem) (d x : Nat) : Bool := d.testBit x && decide (¬ vl W x = -1)
theorem w0_WI {W : Mem} (hw : WF W) {k : Nat} {w : Nat → Nat} (ho : OK W k w) (d : Nat) : WI2 (tlg W d) (nm W) (w0 W k w d) := fun x hx => ⟨w0_le hw ho d hx, fun z => by
  unfold tlg at z
  unfold w0
  rw [z]; rfl⟩
theorem ld_C {F : Nat} (hF : 2000 ≤ F) {W : Mem} {k : Nat} {w : Nat → Nat} {t : Nat} {μ : Mem} (h : WY W k w t μ) (ho : OK W k w) {d R : Nat} (hd : d < 2 ^ nm W) (hs : ∀ x, x < nm W → d.testBit x = true → 0 < sA W k w x) (hR : R ≤ 30) : ∃ μ2, f_X10_lead F μ (some t) (nI d) (nI R) = some ((), μ2) ∧ SmC μ μ2 ∧ CW W (ldr W (w0 W k w d) R) μ2 ∧ WI2 (tlg W d) (nm W) (ldr W (w0 W k w d) R) := by
  have hw := h.1.1
  have hN := rw_N hw
  obtain ⟨μ1, e1, e2, e3⟩ := st_C hF h ho hd hs
  unfold f_X10_lead
  rw [cw_vb h.1, show msk (fun k => decide (¬ vl W k = -1)) (nm W) = vbs W from rfl]
  simp only [xbn]
  rw [nI_and, e1]
  simp only [xca]
  refine run_rel (N := R) (fun n i μ' => f_X10_lead_b17 F n μ' (nI R) (nI i)) (fun i μ' => SmC μ μ' ∧ CW W (ldr W (w0 W k w d) i) μ' ∧ WI2 (tlg W d) (nm W) (ldr W (w0 W k w d) i)) (fun o => ∃ μ2, o = some ((), μ2) ∧ SmC μ μ2 ∧ CW W (ldr W (w0 W k w d) R) μ2 ∧ WI2 (tlg W d) (nm W) (ldr W (w0 W k w d) R)) (fun n i μ' hi hI => Or.inl ?_) (fun n μ' hI => ?_) F 0 μ1 (Nat.zero_le _) (by omega) ⟨e2, ⟨rel_c h.1 e2, e3⟩, w0_WI hw ho d⟩
  · obtain ⟨i1, i2, i3⟩ := hI
    obtain ⟨μ2, f1, f2, f3, f4⟩ := la_C hF (fun μ' x3' x4' => f_X10_lead_b17 F n μ' x3' x4') (nI R) (nI i) i2 i3
    refine ⟨μ2, ⟨i1.tr f2, f3, f4⟩, fun y hy => ?_⟩
    unfold f_X10_lead_b17
    rw [br_le_f hi (by omega), f1, nI_1]
    exact hy
  · obtain ⟨i1, i2, i3⟩ := hI
    unfold f_X10_lead_b17
    rw [br_le_t (by omega) (by omega)]
    exact ⟨μ', rfl, i1, i2, i3⟩
theorem lb_R {F : Nat} (hF : 2000 ≤ F) {W : Mem} (hw : WF W) {tel : Nat → Bool} (k87 : Mem → Int32 → Int32 → Option (Unit × Mem)) (x2 x3 : Int32) {w : Nat → Nat} {ρ : Mem} (h : RW W tel w ρ) (hl : WI2 tel (nm W) w) : ∃ ρ2, f_X12_findWeights_b117 F k87 F ρ x2 x3 0 = k87 ρ2 x2 (x3 + 1) ∧ RW W tel (lrs W 1 3 w) ρ2 ∧ WI2 tel (nm W) (lrs W 1 3 w) := by
  have hN := rw_N hw
  refine run_rel (N := 3) (fun n i ρ' => f_X12_findWeights_b117 F k87 n ρ' x2 x3 (nI i)) (fun i ρ' => RW W tel (lrs W 1 i w) ρ' ∧ WI2 tel (nm W) (lrs W 1 i w)) (fun o => ∃ ρ2, o = k87 ρ2 x2 (x3 + 1) ∧ RW W tel (lrs W 1 3 w) ρ2 ∧ WI2 tel (nm W) (lrs W 1 3 w)) (fun n i ρ' hi hI => Or.inl ?_) (fun n ρ' hI => ?_) F 0 ρ (Nat.zero_le _) (by omega) ⟨h, hl⟩
  · obtain ⟨i2, i3⟩ := hI
    obtain ⟨kb, ρ2, f1, f2⟩ := pa_R hF hw i2 i3 1 (j := i) (fun z => absurd z (by decide)) (fun _ => hi)
    refine ⟨ρ2, ⟨f2, dvS_WI i3 kb hN⟩, fun y hy => ?_⟩
    unfold f_X12_findWeights_b117
    simp (disch := omega) only [i_3, br_le_f, f1, xca, nI_1]
    exact hy
  · unfold f_X12_findWeights_b117
    rw [if_pos (by decide)]
    exact ⟨ρ', rfl, hI.1, hI.2⟩
theorem la_R {F : Nat} (hF : 2000 ≤ F) {W : Mem} (hw : WF W) {tel : Nat → Bool} (k87 : Mem → Int32 → Int32 → Option (Unit × Mem)) (x2 x3 : Int32) {w : Nat → Nat} {ρ : Mem} (h : RW W tel w ρ) (hl : WI2 tel (nm W) w) : ∃ ρ2, f_X12_findWeights_b95 F k87 F ρ x2 x3 0 = k87 ρ2 x2 (x3 + 1) ∧ RW W tel (lrs W 1 3 (lrs W 0 4 w)) ρ2 ∧ WI2 tel (nm W) (lrs W 1 3 (lrs W 0 4 w)) := by
  have hN := rw_N hw
  refine run_rel (N := 4) (fun n i ρ' => f_X12_findWeights_b95 F k87 n ρ' x2 x3 (nI i)) (fun i ρ' => RW W tel (lrs W 0 i w) ρ' ∧ WI2 tel (nm W) (lrs W 0 i w)) (fun o => ∃ ρ2, o = k87 ρ2 x2 (x3 + 1) ∧ RW W tel (lrs W 1 3 (lrs W 0 4 w)) ρ2 ∧ WI2 tel (nm W) (lrs W 1 3 (lrs W 0 4 w))) (fun n i ρ' hi hI => Or.inl ?_) (fun n ρ' hI => ?_) F 0 ρ (Nat.zero_le _) (by omega) ⟨h, hl⟩
  · obtain ⟨i2, i3⟩ := hI
    obtain ⟨kb, ρ2, f1, f2⟩ := pa_R hF hw i2 i3 0 (j := i) (fun _ => hi) (fun z => absurd rfl z)
    refine ⟨ρ2, ⟨f2, dvS_WI i3 kb hN⟩, fun y hy => ?_⟩
    unfold f_X12_findWeights_b95
    simp (disch := omega) only [i_4, br_le_f, f1, xca, nI_1]
    exact hy
  · unfold f_X12_findWeights_b95
    rw [if_pos (by decide)]
    exact lb_R hF hw k87 x2 x3 hI.1 hI.2
theorem R2.u20 {W : Mem} {k : Nat} {w : Nat → Nat} {ρ : Mem} (h : R2 W k w ρ) (j : Nat) (v : Int32) : R2 W k w (ui ρ 20 j v) := by
  obtain ⟨⟨a, b, c, d, e⟩, f⟩ := h
  refine ⟨⟨a.tr (smr_i (by omega) ρ j v), by rw [ui_c (by omega)]; exact b, fun j' hj => by rw [ui_c (by omega)]; exact c j' hj, fun q => by rw [ui_c (by omega)]; exact d q, e⟩, ?_⟩
  rw [ui_c (by omega)]
  rcases f with f | ⟨f, g⟩
  · exact Or.inl f
  · exact Or.inr ⟨f, fun x hx => by rw [ui_c (by omega)]; exact g x hx⟩
theorem nar0 : vp_nar .boolean (0 : Int32) = 0 := by decide
theorem nar1 : vp_nar .boolean (1 : Int32) = 1 := by decide
theorem fw_R {F : Nat} (hF : 2000 ≤ F) {W : Mem} (hw : WF W) {k : Nat} {w : Nat → Nat} {ρ : Mem} (h : R2 W k w ρ) (ho : OK W k w) {d R : Nat} (hd : d < 2 ^ nm W) (hs : ∀ x, x < nm W → d.testBit x = true → 0 < sA W k w x) (hR : R ≤ 30) : ∃ ρ2, f_X12_findWeights F ρ (nI d) (nI R) = some ((), ρ2) ∧ RW W (tlg W d) (ldr W (w0 W k w d) R) ρ2 ∧ WI2 (tlg W d) (nm W) (ldr W (w0 W k w d) R) := by
  have hN := rw_N hw
  have hd2 := Nat.lt_of_lt_of_le hd (pow_le30 hN)
  unfold f_X12_findWeights
  refine run_rel (N := nm W) (fun n i ρ' => f_X12_findWeights_b2 F n ρ' (nI d) (nI R) (nI i)) (fun i ρ' => R2 W k w ρ' ∧ (∀ x, x < i → ρ'.1 20 x = if tlg W d x then 1 else 0) ∧ ∀ x, x < i → ρ'.2.1 19 x = lN (w0 W k w d x)) (fun o => ∃ ρ2, o = some ((), ρ2) ∧ RW W (tlg W d) (ldr W (w0 W k w d) R) ρ2 ∧ WI2 (tlg W d) (nm W) (ldr W (w0 W k w d) R)) (fun n i ρ' hi hI => Or.inl ?_) (fun n ρ' hI => ?_) F 0 ρ (Nat.zero_le _) (by omega) ⟨h, fun x hx => absurd hx (Nat.not_lt_zero _), fun x hx => absurd hx (Nat.not_lt_zero _)⟩
  · obtain ⟨i1, i2, i3⟩ := hI
    have e0 := rw_n hw i1.1.1
    have ev := vo_eq hF hw i1.1.1 hi
    cases q : tlg W d i with
    | false =>
      refine ⟨ul (ui ρ' 20 i 0) 19 i 0, ⟨(i1.u20 i 0).sm rfl, fun x hx => ?_, fun x hx => ?_⟩, fun y hy2 => ?_⟩
      · rw [ul_1]
        by_cases e : x = i
        · rw [e, ui_s, q]; rfl
        · rw [ui_o e]; exact i2 x (by omega)
      · by_cases e : x = i
        · rw [e, ul_s]
          have q' := q
          unfold tlg at q'
          unfold w0
          rw [q']; rfl
        · rw [ul_o e, ui_2]; exact i3 x (by omega)
      · unfold f_X12_findWeights_b2 f_X12_findWeights_b37 f_X12_findWeights_b38 f_X12_findWeights_b79
        have g20 : (ul (ui ρ' 20 i 0) 19 i 0).1 20 i = 0 := by rw [ul_1, ui_s]
        by_cases b : d.testBit i = true
        · have v : vl W i = -1 := by
            unfold tlg at q
            rw [b] at q
            simpa using q
          simp (disch := omega) only [xbn, e0, br_le_f, sh_bit, b1', ite_not, b, if_true, ev, xca, v, ck_in, nI_clamp, nar0, g20, nI_1]
          exact hy2
        · simp (disch := omega) only [xbn, e0, br_le_f, sh_bit, b1', ite_not, b, Bool.false_eq_true, if_false, if_true, ev, xca, ck_in, nI_clamp, nar0, g20, nI_1]
          exact hy2
    | true =>
      have q' := q
      unfold tlg at q'
      simp only [Bool.and_eq_true, decide_eq_true_eq] at q'
      have sp := hs i hi q'.1
      have a := sAB hw ho hi
      have b := rb_le (sA W k w i) (sB W k w i)
      have c := ra_le (sA W k w i) (sB W k w i)
      have p := ra_pos (y := sB W k w i) sp
      have r3 : R2 W k w (ul (ui ρ' 20 i 1) 19 i 0) := (i1.u20 i 1).sm rfl
      obtain ⟨ρ4, c1, c2, c3, c4, c5, c6⟩ := fs_eq hF hw r3 ho hi
      refine ⟨ul ρ4 19 i (lN (TB W k w i)), ⟨c2.sm rfl, fun x hx => ?_, fun x hx => ?_⟩, fun y hy2 => ?_⟩
      · rw [ul_1, c6 20 (by omega) (by omega), ul_1]
        by_cases e : x = i
        · rw [e, ui_s, q]; rfl
        · rw [ui_o e]; exact i2 x (by omega)
      · by_cases e : x = i
        · rw [e, ul_s]
          unfold w0
          rw [q'.1]
          simp [q'.2]
        · rw [ul_o e, c5 19 x (by omega), ul_o e, ui_2]; exact i3 x (by omega)
      · have eT : lN (1000 * rb (sA W k w i) (sB W k w i)) / lN (ra (sA W k w i) (sB W k w i)) = lN (TB W k w i) := pk_lDiv (by omega) p (by omega)
        have g20 : (ul (ui ρ' 20 i 1) 19 i 0).1 20 i = 1 := by rw [ul_1, ui_s]
        unfold f_X12_findWeights_b2 f_X12_findWeights_b38 f_X12_findWeights_b79
        simp (disch := omega) only [xbn, e0, br_le_f, sh_bit, b1', ite_not, q'.1, q'.2, if_true, if_false, ev, xca, ck_in, nI_clamp, nar1, g20, show ¬ (1 : Int32) = 0 by decide, c1, c3, c4, l_1000, lN_mul, dvl_n, eT, nI_1]
        exact hy2
  · obtain ⟨i1, i2, i3⟩ := hI
    unfold f_X12_findWeights_b2
    simp (disch := omega) only [xbn, rw_n hw i1.1.1, br_le_t]
    refine run_rel (N := R) (fun n i ρ' => f_X12_findWeights_b87 F n ρ' (nI R) (nI i)) (fun i ρ' => RW W (tlg W d) (ldr W (w0 W k w d) i) ρ' ∧ WI2 (tlg W d) (nm W) (ldr W (w0 W k w d) i)) (fun o => ∃ ρ2, o = some ((), ρ2) ∧ RW W (tlg W d) (ldr W (w0 W k w d) R) ρ2 ∧ WI2 (tlg W d) (nm W) (ldr W (w0 W k w d) R)) (fun n i ρ' hi hI => Or.inl ?_) (fun n ρ' hI => ?_) F 0 ρ' (Nat.zero_le _) (by omega) ⟨⟨i1.1.1, i2, i3⟩, w0_WI hw ho d⟩
    · obtain ⟨ρ2, f1, f3, f4⟩ := la_R hF hw (fun μ' x2' x3' => f_X12_findWeights_b87 F n μ' x2' x3') (nI R) (nI i) hI.1 hI.2
      refine ⟨ρ2, ⟨f3, f4⟩, fun y hy => ?_⟩
      unfold f_X12_findWeights_b87
      rw [br_le_f hi (by omega), f1, nI_1]
      exact hy
    · unfold f_X12_findWeights_b87
      rw [br_le_t (by omega) (by omega)]
      exact ⟨ρ', rfl, hI.1, hI.2⟩
theorem sim_weight {F : Nat} (hF : 2000 ≤ F) (μ ρ : Mem) (a1 a2 a3 a4 : Int32) (h : Rel μ ρ) : ∃ (r : Int32) (μ2 ρ2 : Mem), f_X11_weight F μ a1 a2 a3 a4 = some (r, μ2) ∧ f_X12_weight F ρ a1 a2 a3 a4 = some (r, ρ2) ∧ Rel μ2 ρ2 := by
  unfold f_X11_weight f_X12_weight
  rw [wi_eq, hn_eq h, in_nm h.1 (SmR.rf ρ), in_eq F a3 0 30 (A := 0) (B := 30) rfl rfl]
  by_cases w3 : wi a3 0 30 = true
  · by_cases w4 : wi a4 0 (nI (nm ρ) - 1) = true
    · obtain ⟨R, hR, rfl⟩ := wi_nat (n := 30) rfl (by decide) w3
      obtain ⟨x, hx, rfl⟩ := wi_nm h.1 w4
      have hN := rw_N h.1
      rw [w3, w4]
      obtain ⟨r, ρ1, e1, e2, e3, e4⟩ := rf_eq hF h (SmR.rf ρ) a1 a2
      simp only [xcp, xca, xbn, if_true, show ¬ (1 : Int32) = 0 by decide, if_false, not_false_eq_true, e1, e2]
      rcases e4 with rfl | rfl | ⟨rfl, p, d, hp, rfl, hd, rfl, c, r2⟩
      · exact ⟨-2, μ, ρ1, rfl, rfl, q_end h (SmC.rf μ) (ρ := ρ) e3⟩
      · exact ⟨-3, μ, ρ1, rfl, rfl, q_end h (SmC.rf μ) (ρ := ρ) e3⟩
      · have hm := MK_ok hF h hp hd c e1
        obtain ⟨c1, c2, c3⟩ := q_C hF h hp c
        obtain ⟨D, M, B, hb⟩ := SB_ex h.1 c3 hm
        have hs : ∀ x, x < nm ρ → d.testBit x = true → 0 < sA ρ (kp ρ p) (wq ρ p) x := fun x hx hdx => (hb.2.2.2.2 x hx hdx).1
        obtain ⟨μ2, f1, f2, f3, f4⟩ := ld_C hF c2 c3 hd hs hR
        obtain ⟨ρ2, g1, g2, g3⟩ := fw_R hF h.1 r2 c3 hd hs hR
        refine ⟨nI (ldr ρ (w0 ρ (kp ρ p) (wq ρ p) d) R x), μ2, ρ2, ?_, ?_, q_end h f2 (ρ := ρ) g2.1⟩
        · rw [if_pos (by decide)]
          simp (disch := omega) only [ck_in, nI_clamp, c1, xca, xbn, f1, f3.2 x hx]
        · rw [if_pos (show (0 : Int32) = 0 from rfl)]
          simp (disch := omega) only [ck_in, nI_clamp, xca, xbn, g1, g2.2.2 x hx, lN_i]
    · rw [Bool.not_eq_true] at w4
      rw [w3, w4]
      exact ⟨-2, μ, ρ, rfl, rfl, h⟩
  · rw [Bool.not_eq_true] at w3
    rw [w3]
    exact ⟨-2, μ, ρ, rfl, rfl, h⟩
