/-! type, wipe, fault -/
def RP1 (μ ρ : Mem) (p : Nat) : Prop := μ.1 (18 + 9 * p) 7 = ρ.1 13 p ∧ (∀ i, i < tl ρ p → μ.1 (18 + 9 * p + 1) i = ρ.1 12 (20 * p + i)) ∧ μ.1 (18 + 9 * p) 8 = flt ρ p ∧ μ.2.2 (18 + 9 * p) 9 = (if kp ρ p = 0 then none else some (18 + 9 * p + 2 + kp ρ p)) ∧
  (flt ρ p = -1 → ∀ j, j < cntOf (kp ρ p) → μ.1 (18 + 9 * p + 2) j = wnt ρ p j) ∧
  μ.1 (18 + 9 * p + 3) 3 = 0 ∧ μ.1 (18 + 9 * p + 3) 4 = 1 ∧ μ.1 (18 + 9 * p + 4) 3 = 1 ∧ μ.1 (18 + 9 * p + 4) 4 = 4 ∧ μ.1 (18 + 9 * p + 5) 3 = 0 ∧ μ.1 (18 + 9 * p + 6) 3 = 1
theorem rp_1 {μ ρ : Mem} (h : RPl μ ρ) {p : Nat} (hp : p < 4) : RP1 μ ρ p := h p hp
theorem pc_num {ρ ρ2 : Mem} {p : Nat} (hb : ∀ i, byt ρ2 p i = byt ρ p i) (i : Nat) : num ρ2 p i = num ρ p i := by unfold num; rw [hb, hb]
theorem pc_pgo {ρ ρ2 : Mem} {p : Nat} (ht : tl ρ2 p = tl ρ p) (hb : ∀ i, byt ρ2 p i = byt ρ p i) (sep : Int32) : ∀ m i k w, pgo ρ2 p sep m i k w = pgo ρ p sep m i k w
  | 0, i, k, w => by unfold pgo; rw [ht]
  | m + 1, i, k, w => by
    unfold pgo
    rw [hb, pc_num hb]
    simp only [pc_pgo ht hb sep m]
theorem pc_kp {ρ ρ2 : Mem} {p : Nat} (hb : ∀ i, byt ρ2 p i = byt ρ p i) : kp ρ2 p = kp ρ p := by unfold kp; rw [hb]
theorem pc_prs {ρ ρ2 : Mem} {p : Nat} (ht : tl ρ2 p = tl ρ p) (hb : ∀ i, byt ρ2 p i = byt ρ p i) (w : Nat → Int32) : prs ρ2 p w = prs ρ p w := by unfold prs; rw [pc_kp hb, pc_pgo ht hb]
theorem rp1_same {μ μ2 ρ ρ2 : Mem} {p : Nat} (h : RP1 μ ρ p) (ht : tl ρ2 p = tl ρ p) (h13 : ρ2.1 13 p = ρ.1 13 p) (h12 : ∀ i, i < tl ρ p → ρ2.1 12 (20 * p + i) = ρ.1 12 (20 * p + i)) (hc : ∀ k, k ≤ 6 → ∀ j, μ2.1 (18 + 9 * p + k) j = μ.1 (18 + 9 * p + k) j) (hc2 : μ2.2.2 (18 + 9 * p) 9 = μ.2.2 (18 + 9 * p) 9) : RP1 μ2 ρ2 p := by
  have hb : ∀ i, byt ρ2 p i = byt ρ p i := fun i => by
    unfold byt
    rw [ht]
    by_cases q : i < tl ρ p
    · rw [if_pos q, if_pos q, h12 i q]
    · rw [if_neg q, if_neg q]
  have hf : flt ρ2 p = flt ρ p := by unfold flt; rw [pc_prs ht hb]
  have hwn : ∀ j, wnt ρ2 p j = wnt ρ p j := fun j => by unfold wnt; rw [pc_prs ht hb]
  obtain ⟨a1, a2, a3, a4, a5, a6⟩ := h
  unfold RP1
  have k0 := hc 0 (by omega)
  simp only [Nat.add_zero] at k0
  rw [k0, k0, hc2, hf, pc_kp hb, h13, ht, hc 3 (by omega), hc 3 (by omega), hc 4 (by omega), hc 4 (by omega), hc 5 (by omega), hc 6 (by omega)]
  refine ⟨a1, fun i hi => by rw [hc 1 (by omega), h12 i hi]; exact a2 i hi, a3, a4, fun q j hj => by rw [hc 2 (by omega), hwn]; exact a5 q j hj, a6⟩
theorem rel_p {μ μ2 ρ ρ2 : Mem} (h : Rel μ ρ) (hc : ∀ c, c < 18 ∨ 54 ≤ c → ∀ j, μ2.1 c j = μ.1 c j) (hr : ∀ c, c ≠ 12 → c ≠ 13 → ∀ j, ρ2.1 c j = ρ.1 c j) (h3 : WFp ρ2) (h4 : RPl μ2 ρ2) : Rel μ2 ρ2 := by
  obtain ⟨⟨w1, w2, w3, w4, w5⟩, r1, r2, r3, r4, r5⟩ := h
  have eN : gN ρ ρ2 := ⟨hr 0 (by omega) (by omega) 5, fun c q1 q2 j => hr c (by omega) (by omega) j⟩
  have eA : gA ρ ρ2 := ⟨hr 0 (by omega) (by omega) 10, hr 0 (by omega) (by omega) 14, fun c q1 q2 j => hr c (by omega) (by omega) j⟩
  have eS : gS ρ ρ2 := ⟨hr 0 (by omega) (by omega) 4, fun c q1 q2 j => hr c (by omega) (by omega) j⟩
  have eK : gK ρ ρ2 := fun c q1 j => hr c (by omega) (by omega) j
  exact ⟨⟨u_WFn eN w1, u_WFa eN eA w2, h3, u_WFs eS w4, u_WFk eK w5⟩, u_RNm eN eA (fun c q1 q2 j => hc c (by omega) j) r1, u_RAn eA (fun c q1 q2 j => hc c (by omega) j) r2,
    h4, u_RSh eS ⟨hc 0 (by omega) 8, fun c q1 q2 j => hc c (by omega) j⟩ r4, u_RKn eK (fun c q1 j => hc c (by omega) j) r5⟩
theorem sim_fault {F : Nat} (hF : 2000 ≤ F) (μ ρ : Mem) (a1 : Int32) (h : Rel μ ρ) : ∃ (r : Int32) (ρ2 : Mem), f_X11_fault F μ a1 = some (r, μ) ∧ f_X12_fault F ρ a1 = some (r, ρ2) ∧ SmR ρ ρ2 := by
  unfold f_X11_fault f_X12_fault
  rw [pl_C, pl_R]
  by_cases w : wi a1 0 3 = true
  · obtain ⟨p, hp, rfl⟩ := wi_pl w
    obtain ⟨ρ2, e1, e2, _⟩ := rd_eq hF h.1 (SmR.rf ρ) hp
    refine ⟨flt ρ p, ρ2, ?_, ?_, e2⟩
    · rw [w]
      simp (disch := omega) only [xbn, ite_not, br_le_t, br_le_f, br_lt_t, br_lt_f, br_eq_t, br_eq_f, br_le0_t, br_le0_f, br_lt1_t, br_lt1_f, br_1le_t, br_1le_f, br_eq0_t, br_eq0_f, br_eq1_t, br_eq1_f, br_0le, br_lt0, br_0lt_t, br_0lt_f, br_m1, iof, i_2, i_3, i_4, i_8, i_9, i_10, i_20, i_30, i_90, i_120, i_256, cl_0, cl_1, cl_2, cl_3, Int32.add_zero, nI_add, nI_1, pk_mul, nI_s1, sb_m1, ck_in, ck_0, ck_1, nI_clamp, xcp, xca, xbn, if_true, show ¬ (1 : Int32) = 0 by decide, if_false]
      exact congrArg (fun v => some (v, μ)) (rp_1 h.2.2.2.1 hp).2.2.1
    · rw [w]
      simp (disch := omega) only [xbn, ite_not, br_le_t, br_le_f, br_lt_t, br_lt_f, br_eq_t, br_eq_f, br_le0_t, br_le0_f, br_lt1_t, br_lt1_f, br_1le_t, br_1le_f, br_eq0_t, br_eq0_f, br_eq1_t, br_eq1_f, br_0le, br_lt0, br_0lt_t, br_0lt_f, br_m1, iof, i_2, i_3, i_4, i_8, i_9, i_10, i_20, i_30, i_90, i_120, i_256, cl_0, cl_1, cl_2, cl_3, Int32.add_zero, nI_add, nI_1, pk_mul, nI_s1, sb_m1, ck_in, ck_0, ck_1, nI_clamp, xcp, xca, xbn, if_true, show ¬ (1 : Int32) = 0 by decide, if_false, e1]
  · rw [Bool.not_eq_true] at w
    rw [w]
    exact ⟨-2, ρ, rfl, rfl, SmR.rf ρ⟩
/-- behind a change of plan p's text: the class has understood it anew -/
theorem rel_un {F : Nat} (hF : 2000 ≤ F) {μ μ1 ρ ρ2 : Mem} (h : Rel μ ρ) {p : Nat} (hp : p < 4) (hw3 : WFp ρ2) (hr : ∀ c, c ≠ 12 → c ≠ 13 → ∀ j, ρ2.1 c j = ρ.1 c j)
    (ho : ∀ q, q < 4 → q ≠ p → ρ2.1 13 q = ρ.1 13 q ∧ ∀ i, i < tl ρ q → ρ2.1 12 (20 * q + i) = ρ.1 12 (20 * q + i))
    (hx : TX μ1 (18 + 9 * p) ρ2 p) (h7 : μ1.1 (18 + 9 * p) 7 = ρ2.1 13 p) (hc : ∀ c j, c ≠ 18 + 9 * p + 1 → (c = 18 + 9 * p → j ≠ 7) → μ1.1 c j = μ.1 c j) (hc2 : μ1.2.2 = μ.2.2) :
    ∃ μ2, f_X5_understand F μ1 (18 + 9 * p) = some ((), μ2) ∧ μ2.1 (18 + 9 * p) 7 = μ1.1 (18 + 9 * p) 7 ∧ Rel μ2 ρ2 := by
  obtain ⟨μ2, e1, e2, e3, e4, e5, e6⟩ := un_eq hF hx
  refine ⟨μ2, e1, e5 _ _ (by omega) (fun _ => by omega), rel_p h (fun c q j => ?_) hr hw3 (fun q hq => ?_)⟩
  · rw [e5 c j (by omega) (fun e => by omega), hc c j (by omega) (fun e => by omega)]
  · by_cases eq : q = p
    · subst eq
      have o := rp_1 h.2.2.2.1 hp
      have g : ∀ k, 3 ≤ k → k ≤ 6 → ∀ j, μ2.1 (18 + 9 * q + k) j = μ.1 (18 + 9 * q + k) j := fun k k1 k2 j => by
        rw [e5 _ j (by omega) (fun e => by omega), hc _ j (by omega) (fun e => by omega)]
      show RP1 μ2 ρ2 q
      unfold RP1
      rw [g 3 (by omega) (by omega), g 3 (by omega) (by omega), g 4 (by omega) (by omega), g 4 (by omega) (by omega), g 5 (by omega) (by omega), g 6 (by omega) (by omega)]
      refine ⟨by rw [e5 _ _ (by omega) (fun _ => by omega), h7], fun i hi => ?_, e2, e3, e4, o.2.2.2.2.2⟩
      rw [e5 _ _ (by omega) (fun e => by omega)]
      exact hx.2.2 i hi
    · have o := rp_1 h.2.2.2.1 hq
      obtain ⟨o1, o2⟩ := ho q hq eq
      refine rp1_same o (by unfold tl; rw [o1]) o1 o2 (fun k hk j => ?_) ?_
      · rw [e5 _ j (by omega) (fun e => by omega), hc _ j (by omega) (fun e => by omega)]
      · rw [e6 _ _ (fun e => by omega), hc2]
theorem sim_wipe {F : Nat} (hF : 2000 ≤ F) (μ ρ : Mem) (a1 : Int32) (h : Rel μ ρ) : ∃ (r : Int32) (μ2 ρ2 : Mem), f_X11_wipe F μ a1 = some (r, μ2) ∧ f_X12_wipe F ρ a1 = some (r, ρ2) ∧ Rel μ2 ρ2 := by
  unfold f_X11_wipe f_X12_wipe f_X5_clear
  rw [pl_C, pl_R]
  by_cases w : wi a1 0 3 = true
  · obtain ⟨p, hp, rfl⟩ := wi_pl w
    have t13 : (ui ρ 13 p 0).1 13 p = 0 := ui_s _ _ _ _
    have ht : tl (ui ρ 13 p 0) p = 0 := by unfold tl; rw [t13]; rfl
    have hto : ∀ q, q ≠ p → tl (ui ρ 13 p 0) q = tl ρ q := fun q hq => by unfold tl; rw [ui_o hq]
    have k1 : WFp (ui ρ 13 p 0) := by
      intro q hq
      by_cases eq : q = p
      · subst eq
        exact ⟨⟨by rw [t13, ht]; rfl, by omega⟩, fun i hi => by omega⟩
      · rw [hto q eq, ui_o eq]
        have o := h.1.2.2.1 q hq
        exact ⟨o.1, fun i hi => by rw [ui_c (by omega)]; exact o.2 i hi⟩
    have k2 : TX (ui μ (18 + 9 * p) 7 0) (18 + 9 * p) (ui ρ 13 p 0) p := ⟨by rw [ui_s, ht]; rfl, by omega, fun i hi => by omega⟩
    have k3 : ∀ c j, c ≠ 18 + 9 * p + 1 → (c = 18 + 9 * p → j ≠ 7) → (ui μ (18 + 9 * p) 7 0).1 c j = μ.1 c j := fun c j c1 c2 => by
      by_cases e : c = 18 + 9 * p
      · subst e; exact ui_o (c2 rfl)
      · exact ui_c e j
    obtain ⟨μ2, e1, _, e3⟩ := rel_un hF h hp k1 (fun c c1 c2 j => ui_c c2 j) (fun q hq hn => ⟨ui_o hn, fun i _ => ui_c (by omega) _⟩) k2 (by rw [ui_s, t13]) k3 rfl
    refine ⟨ρ.1 13 p, μ2, ui ρ 13 p 0, ?_, ?_, e3⟩
    · rw [w]
      simp (disch := omega) only [xbn, ite_not, br_le_t, br_le_f, br_lt_t, br_lt_f, br_eq_t, br_eq_f, br_le0_t, br_le0_f, br_lt1_t, br_lt1_f, br_1le_t, br_1le_f, br_eq0_t, br_eq0_f, br_eq1_t, br_eq1_f, br_0le, br_lt0, br_0lt_t, br_0lt_f, br_m1, iof, i_2, i_3, i_4, i_8, i_9, i_10, i_20, i_30, i_90, i_120, i_256, cl_0, cl_1, cl_2, cl_3, Int32.add_zero, nI_add, nI_1, pk_mul, nI_s1, sb_m1, ck_in, ck_0, ck_1, nI_clamp, xcp, xca, xbn, if_true, show ¬ (1 : Int32) = 0 by decide, if_false, e1]
      exact congrArg (fun v => some (v, μ2)) (rp_1 h.2.2.2.1 hp).1
    · rw [w]
      simp (disch := omega) only [xbn, ite_not, br_le_t, br_le_f, br_lt_t, br_lt_f, br_eq_t, br_eq_f, br_le0_t, br_le0_f, br_lt1_t, br_lt1_f, br_1le_t, br_1le_f, br_eq0_t, br_eq0_f, br_eq1_t, br_eq1_f, br_0le, br_lt0, br_0lt_t, br_0lt_f, br_m1, iof, i_2, i_3, i_4, i_8, i_9, i_10, i_20, i_30, i_90, i_120, i_256, cl_0, cl_1, cl_2, cl_3, Int32.add_zero, nI_add, nI_1, pk_mul, nI_s1, sb_m1, ck_in, ck_0, ck_1, nI_clamp, xcp, xca, xbn, if_true, show ¬ (1 : Int32) = 0 by decide, if_false]
  · rw [Bool.not_eq_true] at w
    rw [w]
    exact ⟨-2, μ, ρ, rfl, rfl, h⟩
theorem sim_type {F : Nat} (hF : 2000 ≤ F) (μ ρ : Mem) (a1 a2 : Int32) (h : Rel μ ρ) : ∃ (r : Int32) (μ2 ρ2 : Mem), f_X11_type F μ a1 a2 = some (r, μ2) ∧ f_X12_type F ρ a1 a2 = some (r, ρ2) ∧ Rel μ2 ρ2 := by
  unfold f_X11_type f_X12_type f_X5_append
  rw [pl_C, pl_R, wi_eq, in_eq F a2 0 255 (A := 0) (B := 255) rfl rfl]
  by_cases w : wi a1 0 3 = true
  · by_cases w2 : wi a2 0 255 = true
    · obtain ⟨p, hp, rfl⟩ := wi_pl w
      obtain ⟨b, hb, rfl⟩ := wi_nat (n := 255) rfl (by decide) w2
      obtain ⟨t1, t2⟩ := rw_tl h.1 (SmR.rf ρ) hp
      have c7 := ca_tl h hp
      rw [t1] at c7
      rw [w, w2]
      by_cases full : tl ρ p = 20
      · refine ⟨-4, μ, ρ, ?_, ?_, h⟩
        · simp (disch := omega) only [xbn, ite_not, br_le_t, br_le_f, br_lt_t, br_lt_f, br_eq_t, br_eq_f, br_le0_t, br_le0_f, br_lt1_t, br_lt1_f, br_1le_t, br_1le_f, br_eq0_t, br_eq0_f, br_eq1_t, br_eq1_f, br_0le, br_lt0, br_0lt_t, br_0lt_f, br_m1, iof, i_2, i_3, i_4, i_8, i_9, i_10, i_20, i_30, i_90, i_120, i_256, cl_0, cl_1, cl_2, cl_3, Int32.add_zero, nI_add, nI_1, pk_mul, nI_s1, sb_m1, ck_in, ck_0, ck_1, nI_clamp, xcp, xca, xbn, if_true, show ¬ (1 : Int32) = 0 by decide, if_false, c7]
        · simp (disch := omega) only [xbn, ite_not, br_le_t, br_le_f, br_lt_t, br_lt_f, br_eq_t, br_eq_f, br_le0_t, br_le0_f, br_lt1_t, br_lt1_f, br_1le_t, br_1le_f, br_eq0_t, br_eq0_f, br_eq1_t, br_eq1_f, br_0le, br_lt0, br_0lt_t, br_0lt_f, br_m1, iof, i_2, i_3, i_4, i_8, i_9, i_10, i_20, i_30, i_90, i_120, i_256, cl_0, cl_1, cl_2, cl_3, Int32.add_zero, nI_add, nI_1, pk_mul, nI_s1, sb_m1, ck_in, ck_0, ck_1, nI_clamp, xcp, xca, xbn, if_true, show ¬ (1 : Int32) = 0 by decide, if_false, t1]
      · have t13 : (ui (ui ρ 12 (20 * p + tl ρ p) (nI b)) 13 p (nI (tl ρ p + 1))).1 13 p = nI (tl ρ p + 1) := ui_s _ _ _ _
        have ht : tl (ui (ui ρ 12 (20 * p + tl ρ p) (nI b)) 13 p (nI (tl ρ p + 1))) p = tl ρ p + 1 := by
          show ((ui (ui ρ 12 (20 * p + tl ρ p) (nI b)) 13 p (nI (tl ρ p + 1))).1 13 p).toNatClampNeg = _
          rw [t13, nI_clamp (by omega)]
        have hto : ∀ q, q ≠ p → tl (ui (ui ρ 12 (20 * p + tl ρ p) (nI b)) 13 p (nI (tl ρ p + 1))) q = tl ρ q := fun q hq => by unfold tl; rw [ui_o hq, ui_c (by omega)]
        have h12 : ∀ x, (ui (ui ρ 12 (20 * p + tl ρ p) (nI b)) 13 p (nI (tl ρ p + 1))).1 12 x = if x = 20 * p + tl ρ p then nI b else ρ.1 12 x := fun x => by rw [ui_c (by omega), ui_at]
        have k1 : WFp (ui (ui ρ 12 (20 * p + tl ρ p) (nI b)) 13 p (nI (tl ρ p + 1))) := by
          intro q hq
          by_cases eq : q = p
          · subst eq
            refine ⟨⟨by rw [t13, ht], by omega⟩, fun i hi => ?_⟩
            rw [h12]
            by_cases ei : i = tl ρ q
            · rw [if_pos (by omega), nI_toInt (by omega)]
              omega
            · rw [if_neg (by omega)]
              exact (h.1.2.2.1 q hq).2 i (by omega)
          · rw [hto q eq, ui_o eq, ui_c (by omega)]
            have o := h.1.2.2.1 q hq
            have l := o.1.2
            refine ⟨o.1, fun i hi => ?_⟩
            rw [h12, if_neg (by omega)]
            exact o.2 i hi
        have k0 : ∀ q, q < 4 → q ≠ p → (ui (ui ρ 12 (20 * p + tl ρ p) (nI b)) 13 p (nI (tl ρ p + 1))).1 13 q = ρ.1 13 q ∧ ∀ i, i < tl ρ q → (ui (ui ρ 12 (20 * p + tl ρ p) (nI b)) 13 p (nI (tl ρ p + 1))).1 12 (20 * q + i) = ρ.1 12 (20 * q + i) := fun q hq hn => ⟨by rw [ui_o hn, ui_c (by omega)], fun i hi => by
          have l := (h.1.2.2.1 q hq).1.2
          rw [h12, if_neg (by omega)]⟩
        have k2 : TX (ui (ui μ (18 + 9 * p + 1) (tl ρ p) (nI b)) (18 + 9 * p) 7 (nI (tl ρ p + 1))) (18 + 9 * p) (ui (ui ρ 12 (20 * p + tl ρ p) (nI b)) 13 p (nI (tl ρ p + 1))) p := by
          refine ⟨by rw [ui_s, ht], by omega, fun i hi => ?_⟩
          rw [ht] at hi
          rw [h12, ui_c (by omega), ui_at]
          by_cases ei : i = tl ρ p
          · rw [if_pos ei, if_pos (by omega)]
          · rw [if_neg ei, if_neg (by omega)]
            exact (rp_1 h.2.2.2.1 hp).2.1 i (by omega)
        have k3 : ∀ c j, c ≠ 18 + 9 * p + 1 → (c = 18 + 9 * p → j ≠ 7) → (ui (ui μ (18 + 9 * p + 1) (tl ρ p) (nI b)) (18 + 9 * p) 7 (nI (tl ρ p + 1))).1 c j = μ.1 c j := fun c j c1 c2 => by
          by_cases e : c = 18 + 9 * p
          · subst e; rw [ui_o (c2 rfl), ui_c (by omega)]
          · rw [ui_c e, ui_c c1]
        obtain ⟨μ2, e1, e2, e3⟩ := rel_un hF h hp k1 (fun c c1 c2 j => by rw [ui_c c2, ui_c c1]) k0 k2 (by rw [ui_s, t13]) k3 rfl
        rw [ui_s] at e2
        refine ⟨nI (tl ρ p + 1), μ2, _, ?_, ?_, e3⟩
        · simp (disch := omega) only [xbn, ite_not, br_le_t, br_le_f, br_lt_t, br_lt_f, br_eq_t, br_eq_f, br_le0_t, br_le0_f, br_lt1_t, br_lt1_f, br_1le_t, br_1le_f, br_eq0_t, br_eq0_f, br_eq1_t, br_eq1_f, br_0le, br_lt0, br_0lt_t, br_0lt_f, br_m1, iof, i_2, i_3, i_4, i_8, i_9, i_10, i_20, i_30, i_90, i_120, i_256, cl_0, cl_1, cl_2, cl_3, Int32.add_zero, nI_add, nI_1, pk_mul, nI_s1, sb_m1, ck_in, ck_0, ck_1, nI_clamp, xcp, xca, xbn, ui_c, ui_s, ui_o, ui_2, ul_1, ul_22, ul_s, ul_o, ul_c, ur_1, ur_21, ur_s, if_true, show ¬ (1 : Int32) = 0 by decide, if_false, c7, e1, e2]
        · simp (disch := omega) only [xbn, ite_not, br_le_t, br_le_f, br_lt_t, br_lt_f, br_eq_t, br_eq_f, br_le0_t, br_le0_f, br_lt1_t, br_lt1_f, br_1le_t, br_1le_f, br_eq0_t, br_eq0_f, br_eq1_t, br_eq1_f, br_0le, br_lt0, br_0lt_t, br_0lt_f, br_m1, iof, i_2, i_3, i_4, i_8, i_9, i_10, i_20, i_30, i_90, i_120, i_256, cl_0, cl_1, cl_2, cl_3, Int32.add_zero, nI_add, nI_1, pk_mul, nI_s1, sb_m1, ck_in, ck_0, ck_1, nI_clamp, xcp, xca, xbn, ui_c, ui_s, ui_o, ui_2, ul_1, ul_22, ul_s, ul_o, ul_c, ur_1, ur_21, ur_s, if_true, show ¬ (1 : Int32) = 0 by decide, if_false, t1]
    · rw [Bool.not_eq_true] at w2
      rw [w, w2]
      exact ⟨-2, μ, ρ, rfl, rfl, h⟩
  · rw [Bool.not_eq_true] at w
    rw [w]
    exact ⟨-2, μ, ρ, rfl, rfl, h⟩
