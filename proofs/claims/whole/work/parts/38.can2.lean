theorem kp_le {W : Mem} (p : Nat) (h : ¬ kp W p = 0) : byt W p 0 = kc (kp W p) ∧ kp W p ≤ 5 := kd_kc h
theorem pw_t {F : Nat} (hF : 2000 ≤ F) {W μ : Mem} (h : Rel μ W) {p : Nat} (hp : p < 4) (hc : CB W p) : f_X5_possibleWay F μ (18 + 9 * p) = some (some (18 + 9 * p + 2 + kp W p), μ) ∧ WY W (kp W p) (wq W p) (18 + 9 * p + 2 + kp W p) μ ∧ ∀ j, j < cntOf (kp W p) → wq W p j ≤ 99 := by
  obtain ⟨o1, o2, o3, o4, o5, o6⟩ := rp_1 h.2.2.2.1 hp
  have hk : ¬ kp W p = 0 := fun q => by have := hc.2; rw [q] at this; exact cbk0 this
  have hy : WY W (kp W p) (wq W p) (18 + 9 * p + 2 + kp W p) μ := ⟨h, p, hp, rfl, fun j hj => by rw [o5 hc.1 j hj]; exact (wq_n h.1 hp hc.1 hj).1, by omega, (kp_le p hk).2⟩
  have hb : ∀ j, j < cntOf (kp W p) → wq W p j ≤ 99 := fun j hj => (wq_n h.1 hp hc.1 hj).2
  refine ⟨?_, hy, hb⟩
  have := Classical.propDecidable (cbk W (kp W p) (wq W p))
  unfold f_X5_possibleWay
  rw [o4, if_neg hk, o3, hc.1]
  simp only [xbn, onul, not_true_eq_false, if_false, cbC hF hy hb, if_pos hc.2, xca, show ¬ (1 : Int32) = 0 by decide, not_false_eq_true, if_true]
  rw [o4, if_neg hk]
theorem pw_f {F : Nat} (hF : 2000 ≤ F) {W μ : Mem} (h : Rel μ W) {p : Nat} (hp : p < 4) (hc : ¬ CB W p) : f_X5_possibleWay F μ (18 + 9 * p) = some (none, μ) := by
  obtain ⟨o1, o2, o3, o4, o5, o6⟩ := rp_1 h.2.2.2.1 hp
  unfold f_X5_possibleWay
  rw [o4, o3]
  by_cases hk : kp W p = 0
  · rw [if_pos hk]; rfl
  · rw [if_neg hk]
    by_cases hf : flt W p = -1
    · have hy : WY W (kp W p) (wq W p) (18 + 9 * p + 2 + kp W p) μ := ⟨h, p, hp, rfl, fun j hj => by rw [o5 hf j hj]; exact (wq_n h.1 hp hf hj).1, by omega, (kp_le p hk).2⟩
      have hb : ∀ j, j < cntOf (kp W p) → wq W p j ≤ 99 := fun j hj => (wq_n h.1 hp hf hj).2
      have := Classical.propDecidable (cbk W (kp W p) (wq W p))
      simp only [xbn, onul, hf, not_true_eq_false, if_false, cbC hF hy hb, if_neg (show ¬ cbk W (kp W p) (wq W p) from fun q => hc ⟨hf, q⟩), xca]
    · simp only [xbn, onul, hf, not_false_eq_true, if_true]
/-- the reference stands ready: kind k, numbers w -/
def RY (W : Mem) (k : Nat) (w : Nat → Nat) (ρ : Mem) : Prop := SmR W ρ ∧ ρ.1 0 17 = kc k ∧ (∀ j, j < cntOf k → ρ.1 14 j = nI (w j)) ∧ (k = 4 → ρ.1 0 20 = nI (ssz W (nm W) / w 0)) ∧ 1 ≤ k ∧ k ≤ 5
theorem crl_loop {F : Nat} (hF : 2000 ≤ F) {W ρ : Mem} (hw : WF W) (hs : SmR W ρ) {w : Nat → Nat} (hn : ∀ j, j < 4 → ρ.1 14 j = nI (w j)) (hb : ∀ j, j < 4 → w j ≤ 99) : f_X12_canBe_b141 F F ρ 1 0 = some (if (∀ l, l < cntOf 2 → w l ≤ nL W l) ∧ 0 < w 0 + w 1 + w 2 + w 3 then 1 else 0, ρ) := by
  refine run_up (N := 4) (fun n i => f_X12_canBe_b141 F n ρ (if (∀ l, l < i → w l ≤ nL W l) then 1 else 0) (nI i)) (fun n i hi y hy => ?_) (fun n => ?_) F 0 (Nat.zero_le _) (by omega)
  · have b := hb i hi
    have l := nL_le W hw i
    unfold f_X12_canBe_b141 f_X12_canBe_b172 f_X12_canBe_b173
    simp (disch := omega) only [xbn, ite_not, br_le_t, br_le_f, br_lt_t, br_lt_f, br_eq_t, br_eq_f, br_le0_t, br_le0_f, br_lt1_t, br_lt1_f, br_1le_t, br_1le_f, br_eq0_t, br_eq0_f, br_eq1_t, br_eq1_f, br_0le, br_lt0, br_0lt_t, br_0lt_f, br_m1, iof, i_2, i_3, i_4, i_8, i_9, i_10, i_20, i_30, i_90, i_120, i_256, cl_0, cl_1, cl_2, cl_3, Int32.add_zero, nI_add, nI_1, pk_mul, nI_s1, sb_m1, ck_in, ck_0, ck_1, nI_clamp, xcp, xca, xbn, hn i hi, mo_l hF hw hs]
    by_cases q : ∀ l, l < i → w l ≤ nL W l
    · rw [if_pos q]
      rw [if_neg (by decide)]
      by_cases q2 : w i ≤ nL W i
      · simp (disch := omega) only [xbn, ite_not, br_le_t, br_le_f, br_lt_t, br_lt_f, br_eq_t, br_eq_f, br_le0_t, br_le0_f, br_lt1_t, br_lt1_f, br_1le_t, br_1le_f, br_eq0_t, br_eq0_f, br_eq1_t, br_eq1_f, br_0le, br_lt0, br_0lt_t, br_0lt_f, br_m1, iof, i_2, i_3, i_4, i_8, i_9, i_10, i_20, i_30, i_90, i_120, i_256, cl_0, cl_1, cl_2, cl_3, Int32.add_zero, nI_add, nI_1, pk_mul, nI_s1, sb_m1, ck_in, ck_0, ck_1, nI_clamp, xcp, xca, xbn]
        rw [if_pos (fun x hx => by
          by_cases e : x = i
          · subst e; exact q2
          · exact q x (by omega))] at hy
        exact hy
      · simp (disch := omega) only [xbn, ite_not, br_le_t, br_le_f, br_lt_t, br_lt_f, br_eq_t, br_eq_f, br_le0_t, br_le0_f, br_lt1_t, br_lt1_f, br_1le_t, br_1le_f, br_eq0_t, br_eq0_f, br_eq1_t, br_eq1_f, br_0le, br_lt0, br_0lt_t, br_0lt_f, br_m1, iof, i_2, i_3, i_4, i_8, i_9, i_10, i_20, i_30, i_90, i_120, i_256, cl_0, cl_1, cl_2, cl_3, Int32.add_zero, nI_add, nI_1, pk_mul, nI_s1, sb_m1, ck_in, ck_0, ck_1, nI_clamp, xcp, xca, xbn]
        rw [if_neg (fun z => q2 (z i (by omega)))] at hy
        exact hy
    · rw [if_neg q, if_pos rfl]
      rw [if_neg (fun z => q (fun x hx => z x (by omega)))] at hy
      exact hy
  · have b0 := hb 0 (by omega)
    have b1 := hb 1 (by omega)
    have b2 := hb 2 (by omega)
    have b3 := hb 3 (by omega)
    unfold f_X12_canBe_b141
    have z2 : ∀ (k : Option (Int32 × Mem)), ck (nI 2) 4 k = k := fun k => ck_in (by omega) (by omega)
    have z3 : ∀ (k : Option (Int32 × Mem)), ck (nI 3) 4 k = k := fun k => ck_in (by omega) (by omega)
    simp (disch := omega) only [xbn, ite_not, br_le_t, br_le_f, br_lt_t, br_lt_f, br_eq_t, br_eq_f, br_le0_t, br_le0_f, br_lt1_t, br_lt1_f, br_1le_t, br_1le_f, br_eq0_t, br_eq0_f, br_eq1_t, br_eq1_f, br_0le, br_lt0, br_0lt_t, br_0lt_f, br_m1, iof, i_2, i_3, i_4, i_8, i_9, i_10, i_20, i_30, i_90, i_120, i_256, cl_0, cl_1, cl_2, cl_3, Int32.add_zero, nI_add, nI_1, pk_mul, nI_s1, sb_m1, ck_in, ck_0, ck_1, nI_clamp, xcp, xca, xbn, hn 0 (by omega), hn 1 (by omega), hn 2 (by omega), hn 3 (by omega), z2, z3]
    by_cases q : ∀ l, l < cntOf 2 → w l ≤ nL W l
    · rw [if_pos (show ∀ l, l < 4 → w l ≤ nL W l from q), if_neg (by decide)]
      by_cases q2 : 0 < w 0 + w 1 + w 2 + w 3
      · rw [br_le0_f q2 (by omega), if_pos ⟨q, q2⟩]
      · rw [br_le0_t (by omega), if_neg (fun z => q2 z.2)]
    · rw [if_neg (show ¬ ∀ l, l < 4 → w l ≤ nL W l from q), if_pos rfl, if_neg (fun z => q z.1)]
theorem in_1 (F : Nat) {a c : Nat} (ha : a < 2 ^ 31) (hc : c < 2 ^ 31) : f_X12_in F (nI a).toInt64 1 (nI c).toInt64 = some (if 1 ≤ a ∧ a ≤ c then 1 else 0) := by
  rw [in_eq F (nI a) 1 (nI c) (A := 1) rfl rfl, wi_1 ha hc]
  simp only [decide_eq_true_eq]
theorem cr_eq {F : Nat} (hF : 2000 ≤ F) {W ρ : Mem} (hw : WF W) (hs : SmR W ρ) {p : Nat} (hp : p < 4) :
    (CB W p → ∃ ρ2, f_X12_canBe F ρ (nI p) = some (1, ρ2) ∧ RY W (kp W p) (wq W p) ρ2 ∧ ρ2.1 0 21 = 0 ∧ ρ2.2 = ρ.2) ∧ (¬ CB W p → ∃ ρ2, f_X12_canBe F ρ (nI p) = some (0, ρ2) ∧ SmR W ρ2) := by
  obtain ⟨ρ1, e1, e2, ex, e3, e4, e5⟩ := rd_eq hF hw hs hp
  by_cases hf : flt W p = -1
  · have hk : ¬ kp W p = 0 := by
      intro q
      have : flt W p = 0 := by unfold flt prs; rw [if_pos q]
      rw [this] at hf
      exact absurd hf (by decide)
    obtain ⟨k1, k2⟩ := kp_le p hk
    have hn : ∀ j, j < cntOf (kp W p) → ρ1.1 14 j = nI (wq W p j) := fun j hj => by rw [e5 hf j hj]; exact (wq_n hw hp hf hj).1
    have hb : ∀ j, j < cntOf (kp W p) → wq W p j ≤ 99 := fun j hj => (wq_n hw hp hf hj).2
    have hN := rw_N hw
    rw [k1] at e3
    have base : f_X12_canBe F ρ (nI p) = f_X12_canBe F ρ (nI p) := rfl
    -- it is enough to know the rest's answer and where it leaves the memory
    have fin : ∀ (c : Prop) [Decidable c] (ρ2 : Mem), f_X12_canBe F ρ (nI p) = some (if c then 1 else 0, ρ2) → (c ↔ cbk W (kp W p) (wq W p)) → SmR W ρ2 → ρ2.2 = ρ.2 → (c → RY W (kp W p) (wq W p) ρ2 ∧ ρ2.1 0 21 = 0) →
        (CB W p → ∃ ρ2, f_X12_canBe F ρ (nI p) = some (1, ρ2) ∧ RY W (kp W p) (wq W p) ρ2 ∧ ρ2.1 0 21 = 0 ∧ ρ2.2 = ρ.2) ∧ (¬ CB W p → ∃ ρ2, f_X12_canBe F ρ (nI p) = some (0, ρ2) ∧ SmR W ρ2) := by
      intro c _ ρ2 h1 h2 h3 hx h4
      by_cases q : c
      · rw [if_pos q] at h1
        refine ⟨fun _ => ⟨ρ2, h1, (h4 q).1, (h4 q).2, hx⟩, fun z => absurd ⟨hf, h2.mp q⟩ z⟩
      · rw [if_neg q] at h1
        exact ⟨fun z => absurd (h2.mpr z.2) q, fun _ => ⟨ρ2, h1, h3⟩⟩
    have hk5 : kp W p = 1 ∨ kp W p = 2 ∨ kp W p = 3 ∨ kp W p = 4 ∨ kp W p = 5 := by omega
    have h0 : ρ1.1 14 0 = nI (wq W p 0) ∧ wq W p 0 ≤ 99 := by
      have : 0 < cntOf (kp W p) := by unfold cntOf; split <;> (try split) <;> omega
      exact ⟨hn 0 this, hb 0 this⟩
    obtain ⟨h0, b0⟩ := h0
    rcases hk5 with ek | ek | ek | ek | ek
    · rw [ek] at e3 hn hb fin ⊢
      refine fin (1 ≤ wq W p 0 ∧ wq W p 0 ≤ nm W) ρ1 ?_ cbk1.symm e2 ex (fun _ => ⟨⟨e2, e3, hn, fun q => absurd q (by decide), by omega, by omega⟩, e4⟩)
      unfold f_X12_canBe
      rw [e1, hf]
      simp (disch := omega) only [xbn, ite_not, br_le_t, br_le_f, br_lt_t, br_lt_f, br_eq_t, br_eq_f, br_le0_t, br_le0_f, br_lt1_t, br_lt1_f, br_1le_t, br_1le_f, br_eq0_t, br_eq0_f, br_eq1_t, br_eq1_f, br_0le, br_lt0, br_0lt_t, br_0lt_f, br_m1, iof, i_2, i_3, i_4, i_8, i_9, i_10, i_20, i_30, i_90, i_120, i_256, cl_0, cl_1, cl_2, cl_3, Int32.add_zero, nI_add, nI_1, pk_mul, nI_s1, sb_m1, ck_in, ck_0, ck_1, nI_clamp, xcp, xca, xbn, h0, e3, kc, if_true, rw_n hw e2, in_1, zkp]
    · rw [ek] at e3 hn hb fin ⊢
      refine fin ((∀ l, l < cntOf 2 → wq W p l ≤ nL W l) ∧ 0 < wq W p 0 + wq W p 1 + wq W p 2 + wq W p 3) ρ1 ?_ cbk2.symm e2 ex (fun _ => ⟨⟨e2, e3, hn, fun q => absurd q (by decide), by omega, by omega⟩, e4⟩)
      unfold f_X12_canBe
      rw [e1, hf]
      simp only [xca, if_true, ck_0 (show 0 < 4 by decide), xbn, h0, e3, kc, show ¬ (2 : Nat) = 1 by decide, if_false, show ¬ (108 : Int32) = 97 by decide, show ¬ (108 : Int32) = 101 by decide, show ¬ (108 : Int32) = 122 by decide, show ¬ (108 : Int32) = 116 by decide, not_false_eq_true]
      exact crl_loop hF hw e2 hn hb
    · rw [ek] at e3 hn hb fin ⊢
      refine fin (1 ≤ wq W p 0 ∧ wq W p 0 ≤ 30) ρ1 ?_ cbk3.symm e2 ex (fun _ => ⟨⟨e2, e3, hn, fun q => absurd q (by decide), by omega, by omega⟩, e4⟩)
      unfold f_X12_canBe
      rw [e1, hf]
      simp only [xca, if_true, ck_0 (show 0 < 4 by decide), cl_0, xbn, h0, e3, kc, show ¬ (3 : Nat) = 1 by decide, show ¬ (3 : Nat) = 2 by decide, if_false, show ¬ (101 : Int32) = 97 by decide, not_true_eq_false, not_false_eq_true]
      have := in_1 F (a := wq W p 0) (c := 30) (by omega) (by omega)
      rw [show (30 : Int64) = (nI 30).toInt64 from rfl, this]
      simp only [xcp, zkp]
    · rw [ek] at e3 hn hb fin ⊢
      have sl := ssz_le W hw (nm W) (Nat.le_refl _)
      have dl := Nat.div_le_self (ssz W (nm W)) (wq W p 0)
      refine fin (1 ≤ wq W p 0 ∧ 1 ≤ ssz W (nm W) / wq W p 0) (ui ρ1 0 20 (nI (if wq W p 0 = 0 then 0 else ssz W (nm W) / wq W p 0))) ?_ cbk4.symm (e2.tr (smr_0 (by omega) _ _)) ex (fun z => ⟨⟨e2.tr (smr_0 (by omega) _ _), by rw [ui_o (by omega)]; exact e3, fun j hj => by rw [ui_c (by omega)]; exact hn j hj, fun _ => by rw [ui_s, if_neg (by omega)], by omega, by omega⟩, by rw [ui_o (by omega)]; exact e4⟩)
      unfold f_X12_canBe f_X12_canBe_b82
      rw [e1, hf]
      simp only [xca, if_true, ck_0 (show 0 < 4 by decide), cl_0, xbn, h0, e3, kc, show ¬ (4 : Nat) = 1 by decide, show ¬ (4 : Nat) = 2 by decide, show ¬ (4 : Nat) = 3 by decide, if_false, show ¬ (122 : Int32) = 97 by decide, show ¬ (122 : Int32) = 101 by decide, not_true_eq_false, not_false_eq_true, as_eq hF hw e2, ui_s]
      by_cases q0 : wq W p 0 = 0
      · rw [br_le0_t q0, if_pos (by decide), if_neg (by omega), if_pos q0]
        rfl
      · rw [br_le0_f (by omega) (by omega), dvi_n (by omega) (by omega), pk_div (by omega) (by omega) (by omega), if_neg q0]
        by_cases q1 : ssz W (nm W) / wq W p 0 = 0
        · rw [br_le0_t q1, if_neg (by omega)]
        · have q1' := Nat.pos_of_ne_zero q1
          rw [br_le0_f q1' (by omega), if_pos ⟨by omega, q1'⟩]
    · rw [ek] at e3 hn hb fin ⊢
      have h1 := hn 1 (by decide)
      have b1 := hb 1 (by decide)
      have hK := nK_le W
      refine fin (1 ≤ wq W p 0 ∧ wq W p 0 ≤ nK W ∧ 1 ≤ wq W p 1) ρ1 ?_ cbk5.symm e2 ex (fun _ => ⟨⟨e2, e3, hn, fun q => absurd q (by decide), by omega, by omega⟩, e4⟩)
      unfold f_X12_canBe
      rw [e1, hf]
      simp only [xca, if_true, ck_0 (show 0 < 4 by decide), ck_1 (show 1 < 4 by decide), cl_0, cl_1, xbn, h0, h1, e3, kc, show ¬ (5 : Nat) = 1 by decide, show ¬ (5 : Nat) = 2 by decide, show ¬ (5 : Nat) = 3 by decide, show ¬ (5 : Nat) = 4 by decide, if_false, show ¬ (116 : Int32) = 97 by decide, show ¬ (116 : Int32) = 101 by decide, show ¬ (116 : Int32) = 122 by decide, not_true_eq_false, not_false_eq_true, cn_eq hF hw e2, in_1 F (a := wq W p 0) (c := nK W) (by omega) (by omega), xcp]
      by_cases q : 1 ≤ wq W p 0 ∧ wq W p 0 ≤ nK W
      · rw [if_pos q, if_neg (by decide)]
        by_cases q1 : wq W p 1 = 0
        · rw [br_le0_t q1, if_neg (by omega)]
        · rw [br_le0_f (by omega) (by omega), if_pos (by omega)]
      · rw [if_neg q, if_pos rfl, if_neg (by omega)]
  · refine ⟨fun q => absurd q.1 hf, fun _ => ⟨ρ1, ?_, e2⟩⟩
    unfold f_X12_canBe
    rw [e1]
    simp only [xca, hf, if_false]
theorem sim_can {F : Nat} (hF : 2000 ≤ F) (μ ρ : Mem) (a1 : Int32) (h : Rel μ ρ) : ∃ (r : Int32) (ρ2 : Mem), f_X11_can F μ a1 = some (r, μ) ∧ f_X12_can F ρ a1 = some (r, ρ2) ∧ SmR ρ ρ2 := by
  unfold f_X11_can f_X12_can
  rw [pl_C, pl_R]
  by_cases w : wi a1 0 3 = true
  · obtain ⟨p, hp, rfl⟩ := wi_pl w
    rw [w]
    have hcr := cr_eq hF h.1 (SmR.rf ρ) hp
    by_cases c : CB ρ p
    · obtain ⟨ρ2, r1, r2, r3, _⟩ := hcr.1 c
      refine ⟨1, ρ2, ?_, ?_, r2.1⟩
      · simp (disch := omega) only [xbn, ite_not, br_le_t, br_le_f, br_lt_t, br_lt_f, br_eq_t, br_eq_f, br_le0_t, br_le0_f, br_lt1_t, br_lt1_f, br_1le_t, br_1le_f, br_eq0_t, br_eq0_f, br_eq1_t, br_eq1_f, br_0le, br_lt0, br_0lt_t, br_0lt_f, br_m1, iof, i_2, i_3, i_4, i_8, i_9, i_10, i_20, i_30, i_90, i_120, i_256, cl_0, cl_1, cl_2, cl_3, Int32.add_zero, nI_add, nI_1, pk_mul, nI_s1, sb_m1, ck_in, ck_0, ck_1, nI_clamp, xcp, xca, xbn, if_true, show ¬ (1 : Int32) = 0 by decide, if_false, (pw_t hF h hp c).1, onul]
      · simp (disch := omega) only [xbn, ite_not, br_le_t, br_le_f, br_lt_t, br_lt_f, br_eq_t, br_eq_f, br_le0_t, br_le0_f, br_lt1_t, br_lt1_f, br_1le_t, br_1le_f, br_eq0_t, br_eq0_f, br_eq1_t, br_eq1_f, br_0le, br_lt0, br_0lt_t, br_0lt_f, br_m1, iof, i_2, i_3, i_4, i_8, i_9, i_10, i_20, i_30, i_90, i_120, i_256, cl_0, cl_1, cl_2, cl_3, Int32.add_zero, nI_add, nI_1, pk_mul, nI_s1, sb_m1, ck_in, ck_0, ck_1, nI_clamp, xcp, xca, xbn, if_true, show ¬ (1 : Int32) = 0 by decide, if_false, r1]
    · obtain ⟨ρ2, r1, r2⟩ := hcr.2 c
      refine ⟨0, ρ2, ?_, ?_, r2⟩
      · simp (disch := omega) only [xbn, ite_not, br_le_t, br_le_f, br_lt_t, br_lt_f, br_eq_t, br_eq_f, br_le0_t, br_le0_f, br_lt1_t, br_lt1_f, br_1le_t, br_1le_f, br_eq0_t, br_eq0_f, br_eq1_t, br_eq1_f, br_0le, br_lt0, br_0lt_t, br_0lt_f, br_m1, iof, i_2, i_3, i_4, i_8, i_9, i_10, i_20, i_30, i_90, i_120, i_256, cl_0, cl_1, cl_2, cl_3, Int32.add_zero, nI_add, nI_1, pk_mul, nI_s1, sb_m1, ck_in, ck_0, ck_1, nI_clamp, xcp, xca, xbn, if_true, show ¬ (1 : Int32) = 0 by decide, if_false, pw_f hF h hp c, onul]
      · simp (disch := omega) only [xbn, ite_not, br_le_t, br_le_f, br_lt_t, br_lt_f, br_eq_t, br_eq_f, br_le0_t, br_le0_f, br_lt1_t, br_lt1_f, br_1le_t, br_1le_f, br_eq0_t, br_eq0_f, br_eq1_t, br_eq1_f, br_0le, br_lt0, br_0lt_t, br_0lt_f, br_m1, iof, i_2, i_3, i_4, i_8, i_9, i_10, i_20, i_30, i_90, i_120, i_256, cl_0, cl_1, cl_2, cl_3, Int32.add_zero, nI_add, nI_1, pk_mul, nI_s1, sb_m1, ck_in, ck_0, ck_1, nI_clamp, xcp, xca, xbn, if_true, show ¬ (1 : Int32) = 0 by decide, if_false, r1]
  · rw [Bool.not_eq_true] at w
    rw [w]
    exact ⟨-2, ρ, rfl, rfl, SmR.rf ρ⟩
