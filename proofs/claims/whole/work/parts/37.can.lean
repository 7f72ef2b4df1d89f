/-! whether a plan can be -/
def wq (W : Mem) (p j : Nat) : Nat := (wnt W p j).toNatClampNeg
theorem pgo_n {W : Mem} {p : Nat} {sep : Int32} : ∀ (m i k : Nat) (w : Nat → Int32), (pgo W p sep m i k w).1 = -1 → i ≤ 90 → (∀ j, j < k → ∃ v, v ≤ 99 ∧ w j = nI v) → tl W p ≤ 20 → ∀ j, j < k + m → ∃ v, v ≤ 99 ∧ (pgo W p sep m i k w).2 j = nI v
  | 0, i, k, w, h, hi, hw, ht, j, hj => by unfold pgo; exact hw j hj
  | m + 1, i, k, w, h, hi, hw, ht, j, hj => by
    unfold pgo at h ⊢
    by_cases c : 0 < k ∧ ¬ byt W p i = sep
    · rw [if_pos c] at h
      exact absurd h (nI_nm1 (by omega))
    · rw [if_neg c] at h ⊢
      cases en : num W p (if 0 < k then i + 1 else i) with
      | none =>
        rw [en] at h
        have h' : nI (if 0 < k then i + 1 else i) = -1 := h
        exact absurd h' (nI_nm1 (by split <;> omega))
      | some q =>
        rw [en] at h
        obtain ⟨⟨v, hv, ev⟩, a2, a3, a4⟩ := num_n en
        refine pgo_n m q.2 (k + 1) (upd w k q.1) h (by omega) (fun x hx => ?_) ht j (by omega)
        by_cases ex : x = k
        · subst ex; rw [pk_us]; exact ⟨v, hv, ev⟩
        · rw [pk_un ex]; exact hw x (by omega)
theorem wq_n {W : Mem} (hw : WF W) {p : Nat} (hp : p < 4) (hf : flt W p = -1) {j : Nat} (hj : j < cntOf (kp W p)) : wnt W p j = nI (wq W p j) ∧ wq W p j ≤ 99 := by
  have hk : ¬ kp W p = 0 := by
    intro q
    have : flt W p = 0 := by unfold flt prs; rw [if_pos q]
    rw [this] at hf
    exact absurd hf (by decide)
  have e1 : flt W p = (pgo W p (sepOf (kp W p)) (cntOf (kp W p)) 1 0 (fun _ => 0)).1 := by unfold flt prs; rw [if_neg hk]
  have e2 : wnt W p j = (pgo W p (sepOf (kp W p)) (cntOf (kp W p)) 1 0 (fun _ => 0)).2 j := by unfold wnt prs; rw [if_neg hk]
  rw [e1] at hf
  obtain ⟨v, hv, ev⟩ := pgo_n _ 1 0 _ hf (by omega) (fun x hx => absurd hx (Nat.not_lt_zero _)) (hw.2.2.1 p hp).1.2 j (by omega)
  unfold wq
  rw [e2, ev, nI_clamp (by omega)]
  exact ⟨rfl, hv⟩
def cbk (W : Mem) (k : Nat) (w : Nat → Nat) : Prop := (k = 1 ∧ 1 ≤ w 0 ∧ w 0 ≤ nm W) ∨ (k = 2 ∧ (∀ l, l < 4 → w l ≤ nL W l) ∧ 0 < w 0 + w 1 + w 2 + w 3) ∨ (k = 3 ∧ 1 ≤ w 0 ∧ w 0 ≤ 30) ∨ (k = 4 ∧ 1 ≤ w 0 ∧ 1 ≤ ssz W (nm W) / w 0) ∨ (k = 5 ∧ 1 ≤ w 0 ∧ w 0 ≤ nK W ∧ 1 ≤ w 1)
theorem cbk1 {W : Mem} {w : Nat → Nat} : cbk W 1 w ↔ 1 ≤ w 0 ∧ w 0 ≤ nm W := by
  unfold cbk
  constructor
  · rintro (q | q | q | q | q)
    · exact q.2
    all_goals exact absurd q.1 (by decide)
  · intro q; exact Or.inl ⟨rfl, q⟩
theorem cbk2 {W : Mem} {w : Nat → Nat} : cbk W 2 w ↔ (∀ l, l < 4 → w l ≤ nL W l) ∧ 0 < w 0 + w 1 + w 2 + w 3 := by
  unfold cbk
  constructor
  · rintro (q | q | q | q | q)
    · exact absurd q.1 (by decide)
    · exact q.2
    all_goals exact absurd q.1 (by decide)
  · intro q; exact Or.inr (Or.inl ⟨rfl, q⟩)
theorem cbk3 {W : Mem} {w : Nat → Nat} : cbk W 3 w ↔ 1 ≤ w 0 ∧ w 0 ≤ 30 := by
  unfold cbk
  constructor
  · rintro (q | q | q | q | q)
    · exact absurd q.1 (by decide)
    · exact absurd q.1 (by decide)
    · exact q.2
    all_goals exact absurd q.1 (by decide)
  · intro q; exact Or.inr (Or.inr (Or.inl ⟨rfl, q⟩))
theorem cbk4 {W : Mem} {w : Nat → Nat} : cbk W 4 w ↔ 1 ≤ w 0 ∧ 1 ≤ ssz W (nm W) / w 0 := by
  unfold cbk
  constructor
  · rintro (q | q | q | q | q)
    · exact absurd q.1 (by decide)
    · exact absurd q.1 (by decide)
    · exact absurd q.1 (by decide)
    · exact q.2
    · exact absurd q.1 (by decide)
  · intro q; exact Or.inr (Or.inr (Or.inr (Or.inl ⟨rfl, q⟩)))
theorem cbk5 {W : Mem} {w : Nat → Nat} : cbk W 5 w ↔ 1 ≤ w 0 ∧ w 0 ≤ nK W ∧ 1 ≤ w 1 := by
  unfold cbk
  constructor
  · rintro (q | q | q | q | q)
    · exact absurd q.1 (by decide)
    · exact absurd q.1 (by decide)
    · exact absurd q.1 (by decide)
    · exact absurd q.1 (by decide)
    · exact q.2
  · intro q; exact Or.inr (Or.inr (Or.inr (Or.inr ⟨rfl, q⟩)))
theorem cbk0 {W : Mem} {w : Nat → Nat} : ¬ cbk W 0 w := by
  unfold cbk
  rintro (q | q | q | q | q) <;> exact absurd q.1 (by decide)
theorem zkp {α : Type} (c : Prop) [Decidable c] (k : Option α) : zk (if c then 1 else 0) k = k := by
  by_cases q : c
  · rw [if_pos q]; rfl
  · rw [if_neg q]; rfl
def CB (W : Mem) (p : Nat) : Prop := flt W p = -1 ∧ cbk W (kp W p) (wq W p)
def kc (k : Nat) : Int32 := if k = 1 then 97 else if k = 2 then 108 else if k = 3 then 101 else if k = 4 then 122 else 116
theorem kd_kc {x : Int32} (h : ¬ kd x = 0) : x = kc (kd x) ∧ kd x ≤ 5 := by
  unfold kd at h ⊢
  by_cases c1 : x = 97
  · simp only [c1, if_true]; exact ⟨rfl, by omega⟩
  by_cases c2 : x = 108
  · simp only [c1, c2, show ¬ (108 : Int32) = 97 by decide, if_true, if_false]; exact ⟨rfl, by omega⟩
  by_cases c3 : x = 101
  · simp only [c3, show ¬ (101 : Int32) = 97 by decide, show ¬ (101 : Int32) = 108 by decide, if_true, if_false]; exact ⟨rfl, by omega⟩
  by_cases c4 : x = 122
  · simp only [c4, show ¬ (122 : Int32) = 97 by decide, show ¬ (122 : Int32) = 108 by decide, show ¬ (122 : Int32) = 101 by decide, if_true, if_false]; exact ⟨rfl, by omega⟩
  by_cases c5 : x = 116
  · simp only [c5, show ¬ (116 : Int32) = 97 by decide, show ¬ (116 : Int32) = 108 by decide, show ¬ (116 : Int32) = 101 by decide, show ¬ (116 : Int32) = 122 by decide, if_true, if_false]; exact ⟨rfl, by omega⟩
  · rw [if_neg c1, if_neg c2, if_neg c3, if_neg c4, if_neg c5] at h; exact absurd rfl h
/-- the class's way t: kind k, numbers w -/
def WY (W : Mem) (k : Nat) (w : Nat → Nat) (t : Nat) (μ : Mem) : Prop := Rel μ W ∧ ∃ p, p < 4 ∧ t = 18 + 9 * p + 2 + k ∧ (∀ j, j < cntOf k → μ.1 (18 + 9 * p + 2) j = nI (w j)) ∧ 1 ≤ k ∧ k ≤ 5
theorem WY.sm {W : Mem} {k : Nat} {w : Nat → Nat} {t : Nat} {μ μ2 : Mem} (h : WY W k w t μ) (hc : SmC μ μ2) : WY W k w t μ2 := by
  obtain ⟨h1, p, hp, ht, hw, hk⟩ := h
  exact ⟨rel_c h1 hc, p, hp, ht, fun j hj => by rw [(hc.2.2.1 p hp).2.2.1]; exact hw j hj, hk⟩
theorem numC_t : ∀ p, p < 4 → ∀ k, k < 6 → 1 ≤ k → numC (18 + 9 * p + 2 + k) = 18 + 9 * p + 2 := by decide +kernel
theorem kind_12 : ∀ p, p < 4 → kindC (18 + 9 * p + 2 + 1) = 102 ∧ kindC (18 + 9 * p + 2 + 2) = 102 ∧ kindC (18 + 9 * p + 2 + 3) = 104 ∧ kindC (18 + 9 * p + 2 + 4) = 104 ∧ kindC (18 + 9 * p + 2 + 5) = 108 := by decide +kernel
theorem WY.num {W : Mem} {k : Nat} {w : Nat → Nat} {t : Nat} {μ : Mem} (h : WY W k w t μ) {j : Nat} (hj : j < cntOf k) : μ.1 (numC t) j = nI (w j) := by
  obtain ⟨h1, p, hp, ht, hw, hk⟩ := h
  rw [ht, numC_t p hp k (by omega) hk.1]
  exact hw j hj
theorem WY.k12 {W : Mem} {k : Nat} {w : Nat → Nat} {t : Nat} {μ : Mem} (h : WY W k w t μ) (hk : k = 1 ∨ k = 2) : kindC t = 102 ∧ μ.1 t 3 = (if k = 1 then 0 else 1) ∧ μ.1 t 4 = nI (cntOf k) := by
  obtain ⟨h1, p, hp, ht, hw, _⟩ := h
  have o := h1.2.2.2.1 p hp
  have e := kind_12 p hp
  subst ht
  rcases hk with rfl | rfl
  · exact ⟨e.1, o.2.2.2.2.2.1, o.2.2.2.2.2.2.1⟩
  · exact ⟨e.2.1, o.2.2.2.2.2.2.2.1, o.2.2.2.2.2.2.2.2.1⟩
theorem WY.k34 {W : Mem} {k : Nat} {w : Nat → Nat} {t : Nat} {μ : Mem} (h : WY W k w t μ) (hk : k = 3 ∨ k = 4) : kindC t = 104 ∧ μ.1 t 3 = (if k = 3 then 0 else 1) := by
  obtain ⟨h1, p, hp, ht, hw, _⟩ := h
  have o := h1.2.2.2.1 p hp
  have e := kind_12 p hp
  subst ht
  rcases hk with rfl | rfl
  · exact ⟨e.2.2.1, o.2.2.2.2.2.2.2.2.2.1⟩
  · exact ⟨e.2.2.2.1, o.2.2.2.2.2.2.2.2.2.2⟩
theorem WY.k5 {W : Mem} {k : Nat} {w : Nat → Nat} {t : Nat} {μ : Mem} (h : WY W k w t μ) (hk : k = 5) : kindC t = 108 := by
  obtain ⟨h1, p, hp, ht, hw, _⟩ := h
  subst ht; subst hk
  exact (kind_12 p hp).2.2.2.2
theorem vd_1 {α : Type} {y : Nat} (h : kindC y = 102) (a b c : Option α) : vdis y a b c = a := by unfold vdis; rw [if_pos h]
theorem vd_2 {α : Type} {y : Nat} (h : kindC y = 104) (a b c : Option α) : vdis y a b c = b := by unfold vdis; rw [if_neg (by omega), if_pos h]
theorem vd_3 {α : Type} {y : Nat} (h : kindC y = 108) (a b c : Option α) : vdis y a b c = c := by unfold vdis; rw [if_neg (by omega), if_neg (by omega), if_pos h]
/-- members of a group as bits, and how many -/
def gf (W : Mem) (k g : Nat) : Nat → Bool := if k = 1 then fun _ => true else fun x => decide (ly W x = g)
def gs (W : Mem) (k g : Nat) : Nat := cnt (gf W k g) (nm W)
theorem gs_1 (W : Mem) (g : Nat) : gs W 1 g = nm W := by unfold gs gf; rw [if_pos rfl]; exact cnt_all (fun _ _ => rfl)
theorem gs_2 (W : Mem) (g : Nat) : gs W 2 g = nL W g := by unfold gs gf nL; rw [if_neg (by omega)]
theorem gs_le {W : Mem} (hw : WF W) (k g : Nat) : gs W k g ≤ 30 := Nat.le_trans (cnt_le _ _) (rw_N hw)
theorem mb_eq (F : Nat) {W : Mem} {k : Nat} {w : Nat → Nat} {t : Nat} {μ : Mem} (h : WY W k w t μ) (hk : k = 1 ∨ k = 2) {g : Nat} (hg : g < cntOf k) : f_X2_membersOf F μ t (nI g) = some (nI (msk (gf W k g) (nm W)), μ) := by
  obtain ⟨k1, k2, k3⟩ := h.k12 hk
  unfold f_X2_membersOf gf
  rcases hk with rfl | rfl
  · simp only [xbn, k2, if_true, cw_e h.1, msk_all]
  · have : g < 4 := hg
    simp (disch := omega) only [xbn, k2, show ¬ (2 : Nat) = 1 by decide, if_false, show ¬ (1 : Int32) = 0 by decide, ck_in, nI_clamp, cw_lb h.1]
theorem gz_eq (F : Nat) {W : Mem} {k : Nat} {w : Nat → Nat} {t : Nat} {μ : Mem} (h : WY W k w t μ) (hk : k = 1 ∨ k = 2) {g : Nat} (hg : g < cntOf k) : f_X2_sizeOf F μ t (nI g) = some (nI (gs W k g), μ) := by
  unfold f_X2_sizeOf
  rw [mb_eq F h hk hg]
  simp only [xca]
  rw [bc_msk F _ (rw_N h.1.1)]
  rfl
def sw (w : Nat → Nat) : Nat → Nat
  | 0 => 0
  | n + 1 => sw w n + w n
theorem cbG {F : Nat} (hF : 2000 ≤ F) {W : Mem} {k : Nat} {w : Nat → Nat} {t : Nat} {μ : Mem} (h : WY W k w t μ) (hk : k = 1 ∨ k = 2) (hb : ∀ j, j < cntOf k → w j ≤ 99) : f_X2_canBe F μ t = some (if (∀ g, g < cntOf k → w g ≤ gs W k g) ∧ 0 < sw w (cntOf k) then 1 else 0, μ) := by
  obtain ⟨k1, k2, k3⟩ := h.k12 hk
  have hc4 : cntOf k ≤ 4 := by rcases hk with rfl | rfl <;> decide
  unfold f_X2_canBe
  refine run_rel (N := cntOf k) (fun n i x1 => f_X2_canBe_b4 F n μ t x1 (nI i)) (fun i x1 => (∀ g, g < i → w g ≤ gs W k g) ∧ x1 = if 0 < sw w i then 1 else 0) (fun o => o = some (if (∀ g, g < cntOf k → w g ≤ gs W k g) ∧ 0 < sw w (cntOf k) then 1 else 0, μ)) (fun n i x1 hi hI => ?_) (fun n x1 hI => ?_) F 0 0 (Nat.zero_le _) (by omega) ⟨fun g hg => absurd hg (Nat.not_lt_zero _), rfl⟩
  · have hg := gs_le h.1.1 k i
    have hwi := hb i hi
    by_cases c : w i ≤ gs W k i
    · refine Or.inl ⟨if 0 < sw w (i + 1) then 1 else 0, ⟨fun g hg2 => ?_, rfl⟩, fun y hy => ?_⟩
      · by_cases e : g = i
        · subst e; exact c
        · exact hI.1 g (by omega)
      · unfold f_X2_canBe_b4 f_X2_canBe_b41 f_X2_canBe_b46
        simp (disch := omega) only [xbn, ite_not, br_le_t, br_le_f, br_lt_t, br_lt_f, br_eq_t, br_eq_f, br_le0_t, br_le0_f, br_lt1_t, br_lt1_f, br_1le_t, br_1le_f, br_eq0_t, br_eq0_f, br_eq1_t, br_eq1_f, br_0le, br_lt0, br_0lt_t, br_0lt_f, br_m1, iof, i_2, i_3, i_4, i_8, i_9, i_10, i_20, i_30, i_90, i_120, i_256, cl_0, cl_1, cl_2, cl_3, Int32.add_zero, nI_add, nI_1, pk_mul, nI_s1, sb_m1, ck_in, ck_0, ck_1, nI_clamp, xcp, xca, xbn, k3, h.num hi, gz_eq F h hk hi]
        rw [hI.2]
        by_cases q : 0 < sw w i
        · have q2 : 0 < sw w (i + 1) := by show 0 < sw w i + w i; omega
          rw [if_pos q2] at hy
          rw [if_pos q, if_neg (by decide)]
          exact hy
        · rw [if_neg q, if_pos rfl]
          by_cases q3 : w i = 0
          · have q2 : ¬ 0 < sw w (i + 1) := by show ¬ 0 < sw w i + w i; omega
            rw [if_neg q2] at hy
            simp (disch := omega) only [xbn, ite_not, br_le_t, br_le_f, br_lt_t, br_lt_f, br_eq_t, br_eq_f, br_le0_t, br_le0_f, br_lt1_t, br_lt1_f, br_1le_t, br_1le_f, br_eq0_t, br_eq0_f, br_eq1_t, br_eq1_f, br_0le, br_lt0, br_0lt_t, br_0lt_f, br_m1, iof, i_2, i_3, i_4, i_8, i_9, i_10, i_20, i_30, i_90, i_120, i_256, cl_0, cl_1, cl_2, cl_3, Int32.add_zero, nI_add, nI_1, pk_mul, nI_s1, sb_m1, ck_in, ck_0, ck_1, nI_clamp, xcp, xca, xbn]
            exact hy
          · have q2 : 0 < sw w (i + 1) := by show 0 < sw w i + w i; omega
            rw [if_pos q2] at hy
            simp (disch := omega) only [xbn, ite_not, br_le_t, br_le_f, br_lt_t, br_lt_f, br_eq_t, br_eq_f, br_le0_t, br_le0_f, br_lt1_t, br_lt1_f, br_1le_t, br_1le_f, br_eq0_t, br_eq0_f, br_eq1_t, br_eq1_f, br_0le, br_lt0, br_0lt_t, br_0lt_f, br_m1, iof, i_2, i_3, i_4, i_8, i_9, i_10, i_20, i_30, i_90, i_120, i_256, cl_0, cl_1, cl_2, cl_3, Int32.add_zero, nI_add, nI_1, pk_mul, nI_s1, sb_m1, ck_in, ck_0, ck_1, nI_clamp, xcp, xca, xbn]
            exact hy
    · refine Or.inr ?_
      unfold f_X2_canBe_b4
      simp (disch := omega) only [xbn, ite_not, br_le_t, br_le_f, br_lt_t, br_lt_f, br_eq_t, br_eq_f, br_le0_t, br_le0_f, br_lt1_t, br_lt1_f, br_1le_t, br_1le_f, br_eq0_t, br_eq0_f, br_eq1_t, br_eq1_f, br_0le, br_lt0, br_0lt_t, br_0lt_f, br_m1, iof, i_2, i_3, i_4, i_8, i_9, i_10, i_20, i_30, i_90, i_120, i_256, cl_0, cl_1, cl_2, cl_3, Int32.add_zero, nI_add, nI_1, pk_mul, nI_s1, sb_m1, ck_in, ck_0, ck_1, nI_clamp, xcp, xca, xbn, k3, h.num hi, gz_eq F h hk hi]
      rw [if_neg (fun q => c (q.1 i hi))]
  · unfold f_X2_canBe_b4
    simp (disch := omega) only [xbn, ite_not, br_le_t, br_le_f, br_lt_t, br_lt_f, br_eq_t, br_eq_f, br_le0_t, br_le0_f, br_lt1_t, br_lt1_f, br_1le_t, br_1le_f, br_eq0_t, br_eq0_f, br_eq1_t, br_eq1_f, br_0le, br_lt0, br_0lt_t, br_0lt_f, br_m1, iof, i_2, i_3, i_4, i_8, i_9, i_10, i_20, i_30, i_90, i_120, i_256, cl_0, cl_1, cl_2, cl_3, Int32.add_zero, nI_add, nI_1, pk_mul, nI_s1, sb_m1, ck_in, ck_0, ck_1, nI_clamp, xcp, xca, xbn, k3]
    rw [hI.2, zkp]
    by_cases q : 0 < sw w (cntOf k)
    · rw [if_pos q, if_pos ⟨hI.1, q⟩]
    · rw [if_neg q, if_neg (fun z => q z.2)]
theorem ls_eq (F : Nat) {W : Mem} {k : Nat} {w : Nat → Nat} {t : Nat} {μ : Mem} (h : WY W k w t μ) (hk : k = 3 ∨ k = 4) (hb : w 0 ≤ 99) : f_X4_lengthOfStep F μ t = some (nI (if w 0 < 1 then 0 else ssz W (nm W) / w 0), μ) := by
  have hj : 0 < cntOf k := by rcases hk with rfl | rfl <;> decide
  have sl := ssz_le W h.1.1 (nm W) (Nat.le_refl _)
  have hN := rw_N h.1.1
  unfold f_X4_lengthOfStep
  simp (disch := omega) only [xbn, ite_not, br_le_t, br_le_f, br_lt_t, br_lt_f, br_eq_t, br_eq_f, br_le0_t, br_le0_f, br_lt1_t, br_lt1_f, br_1le_t, br_1le_f, br_eq0_t, br_eq0_f, br_eq1_t, br_eq1_f, br_0le, br_lt0, br_0lt_t, br_0lt_f, br_m1, iof, i_2, i_3, i_4, i_8, i_9, i_10, i_20, i_30, i_90, i_120, i_256, cl_0, cl_1, cl_2, cl_3, Int32.add_zero, nI_add, nI_1, pk_mul, nI_s1, sb_m1, ck_in, ck_0, ck_1, nI_clamp, xcp, xca, xbn, h.num hj]
  by_cases q : w 0 = 0
  · simp (disch := omega) only [xbn, ite_not, br_le_t, br_le_f, br_lt_t, br_lt_f, br_eq_t, br_eq_f, br_le0_t, br_le0_f, br_lt1_t, br_lt1_f, br_1le_t, br_1le_f, br_eq0_t, br_eq0_f, br_eq1_t, br_eq1_f, br_0le, br_lt0, br_0lt_t, br_0lt_f, br_m1, iof, i_2, i_3, i_4, i_8, i_9, i_10, i_20, i_30, i_90, i_120, i_256, cl_0, cl_1, cl_2, cl_3, Int32.add_zero, nI_add, nI_1, pk_mul, nI_s1, sb_m1, ck_in, ck_0, ck_1, nI_clamp, xcp, xca, xbn, q, if_true, show (0 : Nat) < 1 by decide]
    rfl
  · simp (disch := omega) only [xbn, ite_not, br_le_t, br_le_f, br_lt_t, br_lt_f, br_eq_t, br_eq_f, br_le0_t, br_le0_f, br_lt1_t, br_lt1_f, br_1le_t, br_1le_f, br_eq0_t, br_eq0_f, br_eq1_t, br_eq1_f, br_0le, br_lt0, br_0lt_t, br_0lt_f, br_m1, iof, i_2, i_3, i_4, i_8, i_9, i_10, i_20, i_30, i_90, i_120, i_256, cl_0, cl_1, cl_2, cl_3, Int32.add_zero, nI_add, nI_1, pk_mul, nI_s1, sb_m1, ck_in, ck_0, ck_1, nI_clamp, xcp, xca, xbn, cw_ll h.1, dvi_n, pk_div]
    rw [if_neg (by omega)]
theorem pc_eq (F : Nat) {W : Mem} {k : Nat} {w : Nat → Nat} {t : Nat} {μ : Mem} (h : WY W k w t μ) (hk : k = 3 ∨ k = 4) (hb : w 0 ≤ 99) : f_X4_pointCount F μ t = some (nI (if k = 3 then w 0 else if w 0 < 1 then 0 else ssz W (nm W) / w 0), μ) := by
  have hj : 0 < cntOf k := by rcases hk with rfl | rfl <;> decide
  obtain ⟨k1, k2⟩ := h.k34 hk
  unfold f_X4_pointCount
  simp (disch := omega) only [xbn, ite_not, br_le_t, br_le_f, br_lt_t, br_lt_f, br_eq_t, br_eq_f, br_le0_t, br_le0_f, br_lt1_t, br_lt1_f, br_1le_t, br_1le_f, br_eq0_t, br_eq0_f, br_eq1_t, br_eq1_f, br_0le, br_lt0, br_0lt_t, br_0lt_f, br_m1, iof, i_2, i_3, i_4, i_8, i_9, i_10, i_20, i_30, i_90, i_120, i_256, cl_0, cl_1, cl_2, cl_3, Int32.add_zero, nI_add, nI_1, pk_mul, nI_s1, sb_m1, ck_in, ck_0, ck_1, nI_clamp, xcp, xca, xbn, h.num hj, k2, ls_eq F h hk hb]
  rcases hk with rfl | rfl
  · simp only [if_true]
  · simp only [show ¬ (4 : Nat) = 3 by decide, if_false, show ¬ (1 : Int32) = 0 by decide]
theorem wi_n {a b c : Nat} (ha : a < 2 ^ 31) (hb : b < 2 ^ 31) (hc : c < 2 ^ 31) : wi (nI a) (nI b) (nI c) = decide (b ≤ a ∧ a ≤ c) := by
  unfold wi
  apply decide_eq_decide.mpr
  rw [nI_leI hb ha, nI_leI ha hc]
theorem wi_1 {a c : Nat} (ha : a < 2 ^ 31) (hc : c < 2 ^ 31) : wi (nI a) 1 (nI c) = decide (1 ≤ a ∧ a ≤ c) := wi_n (b := 1) ha (by omega) hc
theorem cbC {F : Nat} (hF : 2000 ≤ F) {W : Mem} {k : Nat} {w : Nat → Nat} {t : Nat} {μ : Mem} (h : WY W k w t μ) (hb : ∀ j, j < cntOf k → w j ≤ 99) [Decidable (cbk W k w)] : vdis t (f_X2_canBe F μ t) (f_X4_canBe F μ t) (f_X8_canBe F μ t) = some (if cbk W k w then 1 else 0, μ) := by
  obtain ⟨_, p, hp, ht, hw, hk1, hk5⟩ := id h
  have hN := rw_N h.1.1
  have hK := nK_le W
  have fin : ∀ (b c : Prop) [Decidable b] [Decidable c], (b ↔ c) → (some ((if b then 1 else 0 : Int32), μ)) = some (if c then 1 else 0, μ) := fun b c _ _ hbc => by
    by_cases q : b
    · rw [if_pos q, if_pos (hbc.mp q)]
    · rw [if_neg q, if_neg (fun z => q (hbc.mpr z))]
  rcases (show k = 1 ∨ k = 2 ∨ k = 3 ∨ k = 4 ∨ k = 5 by omega) with rfl | rfl | rfl | rfl | rfl
  · rw [vd_1 (h.k12 (Or.inl rfl)).1, cbG hF h (Or.inl rfl) hb]
    apply fin
    rw [cbk1, show cntOf 1 = 1 from rfl]
    simp only [gs_1]
    show _ ∧ 0 < 0 + w 0 ↔ _
    constructor
    · intro q
      have := q.1 0 (by omega)
      omega
    · intro q
      refine ⟨fun g hg => ?_, by omega⟩
      have : g = 0 := by omega
      subst this; exact q.2
  · rw [vd_1 (h.k12 (Or.inr rfl)).1, cbG hF h (Or.inr rfl) hb]
    apply fin
    rw [cbk2, show cntOf 2 = 4 from rfl]
    simp only [gs_2]
    show _ ∧ 0 < 0 + w 0 + w 1 + w 2 + w 3 ↔ _
    rw [Nat.zero_add]
  · have b0 := hb 0 (by decide)
    rw [vd_2 (h.k34 (Or.inl rfl)).1]
    unfold f_X4_canBe
    simp (disch := omega) only [xbn, ite_not, br_le_t, br_le_f, br_lt_t, br_lt_f, br_eq_t, br_eq_f, br_le0_t, br_le0_f, br_lt1_t, br_lt1_f, br_1le_t, br_1le_f, br_eq0_t, br_eq0_f, br_eq1_t, br_eq1_f, br_0le, br_lt0, br_0lt_t, br_0lt_f, br_m1, iof, i_2, i_3, i_4, i_8, i_9, i_10, i_20, i_30, i_90, i_120, i_256, cl_0, cl_1, cl_2, cl_3, Int32.add_zero, nI_add, nI_1, pk_mul, nI_s1, sb_m1, ck_in, ck_0, ck_1, nI_clamp, xcp, xca, xbn, (h.k34 (Or.inl rfl)).2, if_true, h.num (show 0 < cntOf 3 by decide)]
    rw [wi_eq, wi_1 (by omega) (by omega)]
    simp only [xcp, zkp, decide_eq_true_eq]
    apply fin
    rw [cbk3]
  · have b0 := hb 0 (by decide)
    have sl := ssz_le W h.1.1 (nm W) (Nat.le_refl _)
    have dl := Nat.div_le_self (ssz W (nm W)) (w 0)
    rw [vd_2 (h.k34 (Or.inr rfl)).1]
    unfold f_X4_canBe
    simp (disch := omega) only [xbn, ite_not, br_le_t, br_le_f, br_lt_t, br_lt_f, br_eq_t, br_eq_f, br_le0_t, br_le0_f, br_lt1_t, br_lt1_f, br_1le_t, br_1le_f, br_eq0_t, br_eq0_f, br_eq1_t, br_eq1_f, br_0le, br_lt0, br_0lt_t, br_0lt_f, br_m1, iof, i_2, i_3, i_4, i_8, i_9, i_10, i_20, i_30, i_90, i_120, i_256, cl_0, cl_1, cl_2, cl_3, Int32.add_zero, nI_add, nI_1, pk_mul, nI_s1, sb_m1, ck_in, ck_0, ck_1, nI_clamp, xcp, xca, xbn, (h.k34 (Or.inr rfl)).2, show ¬ (4 : Nat) = 3 by decide, if_false, show ¬ (1 : Int32) = 0 by decide, pc_eq F h (Or.inr rfl) b0]
    by_cases q0 : w 0 = 0
    · have e : (if w 0 < 1 then 0 else ssz W (nm W) / w 0) = 0 := if_pos (by omega)
      rw [e, if_pos (by decide), if_neg]
      rw [cbk4]
      omega
    · have e : (if w 0 < 1 then 0 else ssz W (nm W) / w 0) = ssz W (nm W) / w 0 := if_neg (by omega)
      rw [e]
      by_cases q1 : ssz W (nm W) / w 0 = 0
      · rw [q1, if_pos (by decide), if_neg]
        rw [cbk4, q1]
        omega
      · rw [br_lt1_f (by omega) (by omega), if_pos]
        rw [cbk4]
        omega
  · have b0 := hb 0 (by decide)
    have b1 := hb 1 (by decide)
    rw [vd_3 (h.k5 rfl)]
    unfold f_X8_canBe
    simp (disch := omega) only [xbn, ite_not, br_le_t, br_le_f, br_lt_t, br_lt_f, br_eq_t, br_eq_f, br_le0_t, br_le0_f, br_lt1_t, br_lt1_f, br_1le_t, br_1le_f, br_eq0_t, br_eq0_f, br_eq1_t, br_eq1_f, br_0le, br_lt0, br_0lt_t, br_0lt_f, br_m1, iof, i_2, i_3, i_4, i_8, i_9, i_10, i_20, i_30, i_90, i_120, i_256, cl_0, cl_1, cl_2, cl_3, Int32.add_zero, nI_add, nI_1, pk_mul, nI_s1, sb_m1, ck_in, ck_0, ck_1, nI_clamp, xcp, xca, xbn, h.num (show 0 < cntOf 5 by decide), h.num (show 1 < cntOf 5 by decide), kl_eq h.1]
    rw [wi_eq, wi_1 (by omega) (by omega)]
    simp only [xcp, decide_eq_true_eq]
    by_cases q : 1 ≤ w 0 ∧ w 0 ≤ nK W
    · rw [if_pos q]
      by_cases q1 : w 1 = 0
      · rw [q1, if_neg (show ¬ (1 : Int32) = 0 by decide), if_pos (show nI 0 < 1 by decide), if_neg]
        rw [cbk5]
        omega
      · rw [if_neg (show ¬ (1 : Int32) = 0 by decide), br_lt1_f (by omega) (by omega), if_pos]
        rw [cbk5]
        omega
    · rw [if_neg q, if_pos (show (0 : Int32) = 0 from rfl), if_neg]
      rw [cbk5]
      omega
