/-! share of two names -/
def bwd (W : Mem) (k : Nat) (w : Nat → Nat) (a b u : Nat) : Bool := decide (DA W k w u &&& (2 ^ a ||| 2 ^ b) = 2 ^ a ||| 2 ^ b)
def bA (W : Mem) (k : Nat) (w : Nat → Nat) (a b : Nat) : Nat := if k = 1 then w 0 * (w 0 - 1) else if k = 2 then (if ly W a = ly W b then w (ly W a) * (w (ly W b) - 1) else w (ly W a) * w (ly W b)) else if k = 5 then (if cu W a = cu W b then w 0 * tC W w (cu W a) * (tC W w (cu W a) - 1) else w 0 * tC W w (cu W a) * ((w 0 - 1) * tC W w (cu W b))) else cnt (bwd W k w a b) (PT W k w)
def bB (W : Mem) (k : Nat) (w : Nat → Nat) (a b : Nat) : Nat := if k = 1 then nm W * (nm W - 1) else if k = 2 then (if ly W a = ly W b then nL W (ly W a) * (nL W (ly W b) - 1) else nL W (ly W a) * nL W (ly W b)) else if k = 5 then (if cu W a = cu W b then nK W * nC W (cu W a) * (nC W (cu W a) - 1) else nK W * nC W (cu W a) * ((nK W - 1) * nC W (cu W b))) else PT W k w
theorem cnt_2 {f : Nat → Bool} {n a b : Nat} (ha : a < n) (hb : b < n) (hab : a ≠ b) (fa : f a = true) (fb : f b = true) : 2 ≤ cnt f n := by
  have h1 := cnt_add1 (f := fun x => if x = a then false else f x) (g := f) ha fa (fun u hu => by simp [hu])
  have h2 := cnt_pos (f := fun x => if x = a then false else f x) (k := b) hb (by simp [show ¬ b = a from fun q => hab q.symm, fb])
  rw [if_neg (by simp)] at h1
  omega
theorem ov1 {W : Mem} (hw : WF W) {a b : Nat} (ha : a < nm W) (hb : b < nm W) (hab : ¬ cu W a = cu W b) : 2 ≤ nK W := by
  have c1 := (rw_c hw (SmR.rf W) ha).2
  have c2 := (rw_c hw (SmR.rf W) hb).2
  have p1 : hasC W (cu W a) (nm W) = true := by rw [hasC_cnt]; simp; exact cnt_pos ha (by simp)
  have p2 : hasC W (cu W b) (nm W) = true := by rw [hasC_cnt]; simp; exact cnt_pos hb (by simp)
  exact cnt_2 c1 c2 hab p1 p2
theorem mul4 {a b c d p q r s : Nat} (h1 : a ≤ p) (h2 : b ≤ q) (h3 : c ≤ r) (h4 : d ≤ s) : a * b * (c * d) ≤ p * q * (r * s) := Nat.mul_le_mul (Nat.mul_le_mul h1 h2) (Nat.mul_le_mul h3 h4)
theorem bAB {W : Mem} (hw : WF W) {k : Nat} {w : Nat → Nat} (h : OK W k w) {a b : Nat} (ha : a < nm W) (hb : b < nm W) (hab : a ≠ b) : bA W k w a b < 2 ^ 60 ∧ 0 < bB W k w a b ∧ bB W k w a b < 2 ^ 60 := by
  obtain ⟨h1, h2, h3, h4⟩ := id h
  have hN := rw_N hw
  unfold bA bB
  rcases (show k = 1 ∨ k = 2 ∨ k = 3 ∨ k = 4 ∨ k = 5 by omega) with rfl | rfl | rfl | rfl | rfl
  · have := h4 0 (by decide)
    rw [if_pos rfl, if_pos rfl]
    have m1 : w 0 * (w 0 - 1) ≤ 99 * 99 := Nat.mul_le_mul this (by omega)
    have m2 : nm W * (nm W - 1) ≤ 30 * 30 := Nat.mul_le_mul hN (by omega)
    have m3 : 0 < nm W * (nm W - 1) := Nat.mul_pos (by omega) (by omega)
    omega
  · have la := rw_l hw (SmR.rf W) ha
    have lb := rw_l hw (SmR.rf W) hb
    have b1 := h4 (ly W a) la.2
    have b2 := h4 (ly W b) lb.2
    have l1 := nL_le W hw (ly W a)
    have l2 := nL_le W hw (ly W b)
    have p1 : 0 < nL W (ly W a) := cnt_pos ha (by simp)
    have p2 : 0 < nL W (ly W b) := cnt_pos hb (by simp)
    simp only [show ¬ (2 : Nat) = 1 by decide, if_false, if_true]
    by_cases e : ly W a = ly W b
    · have p3 : 2 ≤ nL W (ly W b) := cnt_2 ha hb hab (by simp [e]) (by simp)
      rw [if_pos e, if_pos e]
      have m1 : w (ly W a) * (w (ly W b) - 1) ≤ 99 * 99 := Nat.mul_le_mul b1 (by omega)
      have m2 : nL W (ly W a) * (nL W (ly W b) - 1) ≤ 30 * 30 := Nat.mul_le_mul l1 (by omega)
      have m3 : 0 < nL W (ly W a) * (nL W (ly W b) - 1) := Nat.mul_pos p1 (by omega)
      omega
    · rw [if_neg e, if_neg e]
      have m1 : w (ly W a) * w (ly W b) ≤ 99 * 99 := Nat.mul_le_mul b1 b2
      have m2 : nL W (ly W a) * nL W (ly W b) ≤ 30 * 30 := Nat.mul_le_mul l1 l2
      have m3 : 0 < nL W (ly W a) * nL W (ly W b) := Nat.mul_pos p1 p2
      omega
  · have hp := h.pk (Or.inl rfl)
    have pb := PT_le hw hp
    have pc0 := hp.pos
    have pd := cnt_le (bwd W 3 w a b) (PT W 3 w)
    simp only [show ¬ (3 : Nat) = 1 by decide, show ¬ (3 : Nat) = 2 by decide, show ¬ (3 : Nat) = 5 by decide, if_false]
    omega
  · have hp := h.pk (Or.inr rfl)
    have pb := PT_le hw hp
    have pc0 := hp.pos
    have pd := cnt_le (bwd W 4 w a b) (PT W 4 w)
    simp only [show ¬ (4 : Nat) = 1 by decide, show ¬ (4 : Nat) = 2 by decide, show ¬ (4 : Nat) = 5 by decide, if_false]
    omega
  · rw [cbk5] at h1
    have b0 := h4 0 (by decide)
    have hK := nK_le W
    have l1 := nC_le W hw (cu W a)
    have l2 := nC_le W hw (cu W b)
    have t1 := tC_le W w (cu W a)
    have t2 := tC_le W w (cu W b)
    have p1 : 0 < nC W (cu W a) := cnt_pos ha (by simp)
    have p2 : 0 < nC W (cu W b) := cnt_pos hb (by simp)
    simp only [show ¬ (5 : Nat) = 1 by decide, show ¬ (5 : Nat) = 2 by decide, if_false, if_true]
    by_cases e : cu W a = cu W b
    · have p3 : 2 ≤ nC W (cu W a) := cnt_2 ha hb hab (by simp) (by simp [e])
      rw [if_pos e, if_pos e]
      have m1 : w 0 * tC W w (cu W a) * (tC W w (cu W a) - 1) ≤ 99 * 30 * 30 := Nat.mul_le_mul (Nat.mul_le_mul b0 (by omega)) (by omega)
      have m2 : nK W * nC W (cu W a) * (nC W (cu W a) - 1) ≤ 8 * 30 * 30 := Nat.mul_le_mul (Nat.mul_le_mul hK l1) (by omega)
      have m3 : 0 < nK W * nC W (cu W a) * (nC W (cu W a) - 1) := Nat.mul_pos (Nat.mul_pos (by omega) p1) (by omega)
      omega
    · have p3 := ov1 hw ha hb e
      rw [if_neg e, if_neg e]
      have m1 := mul4 b0 (Nat.le_trans t1 l1) (show w 0 - 1 ≤ 99 by omega) (Nat.le_trans t2 l2)
      have m2 := mul4 hK l1 (show nK W - 1 ≤ 8 by omega) l2
      have m3 : 0 < nK W * nC W (cu W a) * ((nK W - 1) * nC W (cu W b)) := Nat.mul_pos (Nat.mul_pos (by omega) p1) (Nat.mul_pos (by omega) p2)
      omega
theorem ww_C {F : Nat} (hF : 2000 ≤ F) {W : Mem} {k : Nat} {w : Nat → Nat} {t : Nat} {μ : Mem} (h : WY W k w t μ) (hk : PK W k w) (a b c : Nat) (hd : 2 ^ a ||| 2 ^ b < 2 ^ 31) : f_X4_shareOfTwo_b21 F F μ t c (nI (PT W k w)) (nI (2 ^ a ||| 2 ^ b)) 0 0 = (cal (f_X1_become F μ c ((nI (cnt (bwd W k w a b) (PT W k w))).toInt64) ((nI (PT W k w)).toInt64)) fun _ μ1 => some ((), μ1)) := by
  have hP := PT_le h.1.1 hk
  have hN := rw_N h.1.1
  refine run_up (N := PT W k w) (fun n i => f_X4_shareOfTwo_b21 F n μ t c (nI (PT W k w)) (nI (2 ^ a ||| 2 ^ b)) (nI (cnt (bwd W k w a b) i)) (nI i)) (fun n i hi y hy => ?_) (fun n => ?_) F 0 (Nat.zero_le _) (by omega)
  · have hdl := Nat.lt_of_lt_of_le (DA_lt (W := W) k w i) (pow_le30 hN)
    have al : DA W k w i &&& (2 ^ a ||| 2 ^ b) ≤ DA W k w i := Nat.and_le_left
    unfold f_X4_shareOfTwo_b21 f_X4_shareOfTwo_b45
    simp (disch := omega) only [br_le_f, da_eq hF h hk hi, xca, nI_and, ite_not, nI_1]
    rw [cnt_s] at hy
    by_cases q : DA W k w i &&& (2 ^ a ||| 2 ^ b) = 2 ^ a ||| 2 ^ b
    · rw [br_eq_t q]
      rw [if_pos (by unfold bwd; simp [q])] at hy
      exact hy
    · rw [br_eq_f q (by omega) hd]
      rw [if_neg (by unfold bwd; simp [q])] at hy
      exact hy
  · unfold f_X4_shareOfTwo_b21
    simp (disch := omega) only [br_le_t]
theorem ww_R {F : Nat} (hF : 2000 ≤ F) {W : Mem} (hw : WF W) {k : Nat} {w : Nat → Nat} {ρ : Mem} (h : RY W k w ρ) (hk : PK W k w) (a b : Nat) (hd : 2 ^ a ||| 2 ^ b < 2 ^ 31) : f_X12_waysWith F ρ (nI (2 ^ a ||| 2 ^ b)) = some (nI (cnt (bwd W k w a b) (PT W k w)), ρ) := by
  have hP := PT_le hw hk
  have hN := rw_N hw
  unfold f_X12_waysWith
  rw [pt_R hF hw h hk]
  simp only [xca, xbn, lN_i]
  refine run_up (N := PT W k w) (fun n i => f_X12_waysWith_b11 F n ρ (nI (2 ^ a ||| 2 ^ b)) (nI (cnt (bwd W k w a b) i)) (nI (PT W k w)) (nI i)) (fun n i hi y hy => ?_) (fun n => ?_) F 0 (Nat.zero_le _) (by omega)
  · have hdl := Nat.lt_of_lt_of_le (DA_lt (W := W) k w i) (pow_le30 hN)
    have al : DA W k w i &&& (2 ^ a ||| 2 ^ b) ≤ DA W k w i := Nat.and_le_left
    unfold f_X12_waysWith_b11 f_X12_waysWith_b35
    simp (disch := omega) only [br_le_f, do_eq hF hw h hk (u := i) (by omega), xca, xbn, nI_and, ite_not, nI_1]
    rw [cnt_s] at hy
    by_cases q : DA W k w i &&& (2 ^ a ||| 2 ^ b) = 2 ^ a ||| 2 ^ b
    · rw [br_eq_t q]
      rw [if_pos (by unfold bwd; simp [q])] at hy
      exact hy
    · rw [br_eq_f q (by omega) hd]
      rw [if_neg (by unfold bwd; simp [q])] at hy
      rw [Int32.add_zero]
      exact hy
  · unfold f_X12_waysWith_b11
    simp (disch := omega) only [br_le_t]
theorem or_lt31 {a b : Nat} (ha : a < 30) (hb : b < 30) : 2 ^ a ||| 2 ^ b < 2 ^ 31 := Nat.or_lt_two_pow (Nat.pow_lt_pow_right (by decide) (by omega)) (Nat.pow_lt_pow_right (by decide) (by omega))
theorem l1m {x : Nat} (hx : x ≤ 1000) (y : Int64) (h : x = 0 → y = 0) : y * (nI x - 1).toInt64 = y * lN (x - 1) := by
  by_cases q : x = 0
  · rw [h q, Int64.zero_mul, Int64.zero_mul]
  · rw [nI_s1 (by omega), nI_l (by omega)]
theorem sh2_C {F : Nat} (hF : 2000 ≤ F) {W : Mem} {k : Nat} {w : Nat → Nat} {t : Nat} {μ : Mem} (h : WY W k w t μ) (ho : OK W k w) {a b : Nat} (ha : a < nm W) (hb : b < nm W) (hab : a ≠ b) (c : Nat) : vdis t (f_X2_shareOfTwo F μ t (nI a) (nI b) c) (f_X4_shareOfTwo F μ t (nI a) (nI b) c) (f_X8_shareOfTwo F μ t (nI a) (nI b) c) = some ((), ul (ul μ c 0 (lN (ra (bA W k w a b) (bB W k w a b)))) c 1 (lN (rb (bA W k w a b) (bB W k w a b)))) := by
  obtain ⟨s1, s2, s3⟩ := bAB h.1.1 ho ha hb hab
  obtain ⟨h1, h2, h3, h4⟩ := id ho
  have hN := rw_N h.1.1
  have fin := bc_C hF μ c (x := bA W k w a b) (y := bB W k w a b) (by omega) s2 (by omega)
  rcases (show k = 1 ∨ k = 2 ∨ k = 3 ∨ k = 4 ∨ k = 5 by omega) with rfl | rfl | rfl | rfl | rfl
  · have b0 := h4 0 (by decide)
    rw [cbk1] at h1
    have gz := gz_eq F h (Or.inl rfl) (g := 0) (by decide)
    rw [gs_1] at gz
    have gz' : f_X2_sizeOf F μ t 0 = some (nI (nm W), μ) := gz
    have e1 : bA W 1 w a b = w 0 * (w 0 - 1) := rfl
    have e2 : bB W 1 w a b = nm W * (nm W - 1) := rfl
    rw [vd_1 (h.k12 (Or.inl rfl)).1]
    unfold f_X2_shareOfTwo f_X2_groupOf f_X2_shareOfTwo_b26
    have g3 : μ.1 t 3 = 0 := (h.k12 (Or.inl rfl)).2.1.trans (if_pos rfl)
    simp (disch := omega) only [g3, xbn, if_true, xca, not_true_eq_false, if_false, ck_0, cl_0, h.num (show 0 < cntOf 1 by decide), gz', nI_l, nI_s1, lN_mul]
    rw [e1, e2] at fin
    rw [fin, xca]
    rfl
  · have la := rw_l h.1.1 (SmR.rf W) ha
    have lb := rw_l h.1.1 (SmR.rf W) hb
    have b1 := h4 (ly W a) la.2
    have b2 := h4 (ly W b) lb.2
    have l1 := nL_le W h.1.1 (ly W a)
    have l2 := nL_le W h.1.1 (ly W b)
    have g1 := gz_eq F h (Or.inr rfl) (g := ly W a) la.2
    have g2 := gz_eq F h (Or.inr rfl) (g := ly W b) lb.2
    rw [gs_2] at g1 g2
    have n1 := h.num (j := ly W a) la.2
    have n2 := h.num (j := ly W b) lb.2
    rw [vd_1 (h.k12 (Or.inr rfl)).1]
    unfold f_X2_shareOfTwo f_X2_groupOf f_X2_shareOfTwo_b26
    have g3 : μ.1 t 3 = 1 := (h.k12 (Or.inr rfl)).2.1.trans (if_neg (by decide))
    simp (disch := omega) only [g3, xbn, show ¬ (1 : Int32) = 0 by decide, if_false, xca, ck_in, nI_clamp, cw_l h.1 ha, cw_l h.1 hb, n1, n2, g1, g2, ite_not]
    by_cases e : ly W a = ly W b
    · have e1 : bA W 2 w a b = w (ly W a) * (w (ly W b) - 1) := by unfold bA; rw [if_neg (by decide), if_pos rfl, if_pos e]
      have e2 : bB W 2 w a b = nL W (ly W a) * (nL W (ly W b) - 1) := by unfold bB; rw [if_neg (by decide), if_pos rfl, if_pos e]
      have p3 : 2 ≤ nL W (ly W b) := cnt_2 ha hb hab (by simp [e]) (by simp)
      rw [br_eq_t e, l1m (by omega) _ (fun q => by rw [e, q]; rfl), l1m (by omega) _ (fun q => by omega), nI_l (by omega), nI_l (by omega), lN_mul, lN_mul]
      rw [e1, e2] at fin
      rw [fin, xca, e1, e2]
    · have e1 : bA W 2 w a b = w (ly W a) * w (ly W b) := by unfold bA; rw [if_neg (by decide), if_pos rfl, if_neg e]
      have e2 : bB W 2 w a b = nL W (ly W a) * nL W (ly W b) := by unfold bB; rw [if_neg (by decide), if_pos rfl, if_neg e]
      rw [br_eq_f e (by omega) (by omega), Int32.sub_zero, Int32.sub_zero, nI_l (by omega), nI_l (by omega), nI_l (by omega), nI_l (by omega), lN_mul, lN_mul]
      rw [e1, e2] at fin
      rw [fin, xca, e1, e2]
  · have hp := ho.pk (Or.inl rfl)
    have pb := PT_le h.1.1 hp
    have pd := cnt_le (bwd W 3 w a b) (PT W 3 w)
    have dl := or_lt31 (a := a) (b := b) (by omega) (by omega)
    rw [vd_2 (h.k34 (Or.inl rfl)).1]
    unfold f_X4_shareOfTwo
    simp (disch := omega) only [pt_C F h hp, xca, xbn, one_shl, nI_or]
    rw [ww_C hF h hp a b c dl, nI_l (by omega), nI_l (by omega)]
    exact (congrArg (fun o => cal o fun _ μ1 => some ((), μ1)) fin)
  · have hp := ho.pk (Or.inr rfl)
    have pb := PT_le h.1.1 hp
    have pd := cnt_le (bwd W 4 w a b) (PT W 4 w)
    have dl := or_lt31 (a := a) (b := b) (by omega) (by omega)
    rw [vd_2 (h.k34 (Or.inr rfl)).1]
    unfold f_X4_shareOfTwo
    simp (disch := omega) only [pt_C F h hp, xca, xbn, one_shl, nI_or]
    rw [ww_C hF h hp a b c dl, nI_l (by omega), nI_l (by omega)]
    exact (congrArg (fun o => cal o fun _ μ1 => some ((), μ1)) fin)
  · have b0 := h4 0 (by decide)
    have b1 := h4 1 (by decide)
    rw [cbk5] at h1
    have ca := rw_c h.1.1 (SmR.rf W) ha
    have cb := rw_c h.1.1 (SmR.rf W) hb
    have l1 := nC_le W h.1.1 (cu W a)
    have l2 := nC_le W h.1.1 (cu W b)
    have t1 := tC_le W w (cu W a)
    have t2 := tC_le W w (cu W b)
    have p1 : 0 < nC W (cu W a) := cnt_pos ha (by simp)
    have tp : 0 < tC W w (cu W a) := by unfold tC; rw [Nat.lt_min]; omega
    have hK := nK_le W
    rw [vd_3 (h.k5 rfl)]
    unfold f_X8_shareOfTwo
    simp (disch := omega) only [xbn, xca, ck_in, ck_0, cl_0, nI_clamp, cw_c h.1 ha, cw_c h.1 hb, h.num (show 0 < cntOf 5 by decide), to_eq F h b1 ca.2, to_eq F h b1 cb.2, kl_eq h.1, cs_eq F h.1 t ca.2, cs_eq F h.1 t cb.2, nI_l, nI_s1, lN_mul, ite_not]
    by_cases e : cu W a = cu W b
    · have e1 : bA W 5 w a b = w 0 * tC W w (cu W a) * (tC W w (cu W a) - 1) := by
        unfold bA
        simp only [show ¬ (5 : Nat) = 1 by decide, show ¬ (5 : Nat) = 2 by decide, if_false, if_true]
        rw [if_pos e]
      have e2 : bB W 5 w a b = nK W * nC W (cu W a) * (nC W (cu W a) - 1) := by
        unfold bB
        simp only [show ¬ (5 : Nat) = 1 by decide, show ¬ (5 : Nat) = 2 by decide, if_false, if_true]
        rw [if_pos e]
      rw [br_eq_t e]
      rw [e1, e2] at fin
      rw [fin, xca, e1, e2]
    · have e1 : bA W 5 w a b = w 0 * tC W w (cu W a) * ((w 0 - 1) * tC W w (cu W b)) := by
        unfold bA
        simp only [show ¬ (5 : Nat) = 1 by decide, show ¬ (5 : Nat) = 2 by decide, if_false, if_true]
        rw [if_neg e]
      have e2 : bB W 5 w a b = nK W * nC W (cu W a) * ((nK W - 1) * nC W (cu W b)) := by
        unfold bB
        simp only [show ¬ (5 : Nat) = 1 by decide, show ¬ (5 : Nat) = 2 by decide, if_false, if_true]
        rw [if_neg e]
      rw [br_eq_f e (by omega) (by omega)]
      rw [e1, e2] at fin
      rw [fin, xca, e1, e2]
theorem gr_R {F : Nat} {W : Mem} {k : Nat} {w : Nat → Nat} {ρ : Mem} (h : RY W k w ρ) : f_X12_goesRound F ρ = some (if k = 3 ∨ k = 4 then 1 else 0, ρ) := by
  obtain ⟨_, r2, _, _, k1, k5⟩ := h
  unfold f_X12_goesRound f_X12_goesRound_b18
  rw [r2]
  rcases (show k = 1 ∨ k = 2 ∨ k = 3 ∨ k = 4 ∨ k = 5 by omega) with rfl | rfl | rfl | rfl | rfl <;> rfl
theorem fb_eq {F : Nat} (hF : 2000 ≤ F) {W : Mem} (hw : WF W) {k : Nat} {w : Nat → Nat} {ρ : Mem} (h : RY W k w ρ) (ho : OK W k w) {a b : Nat} (ha : a < nm W) (hb : b < nm W) (hab : a ≠ b) : f_X12_findBoth F ρ (nI a) (nI b) = some ((), ul (ul ρ 0 24 (lN (ra (bA W k w a b) (bB W k w a b)))) 0 25 (lN (rb (bA W k w a b) (bB W k w a b)))) := by
  obtain ⟨s1, s2, s3⟩ := bAB hw ho ha hb hab
  obtain ⟨h1, h2, h3, h4⟩ := id ho
  obtain ⟨r1, r2, r3, r4, _⟩ := id h
  have hN := rw_N hw
  have e0 := rw_n hw r1
  have fin := bc_R hF ρ (x := bA W k w a b) (y := bB W k w a b) (by omega) s2 (by omega)
  unfold f_X12_findBoth
  rw [gr_R h]
  rcases (show k = 1 ∨ k = 2 ∨ k = 3 ∨ k = 4 ∨ k = 5 by omega) with rfl | rfl | rfl | rfl | rfl
  · have b0 := h4 0 (by decide)
    rw [cbk1] at h1
    have e1 : bA W 1 w a b = w 0 * (w 0 - 1) := rfl
    have e2 : bB W 1 w a b = nm W * (nm W - 1) := rfl
    simp only [xca, xbn, r2, kc, if_true, show ¬ ((1 : Nat) = 3 ∨ (1 : Nat) = 4) by decide, if_false, not_true_eq_false, ck_0 (show 0 < 4 by decide), cl_0, r3 0 (by decide), e0]
    rw [nI_s1 (by omega), nI_s1 (by omega), nI_l (by omega), nI_l (by omega), nI_l (by omega), nI_l (by omega), lN_mul, lN_mul]
    rw [e1, e2] at fin
    rw [fin, xca]
    rfl
  · have la := rw_l hw r1 ha
    have lb := rw_l hw r1 hb
    have b1 := h4 (ly W a) la.2
    have b2 := h4 (ly W b) lb.2
    have l1 := nL_le W hw (ly W a)
    have l2 := nL_le W hw (ly W b)
    have n1 := r3 (ly W a) la.2
    have n2 := r3 (ly W b) lb.2
    simp (disch := omega) only [xca, xbn, r2, kc, show ¬ (2 : Nat) = 1 by decide, if_true, show ¬ ((2 : Nat) = 3 ∨ (2 : Nat) = 4) by decide, if_false, show ¬ (108 : Int32) = 97 by decide, not_false_eq_true, not_true_eq_false, ck_in, nI_clamp, la.1, lb.1, mo_l hF hw r1, ite_not]
    unfold f_X12_findBoth_b130 f_X12_findBoth_b166 f_X12_findBoth_b183
    simp (disch := omega) only [xca, xbn, ck_in, nI_clamp, la.1, lb.1, n1, n2, if_true, if_false, show ¬ (1 : Int32) = 0 by decide]
    by_cases e : ly W a = ly W b
    · have e1 : bA W 2 w a b = w (ly W a) * (w (ly W b) - 1) := by unfold bA; rw [if_neg (by decide), if_pos rfl, if_pos e]
      have e2 : bB W 2 w a b = nL W (ly W a) * (nL W (ly W b) - 1) := by unfold bB; rw [if_neg (by decide), if_pos rfl, if_pos e]
      have p3 : 2 ≤ nL W (ly W b) := cnt_2 ha hb hab (by simp [e]) (by simp)
      rw [br_eq_t e, l1m (by omega) _ (fun q => by rw [e, q]; rfl), l1m (by omega) _ (fun q => by omega), nI_l (by omega), nI_l (by omega), lN_mul, lN_mul]
      rw [e1, e2] at fin
      rw [fin, xca, e1, e2]
    · have e1 : bA W 2 w a b = w (ly W a) * w (ly W b) := by unfold bA; rw [if_neg (by decide), if_pos rfl, if_neg e]
      have e2 : bB W 2 w a b = nL W (ly W a) * nL W (ly W b) := by unfold bB; rw [if_neg (by decide), if_pos rfl, if_neg e]
      rw [br_eq_f e (by omega) (by omega), Int32.sub_zero, Int32.sub_zero, nI_l (by omega), nI_l (by omega), nI_l (by omega), nI_l (by omega), lN_mul, lN_mul]
      rw [e1, e2] at fin
      rw [fin, xca, e1, e2]
  · have hp := ho.pk (Or.inl rfl)
    have pb := PT_le hw hp
    have pd := cnt_le (bwd W 3 w a b) (PT W 3 w)
    have dl := or_lt31 (a := a) (b := b) (by omega) (by omega)
    simp (disch := omega) only [xca, show ((3 : Nat) = 3 ∨ (3 : Nat) = 4) by decide, if_true, show ¬ (1 : Int32) = 0 by decide, if_false, one_shl, nI_or, ww_R hF hw h hp a b dl, pt_R hF hw h hp, nI_l]
    exact (congrArg (fun o => cal o fun _ μ1 => some ((), μ1)) fin)
  · have hp := ho.pk (Or.inr rfl)
    have pb := PT_le hw hp
    have pd := cnt_le (bwd W 4 w a b) (PT W 4 w)
    have dl := or_lt31 (a := a) (b := b) (by omega) (by omega)
    simp (disch := omega) only [xca, show ((4 : Nat) = 3 ∨ (4 : Nat) = 4) by decide, if_true, show ¬ (1 : Int32) = 0 by decide, if_false, one_shl, nI_or, ww_R hF hw h hp a b dl, pt_R hF hw h hp, nI_l]
    exact (congrArg (fun o => cal o fun _ μ1 => some ((), μ1)) fin)
  · have b0 := h4 0 (by decide)
    have b1 := h4 1 (by decide)
    rw [cbk5] at h1
    have ca := rw_c hw r1 ha
    have cb := rw_c hw r1 hb
    have l1 := nC_le W hw (cu W a)
    have l2 := nC_le W hw (cu W b)
    have t1 := tC_le W w (cu W a)
    have t2 := tC_le W w (cu W b)
    have p1 : 0 < nC W (cu W a) := cnt_pos ha (by simp)
    have tp : 0 < tC W w (cu W a) := by unfold tC; rw [Nat.lt_min]; omega
    have hK := nK_le W
    simp (disch := omega) only [xca, xbn, r2, kc, show ¬ (5 : Nat) = 1 by decide, show ¬ (5 : Nat) = 2 by decide, show ¬ (5 : Nat) = 3 by decide, show ¬ (5 : Nat) = 4 by decide, if_true, show ¬ ((5 : Nat) = 3 ∨ (5 : Nat) = 4) by decide, or_self, if_false, show ¬ (116 : Int32) = 97 by decide, show ¬ (116 : Int32) = 108 by decide, not_false_eq_true, not_true_eq_false, ck_in, nI_clamp, ca.1, cb.1, ite_not]
    unfold f_X12_findBoth_b218 f_X12_findBoth_b242 f_X12_findBoth_b271 f_X12_findBoth_b310 f_X12_findBoth_b331
    simp (disch := omega) only [xca, xbn, ck_0, cl_0, r3 0 (show 0 < cntOf 5 by decide), oc_eq hF hw h b1 ca.2, oc_eq hF hw h b1 cb.2, mo_c hF hw r1, cn_eq hF hw r1, if_true, if_false, show ¬ (1 : Int32) = 0 by decide, Int32.sub_zero]
    by_cases e : cu W a = cu W b
    · have p3 : 2 ≤ nC W (cu W a) := cnt_2 ha hb hab (by simp) (by simp [e])
      have e1 : bA W 5 w a b = tC W w (cu W a) * (tC W w (cu W a) - 1) * w 0 * 1 := by
        unfold bA
        simp only [show ¬ (5 : Nat) = 1 by decide, show ¬ (5 : Nat) = 2 by decide, if_false, if_true]
        rw [if_pos e, Nat.mul_one]
        ac_rfl
      have e2 : bB W 5 w a b = nC W (cu W a) * (nC W (cu W a) - 1) * nK W * 1 := by
        unfold bB
        simp only [show ¬ (5 : Nat) = 1 by decide, show ¬ (5 : Nat) = 2 by decide, if_false, if_true]
        rw [if_pos e, Nat.mul_one]
        ac_rfl
      rw [br_eq_t e, ← e, nI_s1 (by omega), nI_s1 (by omega), show (1 : Int32).toInt64 = lN 1 from rfl, nI_l (by omega), nI_l (by omega), nI_l (by omega), nI_l (by omega), nI_l (by omega), nI_l (by omega), lN_mul, lN_mul, lN_mul, lN_mul, lN_mul, lN_mul, ← e1, ← e2, fin, xca]
    · have p3 := ov1 hw ha hb e
      have e1 : bA W 5 w a b = tC W w (cu W a) * tC W w (cu W b) * w 0 * (w 0 - 1) := by
        unfold bA
        simp only [show ¬ (5 : Nat) = 1 by decide, show ¬ (5 : Nat) = 2 by decide, if_false, if_true]
        rw [if_neg e]
        ac_rfl
      have e2 : bB W 5 w a b = nC W (cu W a) * nC W (cu W b) * nK W * (nK W - 1) := by
        unfold bB
        simp only [show ¬ (5 : Nat) = 1 by decide, show ¬ (5 : Nat) = 2 by decide, if_false, if_true]
        rw [if_neg e]
        ac_rfl
      rw [br_eq_f e (by omega) (by omega), nI_s1 (by omega), nI_s1 (by omega), nI_l (by omega), nI_l (by omega), nI_l (by omega), nI_l (by omega), nI_l (by omega), nI_l (by omega), nI_l (by omega), nI_l (by omega), lN_mul, lN_mul, lN_mul, lN_mul, lN_mul, lN_mul, ← e1, ← e2, fin, xca]
theorem sim_both {F : Nat} (hF : 2000 ≤ F) (μ ρ : Mem) (a1 a2 a3 a4 : Int32) (h : Rel μ ρ) : ∃ (r : Int64) (μ2 ρ2 : Mem), f_X11_both F μ a1 a2 a3 a4 = some (r, μ2) ∧ f_X12_both F ρ a1 a2 a3 a4 = some (r, ρ2) ∧ Rel μ2 ρ2 := by
  unfold f_X11_both f_X12_both f_X11_both_b42 f_X12_both_b39
  rw [pl_C, pl_R, hn_eq h, in_nm h.1 (SmR.rf ρ), ab_C, in_eq F a4 0 1 (A := 0) (B := 1) rfl rfl]
  simp only [al_C, al_R]
  by_cases w1 : wi a1 0 3 = true
  · by_cases w2 : wi a2 0 (nI (nm ρ) - 1) = true
    · rw [w1, w2]
      simp only [xcp, xca, xbn, if_true, show ¬ (1 : Int32) = 0 by decide, if_false, hn_eq h, in_nm h.1 (SmR.rf ρ)]
      by_cases w3 : wi a3 0 (nI (nm ρ) - 1) = true
      · by_cases ne : a2 = a3
        · subst ne
          rw [w2]
          refine ⟨nol (-2), μ, ρ, ?_, ?_, h⟩
          · simp only [if_true, show ¬ (1 : Int32) = 0 by decide, if_false]
          · simp only [if_true, show ¬ (1 : Int32) = 0 by decide, if_false]
        · by_cases w4 : wi a4 0 1 = true
          · obtain ⟨p, hp, rfl⟩ := wi_pl w1
            obtain ⟨x, hx, rfl⟩ := wi_nm h.1 w2
            obtain ⟨y, hy, rfl⟩ := wi_nm h.1 w3
            have hN := rw_N h.1
            have hxy : x ≠ y := fun e => ne (by rw [e])
            rw [w3, w4]
            by_cases c : CB ρ p
            · obtain ⟨c1, c2, c3⟩ := q_C hF h hp c
              obtain ⟨ρ1, r1, r2⟩ := q_R hF h.1 (SmR.rf ρ) hp c
              have d1 := fb_eq hF h.1 r2.1 c3 hx hy hxy
              have e1 := sh2_C hF c2 c3 hx hy hxy 73
              refine ⟨if a4 = 0 then lN (ra (bA ρ (kp ρ p) (wq ρ p) x y) (bB ρ (kp ρ p) (wq ρ p) x y)) else lN (rb (bA ρ (kp ρ p) (wq ρ p) x y) (bB ρ (kp ρ p) (wq ρ p) x y)), _, _, ?_, ?_, q_end h (smc_2 μ 73 (lN (ra (bA ρ (kp ρ p) (wq ρ p) x y) (bB ρ (kp ρ p) (wq ρ p) x y))) (lN (rb (bA ρ (kp ρ p) (wq ρ p) x y) (bB ρ (kp ρ p) (wq ρ p) x y)))) (ρ := ρ) ((r2.1.1.tr (smr_l _ 0 24 (lN (ra (bA ρ (kp ρ p) (wq ρ p) x y) (bB ρ (kp ρ p) (wq ρ p) x y))))).tr (smr_l _ 0 25 (lN (rb (bA ρ (kp ρ p) (wq ρ p) x y) (bB ρ (kp ρ p) (wq ρ p) x y)))))⟩
              · simp (disch := omega) only [xcp, xca, xbn, ne, if_true, show ¬ (1 : Int32) = 0 by decide, if_false, not_false_eq_true, ck_in, nI_clamp, c1, onul, e1, td_eq F _ 73 w4, ul_s, ul_o]
              · simp (disch := omega) only [xcp, xca, xbn, ne, if_true, show ¬ (1 : Int32) = 0 by decide, if_false, not_false_eq_true, r1, d1, ul_s, ul_o]
                by_cases q : a4 = 0
                · simp only [q, not_true_eq_false, if_false, if_true]
                · simp only [q, not_false_eq_true, if_true, if_false]
            · obtain ⟨ρ2, r1, r2⟩ := (cr_eq hF h.1 (SmR.rf ρ) hp).2 c
              refine ⟨nol (-3), μ, ρ2, ?_, ?_, q_end h (SmC.rf μ) r2 (ρ := ρ)⟩
              · simp (disch := omega) only [xcp, xca, xbn, ne, if_true, show ¬ (1 : Int32) = 0 by decide, if_false, not_false_eq_true, ck_in, nI_clamp, pw_f hF h hp c, onul]
              · simp (disch := omega) only [xcp, xca, xbn, ne, if_true, show ¬ (1 : Int32) = 0 by decide, if_false, not_false_eq_true, r1, not_true_eq_false]
          · rw [Bool.not_eq_true] at w4
            rw [w3, w4]
            simp only [xcp, xca, xbn, ne, if_true, if_false, show ¬ (1 : Int32) = 0 by decide, not_true_eq_false, Bool.false_eq_true]
            exact ⟨_, μ, ρ, rfl, rfl, h⟩
      · rw [Bool.not_eq_true] at w3
        rw [w3]
        exact ⟨_, μ, ρ, rfl, rfl, h⟩
    · rw [Bool.not_eq_true] at w2
      rw [w1, w2]
      exact ⟨_, μ, ρ, rfl, rfl, h⟩
  · rw [Bool.not_eq_true] at w1
    rw [w1]
    exact ⟨_, μ, ρ, rfl, rfl, h⟩
