/-! which draws a plan can make -/
def mkG (W : Mem) (k : Nat) (w : Nat → Nat) (d : Nat) : Nat → Bool
  | 0 => true
  | g + 1 => mkG W k w d g && decide (pcn 32 (d &&& msk (gf W k g) (nm W)) = w g)
def hCl (W : Mem) (d c : Nat) : Nat := pcn 32 (d &&& msk (fun k => decide (cu W k = c)) (nm W))
def mkT (W : Mem) (w : Nat → Nat) (d : Nat) : Nat → Bool
  | 0 => true
  | c + 1 => mkT W w d c && (decide (hCl W d c = 0) || decide (hCl W d c = tC W w c))
def mkU (W : Mem) (k : Nat) (w : Nat → Nat) (d : Nat) : Nat → Bool
  | 0 => false
  | i + 1 => mkU W k w d i || decide (DA W k w i = d)
def MK (W : Mem) (k : Nat) (w : Nat → Nat) (d : Nat) : Bool := if k = 1 then mkG W 1 w d 1 else if k = 2 then mkG W 2 w d 4 else if k = 5 then (mkT W w d 8 && decide (cnt (fun c => decide (0 < hCl W d c)) 8 = w 0)) else mkU W k w d (PT W k w)
theorem mkG_no {W : Mem} {k : Nat} {w : Nat → Nat} {d i : Nat} (h : ¬ pcn 32 (d &&& msk (gf W k i) (nm W)) = w i) : ∀ G, i < G → mkG W k w d G = false
  | 0, hi => absurd hi (Nat.not_lt_zero _)
  | G + 1, hi => by
    rw [mkG]
    by_cases e : i = G
    · subst e; simp [h]
    · rw [mkG_no h G (by omega)]; rfl
theorem mkT_no {W : Mem} {w : Nat → Nat} {d i : Nat} (h : ¬ hCl W d i = 0) (h2 : ¬ hCl W d i = tC W w i) : ∀ G, i < G → mkT W w d G = false
  | 0, hi => absurd hi (Nat.not_lt_zero _)
  | G + 1, hi => by
    rw [mkT]
    by_cases e : i = G
    · subst e; simp [h, h2]
    · rw [mkT_no h h2 G (by omega)]; rfl
theorem mkU_yes {W : Mem} {k : Nat} {w : Nat → Nat} {d i : Nat} (h : DA W k w i = d) : ∀ G, i < G → mkU W k w d G = true
  | 0, hi => absurd hi (Nat.not_lt_zero _)
  | G + 1, hi => by
    rw [mkU]
    by_cases e : i = G
    · subst e; simp [h]
    · rw [mkU_yes h G (by omega)]; rfl
theorem mkU_mono {W : Mem} {k : Nat} {w : Nat → Nat} {d i : Nat} (h : mkU W k w d i = true) : ∀ m, mkU W k w d (i + m) = true
  | 0 => h
  | m + 1 => by rw [← Nat.add_assoc, mkU, mkU_mono h m]; rfl
theorem pcn_and {d m : Nat} (hd : d < 2 ^ 30) : pcn 32 (d &&& m) ≤ 30 := by
  have h : d &&& m < 2 ^ 30 := Nat.lt_of_le_of_lt Nat.and_le_left hd
  rw [pcn_far h (by omega)]
  exact pcn_le _ _
theorem mG_mk {F : Nat} (hF : 2000 ≤ F) {W : Mem} {k : Nat} {w : Nat → Nat} {t : Nat} {μ : Mem} (h : WY W k w t μ) (hk : k = 1 ∨ k = 2) (hb : ∀ j, j < cntOf k → w j ≤ 99) {d : Nat} (hd : d < 2 ^ 30) : f_X2_canMake F μ t (nI d) = some (if mkG W k w d (cntOf k) then 1 else 0, μ) := by
  have hc4 : cntOf k ≤ 4 := by rcases hk with rfl | rfl <;> decide
  have k3 := (h.k12 hk).2.2
  unfold f_X2_canMake
  refine run_rel (N := cntOf k) (fun n i (_ : Unit) => f_X2_canMake_b2 F n μ t (nI d) (nI i)) (fun i _ => mkG W k w d i = true) (fun o => o = some (if mkG W k w d (cntOf k) then 1 else 0, μ)) (fun n i _ hi hI => ?_) (fun n _ hI => ?_) F 0 () (Nat.zero_le _) (by omega) rfl
  · have l1 := pcn_and (m := msk (gf W k i) (nm W)) hd
    have l2 : d &&& msk (gf W k i) (nm W) ≤ d := Nat.and_le_left
    have l3 := hb i hi
    by_cases q : pcn 32 (d &&& msk (gf W k i) (nm W)) = w i
    · refine Or.inl ⟨(), by rw [mkG, hI]; simp [q], fun y hy => ?_⟩
      unfold f_X2_canMake_b2
      simp (disch := omega) only [xbn, k3, br_le_f, mb_eq F h hk hi, xca, nI_and, bc_eq, xcp, ck_in, nI_clamp, h.num hi, br_eq_t, nI_1]
      exact hy
    · refine Or.inr ?_
      unfold f_X2_canMake_b2
      simp (disch := omega) only [xbn, k3, br_le_f, mb_eq F h hk hi, xca, nI_and, bc_eq, xcp, ck_in, nI_clamp, h.num hi, br_eq_f]
      rw [mkG_no q _ hi]
      rfl
  · unfold f_X2_canMake_b2
    simp (disch := omega) only [xbn, k3, br_le_t]
    rw [hI]
    rfl
theorem mU_C {F : Nat} (hF : 2000 ≤ F) {W : Mem} {k : Nat} {w : Nat → Nat} {t : Nat} {μ : Mem} (h : WY W k w t μ) (hk : PK W k w) {d : Nat} (hd : d < 2 ^ 30) : f_X4_canMake F μ t (nI d) = some (if mkU W k w d (PT W k w) then 1 else 0, μ) := by
  have hP := PT_le h.1.1 hk
  have hN := rw_N h.1.1
  unfold f_X4_canMake
  rw [pt_C F h hk]
  simp only [xca]
  refine run_rel (N := PT W k w) (fun n i (_ : Unit) => f_X4_canMake_b7 F n μ t (nI d) (nI (PT W k w)) (nI i)) (fun i _ => mkU W k w d i = false) (fun o => o = some (if mkU W k w d (PT W k w) then 1 else 0, μ)) (fun n i _ hi hI => ?_) (fun n _ hI => ?_) F 0 () (Nat.zero_le _) (by omega) rfl
  · have hdl := Nat.lt_of_lt_of_le (DA_lt (W := W) k w i) (pow_le30 hN)
    by_cases q : DA W k w i = d
    · refine Or.inr ?_
      unfold f_X4_canMake_b7
      simp (disch := omega) only [br_le_f, da_eq hF h hk hi, xca, ite_not, br_eq_t]
      rw [mkU_yes q _ hi]
      rfl
    · refine Or.inl ⟨(), by rw [mkU, hI]; simp [q], fun y hy => ?_⟩
      unfold f_X4_canMake_b7
      simp (disch := omega) only [br_le_f, da_eq hF h hk hi, xca, ite_not, br_eq_f, nI_1]
      exact hy
  · unfold f_X4_canMake_b7
    simp (disch := omega) only [br_le_t]
    rw [hI]
    rfl
theorem mT_C {F : Nat} (hF : 2000 ≤ F) {W : Mem} {w : Nat → Nat} {t : Nat} {μ : Mem} (h : WY W 5 w t μ) (ho : OK W 5 w) {d : Nat} (hd : d < 2 ^ 30) : f_X8_canMake F μ t (nI d) = some (if (mkT W w d 8 && decide (cnt (fun c => decide (0 < hCl W d c)) 8 = w 0)) = true then 1 else 0, μ) := by
  have b0' := ho.2.2.2 0 (by decide)
  have b1' := ho.2.2.2 1 (by decide)
  unfold f_X8_canMake
  refine run_rel (N := 8) (fun n i (_ : Unit) => f_X8_canMake_b4 F n μ t (nI d) (nI (cnt (fun c => decide (0 < hCl W d c)) i)) (nI i)) (fun i _ => mkT W w d i = true) (fun o => o = some (if (mkT W w d 8 && decide (cnt (fun c => decide (0 < hCl W d c)) 8 = w 0)) = true then 1 else 0, μ)) (fun n i _ hi hI => ?_) (fun n _ hI => ?_) F 0 () (Nat.zero_le _) (by omega) rfl
  · have l1 := pcn_and (m := msk (fun k => decide (cu W k = i)) (nm W)) hd
    have l2 : d &&& msk (fun k => decide (cu W k = i)) (nm W) ≤ d := Nat.and_le_left
    have l3 := nC_le W h.1.1 i
    have l4 := tC_le W w i
    have eh : pcn 32 (d &&& msk (fun k => decide (cu W k = i)) (nm W)) = hCl W d i := rfl
    by_cases q0 : hCl W d i = 0
    · refine Or.inl ⟨(), by rw [mkT, hI]; simp [q0], fun y hy => ?_⟩
      unfold f_X8_canMake_b4 f_X8_canMake_b46
      simp (disch := omega) only [xbn, i_8, br_le_f, ck_in, nI_clamp, cw_cb h.1 hi, nI_and, bc_eq, xcp, eh, br_le0_t, nI_1]
      rw [cnt_s, if_neg (by simp [q0]), Nat.add_zero] at hy
      exact hy
    · by_cases q1 : hCl W d i = tC W w i
      · refine Or.inl ⟨(), by rw [mkT, hI]; simp [q1], fun y hy => ?_⟩
        unfold f_X8_canMake_b4 f_X8_canMake_b46
        simp (disch := omega) only [xbn, i_8, br_le_f, ck_in, nI_clamp, cw_cb h.1 hi, nI_and, bc_eq, xcp, eh, br_le0_f, to_eq F h b1' hi, xca, br_eq_t, nI_1]
        rw [cnt_s, if_pos (by simp; omega)] at hy
        exact hy
      · refine Or.inr ?_
        unfold f_X8_canMake_b4
        simp (disch := omega) only [xbn, i_8, br_le_f, ck_in, nI_clamp, cw_cb h.1 hi, nI_and, bc_eq, xcp, eh, br_le0_f, to_eq F h b1' hi, xca, br_eq_f]
        rw [mkT_no q0 q1 8 hi]
        rfl
  · have lc := cnt_le (fun c => decide (0 < hCl W d c)) 8
    unfold f_X8_canMake_b4
    simp (disch := omega) only [xbn, i_8, br_le_t, ck_0, cl_0, h.num (show 0 < cntOf 5 by decide), ite_not]
    by_cases q : cnt (fun c => decide (0 < hCl W d c)) 8 = w 0
    · rw [br_eq_t q, hI, if_pos (by simp [q])]
    · rw [br_eq_f q (by omega) (by omega), hI, if_neg (by simp [q])]
theorem mk_C {F : Nat} (hF : 2000 ≤ F) {W : Mem} {k : Nat} {w : Nat → Nat} {t : Nat} {μ : Mem} (h : WY W k w t μ) (ho : OK W k w) {d : Nat} (hd : d < 2 ^ 30) : vdis t (f_X2_canMake F μ t (nI d)) (f_X4_canMake F μ t (nI d)) (f_X8_canMake F μ t (nI d)) = some (if MK W k w d then 1 else 0, μ) := by
  obtain ⟨h1, h2, h3, h4⟩ := id ho
  rcases (show k = 1 ∨ k = 2 ∨ k = 3 ∨ k = 4 ∨ k = 5 by omega) with rfl | rfl | rfl | rfl | rfl
  · rw [vd_1 (h.k12 (Or.inl rfl)).1]; exact mG_mk hF h (Or.inl rfl) h4 hd
  · rw [vd_1 (h.k12 (Or.inr rfl)).1]; exact mG_mk hF h (Or.inr rfl) h4 hd
  · rw [vd_2 (h.k34 (Or.inl rfl)).1]; exact mU_C hF h (ho.pk (Or.inl rfl)) hd
  · rw [vd_2 (h.k34 (Or.inr rfl)).1]; exact mU_C hF h (ho.pk (Or.inr rfl)) hd
  · rw [vd_3 (h.k5 rfl)]; exact mT_C hF h ho hd
theorem mk_R {F : Nat} (hF : 2000 ≤ F) {W : Mem} (hw : WF W) {k : Nat} {w : Nat → Nat} {ρ : Mem} (h : RY W k w ρ) (ho : OK W k w) {d : Nat} (hd : d < 2 ^ nm W) : f_X12_makesIt F ρ (nI d) = some (if MK W k w d then 1 else 0, ρ) := by
  obtain ⟨h1, h2, h3, h4⟩ := id ho
  obtain ⟨r1, r2, r3, r4, _⟩ := id h
  have hN := rw_N hw
  have hd2 := Nat.lt_of_lt_of_le hd (pow_le30 hN)
  unfold f_X12_makesIt
  simp only [xbn, gr_R h, xca, r2]
  rcases (show k = 1 ∨ k = 2 ∨ k = 3 ∨ k = 4 ∨ k = 5 by omega) with rfl | rfl | rfl | rfl | rfl
  · have b0' := h4 0 (by decide)
    have l1 := pcn_le 32 d
    have e : d &&& msk (gf W 1 0) (nm W) = d := by
      show d &&& msk (fun _ => true) (nm W) = d
      rw [msk_all, Nat.and_two_pow_sub_one_eq_mod, Nat.mod_eq_of_lt hd]
    simp only [kc, if_true, not_true_eq_false, if_false, on_eq (F := F) (by omega) (show d < 2 ^ 31 by omega), xcp, ck_0 (show 0 < 4 by decide), cl_0, r3 0 (by decide), ite_not]
    unfold MK
    rw [if_pos rfl, mkG, mkG, e]
    by_cases q : pcn 32 d = w 0
    · rw [br_eq_t q, if_pos (by simp [q])]
    · rw [br_eq_f q (by omega) (by omega), if_neg (by simp [q])]
  · simp only [kc, show ¬ (2 : Nat) = 1 by decide, if_true, if_false, show ¬ (108 : Int32) = 97 by decide, not_false_eq_true, show ¬ ((2 : Nat) = 3 ∨ (2 : Nat) = 4) by decide]
    refine run_up (N := 4) (fun n i => f_X12_makesIt_b87 F n ρ (nI d) (if mkG W 2 w d i = true then 1 else 0) 0 (nI i)) (fun n i hi y hy => ?_) (fun n => ?_) F 0 (Nat.zero_le _) (by omega)
    · have eg : msk (gf W 2 i) (nm W) = msk (fun k => decide (ly W k = i)) (nm W) := by unfold gf; rw [if_neg (by decide)]
      have l1 := pcn_and (m := msk (fun k => decide (ly W k = i)) (nm W)) hd2
      have l2 : d &&& msk (fun k => decide (ly W k = i)) (nm W) ≤ d := Nat.and_le_left
      have l3 := h4 i hi
      unfold f_X12_makesIt_b87 f_X12_makesIt_b104 f_X12_makesIt_b123 f_X12_makesIt_b163 f_X12_makesIt_b164 f_X12_makesIt_b197
      simp (disch := omega) only [xbn, r2, kc, show ¬ (2 : Nat) = 1 by decide, if_true, if_false, not_true_eq_false, i_4, br_le_f, bo_l hF hw r1 (show i < 30 by omega), xca, nI_and, on_eq, xcp, b0, ck_in, nI_clamp, r3 i hi, ite_not, nI_1]
      rw [mkG, eg] at hy
      cases hm : mkG W 2 w d i with
      | false =>
        rw [hm] at hy
        simp only [if_true]
        exact hy
      | true =>
        rw [hm] at hy
        simp only [Bool.true_eq_false, if_false, Bool.true_and] at hy ⊢
        by_cases q : pcn 32 (d &&& msk (fun k => decide (ly W k = i)) (nm W)) = w i
        · rw [br_eq_t q]
          rw [if_pos (by simp [q])] at hy
          exact hy
        · rw [br_eq_f q (by omega) (by omega)]
          rw [if_neg (by simp [q])] at hy
          exact hy
    · unfold f_X12_makesIt_b87 f_X12_makesIt_b104 f_X12_makesIt_b226
      simp (disch := omega) only [xbn, r2, kc, show ¬ (2 : Nat) = 1 by decide, if_true, if_false, not_true_eq_false, i_4, br_le_t, b0]
      show _ = some (if mkG W 2 w d 4 = true then 1 else 0, ρ)
      cases hm : mkG W 2 w d 4 with
      | false => rfl
      | true => rfl
  · have hp := ho.pk (Or.inl rfl)
    have hP := PT_le hw hp
    simp only [kc, show ¬ (3 : Nat) = 1 by decide, show ¬ (3 : Nat) = 2 by decide, if_true, if_false, show ¬ (101 : Int32) = 97 by decide, not_false_eq_true, show ((3 : Nat) = 3 ∨ (3 : Nat) = 4) by decide, show ¬ (1 : Int32) = 0 by decide, pt_R hF hw h hp, xca, xbn, lN_i]
    refine run_rel (N := PT W 3 w) (fun n i (_ : Unit) => f_X12_makesIt_b46 F n ρ (nI d) (if mkU W 3 w d i = true then 1 else 0) (nI (PT W 3 w)) (nI i)) (fun i _ => True) (fun o => o = some (if MK W 3 w d then 1 else 0, ρ)) (fun n i _ hi hI => ?_) (fun n _ hI => ?_) F 0 () (Nat.zero_le _) (by omega) trivial
    · have hdl := Nat.lt_of_lt_of_le (DA_lt (W := W) 3 w i) (pow_le30 hN)
      cases hm : mkU W 3 w d i with
      | true =>
        refine Or.inr ?_
        have e : MK W 3 w d = true := by
          have := mkU_mono hm (PT W 3 w - i)
          rw [show i + (PT W 3 w - i) = PT W 3 w by omega] at this
          exact this
        unfold f_X12_makesIt_b46
        simp (disch := omega) only [br_le_f, if_true, show ¬ (1 : Int32) = 0 by decide, not_false_eq_true, e]
        rfl
      | false =>
        refine Or.inl ⟨(), trivial, fun y hy => ?_⟩
        unfold f_X12_makesIt_b46 f_X12_makesIt_b71
        simp (disch := omega) only [br_le_f, Bool.false_eq_true, if_false, if_true, not_true_eq_false, do_eq hF hw h hp (u := i) (by omega), xca, ite_not, nI_1]
        rw [mkU, hm] at hy
        by_cases q : DA W 3 w i = d
        · rw [br_eq_t q]
          rw [if_pos (by simp [q])] at hy
          exact hy
        · rw [br_eq_f q (by omega) (by omega)]
          rw [if_neg (by simp [q])] at hy
          exact hy
    · unfold f_X12_makesIt_b46
      simp (disch := omega) only [br_le_t, zk01]
      rfl
  · have hp := ho.pk (Or.inr rfl)
    have hP := PT_le hw hp
    simp only [kc, show ¬ (4 : Nat) = 1 by decide, show ¬ (4 : Nat) = 2 by decide, show ¬ (4 : Nat) = 3 by decide, if_true, if_false, show ¬ (122 : Int32) = 97 by decide, not_false_eq_true, show ((4 : Nat) = 3 ∨ (4 : Nat) = 4) by decide, or_true, show ¬ (1 : Int32) = 0 by decide, pt_R hF hw h hp, xca, xbn, lN_i]
    refine run_rel (N := PT W 4 w) (fun n i (_ : Unit) => f_X12_makesIt_b46 F n ρ (nI d) (if mkU W 4 w d i = true then 1 else 0) (nI (PT W 4 w)) (nI i)) (fun i _ => True) (fun o => o = some (if MK W 4 w d then 1 else 0, ρ)) (fun n i _ hi hI => ?_) (fun n _ hI => ?_) F 0 () (Nat.zero_le _) (by omega) trivial
    · have hdl := Nat.lt_of_lt_of_le (DA_lt (W := W) 4 w i) (pow_le30 hN)
      cases hm : mkU W 4 w d i with
      | true =>
        refine Or.inr ?_
        have e : MK W 4 w d = true := by
          have := mkU_mono hm (PT W 4 w - i)
          rw [show i + (PT W 4 w - i) = PT W 4 w by omega] at this
          exact this
        unfold f_X12_makesIt_b46
        simp (disch := omega) only [br_le_f, if_true, show ¬ (1 : Int32) = 0 by decide, not_false_eq_true, e]
        rfl
      | false =>
        refine Or.inl ⟨(), trivial, fun y hy => ?_⟩
        unfold f_X12_makesIt_b46 f_X12_makesIt_b71
        simp (disch := omega) only [br_le_f, Bool.false_eq_true, if_false, if_true, not_true_eq_false, do_eq hF hw h hp (u := i) (by omega), xca, ite_not, nI_1]
        rw [mkU, hm] at hy
        by_cases q : DA W 4 w i = d
        · rw [br_eq_t q]
          rw [if_pos (by simp [q])] at hy
          exact hy
        · rw [br_eq_f q (by omega) (by omega)]
          rw [if_neg (by simp [q])] at hy
          exact hy
    · unfold f_X12_makesIt_b46
      simp (disch := omega) only [br_le_t, zk01]
      rfl
  · have b0' := h4 0 (by decide)
    have b1' := h4 1 (by decide)
    simp only [kc, show ¬ (5 : Nat) = 1 by decide, show ¬ (5 : Nat) = 2 by decide, show ¬ (5 : Nat) = 3 by decide, show ¬ (5 : Nat) = 4 by decide, or_self, if_true, if_false, show ¬ (116 : Int32) = 97 by decide, not_false_eq_true]
    refine run_up (N := 8) (fun n i => f_X12_makesIt_b87 F n ρ (nI d) (if mkT W w d i = true then 1 else 0) (nI (cnt (fun c => decide (0 < hCl W d c)) i)) (nI i)) (fun n i hi y hy => ?_) (fun n => ?_) F 0 (Nat.zero_le _) (by omega)
    · have l1 := pcn_and (m := msk (fun k => decide (cu W k = i)) (nm W)) hd2
      have l2 : d &&& msk (fun k => decide (cu W k = i)) (nm W) ≤ d := Nat.and_le_left
      have l3 := nC_le W hw i
      have l4 := tC_le W w i
      have eh : pcn 32 (d &&& msk (fun k => decide (cu W k = i)) (nm W)) = hCl W d i := rfl
      unfold f_X12_makesIt_b87 f_X12_makesIt_b104 f_X12_makesIt_b123 f_X12_makesIt_b192 f_X12_makesIt_b193 f_X12_makesIt_b197
      simp (disch := omega) only [xbn, r2, kc, show ¬ (5 : Nat) = 1 by decide, show ¬ (5 : Nat) = 2 by decide, show ¬ (5 : Nat) = 3 by decide, show ¬ (5 : Nat) = 4 by decide, show ¬ (116 : Int32) = 108 by decide, if_true, if_false, not_false_eq_true, i_8, br_le_f, bo_c hF hw r1 (show i < 30 by omega), xca, nI_and, on_eq, xcp, eh, b0, ite_not, oc_eq hF hw h b1' hi, nI_1]
      rw [mkT, cnt_s] at hy
      by_cases q0 : hCl W d i = 0
      · rw [br_le0_t q0]
        rw [if_neg (show ¬ decide (0 < hCl W d i) = true by simp [q0]), Nat.add_zero, decide_eq_true q0, Bool.true_or, Bool.and_true] at hy
        exact hy
      · rw [br_le0_f (by omega) (by omega)]
        rw [if_pos (show decide (0 < hCl W d i) = true by simp; omega), decide_eq_false q0, Bool.false_or] at hy
        cases hm : mkT W w d i with
        | false =>
          rw [hm] at hy
          simp only [if_true]
          exact hy
        | true =>
          rw [hm] at hy
          simp only [Bool.true_eq_false, if_false, Bool.true_and] at hy ⊢
          by_cases q : hCl W d i = tC W w i
          · rw [br_eq_t q]
            rw [if_pos (by simp [q])] at hy
            exact hy
          · rw [br_eq_f q (by omega) (by omega)]
            rw [if_neg (by simp [q])] at hy
            exact hy
    · have lc := cnt_le (fun c => decide (0 < hCl W d c)) 8
      unfold f_X12_makesIt_b87 f_X12_makesIt_b104 f_X12_makesIt_b226
      simp (disch := omega) only [xbn, r2, kc, show ¬ (5 : Nat) = 1 by decide, show ¬ (5 : Nat) = 2 by decide, show ¬ (5 : Nat) = 3 by decide, show ¬ (5 : Nat) = 4 by decide, show ¬ (116 : Int32) = 108 by decide, if_true, if_false, not_false_eq_true, i_8, br_le_t, b0, ck_0, cl_0, r3 0 (show 0 < cntOf 5 by decide), ite_not]
      show _ = some (if (mkT W w d 8 && decide (cnt (fun c => decide (0 < hCl W d c)) 8 = w 0)) = true then 1 else 0, ρ)
      cases hm : mkT W w d 8 with
      | false => simp
      | true =>
        by_cases q : cnt (fun c => decide (0 < hCl W d c)) 8 = w 0
        · rw [br_eq_t q, if_pos (show (true && decide (cnt (fun c => decide (0 < hCl W d c)) 8 = w 0)) = true by simp [q])]
          rfl
        · rw [br_eq_f q (by omega) (by omega), if_neg (show ¬ (true && decide (cnt (fun c => decide (0 < hCl W d c)) 8 = w 0)) = true by simp [q])]
          rfl
theorem sim_makes {F : Nat} (hF : 2000 ≤ F) (μ ρ : Mem) (a1 a2 : Int32) (h : Rel μ ρ) : ∃ (r : Int32) (μ2 ρ2 : Mem), f_X11_makes F μ a1 a2 = some (r, μ2) ∧ f_X12_makes F ρ a1 a2 = some (r, ρ2) ∧ Rel μ2 ρ2 := by
  have hN := rw_N h.1
  unfold f_X11_makes f_X12_makes
  rw [pl_C, pl_R, ha_eq h, id_eq hF h.1 (SmR.rf ρ)]
  by_cases w1 : wi a1 0 3 = true
  · by_cases w2 : wi a2 0 (nI (2 ^ nm ρ - 1)) = true
    · obtain ⟨p, hp, rfl⟩ := wi_pl w1
      obtain ⟨d, hd, rfl⟩ := wi_draw hN w2
      have hd2 := Nat.lt_of_lt_of_le hd (pow_le30 hN)
      rw [w1, w2]
      by_cases c : CB ρ p
      · obtain ⟨c1, c2, c3⟩ := q_C hF h hp c
        obtain ⟨ρ1, r1, r2⟩ := q_R hF h.1 (SmR.rf ρ) hp c
        refine ⟨if MK ρ (kp ρ p) (wq ρ p) d then 1 else 0, μ, ρ1, ?_, ?_, q_end h (SmC.rf μ) (ρ := ρ) r2.1.1⟩
        · simp (disch := omega) only [xcp, xca, xbn, if_true, show ¬ (1 : Int32) = 0 by decide, if_false, not_false_eq_true, ck_in, nI_clamp, c1, onul, mk_C hF c2 c3 hd2]
          cases MK ρ (kp ρ p) (wq ρ p) d <;> rfl
        · simp only [xcp, xca, xbn, if_true, show ¬ (1 : Int32) = 0 by decide, if_false, not_false_eq_true, r1, mk_R hF h.1 r2.1 c3 hd]
          cases MK ρ (kp ρ p) (wq ρ p) d <;> rfl
      · obtain ⟨ρ2, r1, r2⟩ := (cr_eq hF h.1 (SmR.rf ρ) hp).2 c
        refine ⟨-3, μ, ρ2, ?_, ?_, q_end h (SmC.rf μ) (ρ := ρ) r2⟩
        · simp (disch := omega) only [xcp, xca, xbn, if_true, show ¬ (1 : Int32) = 0 by decide, if_false, not_false_eq_true, ck_in, nI_clamp, pw_f hF h hp c, onul]
        · simp (disch := omega) only [xcp, xca, xbn, if_true, show ¬ (1 : Int32) = 0 by decide, if_false, not_false_eq_true, r1]
    · rw [Bool.not_eq_true] at w2
      rw [w1, w2]
      exact ⟨-2, μ, ρ, rfl, rfl, h⟩
  · rw [Bool.not_eq_true] at w1
    rw [w1]
    exact ⟨-2, μ, ρ, rfl, rfl, h⟩
/-- a draw refused, or not: both sides alike -/
theorem rf_eq {F : Nat} (hF : 2000 ≤ F) {W μ ρ : Mem} (h : Rel μ W) (hs : SmR W ρ) (a1 a2 : Int32) : ∃ (r : Int32) (ρ2 : Mem), f_X11_refusalOfDraw F μ a1 a2 = some (r, μ) ∧ f_X12_without F ρ a1 a2 = some (r, ρ2) ∧ SmR W ρ2 ∧ (r = -2 ∨ r = -3 ∨ (r = 0 ∧ ∃ p d, p < 4 ∧ a1 = nI p ∧ d < 2 ^ nm W ∧ a2 = nI d ∧ CB W p ∧ R2 W (kp W p) (wq W p) ρ2)) := by
  have hN := rw_N h.1
  unfold f_X11_refusalOfDraw f_X12_without
  rw [pl_C, pl_R, ha_eq h, id_eq hF h.1 hs]
  by_cases w1 : wi a1 0 3 = true
  · by_cases w2 : wi a2 0 (nI (2 ^ nm W - 1)) = true
    · obtain ⟨p, hp, rfl⟩ := wi_pl w1
      obtain ⟨d, hd, rfl⟩ := wi_draw hN w2
      have hd2 := Nat.lt_of_lt_of_le hd (pow_le30 hN)
      rw [w1, w2]
      by_cases c : CB W p
      · obtain ⟨c1, c2, c3⟩ := q_C hF h hp c
        obtain ⟨ρ1, r1, r2⟩ := q_R hF h.1 hs hp c
        refine ⟨if MK W (kp W p) (wq W p) d then 0 else -2, ρ1, ?_, ?_, r2.1.1, ?_⟩
        · simp (disch := omega) only [xcp, xca, xbn, if_true, show ¬ (1 : Int32) = 0 by decide, if_false, not_false_eq_true, ck_in, nI_clamp, c1, onul, mk_C hF c2 c3 hd2]
          cases MK W (kp W p) (wq W p) d <;> rfl
        · simp only [xcp, xca, xbn, if_true, show ¬ (1 : Int32) = 0 by decide, if_false, not_false_eq_true, r1, mk_R hF h.1 r2.1 c3 hd]
          cases MK W (kp W p) (wq W p) d <;> rfl
        · cases MK W (kp W p) (wq W p) d with
          | false => exact Or.inl rfl
          | true => exact Or.inr (Or.inr ⟨rfl, p, d, hp, rfl, hd, rfl, c, r2⟩)
      · obtain ⟨ρ2, r1, r2⟩ := (cr_eq hF h.1 hs hp).2 c
        refine ⟨-3, ρ2, ?_, ?_, r2, Or.inr (Or.inl rfl)⟩
        · simp (disch := omega) only [xcp, xca, xbn, if_true, show ¬ (1 : Int32) = 0 by decide, if_false, not_false_eq_true, ck_in, nI_clamp, pw_f hF h hp c, onul]
        · simp (disch := omega) only [xcp, xca, xbn, if_true, show ¬ (1 : Int32) = 0 by decide, if_false, not_false_eq_true, r1, not_true_eq_false]
    · rw [Bool.not_eq_true] at w2
      rw [w1, w2]
      exact ⟨-2, ρ, rfl, rfl, hs, Or.inl rfl⟩
  · rw [Bool.not_eq_true] at w1
    rw [w1]
    exact ⟨-2, ρ, rfl, rfl, hs, Or.inl rfl⟩
