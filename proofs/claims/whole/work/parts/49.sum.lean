/-! sums by a draw, edges -/
def vn (W : Mem) (x : Nat) : Nat := (vl W x).toNatClampNeg
theorem vn_n {W : Mem} (hw : WF W) {x : Nat} (h : ¬ vl W x = -1) : vl W x = nI (vn W x) ∧ vn W x ≤ 10000 := by
  obtain ⟨v, hv, e⟩ := vl_nat hw h
  unfold vn
  rw [e, nI_clamp (by omega)]
  exact ⟨rfl, hv⟩
/-- the sum of the first i names of the draw -/
def SMf (W : Mem) (k : Nat) (w : Nat → Nat) (d : Nat) : Nat → Nat × Nat
  | 0 => (0, 1)
  | i + 1 => if (d.testBit i && decide (¬ vl W i = -1)) = true then (fa (SMf W k w d i).1 (SMf W k w d i).2 (vn W i * rb (sA W k w i) (sB W k w i)) (ra (sA W k w i) (sB W k w i)), fb (SMf W k w d i).1 (SMf W k w d i).2 (vn W i * rb (sA W k w i) (sB W k w i)) (ra (sA W k w i) (sB W k w i))) else SMf W k w d i
theorem SMf_FI {W : Mem} (hw : WF W) {k : Nat} {w : Nat → Nat} {d D M B : Nat} (hb : SB W k w d D M B) : ∀ i, i ≤ nm W → FI D (10000 * B * i) (SMf W k w d i).1 (SMf W k w d i).2
  | 0, _ => FI_0 D
  | i + 1, hi => by
    have ih := SMf_FI hw hb i (by omega)
    rw [SMf]
    cases q : (d.testBit i && decide (¬ vl W i = -1)) with
    | false =>
      rw [if_neg (by decide)]
      obtain ⟨h1, h2, h3, h4⟩ := ih
      exact ⟨h1, h2, Nat.le_trans h3 (Nat.mul_le_mul_right _ (Nat.mul_le_mul_left _ (Nat.le_succ i))), h4⟩
    | true =>
      rw [if_pos rfl]
      simp only [Bool.and_eq_true, decide_eq_true_eq] at q
      obtain ⟨_, _, _, _, hx⟩ := hb
      obtain ⟨x1, x2, x3, x4⟩ := hx i (by omega) q.1
      obtain ⟨v1, v2⟩ := vn_n hw q.2
      have hm : vn W i * rb (sA W k w i) (sB W k w i) ≤ 10000 * B := Nat.mul_le_mul v2 x4
      have := FI_add ih (ra_pos x1) x2 hm
      rw [show 10000 * B * (i + 1) = 10000 * B * i + 10000 * B by rw [Nat.mul_add, Nat.mul_one]]
      exact this
theorem SMf_b {W : Mem} (hw : WF W) {k : Nat} {w : Nat → Nat} {d D M B : Nat} (hb : SB W k w d D M B) {i : Nat} (hi : i ≤ nm W) : 0 < (SMf W k w d i).2 ∧ (SMf W k w d i).2 < 2 ^ 63 ∧ (SMf W k w d i).1 < 2 ^ 63 ∧ Nat.gcd (SMf W k w d i).1 (SMf W k w d i).2 = 1 := by
  have hN := rw_N hw
  have f := SMf_FI hw hb i hi
  obtain ⟨h1, h2, h3, h4, hx⟩ := hb
  have b := FI_b f h1 (n := 1) (M := M) (m := 0) (X := 0) (by decide) h3 (Nat.le_refl _)
  have D1 : D * 1 * 1 ≤ D * M * B := Nat.mul_le_mul (Nat.mul_le_mul_left _ h3) h4
  have e1 : 10000 * B * i * D = 10000 * i * (D * B) := by ac_rfl
  have e2 : D * B ≤ D * M * B := Nat.mul_le_mul_right _ (Nat.le_mul_of_pos_right _ h3)
  have e3 : 10000 * i * (D * B) ≤ 10000 * 30 * (D * M * B) := Nat.mul_le_mul (Nat.mul_le_mul_left _ (by omega)) e2
  obtain ⟨b1, b2, _, _⟩ := b
  rw [e1] at b1
  refine ⟨f.1, by omega, by omega, f.2.2.2⟩
/-- the numbers of one step fit -/
theorem st_b {W : Mem} (hw : WF W) {k : Nat} {w : Nat → Nat} {d D M B : Nat} (hb : SB W k w d D M B) {i : Nat} (hi : i < nm W) (hd : d.testBit i = true) (hv : ¬ vl W i = -1) :
    0 < ra (sA W k w i) (sB W k w i) ∧ vn W i * rb (sA W k w i) (sB W k w i) < 2 ^ 63 ∧ ra (sA W k w i) (sB W k w i) < 2 ^ 63 ∧ (SMf W k w d i).1 * ra (sA W k w i) (sB W k w i) + vn W i * rb (sA W k w i) (sB W k w i) * (SMf W k w d i).2 < 2 ^ 63 ∧ (SMf W k w d i).2 * ra (sA W k w i) (sB W k w i) < 2 ^ 63 := by
  have hN := rw_N hw
  have f := SMf_FI hw hb i (by omega)
  obtain ⟨h1, h2, h3, h4, hx⟩ := hb
  obtain ⟨x1, x2, x3, x4⟩ := hx i hi hd
  obtain ⟨v1, v2⟩ := vn_n hw hv
  have hm : vn W i * rb (sA W k w i) (sB W k w i) ≤ 10000 * B := Nat.mul_le_mul v2 x4
  obtain ⟨b1, b2, b3, b4⟩ := FI_b f h1 (ra_pos x1) x3 hm
  have D1 : 1 * 1 * B ≤ D * M * B := Nat.mul_le_mul (Nat.mul_le_mul h1 h3) (Nat.le_refl _)
  have D2 : 1 * M * 1 ≤ D * M * B := Nat.mul_le_mul (Nat.mul_le_mul h1 (Nat.le_refl _)) h4
  have D3 : M * D * 1 ≤ D * M * B := by rw [Nat.mul_comm M D]; exact Nat.mul_le_mul_left _ h4
  have e0 : (10000 * B * i * M + 10000 * B) * D = 10000 * i * (D * M * B) + 10000 * (D * B) := by
    rw [Nat.add_mul]
    have q1 : 10000 * B * i * M * D = 10000 * i * (D * M * B) := by ac_rfl
    have q2 : 10000 * B * D = 10000 * (D * B) := by ac_rfl
    rw [q1, q2]
  have e2 : D * B ≤ D * M * B := Nat.mul_le_mul_right _ (Nat.le_mul_of_pos_right _ h3)
  have e3 : 10000 * i * (D * M * B) ≤ 10000 * 29 * (D * M * B) := Nat.mul_le_mul_right _ (Nat.mul_le_mul_left _ (by omega))
  rw [e0] at b3
  refine ⟨ra_pos x1, by omega, by omega, by omega, by omega⟩
theorem au_eq {F : Nat} (hF : 2000 ≤ F) {W : Mem} {k : Nat} {w : Nat → Nat} {t : Nat} {μ : Mem} (h : WY W k w t μ) (ho : OK W k w) {d D M B : Nat} (hd : d < 2 ^ nm W) (hb : SB W k w d D M B) : ∃ μ2, f_X11_addUp F μ (some t) (nI d) = some ((), μ2) ∧ SmC μ μ2 ∧ μ2.2.1 73 0 = lN (SMf W k w d (nm W)).1 ∧ μ2.2.1 73 1 = lN (SMf W k w d (nm W)).2 := by
  have hw := h.1.1
  have hN := rw_N hw
  have hd2 := Nat.lt_of_lt_of_le hd (pow_le30 hN)
  have b0 : f_X1_become F μ 73 0 1 = some ((), ul (ul μ 73 0 (lN 0)) 73 1 (lN 1)) := bc_C hF μ 73 (x := 0) (y := 1) (by omega) (by omega) (by omega)
  have al : d &&& vbs W ≤ d := Nat.and_le_left
  unfold f_X11_addUp
  rw [b0]
  simp only [xca, onul, xbn, ul_1, cw_vb h.1]
  rw [show msk (fun k => decide (¬ vl W k = -1)) (nm W) = vbs W from rfl, nI_and]
  refine run_rel (N := nm W) (fun n i μ' => f_X11_addUp_b27 F n μ' (some t) (nI (d &&& vbs W)) (nI i)) (fun i μ' => SmC μ μ' ∧ μ'.2.1 73 0 = lN (SMf W k w d i).1 ∧ μ'.2.1 73 1 = lN (SMf W k w d i).2) (fun o => ∃ μ2, o = some ((), μ2) ∧ SmC μ μ2 ∧ μ2.2.1 73 0 = lN (SMf W k w d (nm W)).1 ∧ μ2.2.1 73 1 = lN (SMf W k w d (nm W)).2) (fun n i μ' hi hI => Or.inl ?_) (fun n μ' hI => ?_) F 0 _ (Nat.zero_le _) (by omega) ⟨smc_2 μ 73 _ _, by rw [ul_o (by omega), ul_s]; rfl, by rw [ul_s]; rfl⟩
  · obtain ⟨i1, i2, i3⟩ := hI
    have hy := h.sm i1
    have tb : (d &&& vbs W).testBit i = (d.testBit i && decide (¬ vl W i = -1)) := by rw [Nat.testBit_and, vbs_t]; simp [hi]
    cases q : (d.testBit i && decide (¬ vl W i = -1)) with
    | false =>
      refine ⟨μ', ⟨i1, by rw [SMf, if_neg (by rw [q]; decide)]; exact i2, by rw [SMf, if_neg (by rw [q]; decide)]; exact i3⟩, fun y hy2 => ?_⟩
      unfold f_X11_addUp_b27 f_X11_addUp_b91
      simp (disch := omega) only [xbn, cw_n hy.1, br_le_f, ii_eq, tb, q, xcp, Bool.false_eq_true, if_false, if_true, nI_1]
      exact hy2
    | true =>
      have q' := q
      simp only [Bool.and_eq_true, decide_eq_true_eq] at q'
      obtain ⟨s1, s2, s3, s4, s5⟩ := st_b hw hb hi q'.1 q'.2
      obtain ⟨f1, f2, f3, f4⟩ := SMf_b hw hb (i := i) (by omega)
      obtain ⟨v1, v2⟩ := vn_n hw q'.2
      have v3 : (vl W i).toInt64 = lN (vn W i) := by rw [v1, nI_l (by omega)]
      have sh := sh1_C hF hy ho hi 74
      obtain ⟨μ2, e1, e2, e3, e4, e5, e6⟩ := ad_C hF (ul (ul μ' 74 0 (lN (ra (sA W k w i) (sB W k w i)))) 74 1 (lN (rb (sA W k w i) (sB W k w i)))) 73 (a := (SMf W k w d i).1) (b := (SMf W k w d i).2) (m := vn W i * rb (sA W k w i) (sB W k w i)) (n := ra (sA W k w i) (sB W k w i)) (by rw [ul_c (by omega), ul_c (by omega)]; exact i2) (by rw [ul_c (by omega), ul_c (by omega)]; exact i3) f1 s1 f4 s4 s5
      refine ⟨μ2, ⟨(i1.tr (smc_2 μ' 74 _ _)).tr (smc_eq e2 e3), by rw [SMf, if_pos q]; exact e5, by rw [SMf, if_pos q]; exact e6⟩, fun y hy2 => ?_⟩
      unfold f_X11_addUp_b27 f_X11_addUp_b91
      simp (disch := omega) only [xbn, cw_n hy.1, br_le_f, ii_eq, tb, q, xcp, if_true, show ¬ (1 : Int32) = 0 by decide, if_false, onul, sh, xca, ck_in, nI_clamp, ul_1, ul_s, ul_o, cw_v hy.1 hi, v3, lN_mul, e1, nI_1]
      exact hy2
  · obtain ⟨i1, i2, i3⟩ := hI
    have hy := h.sm i1
    unfold f_X11_addUp_b27
    simp (disch := omega) only [xbn, cw_n hy.1, br_le_t]
    exact ⟨μ', rfl, i1, i2, i3⟩
theorem fsm_eq {F : Nat} (hF : 2000 ≤ F) {W : Mem} (hw : WF W) {k : Nat} {w : Nat → Nat} {ρ : Mem} (h : R2 W k w ρ) (ho : OK W k w) {d D M B : Nat} (hd : d < 2 ^ nm W) (hb : SB W k w d D M B) : ∃ ρ2, f_X12_findSum F ρ (nI d) = some ((), ρ2) ∧ R2 W k w ρ2 ∧ ρ2.2.1 0 27 = lN (SMf W k w d (nm W)).1 ∧ ρ2.2.1 0 28 = lN (SMf W k w d (nm W)).2 := by
  have hN := rw_N hw
  have hd2 := Nat.lt_of_lt_of_le hd (pow_le30 hN)
  unfold f_X12_findSum
  simp only [xbn]
  refine run_rel (N := nm W) (fun n i ρ' => f_X12_findSum_b12 F n ρ' (nI d) (nI i)) (fun i ρ' => R2 W k w ρ' ∧ ρ'.2.1 0 27 = lN (SMf W k w d i).1 ∧ ρ'.2.1 0 28 = lN (SMf W k w d i).2) (fun o => ∃ ρ2, o = some ((), ρ2) ∧ R2 W k w ρ2 ∧ ρ2.2.1 0 27 = lN (SMf W k w d (nm W)).1 ∧ ρ2.2.1 0 28 = lN (SMf W k w d (nm W)).2) (fun n i ρ' hi hI => Or.inl ?_) (fun n ρ' hI => ?_) F 0 _ (Nat.zero_le _) (by omega) ⟨h.sm rfl, by rw [ul_o (by omega), ul_s]; rfl, by rw [ul_s]; rfl⟩
  · obtain ⟨i1, i2, i3⟩ := hI
    have e0 := rw_n hw i1.1.1
    have ev := vo_eq hF hw i1.1.1 hi
    cases q : (d.testBit i && decide (¬ vl W i = -1)) with
    | false =>
      refine ⟨ρ', ⟨i1, by rw [SMf, if_neg (by rw [q]; decide)]; exact i2, by rw [SMf, if_neg (by rw [q]; decide)]; exact i3⟩, fun y hy2 => ?_⟩
      unfold f_X12_findSum_b12 f_X12_findSum_b108
      simp (disch := omega) only [xbn, e0, br_le_f, ev, xca, sh_bit, b1', ite_not, nI_1]
      by_cases b : d.testBit i = true
      · have v : vl W i = -1 := by
          rw [b] at q
          simpa using q
        rw [if_pos b, if_pos v]
        exact hy2
      · rw [if_neg b]
        exact hy2
    | true =>
      have q' := q
      simp only [Bool.and_eq_true, decide_eq_true_eq] at q'
      obtain ⟨s1, s2, s3, s4, s5⟩ := st_b hw hb hi q'.1 q'.2
      obtain ⟨f1, f2, f3, f4⟩ := SMf_b hw hb (i := i) (by omega)
      obtain ⟨v1, v2⟩ := vn_n hw q'.2
      have v3 : (vl W i).toInt64 = lN (vn W i) := by rw [v1, nI_l (by omega)]
      obtain ⟨ρ4, c1, c2, c3, c4, c5, c6⟩ := fs_eq hF hw i1 ho hi
      have n0 := s1
      generalize hm : vn W i * rb (sA W k w i) (sB W k w i) = m at s2 s4
      generalize hn : ra (sA W k w i) (sB W k w i) = nn at s1 s3 s4 s5 n0 c3
      generalize ha : (SMf W k w d i).1 = a at f3 f4 s4 i2
      generalize hbb : (SMf W k w d i).2 = b at f1 f2 f4 s4 s5 i3
      have k27 := c5 0 27 (by omega)
      have k28 := c5 0 28 (by omega)
      rw [i2] at k27
      rw [i3] at k28
      have x1 := bc_R hF ρ4 s2 n0 s3
      have ral := ra_le m nn
      have rbl := rb_le m nn
      have rbp := rb_pos (x := m) n0
      have t1 : a * rb m nn ≤ a * nn := Nat.mul_le_mul_left _ rbl
      have t2 : ra m nn * b ≤ m * b := Nat.mul_le_mul_right _ ral
      have t3 : b * rb m nn ≤ b * nn := Nat.mul_le_mul_left _ rbl
      have t4 : 0 < b * rb m nn := Nat.mul_pos f1 rbp
      have x2 := bc_R hF (ul (ul ρ4 0 24 (lN (ra m nn))) 0 25 (lN (rb m nn))) (x := a * rb m nn + ra m nn * b) (y := b * rb m nn) (by omega) t4 (by omega)
      rw [(fa_R n0).1, (fa_R n0).2] at x2
      refine ⟨ul (ul (ul (ul (ul (ul ρ4 0 24 (lN (ra m nn))) 0 25 (lN (rb m nn))) 0 24 (lN (fa a b m nn))) 0 25 (lN (fb a b m nn))) 0 27 (lN (fa a b m nn))) 0 28 (lN (fb a b m nn)), ⟨c2.sm rfl, ?_, ?_⟩, fun y hy2 => ?_⟩
      · rw [ul_o (by omega), ul_s, SMf, if_pos q, ha, hbb, hm, hn]
      · rw [ul_s, SMf, if_pos q, ha, hbb, hm, hn]
      · unfold f_X12_findSum_b12 f_X12_findSum_b108
        simp (disch := omega) only [xbn, e0, br_le_f, ev, xca, sh_bit, b1', ite_not, q'.1, if_true, q'.2, if_false, c1, c3, c4, v3, lN_mul, hm, x1, ul_s, ul_o, k27, k28, lN_add, x2, nI_1]
        exact hy2
  · obtain ⟨i1, i2, i3⟩ := hI
    have e0 := rw_n hw i1.1.1
    unfold f_X12_findSum_b12
    simp (disch := omega) only [xbn, e0, br_le_t]
    exact ⟨ρ', rfl, i1, i2, i3⟩
theorem MK_ok {F : Nat} (hF : 2000 ≤ F) {W μ : Mem} (h : Rel μ W) {p d : Nat} (hp : p < 4) (hd : d < 2 ^ nm W) (hc : CB W p) (hr : f_X11_refusalOfDraw F μ (nI p) (nI d) = some (0, μ)) : MK W (kp W p) (wq W p) d = true := by
  have hN := rw_N h.1
  have hd2 := Nat.lt_of_lt_of_le hd (pow_le30 hN)
  obtain ⟨c1, c2, c3⟩ := q_C hF h hp hc
  have w2 : wi (nI d) 0 (nI (2 ^ nm W - 1)) = true := by
    rw [show (0 : Int32) = nI 0 from rfl, wi_n (by omega) (by omega) (by have := pow_le30 hN; omega)]
    simp
    omega
  have w1 : wi (nI p) 0 3 = true := by
    have := wi_n (a := p) (b := 0) (c := 3) (by omega) (by omega) (by omega)
    rw [show wi (nI p) 0 3 = wi (nI p) (nI 0) (nI 3) from rfl, this]
    simp
    omega
  unfold f_X11_refusalOfDraw at hr
  rw [pl_C, ha_eq h, w1, w2] at hr
  simp (disch := omega) only [xcp, xca, xbn, if_true, show ¬ (1 : Int32) = 0 by decide, if_false, not_false_eq_true, ck_in, nI_clamp, c1, onul, mk_C hF c2 c3 hd2] at hr
  cases hm : MK W (kp W p) (wq W p) d with
  | true => rfl
  | false =>
    rw [hm] at hr
    simp at hr
theorem sim_sum {F : Nat} (hF : 2000 ≤ F) (μ ρ : Mem) (a1 a2 a3 : Int32) (h : Rel μ ρ) : ∃ (r : Int64) (μ2 ρ2 : Mem), f_X11_sum F μ a1 a2 a3 = some (r, μ2) ∧ f_X12_sum F ρ a1 a2 a3 = some (r, ρ2) ∧ Rel μ2 ρ2 := by
  have hN := rw_N h.1
  unfold f_X11_sum f_X12_sum
  rw [ab_C, in_eq F a3 0 1 (A := 0) (B := 1) rfl rfl]
  by_cases w3 : wi a3 0 1 = true
  · rw [w3]
    obtain ⟨r, ρ1, e1, e2, e3, e4⟩ := rf_eq hF h (SmR.rf ρ) a1 a2
    simp only [xcp, xca, xbn, if_true, show ¬ (1 : Int32) = 0 by decide, if_false, not_false_eq_true, e1, e2, al_C, al_R]
    rcases e4 with rfl | rfl | ⟨rfl, p, d, hp, rfl, hd, rfl, c, r2⟩
    · exact ⟨nol (-2), μ, ρ1, rfl, rfl, q_end h (SmC.rf μ) (ρ := ρ) e3⟩
    · exact ⟨nol (-3), μ, ρ1, rfl, rfl, q_end h (SmC.rf μ) (ρ := ρ) e3⟩
    · have hm := MK_ok hF h hp hd c e1
      obtain ⟨c1, c2, c3⟩ := q_C hF h hp c
      obtain ⟨D, M, B, hb⟩ := SB_ex h.1 c3 hm
      obtain ⟨μ2, f1, f2, f3, f4⟩ := au_eq hF c2 c3 hd hb
      obtain ⟨ρ2, g1, g2, g3, g4⟩ := fsm_eq hF h.1 r2 c3 hd hb
      refine ⟨if a3 = 0 then lN (SMf ρ (kp ρ p) (wq ρ p) d (nm ρ)).1 else lN (SMf ρ (kp ρ p) (wq ρ p) d (nm ρ)).2, μ2, ρ2, ?_, ?_, q_end h f2 (ρ := ρ) g2.1.1⟩
      · rw [if_pos (by decide)]
        simp (disch := omega) only [ck_in, nI_clamp, c1, xca, f1, td_eq F μ2 73 w3, f3, f4]
      · rw [if_pos rfl]
        simp only [g1, xca, g3, g4]
        by_cases q : a3 = 0
        · simp only [q, not_true_eq_false, if_false, if_true]
        · simp only [q, not_false_eq_true, if_true, if_false]
  · rw [Bool.not_eq_true] at w3
    rw [w3]
    exact ⟨nol (-2), μ, ρ, rfl, rfl, h⟩
/-! edges -/
def rdn (W : Mem) (k : Nat) (w : Nat → Nat) (u : Nat) : Nat := (SMf W k w (DA W k w u) (nm W)).1 / (SMf W k w (DA W k w u) (nm W)).2
def ebt (W : Mem) (k : Nat) (w : Nat → Nat) (x2 : Int32) : Nat → Nat
  | 0 => 0
  | i + 1 => if i = 0 then rdn W k w 0 else if x2 = 0 then (if rdn W k w i < ebt W k w x2 i then rdn W k w i else ebt W k w x2 i) else (if ebt W k w x2 i < rdn W k w i then rdn W k w i else ebt W k w x2 i)
theorem rdn_lt {W : Mem} (hw : WF W) {k : Nat} {w : Nat → Nat} (ho : OK W k w) (hk : k = 3 ∨ k = 4) {u : Nat} (hu : u < PT W k w) : rdn W k w u < 2 ^ 63 := by
  have b := SMf_b hw (SB_pt hw ho hk hu) (Nat.le_refl (nm W))
  exact Nat.lt_of_le_of_lt (Nat.div_le_self _ _) b.2.2.1
theorem ebt_lt {W : Mem} (hw : WF W) {k : Nat} {w : Nat → Nat} (ho : OK W k w) (hk : k = 3 ∨ k = 4) (x2 : Int32) : ∀ i, i ≤ PT W k w → ebt W k w x2 i < 2 ^ 63
  | 0, _ => by show 0 < 2 ^ 63; decide
  | i + 1, hi => by
    have a := rdn_lt hw ho hk (u := i) (by omega)
    have b := ebt_lt hw ho hk x2 i (by omega)
    have c := rdn_lt hw ho hk (u := 0) (by omega)
    rw [ebt]
    split
    · exact c
    · split
      · split <;> assumption
      · split <;> assumption
theorem rd_C {F : Nat} (μ : Mem) (c : Nat) {a b : Nat} (e0 : μ.2.1 c 0 = lN a) (e1 : μ.2.1 c 1 = lN b) (hb : 0 < b) (b63 : b < 2 ^ 63) (a63 : a < 2 ^ 63) : f_X1_roundedDown F μ c = some (lN (a / b), μ) := by
  unfold f_X1_roundedDown
  simp (disch := omega) only [lgl, lgg, lgle, lgge, lge, l_0, l_1, l_1000, bl_le_t, bl_le_f, bl_lt_t, bl_lt_f, bl_eq_t, bl_eq_f, dvl_n, dvi_n, nI_l, lN_add, lN_mul, lN_1, xbn, e0, e1, pk_lDiv]
theorem ed_C {F : Nat} (hF : 2000 ≤ F) {W : Mem} {k : Nat} {w : Nat → Nat} {t : Nat} {μ : Mem} (h : WY W k w t μ) (ho : OK W k w) (hk : k = 3 ∨ k = 4) (x2 : Int32) : ∃ μ2, f_X11_edgeOf F μ t x2 = some (lN (ebt W k w x2 (PT W k w)), μ2) ∧ SmC μ μ2 := by
  have hw := h.1.1
  have hN := rw_N hw
  have hp := ho.pk hk
  have hP := PT_le hw hp
  unfold f_X11_edgeOf
  rw [pt_C F h hp]
  simp only [xca]
  refine run_rel (N := PT W k w) (fun n i μ' => f_X11_edgeOf_b11 F n μ' t x2 (nI (PT W k w)) (lN (ebt W k w x2 i)) (nI i)) (fun i μ' => SmC μ μ') (fun o => ∃ μ2, o = some (lN (ebt W k w x2 (PT W k w)), μ2) ∧ SmC μ μ2) (fun n i μ' hi hI => Or.inl ?_) (fun n μ' hI => ?_) F 0 μ (Nat.zero_le _) (by omega) (SmC.rf μ)
  · have hy := h.sm hI
    have hb := SB_pt hw ho hk hi
    obtain ⟨μ2, f1, f2, f3, f4⟩ := au_eq hF hy ho (DA_lt k w i) hb
    obtain ⟨b1, b2, b3, b4⟩ := SMf_b hw hb (Nat.le_refl (nm W))
    have rd := rd_C (F := F) μ2 73 f3 f4 b1 b2 b3
    rw [show (SMf W k w (DA W k w i) (nm W)).1 / (SMf W k w (DA W k w i) (nm W)).2 = rdn W k w i from rfl] at rd
    have l1 := rdn_lt hw ho hk hi
    have l2 := ebt_lt hw ho hk x2 i (by omega)
    refine ⟨μ2, hI.tr f2, fun y hy2 => ?_⟩
    rw [ebt] at hy2
    unfold f_X11_edgeOf_b11 f_X11_edgeOf_b70 f_X11_edgeOf_b82 f_X11_edgeOf_b86
    simp (disch := omega) only [br_le_f, da_eq hF hy hp hi, xca, f1, rd, lgle, lgge, nI_1]
    by_cases i0 : i = 0
    · subst i0
      rw [if_pos rfl] at hy2
      simp (disch := omega) only [br_eq0_t, ite_self]
      exact hy2
    · rw [if_neg i0] at hy2
      simp (disch := omega) only [br_eq0_f]
      by_cases q : x2 = 0
      · simp only [q, not_true_eq_false, if_false, if_true] at hy2 ⊢
        by_cases q2 : rdn W k w i < ebt W k w 0 i
        · rw [if_pos q2] at hy2
          rw [q] at l2
          rw [bl_le_f q2 l2, if_neg (by decide)]
          exact hy2
        · rw [if_neg q2] at hy2
          rw [bl_le_t (by omega) l1]
          exact hy2
      · simp only [q, not_false_eq_true, if_false, if_true] at hy2 ⊢
        by_cases q2 : ebt W k w x2 i < rdn W k w i
        · rw [if_pos q2] at hy2
          rw [bl_le_f q2 l1, if_neg (by decide)]
          exact hy2
        · rw [if_neg q2] at hy2
          rw [bl_le_t (by omega) l2]
          exact hy2
  · unfold f_X11_edgeOf_b11
    simp (disch := omega) only [br_le_t]
    exact ⟨μ', rfl, hI⟩
theorem ed_R {F : Nat} (hF : 2000 ≤ F) {W : Mem} (hw : WF W) {k : Nat} {w : Nat → Nat} {ρ : Mem} (h : R2 W k w ρ) (ho : OK W k w) (hk : k = 3 ∨ k = 4) (x2 : Int32) : ∃ ρ2, f_X12_edge_b56 F F ρ x2 0 (nI (PT W k w)) 0 = some (lN (ebt W k w x2 (PT W k w)), ρ2) ∧ R2 W k w ρ2 := by
  have hN := rw_N hw
  have hp := ho.pk hk
  have hP := PT_le hw hp
  refine run_rel (N := PT W k w) (fun n i ρ' => f_X12_edge_b56 F n ρ' x2 (lN (ebt W k w x2 i)) (nI (PT W k w)) (nI i)) (fun i ρ' => R2 W k w ρ') (fun o => ∃ ρ2, o = some (lN (ebt W k w x2 (PT W k w)), ρ2) ∧ R2 W k w ρ2) (fun n i ρ' hi hI => Or.inl ?_) (fun n ρ' hI => ?_) F 0 ρ (Nat.zero_le _) (by omega) h
  · have hb := SB_pt hw ho hk hi
    obtain ⟨ρ2, f1, f2, f3, f4⟩ := fsm_eq hF hw hI ho (DA_lt k w i) hb
    obtain ⟨b1, b2, b3, b4⟩ := SMf_b hw hb (Nat.le_refl (nm W))
    have rd : lN (SMf W k w (DA W k w i) (nm W)).1 / lN (SMf W k w (DA W k w i) (nm W)).2 = lN (rdn W k w i) := pk_lDiv b3 b1 b2
    have l1 := rdn_lt hw ho hk hi
    have l2 := ebt_lt hw ho hk x2 i (by omega)
    refine ⟨ρ2, f2, fun y hy2 => ?_⟩
    rw [ebt] at hy2
    unfold f_X12_edge_b56 f_X12_edge_b110 f_X12_edge_b115 f_X12_edge_b116
    simp (disch := omega) only [br_le_f, do_eq hF hw hI.1 hp (u := i) (by omega), xca, f1, xbn, f3, f4, dvl_n, rd, lgle, lgge, nI_1]
    by_cases i0 : i = 0
    · subst i0
      rw [if_pos rfl] at hy2
      simp (disch := omega) only [br_eq0_t]
      exact hy2
    · rw [if_neg i0] at hy2
      simp (disch := omega) only [br_eq0_f]
      by_cases q : x2 = 0
      · simp only [q, not_true_eq_false, if_false, if_true] at hy2 ⊢
        by_cases q2 : rdn W k w i < ebt W k w 0 i
        · rw [if_pos q2] at hy2
          rw [q] at l2
          rw [bl_le_f q2 l2]
          exact hy2
        · rw [if_neg q2] at hy2
          rw [bl_le_t (by omega) l1]
          exact hy2
      · simp only [q, not_false_eq_true, if_false, if_true] at hy2 ⊢
        by_cases q2 : ebt W k w x2 i < rdn W k w i
        · rw [if_pos q2] at hy2
          rw [bl_le_f q2 l1]
          exact hy2
        · rw [if_neg q2] at hy2
          rw [bl_le_t (by omega) l2]
          exact hy2
  · unfold f_X12_edge_b56
    simp (disch := omega) only [br_le_t]
    exact ⟨ρ', rfl, hI⟩
theorem sim_edge {F : Nat} (hF : 2000 ≤ F) (μ ρ : Mem) (a1 a2 : Int32) (h : Rel μ ρ) : ∃ (r : Int64) (μ2 ρ2 : Mem), f_X11_edge F μ a1 a2 = some (r, μ2) ∧ f_X12_edge F ρ a1 a2 = some (r, ρ2) ∧ Rel μ2 ρ2 := by
  unfold f_X11_edge f_X12_edge f_X11_edge_b16 f_X12_edge_b17 f_X12_edge_b38
  rw [pl_C, pl_R, wi_eq, in_eq F a2 0 1 (A := 0) (B := 1) rfl rfl]
  simp only [al_C, al_R]
  by_cases w1 : wi a1 0 3 = true
  · by_cases w2 : wi a2 0 1 = true
    · obtain ⟨p, hp, rfl⟩ := wi_pl w1
      rw [w1, w2]
      by_cases c : CB ρ p
      · obtain ⟨c1, c2, c3⟩ := q_C hF h hp c
        obtain ⟨ρ1, r1, r2⟩ := q_R hF h.1 (SmR.rf ρ) hp c
        obtain ⟨h1, h2, h3, h4⟩ := id c3
        by_cases hk : kp ρ p = 3 ∨ kp ρ p = 4
        · obtain ⟨μ2, f1, f2⟩ := ed_C hF c2 c3 hk a2
          obtain ⟨ρ2, g1, g2⟩ := ed_R hF h.1 r2 c3 hk a2
          have k104 : kindC (18 + 9 * p + 2 + kp ρ p) = 104 := (c2.k34 hk).1
          refine ⟨lN (ebt ρ (kp ρ p) (wq ρ p) a2 (PT ρ (kp ρ p) (wq ρ p))), μ2, ρ2, ?_, ?_, q_end h f2 (ρ := ρ) g2.1.1⟩
          · simp (disch := omega) only [xcp, xca, xbn, if_true, show ¬ (1 : Int32) = 0 by decide, if_false, not_false_eq_true, ck_in, nI_clamp, c1, instk, castk, onul, vd_2 k104, k104, f1]
          · simp only [xcp, xca, xbn, if_true, show ¬ (1 : Int32) = 0 by decide, if_false, not_false_eq_true, r1, gr_R r2.1, if_pos hk, pt_R hF h.1 r2.1 (c3.pk hk), lN_i, g1]
        · have nk : (vdis (18 + 9 * p + 2 + kp ρ p) (some (nol (-3), μ)) (some (nol (-3), μ)) (some (nol (-3), μ)) : Option (Int64 × Mem)) = some (nol (-3), μ) := by
            rcases (show kp ρ p = 1 ∨ kp ρ p = 2 ∨ kp ρ p = 5 by omega) with e | e | e
            · exact vd_1 (c2.k12 (Or.inl e)).1 _ _ _
            · exact vd_1 (c2.k12 (Or.inr e)).1 _ _ _
            · exact vd_3 (c2.k5 e) _ _ _
          have k104 : ¬ kindC (18 + 9 * p + 2 + kp ρ p) = 104 := by
            rcases (show kp ρ p = 1 ∨ kp ρ p = 2 ∨ kp ρ p = 5 by omega) with e | e | e
            · rw [(c2.k12 (Or.inl e)).1]; decide
            · rw [(c2.k12 (Or.inr e)).1]; decide
            · rw [c2.k5 e]; decide
          refine ⟨nol (-3), μ, ρ1, ?_, ?_, q_end h (SmC.rf μ) (ρ := ρ) r2.1.1⟩
          · simp (disch := omega) only [xcp, xca, xbn, if_true, show ¬ (1 : Int32) = 0 by decide, if_false, not_false_eq_true, ck_in, nI_clamp, c1, instk, onul, show ¬ (104 : Nat) = 102 by decide, show ¬ (104 : Nat) = 108 by decide]
            unfold vdis
            rcases (show kp ρ p = 1 ∨ kp ρ p = 2 ∨ kp ρ p = 5 by omega) with e | e | e
            · rw [if_pos (c2.k12 (Or.inl e)).1]
            · rw [if_pos (c2.k12 (Or.inr e)).1]
            · rw [c2.k5 e, if_neg (by decide), if_neg (by decide), if_pos rfl]
          · simp only [xcp, xca, xbn, if_true, show ¬ (1 : Int32) = 0 by decide, if_false, not_false_eq_true, r1, gr_R r2.1, if_neg hk, not_true_eq_false]
      · obtain ⟨ρ2, r1, r2⟩ := (cr_eq hF h.1 (SmR.rf ρ) hp).2 c
        refine ⟨nol (-3), μ, ρ2, ?_, ?_, q_end h (SmC.rf μ) (ρ := ρ) r2⟩
        · simp (disch := omega) only [xcp, xca, xbn, if_true, show ¬ (1 : Int32) = 0 by decide, if_false, not_false_eq_true, ck_in, nI_clamp, pw_f hF h hp c, instk, onul]
        · simp (disch := omega) only [xcp, xca, xbn, if_true, show ¬ (1 : Int32) = 0 by decide, if_false, not_false_eq_true, r1]
    · rw [Bool.not_eq_true] at w2
      rw [w1, w2]
      exact ⟨nol (-2), μ, ρ, rfl, rfl, h⟩
  · rw [Bool.not_eq_true] at w1
    rw [w1]
    exact ⟨nol (-2), μ, ρ, rfl, rfl, h⟩
