/-! the led sum, and what it misses -/
def dff (a b : Nat) : Nat := if b ≤ a then a - b else b - a
theorem abi_d {a b : Nat} (ha : a < 2 ^ 30) (hb : b < 2 ^ 30) : abi (nI a - nI b) = nI (dff a b) := by
  unfold abi dff
  by_cases q : b ≤ a
  · rw [pk_sub q, if_pos (nI_pos' (by omega)), if_pos q]
  · have e : nI a - nI b = -(nI (b - a)) := by rw [← pk_sub (by omega), Int32.neg_sub]
    have n : ¬ (0 : Int32) ≤ nI a - nI b := by
      rw [Int32.le_iff_toInt_le, Int32.toInt_sub, nI_toInt (by omega), nI_toInt (by omega)]
      show ¬ (0 : Int) ≤ _
      rw [Int.bmod_def]
      split <;> omega
    rw [if_neg n, if_neg q, Int32.zero_sub, Int32.neg_sub, pk_sub (by omega)]
theorem amo_d (F : Nat) {a b : Nat} (ha : a < 2 ^ 30) (hb : b < 2 ^ 30) : f_X12_amount F (lN a - lN b) = some (lN (dff a b)) := by
  unfold f_X12_amount dff
  simp only [lgge]
  by_cases q : b ≤ a
  · rw [lN_sub q, if_pos (show (0 : Int64) ≤ lN (a - b) from (pk_lLE (a := 0) (by omega) (by omega)).mpr (Nat.zero_le _)), if_pos q]
  · have n : ¬ (0 : Int64) ≤ lN a - lN b := by
      rw [Int64.le_iff_toInt_le, Int64.toInt_sub, pk_lT (by omega), pk_lT (by omega)]
      show ¬ (0 : Int) ≤ _
      rw [Int.bmod_def]
      split <;> omega
    rw [if_neg n, if_neg q, Int64.neg_sub, lN_sub (by omega)]
theorem dff_le (a b : Nat) : dff a b ≤ a + b := by
  unfold dff
  split <;> omega
/-- what the sums miss, over the first j -/
def mss (W : Mem) (w : Nat → Nat) (a : Int32) : Nat → Nat
  | 0 => 0
  | j + 1 => mss W w a j + dff (gsm (ing W a j) w (nm W)) (kS W a j)
theorem mss_le {W : Mem} (hw : WF W) {tel : Nat → Bool} {w : Nat → Nat} (hl : WI2 tel (nm W) w) {a : Int32} : ∀ j, (a = 0 → j ≤ 4) → (¬ a = 0 → j ≤ 3) → mss W w a j ≤ 20000000 * j
  | 0, _, _ => Nat.le_refl _
  | j + 1, h0, h1 => by
    have ih := mss_le hw hl (a := a) j (fun z => by have := h0 z; omega) (fun z => by have := h1 z; omega)
    have kb := kS_l hw (a := a) (j := j) (fun z => by have := h0 z; omega) (fun z => by have := h1 z; omega)
    have tb := gsm_b (g := ing W a j) (fun x hx => (hl x hx).1) (Nat.le_refl _) (rw_N hw)
    have dl := dff_le (gsm (ing W a j) w (nm W)) (kS W a j)
    rw [mss]
    omega
theorem ms_C {F : Nat} (hF : 2000 ≤ F) {W μ : Mem} {tel : Nat → Bool} {w : Nat → Nat} (h : CW W w μ) (hl : WI2 tel (nm W) w) : f_X10_miss F μ = some (nI (mss W w 0 4 + mss W w 1 3), μ) := by
  have hw := h.1.1
  have hN := rw_N hw
  have m4 := mss_le hw hl (a := 0) 4 (fun _ => Nat.le_refl _) (fun z => absurd rfl z)
  unfold f_X10_miss
  refine run_up (N := 4) (fun n i => f_X10_miss_b4 F n μ (nI (mss W w 0 i)) (nI i)) (fun n i hi y hy => ?_) (fun n => ?_) F 0 (Nat.zero_le _) (by omega)
  · have kb := kS_l hw (a := 0) (j := i) (fun _ => hi) (fun z => absurd rfl z)
    have k64 : μ.1 64 i = nI (kS W 0 i) := by rw [h.1.2.2.2.2.2.1 i hi]; exact ((kS_n hw (SmR.rf W) i).1 hi).1
    have m7 : μ.1 7 i = nI (msk (ing W 0 i) (nm W)) := by rw [cw_lb h.1 hi, ing0]
    have su := su_C hF h (fun x hx => (hl x hx).1) (ing W 0 i)
    have tb := gsm_b (g := ing W 0 i) (fun x hx => (hl x hx).1) (Nat.le_refl _) hN
    have ab := abi_d (a := gsm (ing W 0 i) w (nm W)) (b := kS W 0 i) (by omega) (by omega)
    unfold f_X10_miss_b4
    rw [mss] at hy
    simp (disch := omega) only [i_4, br_le_f, ck_in, nI_clamp, xbn, m7, su, xca, k64, ab, nI_add, nI_1]
    exact hy
  · unfold f_X10_miss_b4
    rw [if_pos (by decide)]
    refine run_up (N := 3) (fun n i => f_X10_miss_b43 F n μ (nI (mss W w 0 4 + mss W w 1 i)) (nI i)) (fun n i hi y hy => ?_) (fun n => ?_) F 0 (Nat.zero_le _) (by omega)
    · have kb := kS_l hw (a := 1) (j := i) (fun z => absurd z (by decide)) (fun _ => hi)
      have k65 : μ.1 65 i = nI (kS W 1 i) := by rw [h.1.2.2.2.2.2.2.1 i hi]; exact ((kS_n hw (SmR.rf W) i).2 1 (by decide) hi).1
      have m9 : μ.1 9 i = nI (msk (ing W 1 i) (nm W)) := by rw [cw_mb h.1 hi, ing1]
      have su := su_C hF h (fun x hx => (hl x hx).1) (ing W 1 i)
      have tb := gsm_b (g := ing W 1 i) (fun x hx => (hl x hx).1) (Nat.le_refl _) hN
      have ab := abi_d (a := gsm (ing W 1 i) w (nm W)) (b := kS W 1 i) (by omega) (by omega)
      unfold f_X10_miss_b43
      rw [show mss W w 1 (i + 1) = mss W w 1 i + dff (gsm (ing W 1 i) w (nm W)) (kS W 1 i) from rfl, ← Nat.add_assoc] at hy
      simp (disch := omega) only [i_3, br_le_f, ck_in, nI_clamp, xbn, m9, su, xca, k65, ab, nI_add, nI_1]
      exact hy
    · unfold f_X10_miss_b43
      rw [if_pos (by decide)]
theorem ms_R {F : Nat} (hF : 2000 ≤ F) {W ρ : Mem} (hw : WF W) {tel : Nat → Bool} {w : Nat → Nat} (h : RW W tel w ρ) (hl : WI2 tel (nm W) w) : f_X12_led_b120 F F ρ 0 0 = some (nI (mss W w 0 4 + mss W w 1 3), ρ) := by
  have hN := rw_N hw
  refine run_up (N := 4) (fun n i => f_X12_led_b120 F n ρ (lN (mss W w 0 i)) (nI i)) (fun n i hi y hy => ?_) (fun n => ?_) F 0 (Nat.zero_le _) (by omega)
  · have ks := (kS_n hw h.1 i).1 hi
    have wo := wo_R hF hw h hl 0 (j := i) hi
    have tb := gsm_b (g := ing W 0 i) (fun x hx => (hl x hx).1) (Nat.le_refl _) hN
    have ab := amo_d F (a := gsm (ing W 0 i) w (nm W)) (b := kS W 0 i) (by omega) (by omega)
    unfold f_X12_led_b120
    rw [mss] at hy
    simp (disch := omega) only [i_4, br_le_f, ck_in, nI_clamp, xbn, wo, xca, ks.1, nI_l, xcp, ab, lN_add, nI_1]
    exact hy
  · unfold f_X12_led_b120
    rw [if_pos (by decide)]
    refine run_up (N := 3) (fun n i => f_X12_led_b159 F n ρ (lN (mss W w 0 4 + mss W w 1 i)) (nI i)) (fun n i hi y hy => ?_) (fun n => ?_) F 0 (Nat.zero_le _) (by omega)
    · have ks := (kS_n hw h.1 i).2 1 (by decide) hi
      have wo := wo_R hF hw h hl 1 (j := i) (by omega)
      have tb := gsm_b (g := ing W 1 i) (fun x hx => (hl x hx).1) (Nat.le_refl _) hN
      have ab := amo_d F (a := gsm (ing W 1 i) w (nm W)) (b := kS W 1 i) (by omega) (by omega)
      unfold f_X12_led_b159
      rw [show mss W w 1 (i + 1) = mss W w 1 i + dff (gsm (ing W 1 i) w (nm W)) (kS W 1 i) from rfl, ← Nat.add_assoc] at hy
      simp (disch := omega) only [i_3, br_le_f, ck_in, nI_clamp, xbn, wo, xca, ks.1, nI_l, xcp, ab, lN_add, nI_1]
      exact hy
    · unfold f_X12_led_b159
      rw [if_pos (by decide), lN_i]
/-- the led sum -/
theorem lsm_le {W : Mem} (hw : WF W) {d : Nat} {w : Nat → Nat} (hl : WI2 (tlg W d) (nm W) w) {i : Nat} (hi : i ≤ nm W) : gsm (tlg W d) (fun x => w x * vn W x) i ≤ 180000000000 := by
  have hN := rw_N hw
  have e : gsm (tlg W d) (fun x => w x * vn W x) i = gsm (tlg W d) (fun x => if tlg W d x then w x * vn W x else 0) i := gsm_cg (fun x _ => by cases tlg W d x <;> rfl)
  rw [e]
  have := gsm_le (f := tlg W d) (w := fun x => if tlg W d x then w x * vn W x else 0) (X := 6000000000) (n := i) (fun x hx => by
    show (if tlg W d x = true then w x * vn W x else 0) ≤ _
    cases q : tlg W d x with
    | false => simp
    | true =>
      have q' := q
      unfold tlg at q'
      simp only [Bool.and_eq_true, decide_eq_true_eq] at q'
      have v := (vn_n hw q'.2).2
      have wl := (hl x (by omega)).1
      have := Nat.mul_le_mul wl v
      rw [if_pos rfl]
      omega)
  omega
theorem ls_C {F : Nat} (hF : 2000 ≤ F) {W μ : Mem} {d : Nat} {w : Nat → Nat} (h : CW W w μ) (hl : WI2 (tlg W d) (nm W) w) : f_X10_ledSum F μ = some (nI (gsm (tlg W d) (fun x => w x * vn W x) (nm W) / 1000), μ) := by
  have hw := h.1.1
  have hN := rw_N hw
  unfold f_X10_ledSum
  refine run_up (N := nm W) (fun n i => f_X10_ledSum_b4 F n μ (lN (gsm (tlg W d) (fun x => w x * vn W x) i)) (nI i)) (fun n i hi y hy => ?_) (fun n => ?_) F 0 (Nat.zero_le _) (by omega)
  · obtain ⟨wl, wz⟩ := hl i hi
    unfold f_X10_ledSum_b4 f_X10_ledSum_b45
    rw [gsm] at hy
    by_cases z : w i = 0
    · have e : (if tlg W d i = true then w i * vn W i else 0) = 0 := by rw [z]; simp
      rw [e] at hy
      simp (disch := omega) only [xbn, cw_n h.1, br_le_f, ck_in, nI_clamp, h.2 i hi, br_le0_t, nI_1, Nat.add_zero] at hy ⊢
      exact hy
    · have q : tlg W d i = true := by
        cases q : tlg W d i with
        | true => rfl
        | false => exact absurd (wz q) z
      rw [if_pos q] at hy
      have q' := q
      unfold tlg at q'
      simp only [Bool.and_eq_true, decide_eq_true_eq] at q'
      obtain ⟨v1, v2⟩ := vn_n hw q'.2
      have m6 : μ.1 6 i = nI (vn W i) := (cw_v h.1 hi).trans v1
      simp (disch := omega) only [xbn, cw_n h.1, br_le_f, ck_in, nI_clamp, h.2 i hi, br_le0_f, m6, nI_l, lN_mul, lN_add, nI_1]
      exact hy
  · have l := lsm_le hw hl (Nat.le_refl _)
    unfold f_X10_ledSum_b4
    simp (disch := omega) only [xbn, cw_n h.1, br_le_t, l_1000, dvl_n, pk_lDiv, lN_i]
theorem ls_R {F : Nat} (hF : 2000 ≤ F) {W ρ : Mem} (hw : WF W) {d : Nat} {w : Nat → Nat} (h : RW W (tlg W d) w ρ) (hl : WI2 (tlg W d) (nm W) w) : f_X12_led_b60 F F ρ 0 0 = some (nI (gsm (tlg W d) (fun x => w x * vn W x) (nm W) / 1000), ρ) := by
  have hN := rw_N hw
  refine run_up (N := nm W) (fun n i => f_X12_led_b60 F n ρ (lN (gsm (tlg W d) (fun x => w x * vn W x) i)) (nI i)) (fun n i hi y hy => ?_) (fun n => ?_) F 0 (Nat.zero_le _) (by omega)
  · unfold f_X12_led_b60 f_X12_led_b100
    rw [gsm] at hy
    have h20 := h.2.1 i hi
    cases q : tlg W d i with
    | false =>
      rw [q] at hy h20
      simp (disch := omega) only [xbn, rw_n hw h.1, br_le_f, ck_in, nI_clamp, h20, Bool.false_eq_true, if_false, if_true, Int64.add_zero, nI_1, Nat.add_zero] at hy ⊢
      exact hy
    | true =>
      rw [q] at hy h20
      have q' := q
      unfold tlg at q'
      simp only [Bool.and_eq_true, decide_eq_true_eq] at q'
      obtain ⟨v1, v2⟩ := vn_n hw q'.2
      have ev := vo_eq hF hw h.1 hi
      rw [v1] at ev
      simp (disch := omega) only [xbn, rw_n hw h.1, br_le_f, ck_in, nI_clamp, h20, if_true, show ¬ (1 : Int32) = 0 by decide, if_false, h.2.2 i hi, ev, xca, nI_l, lN_mul, lN_add, nI_1] at hy ⊢
      exact hy
  · have l := lsm_le hw hl (Nat.le_refl _)
    unfold f_X12_led_b60
    simp (disch := omega) only [xbn, rw_n hw h.1, br_le_t, l_1000, dvl_n, pk_lDiv, lN_i]
theorem sim_led {F : Nat} (hF : 2000 ≤ F) (μ ρ : Mem) (a1 a2 a3 a4 : Int32) (h : Rel μ ρ) : ∃ (r : Int32) (μ2 ρ2 : Mem), f_X11_led F μ a1 a2 a3 a4 = some (r, μ2) ∧ f_X12_led F ρ a1 a2 a3 a4 = some (r, ρ2) ∧ Rel μ2 ρ2 := by
  unfold f_X11_led f_X12_led
  rw [wi_eq, wi_eq, in_eq F a3 0 30 (A := 0) (B := 30) rfl rfl, in_eq F a4 0 1 (A := 0) (B := 1) rfl rfl]
  by_cases w3 : wi a3 0 30 = true
  · by_cases w4 : wi a4 0 1 = true
    · obtain ⟨R, hR, rfl⟩ := wi_nat (n := 30) rfl (by decide) w3
      obtain ⟨x, hx, rfl⟩ := wi_nat (n := 1) rfl (by decide) w4
      have hN := rw_N h.1
      rw [w3, w4]
      obtain ⟨r, ρ1, e1, e2, e3, e4⟩ := rf_eq hF h (SmR.rf ρ) a1 a2
      simp only [xcp, xca, xbn, if_true, show ¬ (1 : Int32) = 0 by decide, if_false, not_false_eq_true, e1, e2]
      rcases e4 with rfl | rfl | ⟨rfl, p, d, hp, rfl, hd, rfl, c, r2⟩
      · exact ⟨-2, μ, ρ1, rfl, rfl, q_end h (SmC.rf μ) (ρ := ρ) e3⟩
      · exact ⟨-3, μ, ρ1, rfl, rfl, q_end h (SmC.rf μ) (ρ := ρ) e3⟩
      · have hm := MK_ok hF h hp hd c e1
        obtain ⟨c1, c2, c3⟩ := q_C hF h hp c
        obtain ⟨D, M, B, hb⟩ := SB_ex h.1 c3 hm
        have hs : ∀ x, x < nm ρ → d.testBit x = true → 0 < sA ρ (kp ρ p) (wq ρ p) x := fun x hx hdx => (hb.2.2.2.2 x hx hdx).1
        obtain ⟨μ2, f1, f2, f3, f4⟩ := ld_C hF c2 c3 hd hs hR
        obtain ⟨ρ2, g1, g2, g3⟩ := fw_R hF h.1 r2 c3 hd hs hR
        rw [if_pos (show (0 : Int32) ≤ 0 by decide), if_pos (show (0 : Int32) = 0 from rfl)]
        simp (disch := omega) only [ck_in, nI_clamp, c1, xca, xbn, f1, g1]
        rcases (show x = 0 ∨ x = 1 by omega) with rfl | rfl
        · refine ⟨nI (mss ρ (ldr ρ (w0 ρ (kp ρ p) (wq ρ p) d) R) 0 4 + mss ρ (ldr ρ (w0 ρ (kp ρ p) (wq ρ p) d) R) 1 3), μ2, ρ2, ?_, ?_, q_end h f2 (ρ := ρ) g2.1⟩
          · rw [if_neg (by decide), ms_C hF f3 f4]
            simp only [xca]
          · rw [if_pos (by decide)]
            exact ms_R hF h.1 g2 g3
        · refine ⟨nI (gsm (tlg ρ d) (fun x => ldr ρ (w0 ρ (kp ρ p) (wq ρ p) d) R x * vn ρ x) (nm ρ) / 1000), μ2, ρ2, ?_, ?_, q_end h f2 (ρ := ρ) g2.1⟩
          · rw [if_pos (by decide), ls_C hF f3 f4]
            simp only [xca]
          · rw [if_neg (by decide)]
            exact ls_R hF h.1 g2 g3
    · rw [Bool.not_eq_true] at w4
      rw [w3, w4]
      exact ⟨-2, μ, ρ, rfl, rfl, h⟩
  · rw [Bool.not_eq_true] at w3
    rw [w3]
    exact ⟨-2, μ, ρ, rfl, rfl, h⟩
