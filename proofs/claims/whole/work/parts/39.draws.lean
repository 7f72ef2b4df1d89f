/-! how many draws there are -/
def ch : Nat → Nat → Nat
  | _, 0 => 1
  | 0, _ + 1 => 0
  | n + 1, k + 1 => ch n k + ch n (k + 1)
theorem ch_0 (n : Nat) : ch n 0 = 1 := by cases n <;> rfl
theorem ch_big : ∀ (n k : Nat), n < k → ch n k = 0
  | 0, 0, h => absurd h (by omega)
  | 0, k + 1, _ => rfl
  | n + 1, 0, h => absurd h (by omega)
  | n + 1, k + 1, h => by rw [ch, ch_big n k (by omega), ch_big n (k + 1) (by omega)]
theorem ch_le : ∀ (n k : Nat), ch n k ≤ 2 ^ n
  | n, 0 => by rw [ch_0]; exact Nat.one_le_two_pow
  | 0, k + 1 => Nat.zero_le _
  | n + 1, k + 1 => by
    have a := ch_le n k
    have b := ch_le n (k + 1)
    rw [ch, Nat.pow_succ]
    omega
theorem ch_mul : ∀ (n k : Nat), ch n (k + 1) * (k + 1) = ch n k * (n - k)
  | 0, k => by rw [show ch 0 (k + 1) = 0 from rfl, Nat.zero_mul, Nat.zero_sub, Nat.mul_zero]
  | n + 1, 0 => by
    have h := ch_mul n 0
    rw [ch_0, Nat.zero_add, Nat.mul_one, Nat.sub_zero, Nat.one_mul] at h
    rw [ch_0, ch, ch_0, h, Nat.zero_add, Nat.mul_one, Nat.sub_zero, Nat.one_mul, Nat.add_comm]
  | n + 1, j + 1 => by
    have h1 := ch_mul n (j + 1)
    have h2 := ch_mul n j
    rw [show ch (n + 1) (j + 1 + 1) = ch n (j + 1) + ch n (j + 1 + 1) from rfl, show ch (n + 1) (j + 1) = ch n j + ch n (j + 1) from rfl, Nat.add_mul, Nat.add_mul, h1, show n + 1 - (j + 1) = n - j by omega, ← h2]
    rcases Nat.lt_or_ge n (j + 1) with q | q
    · rw [ch_big n (j + 1) q]
      simp
    · rw [← Nat.mul_add, ← Nat.mul_add, show j + 1 + 1 + (n - (j + 1)) = n + 1 by omega, show j + 1 + (n - j) = n + 1 by omega]
theorem ch_abs {n k : Nat} (h : k ≤ n) : ch (n + 1) (k + 1) * (k + 1) = ch n k * (n + 1) := by
  rw [show ch (n + 1) (k + 1) = ch n k + ch n (k + 1) from rfl, Nat.add_mul, ch_mul, ← Nat.mul_add, show k + 1 + (n - k) = n + 1 by omega]
theorem ov_eq {F : Nat} (hF : 2000 ≤ F) {n r : Nat} (hr : r ≤ n) (hn : n ≤ 30) : f_X12_over F (nI n) (nI r) = some (lN (ch n r)) := by
  unfold f_X12_over
  simp (disch := omega) only [xbn, ite_not, br_le_t, br_le_f, br_lt_t, br_lt_f, br_eq_t, br_eq_f, br_le0_t, br_le0_f, br_lt1_t, br_lt1_f, br_1le_t, br_1le_f, br_eq0_t, br_eq0_f, br_eq1_t, br_eq1_f, br_0le, br_lt0, br_0lt_t, br_0lt_f, br_m1, iof, i_2, i_3, i_4, i_8, i_9, i_10, i_20, i_30, i_90, i_120, i_256, cl_0, cl_1, cl_2, cl_3, Int32.add_zero, nI_add, nI_1, pk_mul, nI_s1, sb_m1, ck_in, ck_0, ck_1, nI_clamp, xcp, xca, xbn]
  have key := run_up (N := r) (r := some (lN (ch n r))) (fun m i => f_X12_over_b16 F m (nI n) (nI r) (lN (ch n i)) (nI i)) (fun m i hi y hy => ?_) (fun m => ?_) F 0 (Nat.zero_le _) (by omega)
  · simp only [ch_0] at key
    exact key
  · have b := ch_le n i
    have p := pow_le30 hn
    have c : ch n i * (n - i) ≤ 2 ^ 30 * 30 := Nat.mul_le_mul (by omega) (by omega)
    unfold f_X12_over_b16
    simp (disch := omega) only [xbn, ite_not, br_le_t, br_le_f, br_lt_t, br_lt_f, br_eq_t, br_eq_f, br_le0_t, br_le0_f, br_lt1_t, br_lt1_f, br_1le_t, br_1le_f, br_eq0_t, br_eq0_f, br_eq1_t, br_eq1_f, br_0le, br_lt0, br_0lt_t, br_0lt_f, br_m1, iof, i_2, i_3, i_4, i_8, i_9, i_10, i_20, i_30, i_90, i_120, i_256, cl_0, cl_1, cl_2, cl_3, Int32.add_zero, nI_add, nI_1, pk_mul, nI_s1, sb_m1, ck_in, ck_0, ck_1, nI_clamp, xcp, xca, xbn, nI_l, pk_sub, lN_mul, dvl_n, pk_lDiv]
    rw [← ch_mul, Nat.mul_div_cancel _ (by omega)]
    exact hy
  · unfold f_X12_over_b16
    simp (disch := omega) only [xbn, ite_not, br_le_t, br_le_f, br_lt_t, br_lt_f, br_eq_t, br_eq_f, br_le0_t, br_le0_f, br_lt1_t, br_lt1_f, br_1le_t, br_1le_f, br_eq0_t, br_eq0_f, br_eq1_t, br_eq1_f, br_0le, br_lt0, br_0lt_t, br_0lt_f, br_m1, iof, i_2, i_3, i_4, i_8, i_9, i_10, i_20, i_30, i_90, i_120, i_256, cl_0, cl_1, cl_2, cl_3, Int32.add_zero, nI_add, nI_1, pk_mul, nI_s1, sb_m1, ck_in, ck_0, ck_1, nI_clamp, xcp, xca, xbn]
theorem wt_eq {F : Nat} (hF : 2000 ≤ F) {n r : Nat} (hr : r ≤ n) (hn : n ≤ 30) : f_X9_waysToTake F (nI r) (nI n) = some (lN (ch n r)) := by
  unfold f_X9_waysToTake
  have e : lN (ch n r) = lN (ch (n - r + r) r) := by rw [show n - r + r = n by omega]
  rw [e]
  have e1 : lN (ch (n - r + 0) 0) = 1 := by rw [ch_0]; rfl
  have key := run_up (N := r) (r := some (lN (ch (n - r + r) r))) (fun m i => f_X9_waysToTake_b5 F m (nI r) (nI n) (lN (ch (n - r + i) i)) (nI (i + 1))) (fun m i hi y hy => ?_) (fun m => ?_) F 0 (Nat.zero_le _) (by omega)
  · simp only [e1] at key
    exact key
  · have b := ch_le (n - r + i) i
    have p := pow_le30 (n := n - r + i) (by omega)
    have c : ch (n - r + i) i * (n - r + (i + 1)) ≤ 2 ^ 30 * 30 := Nat.mul_le_mul (by omega) (by omega)
    unfold f_X9_waysToTake_b5
    simp (disch := omega) only [xbn, ite_not, br_le_t, br_le_f, br_lt_t, br_lt_f, br_eq_t, br_eq_f, br_le0_t, br_le0_f, br_lt1_t, br_lt1_f, br_1le_t, br_1le_f, br_eq0_t, br_eq0_f, br_eq1_t, br_eq1_f, br_0le, br_lt0, br_0lt_t, br_0lt_f, br_m1, iof, i_2, i_3, i_4, i_8, i_9, i_10, i_20, i_30, i_90, i_120, i_256, cl_0, cl_1, cl_2, cl_3, Int32.add_zero, nI_add, nI_1, pk_mul, nI_s1, sb_m1, ck_in, ck_0, ck_1, nI_clamp, xcp, xca, xbn, pk_sub, nI_l, lN_mul, dvl_n, pk_lDiv]
    have a := ch_abs (n := n - r + i) (k := i) (by omega)
    rw [show n - r + (i + 1) = n - r + i + 1 by omega, ← a, Nat.mul_div_cancel _ (by omega)]
    exact hy
  · unfold f_X9_waysToTake_b5
    simp (disch := omega) only [xbn, ite_not, br_le_t, br_le_f, br_lt_t, br_lt_f, br_eq_t, br_eq_f, br_le0_t, br_le0_f, br_lt1_t, br_lt1_f, br_1le_t, br_1le_f, br_eq0_t, br_eq0_f, br_eq1_t, br_eq1_f, br_0le, br_lt0, br_0lt_t, br_0lt_f, br_m1, iof, i_2, i_3, i_4, i_8, i_9, i_10, i_20, i_30, i_90, i_120, i_256, cl_0, cl_1, cl_2, cl_3, Int32.add_zero, nI_add, nI_1, pk_mul, nI_s1, sb_m1, ck_in, ck_0, ck_1, nI_clamp, xcp, xca, xbn]
def stp (W : Mem) (w : Nat → Nat) : Nat := ssz W (nm W) / w 0
theorem stp_le {W : Mem} (hw : WF W) (w : Nat → Nat) : stp W w ≤ 600 := by
  have sl := ssz_le W hw (nm W) (Nat.le_refl _)
  have dl := Nat.div_le_self (ssz W (nm W)) (w 0)
  have hN := rw_N hw
  unfold stp
  omega
/-- so many of each group -/
def prG (W : Mem) (k : Nat) (w : Nat → Nat) : Nat → Int64
  | 0 => 1
  | i + 1 => prG W k w i * lN (ch (gs W k i) (w i))
/-- taken of a cluster -/
def tC (W : Mem) (w : Nat → Nat) (c : Nat) : Nat := min (w 1) (nC W c)
theorem tC_le (W : Mem) (w : Nat → Nat) (c : Nat) : tC W w c ≤ nC W c := Nat.min_le_right _ _
/-- ways to take so many of the first c clusters -/
def tkA (W : Mem) (w : Nat → Nat) : Nat → Nat → Int64
  | 0, j => if j = 0 then 1 else 0
  | c + 1, j => if nC W c = 0 ∨ j = 0 then tkA W w c j else tkA W w c j + lN (ch (nC W c) (tC W w c)) * tkA W w c (j - 1)
def DR (W : Mem) (k : Nat) (w : Nat → Nat) : Int64 := if k = 1 then lN (ch (nm W) (w 0)) else if k = 2 then prG W 2 w 4 else if k = 3 then lN (w 0) else if k = 4 then lN (stp W w) else tkA W w 8 (w 0)
theorem cs_eq (F : Nat) {W μ : Mem} (h : Rel μ W) (t : Nat) {c : Nat} (hc : c < 8) : f_X8_sizeOf F μ t (nI c) = some (nI (nC W c), μ) := by
  unfold f_X8_sizeOf
  simp (disch := omega) only [xcp, xca, xbn, ck_in, nI_clamp, cw_cb h hc, bc_msk _ _ (rw_N h.1)]
  rfl
theorem to_eq (F : Nat) {W : Mem} {w : Nat → Nat} {t : Nat} {μ : Mem} (h : WY W 5 w t μ) (hb : w 1 ≤ 99) {c : Nat} (hc : c < 8) : f_X8_takenOf F μ t (nI c) = some (nI (tC W w c), μ) := by
  have l := nC_le W h.1.1 c
  unfold f_X8_takenOf mni
  simp (disch := omega) only [xbn, ite_not, br_le_t, br_le_f, br_lt_t, br_lt_f, br_eq_t, br_eq_f, br_le0_t, br_le0_f, br_lt1_t, br_lt1_f, br_1le_t, br_1le_f, br_eq0_t, br_eq0_f, br_eq1_t, br_eq1_f, br_0le, br_lt0, br_0lt_t, br_0lt_f, br_m1, iof, i_2, i_3, i_4, i_8, i_9, i_10, i_20, i_30, i_90, i_120, i_256, cl_0, cl_1, cl_2, cl_3, Int32.add_zero, nI_add, nI_1, pk_mul, nI_s1, sb_m1, ck_in, ck_0, ck_1, nI_clamp, xcp, xca, xbn, h.num (show 1 < cntOf 5 by decide), cs_eq F h.1 t hc]
  unfold tC
  by_cases q : nC W c < w 1
  · rw [br_lt_t q (by omega), Nat.min_eq_right (by omega)]
  · rw [br_lt_f (by omega) (by omega), Nat.min_eq_left (by omega)]
theorem oc_eq {F : Nat} (hF : 2000 ≤ F) {W : Mem} {w : Nat → Nat} {ρ : Mem} (hw : WF W) (h : RY W 5 w ρ) (hb : w 1 ≤ 99) {c : Nat} (hc : c < 8) : f_X12_ofCluster F ρ (nI c) = some (nI (tC W w c), ρ) := by
  have l := nC_le W hw c
  unfold f_X12_ofCluster
  simp (disch := omega) only [xbn, ite_not, br_le_t, br_le_f, br_lt_t, br_lt_f, br_eq_t, br_eq_f, br_le0_t, br_le0_f, br_lt1_t, br_lt1_f, br_1le_t, br_1le_f, br_eq0_t, br_eq0_f, br_eq1_t, br_eq1_f, br_0le, br_lt0, br_0lt_t, br_0lt_f, br_m1, iof, i_2, i_3, i_4, i_8, i_9, i_10, i_20, i_30, i_90, i_120, i_256, cl_0, cl_1, cl_2, cl_3, Int32.add_zero, nI_add, nI_1, pk_mul, nI_s1, sb_m1, ck_in, ck_0, ck_1, nI_clamp, xcp, xca, xbn, mo_c hF hw h.1, h.2.2.1 1 (by decide)]
  unfold tC
  by_cases q : nC W c ≤ w 1
  · rw [br_le_t q (by omega), Nat.min_eq_right (by omega)]
  · rw [br_le_f (by omega) (by omega), Nat.min_eq_left (by omega)]
theorem cwG {F : Nat} (hF : 2000 ≤ F) {W : Mem} {k : Nat} {w : Nat → Nat} {t : Nat} {μ : Mem} (h : WY W k w t μ) (hk : k = 1 ∨ k = 2) (hc : ∀ g, g < cntOf k → w g ≤ gs W k g) : f_X2_countWays F μ t = some (prG W k w (cntOf k), μ) := by
  have hc4 : cntOf k ≤ 4 := by rcases hk with rfl | rfl <;> decide
  have k3 := (h.k12 hk).2.2
  unfold f_X2_countWays
  refine run_up (N := cntOf k) (fun n i => f_X2_countWays_b4 F n μ t (prG W k w i) (nI i)) (fun n i hi y hy => ?_) (fun n => ?_) F 0 (Nat.zero_le _) (by omega)
  · have g1 := gs_le h.1.1 k i
    unfold f_X2_countWays_b4
    simp (disch := omega) only [xbn, ite_not, br_le_t, br_le_f, br_lt_t, br_lt_f, br_eq_t, br_eq_f, br_le0_t, br_le0_f, br_lt1_t, br_lt1_f, br_1le_t, br_1le_f, br_eq0_t, br_eq0_f, br_eq1_t, br_eq1_f, br_0le, br_lt0, br_0lt_t, br_0lt_f, br_m1, iof, i_2, i_3, i_4, i_8, i_9, i_10, i_20, i_30, i_90, i_120, i_256, cl_0, cl_1, cl_2, cl_3, Int32.add_zero, nI_add, nI_1, pk_mul, nI_s1, sb_m1, ck_in, ck_0, ck_1, nI_clamp, xcp, xca, xbn, k3, h.num hi, gz_eq F h hk hi, wt_eq hF (hc i hi) g1]
    exact hy
  · unfold f_X2_countWays_b4
    simp (disch := omega) only [xbn, ite_not, br_le_t, br_le_f, br_lt_t, br_lt_f, br_eq_t, br_eq_f, br_le0_t, br_le0_f, br_lt1_t, br_lt1_f, br_1le_t, br_1le_f, br_eq0_t, br_eq0_f, br_eq1_t, br_eq1_f, br_0le, br_lt0, br_0lt_t, br_0lt_f, br_m1, iof, i_2, i_3, i_4, i_8, i_9, i_10, i_20, i_30, i_90, i_120, i_256, cl_0, cl_1, cl_2, cl_3, Int32.add_zero, nI_add, nI_1, pk_mul, nI_s1, sb_m1, ck_in, ck_0, ck_1, nI_clamp, xcp, xca, xbn, k3]
/-- the class: one cluster more -/
theorem cw_in {F : Nat} {k30 : Mem → Nat → Int32 → Option (Int64 × Mem)} {t : Nat} (x1 : Int32) (x2 : Int64) : ∀ (i n : Nat) (μ : Mem), i ≤ 8 → i < n → ∃ μ2, f_X8_countWays_b65 F k30 n μ t x1 x2 (nI i) = k30 μ2 t (x1 + 1) ∧ μ2.1 = μ.1 ∧ μ2.2.2 = μ.2.2 ∧ (∀ j, j = 0 ∨ i < j → μ2.2.1 (t + 1) j = μ.2.1 (t + 1) j) ∧ ∀ j, 1 ≤ j → j ≤ i → μ2.2.1 (t + 1) j = μ.2.1 (t + 1) j + x2 * μ.2.1 (t + 1) (j - 1) := by
  intro i
  induction i with
  | zero =>
    intro n μ h1 h2
    obtain ⟨n, rfl⟩ : ∃ a, n = a + 1 := ⟨n - 1, by omega⟩
    unfold f_X8_countWays_b65 f_X8_countWays_b98
    simp (disch := omega) only [xbn, ite_not, br_le_t, br_le_f, br_lt_t, br_lt_f, br_eq_t, br_eq_f, br_le0_t, br_le0_f, br_lt1_t, br_lt1_f, br_1le_t, br_1le_f, br_eq0_t, br_eq0_f, br_eq1_t, br_eq1_f, br_0le, br_lt0, br_0lt_t, br_0lt_f, br_m1, iof, i_2, i_3, i_4, i_8, i_9, i_10, i_20, i_30, i_90, i_120, i_256, cl_0, cl_1, cl_2, cl_3, Int32.add_zero, nI_add, nI_1, pk_mul, nI_s1, sb_m1, ck_in, ck_0, ck_1, nI_clamp, xcp, xca, xbn]
    exact ⟨μ, rfl, rfl, rfl, fun _ _ => rfl, fun j q1 q2 => absurd q1 (by omega)⟩
  | succ i ih =>
    intro n μ h1 h2
    obtain ⟨n, rfl⟩ : ∃ a, n = a + 1 := ⟨n - 1, by omega⟩
    unfold f_X8_countWays_b65
    simp (disch := omega) only [xbn, ite_not, br_le_t, br_le_f, br_lt_t, br_lt_f, br_eq_t, br_eq_f, br_le0_t, br_le0_f, br_lt1_t, br_lt1_f, br_1le_t, br_1le_f, br_eq0_t, br_eq0_f, br_eq1_t, br_eq1_f, br_0le, br_lt0, br_0lt_t, br_0lt_f, br_m1, iof, i_2, i_3, i_4, i_8, i_9, i_10, i_20, i_30, i_90, i_120, i_256, cl_0, cl_1, cl_2, cl_3, Int32.add_zero, nI_add, nI_1, pk_mul, nI_s1, sb_m1, ck_in, ck_0, ck_1, nI_clamp, xcp, xca, xbn, Nat.add_sub_cancel]
    obtain ⟨μ2, e1, e2, e3, e4, e5⟩ := ih n (ul μ (t + 1) (i + 1) (μ.2.1 (t + 1) (i + 1) + x2 * μ.2.1 (t + 1) i)) (by omega) (by omega)
    refine ⟨μ2, e1, e2, e3, fun j hj => ?_, fun j q1 q2 => ?_⟩
    · rw [e4 j (by omega), ul_o (by omega)]
    · by_cases ej : j = i + 1
      · subst ej
        rw [e4 _ (by omega), ul_s, Nat.add_sub_cancel]
      · rw [e5 j q1 (by omega), ul_o ej, ul_o (by omega)]
theorem cw_0 {F : Nat} {t : Nat} : ∀ (n i : Nat) (μ : Mem), 1 ≤ i → i ≤ 9 → 9 < n + i → ∃ μ2, f_X8_countWays_b9 F n μ t (nI i) = f_X8_countWays_b30 F F μ2 t 0 ∧ μ2.1 = μ.1 ∧ μ2.2.2 = μ.2.2 ∧ ∀ j, μ2.2.1 (t + 1) j = if i ≤ j ∧ j < 9 then 0 else μ.2.1 (t + 1) j := by
  intro n
  induction n with
  | zero => intro i μ h0 h1 h2; exact absurd h2 (by omega)
  | succ n ih =>
    intro i μ h0 h1 h2
    unfold f_X8_countWays_b9
    by_cases hi : i = 9
    · subst hi
      simp (disch := omega) only [xbn, ite_not, br_le_t, br_le_f, br_lt_t, br_lt_f, br_eq_t, br_eq_f, br_le0_t, br_le0_f, br_lt1_t, br_lt1_f, br_1le_t, br_1le_f, br_eq0_t, br_eq0_f, br_eq1_t, br_eq1_f, br_0le, br_lt0, br_0lt_t, br_0lt_f, br_m1, iof, i_2, i_3, i_4, i_8, i_9, i_10, i_20, i_30, i_90, i_120, i_256, cl_0, cl_1, cl_2, cl_3, Int32.add_zero, nI_add, nI_1, pk_mul, nI_s1, sb_m1, ck_in, ck_0, ck_1, nI_clamp, xcp, xca, xbn]
      refine ⟨μ, rfl, rfl, rfl, fun j => ?_⟩
      rw [if_neg (by omega)]
    · simp (disch := omega) only [xbn, ite_not, br_le_t, br_le_f, br_lt_t, br_lt_f, br_eq_t, br_eq_f, br_le0_t, br_le0_f, br_lt1_t, br_lt1_f, br_1le_t, br_1le_f, br_eq0_t, br_eq0_f, br_eq1_t, br_eq1_f, br_0le, br_lt0, br_0lt_t, br_0lt_f, br_m1, iof, i_2, i_3, i_4, i_8, i_9, i_10, i_20, i_30, i_90, i_120, i_256, cl_0, cl_1, cl_2, cl_3, Int32.add_zero, nI_add, nI_1, pk_mul, nI_s1, sb_m1, ck_in, ck_0, ck_1, nI_clamp, xcp, xca, xbn]
      obtain ⟨μ2, e1, e2, e3, e4⟩ := ih (i + 1) (ul μ (t + 1) i 0) (by omega) (by omega) (by omega)
      refine ⟨μ2, e1, e2, e3, fun j => ?_⟩
      rw [e4]
      by_cases q : j = i
      · subst q
        rw [if_neg (by omega), ul_s, if_pos (by omega)]
      · rw [ul_o q]
        by_cases q2 : i + 1 ≤ j ∧ j < 9
        · rw [if_pos q2, if_pos (by omega)]
        · rw [if_neg q2, if_neg (by omega)]
theorem smc_eq {μ μ2 : Mem} (h1 : μ2.1 = μ.1) (h2 : μ2.2.2 = μ.2.2) : SmC μ μ2 := ⟨by rw [h1], fun _ _ => by rw [h1], fun _ _ => ⟨by rw [h1], by rw [h1], by rw [h1], by rw [h2]⟩, fun _ _ _ _ _ _ _ => by rw [h1]⟩
theorem cw5 {F : Nat} (hF : 2000 ≤ F) {W : Mem} {w : Nat → Nat} {t : Nat} {μ : Mem} (h : WY W 5 w t μ) (hb : w 1 ≤ 99) (hc : w 0 ≤ 8) : ∃ μ2, f_X8_countWays F μ t = some (tkA W w 8 (w 0), μ2) ∧ SmC μ μ2 := by
  unfold f_X8_countWays
  simp (disch := omega) only [xbn, ite_not, br_le_t, br_le_f, br_lt_t, br_lt_f, br_eq_t, br_eq_f, br_le0_t, br_le0_f, br_lt1_t, br_lt1_f, br_1le_t, br_1le_f, br_eq0_t, br_eq0_f, br_eq1_t, br_eq1_f, br_0le, br_lt0, br_0lt_t, br_0lt_f, br_m1, iof, i_2, i_3, i_4, i_8, i_9, i_10, i_20, i_30, i_90, i_120, i_256, cl_0, cl_1, cl_2, cl_3, Int32.add_zero, nI_add, nI_1, pk_mul, nI_s1, sb_m1, ck_in, ck_0, ck_1, nI_clamp, xcp, xca, xbn]
  obtain ⟨μ1, e1, e2, e3, e4⟩ := cw_0 (F := F) (t := t) F 1 (ul μ (t + 1) 0 1) (by omega) (by omega) (by omega)
  have e1' : f_X8_countWays_b9 F F (ul μ (t + 1) 0 1) t 1 = f_X8_countWays_b30 F F μ1 t 0 := e1
  rw [e1']
  refine run_rel (N := 8) (fun n i μ' => f_X8_countWays_b30 F n μ' t (nI i)) (fun i μ' => μ'.1 = μ.1 ∧ μ'.2.2 = μ.2.2 ∧ ∀ j, j ≤ 8 → μ'.2.1 (t + 1) j = tkA W w i j) (fun o => ∃ μ2, o = some (tkA W w 8 (w 0), μ2) ∧ SmC μ μ2) (fun n i μ' hi hI => Or.inl ?_) (fun n μ' hI => ?_) F 0 μ1 (Nat.zero_le _) (by omega) ⟨by rw [e2]; rfl, by rw [e3]; rfl, fun j hj => ?_⟩
  · obtain ⟨i1, i2, i3⟩ := hI
    have hy := h.sm (smc_eq i1 i2)
    have l := nC_le W h.1.1 i
    by_cases q : nC W i = 0
    · refine ⟨μ', ⟨i1, i2, fun j hj => by rw [i3 j hj, tkA, if_pos (Or.inl q)]⟩, fun y hy2 => ?_⟩
      unfold f_X8_countWays_b30 f_X8_countWays_b98
      simp (disch := omega) only [xbn, ite_not, br_le_t, br_le_f, br_lt_t, br_lt_f, br_eq_t, br_eq_f, br_le0_t, br_le0_f, br_lt1_t, br_lt1_f, br_1le_t, br_1le_f, br_eq0_t, br_eq0_f, br_eq1_t, br_eq1_f, br_0le, br_lt0, br_0lt_t, br_0lt_f, br_m1, iof, i_2, i_3, i_4, i_8, i_9, i_10, i_20, i_30, i_90, i_120, i_256, cl_0, cl_1, cl_2, cl_3, Int32.add_zero, nI_add, nI_1, pk_mul, nI_s1, sb_m1, ck_in, ck_0, ck_1, nI_clamp, xcp, xca, xbn, cs_eq F hy.1 t hi]
      exact hy2
    · have w1 := wt_eq hF (tC_le W w i) l
      obtain ⟨μ2, f1, f2, f3, f4, f5⟩ := cw_in (F := F) (k30 := fun μ' t' x1' => f_X8_countWays_b30 F n μ' t' x1') (t := t) (nI i) (lN (ch (nC W i) (tC W w i))) 8 F μ' (by omega) (by omega)
      refine ⟨μ2, ⟨by rw [f2, i1], by rw [f3, i2], fun j hj => ?_⟩, fun y hy2 => ?_⟩
      · rw [tkA]
        by_cases j0 : j = 0
        · rw [if_pos (Or.inr j0), f4 j (Or.inl j0), i3 j hj]
        · rw [if_neg (by omega), f5 j (by omega) hj, i3 j hj, i3 (j - 1) (by omega)]
      · have f1' : f_X8_countWays_b65 F (fun μ' t' x1' => f_X8_countWays_b30 F n μ' t' x1') F μ' t (nI i) (lN (ch (nC W i) (tC W w i))) (nI 8) = f_X8_countWays_b30 F n μ2 t (nI i + 1) := f1
        unfold f_X8_countWays_b30
        simp (disch := omega) only [xbn, ite_not, br_le_t, br_le_f, br_lt_t, br_lt_f, br_eq_t, br_eq_f, br_le0_t, br_le0_f, br_lt1_t, br_lt1_f, br_1le_t, br_1le_f, br_eq0_t, br_eq0_f, br_eq1_t, br_eq1_f, br_0le, br_lt0, br_0lt_t, br_0lt_f, br_m1, iof, i_2, i_3, i_4, i_8, i_9, i_10, i_20, i_30, i_90, i_120, i_256, cl_0, cl_1, cl_2, cl_3, Int32.add_zero, nI_add, nI_1, pk_mul, nI_s1, sb_m1, ck_in, ck_0, ck_1, nI_clamp, xcp, xca, xbn, cs_eq F hy.1 t hi, to_eq F hy hb hi, w1, f1']
        exact hy2
  · obtain ⟨i1, i2, i3⟩ := hI
    have hy := h.sm (smc_eq i1 i2)
    unfold f_X8_countWays_b30
    simp (disch := omega) only [xbn, ite_not, br_le_t, br_le_f, br_lt_t, br_lt_f, br_eq_t, br_eq_f, br_le0_t, br_le0_f, br_lt1_t, br_lt1_f, br_1le_t, br_1le_f, br_eq0_t, br_eq0_f, br_eq1_t, br_eq1_f, br_0le, br_lt0, br_0lt_t, br_0lt_f, br_m1, iof, i_2, i_3, i_4, i_8, i_9, i_10, i_20, i_30, i_90, i_120, i_256, cl_0, cl_1, cl_2, cl_3, Int32.add_zero, nI_add, nI_1, pk_mul, nI_s1, sb_m1, ck_in, ck_0, ck_1, nI_clamp, xcp, xca, xbn, hy.num (show 0 < cntOf 5 by decide)]
    have e : wi (nI (w 0)) 0 (nI 8) = true := by
      rw [show (0 : Int32) = nI 0 from rfl, wi_n (by omega) (by omega) (by omega)]
      simp [hc]
    rw [wi_eq, e, i3 _ hc]
    exact ⟨μ', rfl, smc_eq i1 i2⟩
  · rw [e4, tkA]
    by_cases j0 : j = 0
    · subst j0
      rw [if_neg (by omega), if_pos rfl, ul_s]
    · rw [if_pos (by omega), if_neg j0]
/-- the reference: one cluster more -/
theorem RY.sm {W : Mem} {k : Nat} {w : Nat → Nat} {ρ ρ2 : Mem} (h : RY W k w ρ) (hc : ρ2.1 = ρ.1) : RY W k w ρ2 := by
  obtain ⟨h1, h2, h3, h4, h5⟩ := h
  exact ⟨⟨fun c q => by rw [hc]; exact h1.1 c q, by rw [hc]; exact h1.2.1, by rw [hc]; exact h1.2.2.1, by rw [hc]; exact h1.2.2.2.1, by rw [hc]; exact h1.2.2.2.2⟩, by rw [hc]; exact h2, by rw [hc]; exact h3, by rw [hc]; exact h4, h5⟩
theorem rt_in {F : Nat} (hF : 2000 ≤ F) {W : Mem} (hw : WF W) {w : Nat → Nat} (hb : w 1 ≤ 99) {k130 : Mem → Int32 → Option (Int64 × Mem)} {c : Nat} (hc : c < 8) (hp : 0 < nC W c) : ∀ (i n : Nat) (ρ : Mem), RY W 5 w ρ → i ≤ 8 → i < n → ∃ ρ2, f_X12_drawsNow_b146 F k130 n ρ (nI c) (nI (nC W c)) (nI i) = k130 ρ2 (nI (c + 1)) ∧ ρ2.1 = ρ.1 ∧ (∀ x, x ≠ 16 → ρ2.2.1 x = ρ.2.1 x) ∧ (∀ j, j = 0 ∨ i < j → ρ2.2.1 16 j = ρ.2.1 16 j) ∧ ∀ j, 1 ≤ j → j ≤ i → ρ2.2.1 16 j = ρ.2.1 16 j + lN (ch (nC W c) (tC W w c)) * ρ.2.1 16 (j - 1) := by
  intro i
  induction i with
  | zero =>
    intro n ρ hr h1 h2
    obtain ⟨n, rfl⟩ : ∃ a, n = a + 1 := ⟨n - 1, by omega⟩
    unfold f_X12_drawsNow_b146 f_X12_drawsNow_b187
    simp (disch := omega) only [xbn, ite_not, br_le_t, br_le_f, br_lt_t, br_lt_f, br_eq_t, br_eq_f, br_le0_t, br_le0_f, br_lt1_t, br_lt1_f, br_1le_t, br_1le_f, br_eq0_t, br_eq0_f, br_eq1_t, br_eq1_f, br_0le, br_lt0, br_0lt_t, br_0lt_f, br_m1, iof, i_2, i_3, i_4, i_8, i_9, i_10, i_20, i_30, i_90, i_120, i_256, cl_0, cl_1, cl_2, cl_3, Int32.add_zero, nI_add, nI_1, pk_mul, nI_s1, sb_m1, ck_in, ck_0, ck_1, nI_clamp, xcp, xca, xbn]
    exact ⟨ρ, rfl, rfl, fun _ _ => rfl, fun _ _ => rfl, fun j q1 q2 => absurd q1 (by omega)⟩
  | succ i ih =>
    intro n ρ hr h1 h2
    have l := nC_le W hw c
    obtain ⟨n, rfl⟩ : ∃ a, n = a + 1 := ⟨n - 1, by omega⟩
    unfold f_X12_drawsNow_b146
    simp (disch := omega) only [xbn, ite_not, br_le_t, br_le_f, br_lt_t, br_lt_f, br_eq_t, br_eq_f, br_le0_t, br_le0_f, br_lt1_t, br_lt1_f, br_1le_t, br_1le_f, br_eq0_t, br_eq0_f, br_eq1_t, br_eq1_f, br_0le, br_lt0, br_0lt_t, br_0lt_f, br_m1, iof, i_2, i_3, i_4, i_8, i_9, i_10, i_20, i_30, i_90, i_120, i_256, cl_0, cl_1, cl_2, cl_3, Int32.add_zero, nI_add, nI_1, pk_mul, nI_s1, sb_m1, ck_in, ck_0, ck_1, nI_clamp, xcp, xca, xbn, Nat.add_sub_cancel, oc_eq hF hw hr hb hc, ov_eq hF (tC_le W w c) l]
    obtain ⟨ρ2, e1, e2, e3, e4, e5⟩ := ih n (ul ρ 16 (i + 1) (ρ.2.1 16 (i + 1) + ρ.2.1 16 i * lN (ch (nC W c) (tC W w c)))) (hr.sm rfl) (by omega) (by omega)
    refine ⟨ρ2, e1, e2, fun x hx => by rw [e3 x hx, ul_ne hx], fun j hj => ?_, fun j q1 q2 => ?_⟩
    · rw [e4 j (by omega), ul_o (by omega)]
    · by_cases ej : j = i + 1
      · subst ej
        rw [e4 _ (by omega), ul_s, Nat.add_sub_cancel, Int64.mul_comm]
      · rw [e5 j q1 (by omega), ul_o ej, ul_o (by omega)]
theorem rt_0 {F : Nat} : ∀ (n i : Nat) (ρ : Mem), i ≤ 9 → 9 < n + i → ∃ ρ2, f_X12_drawsNow_b101 F n ρ (nI i) = f_X12_drawsNow_b130 F F ρ2 0 ∧ ρ2.1 = ρ.1 ∧ (∀ x, x ≠ 16 → ρ2.2.1 x = ρ.2.1 x) ∧ ∀ j, ρ2.2.1 16 j = if i ≤ j ∧ j < 9 then (if j = 0 then 1 else 0) else ρ.2.1 16 j := by
  intro n
  induction n with
  | zero => intro i ρ h1 h2; exact absurd h2 (by omega)
  | succ n ih =>
    intro i ρ h1 h2
    unfold f_X12_drawsNow_b101 f_X12_drawsNow_b121
    by_cases hi : i = 9
    · subst hi
      simp (disch := omega) only [xbn, ite_not, br_le_t, br_le_f, br_lt_t, br_lt_f, br_eq_t, br_eq_f, br_le0_t, br_le0_f, br_lt1_t, br_lt1_f, br_1le_t, br_1le_f, br_eq0_t, br_eq0_f, br_eq1_t, br_eq1_f, br_0le, br_lt0, br_0lt_t, br_0lt_f, br_m1, iof, i_2, i_3, i_4, i_8, i_9, i_10, i_20, i_30, i_90, i_120, i_256, cl_0, cl_1, cl_2, cl_3, Int32.add_zero, nI_add, nI_1, pk_mul, nI_s1, sb_m1, ck_in, ck_0, ck_1, nI_clamp, xcp, xca, xbn]
      refine ⟨ρ, rfl, rfl, fun _ _ => rfl, fun j => ?_⟩
      rw [if_neg (by omega)]
    · have fin : ∀ v : Int64, (v = if i = 0 then 1 else 0) → ∃ ρ2, f_X12_drawsNow_b101 F n (ul ρ 16 i v) (nI (i + 1)) = f_X12_drawsNow_b130 F F ρ2 0 ∧ ρ2.1 = ρ.1 ∧ (∀ x, x ≠ 16 → ρ2.2.1 x = ρ.2.1 x) ∧ ∀ j, ρ2.2.1 16 j = if i ≤ j ∧ j < 9 then (if j = 0 then 1 else 0) else ρ.2.1 16 j := by
        intro v hv
        obtain ⟨ρ2, e1, e2, e3, e4⟩ := ih (i + 1) (ul ρ 16 i v) (by omega) (by omega)
        refine ⟨ρ2, e1, e2, fun x hx => by rw [e3 x hx, ul_ne hx], fun j => ?_⟩
        rw [e4]
        by_cases q : j = i
        · subst q
          rw [if_neg (by omega), ul_s, if_pos (by omega), hv]
        · rw [ul_o q]
          by_cases q2 : i + 1 ≤ j ∧ j < 9
          · rw [if_pos q2, if_pos (show i ≤ j ∧ j < 9 by omega)]
          · rw [if_neg q2, if_neg (by omega)]
      by_cases i0 : i = 0
      · subst i0
        simp (disch := omega) only [xbn, ite_not, br_le_t, br_le_f, br_lt_t, br_lt_f, br_eq_t, br_eq_f, br_le0_t, br_le0_f, br_lt1_t, br_lt1_f, br_1le_t, br_1le_f, br_eq0_t, br_eq0_f, br_eq1_t, br_eq1_f, br_0le, br_lt0, br_0lt_t, br_0lt_f, br_m1, iof, i_2, i_3, i_4, i_8, i_9, i_10, i_20, i_30, i_90, i_120, i_256, cl_0, cl_1, cl_2, cl_3, Int32.add_zero, nI_add, nI_1, pk_mul, nI_s1, sb_m1, ck_in, ck_0, ck_1, nI_clamp, xcp, xca, xbn]
        exact fin 1 rfl
      · simp (disch := omega) only [xbn, ite_not, br_le_t, br_le_f, br_lt_t, br_lt_f, br_eq_t, br_eq_f, br_le0_t, br_le0_f, br_lt1_t, br_lt1_f, br_1le_t, br_1le_f, br_eq0_t, br_eq0_f, br_eq1_t, br_eq1_f, br_0le, br_lt0, br_0lt_t, br_0lt_f, br_m1, iof, i_2, i_3, i_4, i_8, i_9, i_10, i_20, i_30, i_90, i_120, i_256, cl_0, cl_1, cl_2, cl_3, Int32.add_zero, nI_add, nI_1, pk_mul, nI_s1, sb_m1, ck_in, ck_0, ck_1, nI_clamp, xcp, xca, xbn]
        exact fin 0 (by rw [if_neg i0])
theorem rt_eq {F : Nat} (hF : 2000 ≤ F) {W : Mem} (hw : WF W) {w : Nat → Nat} {ρ : Mem} (h : RY W 5 w ρ) (hb : w 1 ≤ 99) (hc : w 0 ≤ 8) : ∃ ρ2, f_X12_drawsNow_b101 F F ρ 0 = some (tkA W w 8 (w 0), ρ2) ∧ ρ2.1 = ρ.1 ∧ ∀ x, x ≠ 16 → ρ2.2.1 x = ρ.2.1 x := by
  obtain ⟨ρ1, e1, e2, e3, e4⟩ := rt_0 (F := F) F 0 ρ (by omega) (by omega)
  have e1' : f_X12_drawsNow_b101 F F ρ 0 = f_X12_drawsNow_b130 F F ρ1 0 := e1
  rw [e1']
  refine run_rel (N := 8) (fun n i ρ' => f_X12_drawsNow_b130 F n ρ' (nI i)) (fun i ρ' => ρ'.1 = ρ.1 ∧ (∀ x, x ≠ 16 → ρ'.2.1 x = ρ.2.1 x) ∧ ∀ j, j ≤ 8 → ρ'.2.1 16 j = tkA W w i j) (fun o => ∃ ρ2, o = some (tkA W w 8 (w 0), ρ2) ∧ ρ2.1 = ρ.1 ∧ ∀ x, x ≠ 16 → ρ2.2.1 x = ρ.2.1 x) (fun n i ρ' hi hI => Or.inl ?_) (fun n ρ' hI => ?_) F 0 ρ1 (Nat.zero_le _) (by omega) ⟨e2, e3, fun j hj => ?_⟩
  · obtain ⟨i1, i2, i3⟩ := hI
    have hy := h.sm i1
    have l := nC_le W hw i
    by_cases q : nC W i = 0
    · refine ⟨ρ', ⟨i1, i2, fun j hj => by rw [i3 j hj, tkA, if_pos (Or.inl q)]⟩, fun y hy2 => ?_⟩
      obtain ⟨m, rfl⟩ : ∃ m, F = m + 1 := ⟨F - 1, by omega⟩
      unfold f_X12_drawsNow_b130
      simp (disch := omega) only [xbn, ite_not, br_le_t, br_le_f, br_lt_t, br_lt_f, br_eq_t, br_eq_f, br_le0_t, br_le0_f, br_lt1_t, br_lt1_f, br_1le_t, br_1le_f, br_eq0_t, br_eq0_f, br_eq1_t, br_eq1_f, br_0le, br_lt0, br_0lt_t, br_0lt_f, br_m1, iof, i_2, i_3, i_4, i_8, i_9, i_10, i_20, i_30, i_90, i_120, i_256, cl_0, cl_1, cl_2, cl_3, Int32.add_zero, nI_add, nI_1, pk_mul, nI_s1, sb_m1, ck_in, ck_0, ck_1, nI_clamp, xcp, xca, xbn, mo_c hF hw hy.1, q]
      rw [f_X12_drawsNow_b146]
      unfold f_X12_drawsNow_b187
      simp (disch := omega) only [xbn, ite_not, br_le_t, br_le_f, br_lt_t, br_lt_f, br_eq_t, br_eq_f, br_le0_t, br_le0_f, br_lt1_t, br_lt1_f, br_1le_t, br_1le_f, br_eq0_t, br_eq0_f, br_eq1_t, br_eq1_f, br_0le, br_lt0, br_0lt_t, br_0lt_f, br_m1, iof, i_2, i_3, i_4, i_8, i_9, i_10, i_20, i_30, i_90, i_120, i_256, cl_0, cl_1, cl_2, cl_3, Int32.add_zero, nI_add, nI_1, pk_mul, nI_s1, sb_m1, ck_in, ck_0, ck_1, nI_clamp, xcp, xca, xbn]
      exact hy2
    · obtain ⟨ρ2, f1, f2, f3, f4, f5⟩ := rt_in hF hw hb (k130 := fun μ' x1' => f_X12_drawsNow_b130 F n μ' x1') hi (by omega) 8 F ρ' hy (by omega) (by omega)
      refine ⟨ρ2, ⟨by rw [f2, i1], fun x hx => by rw [f3 x hx, i2 x hx], fun j hj => ?_⟩, fun y hy2 => ?_⟩
      · rw [tkA]
        by_cases j0 : j = 0
        · rw [if_pos (Or.inr j0), f4 j (Or.inl j0), i3 j hj]
        · rw [if_neg (by omega), f5 j (by omega) hj, i3 j hj, i3 (j - 1) (by omega)]
      · unfold f_X12_drawsNow_b130
        simp (disch := omega) only [xbn, ite_not, br_le_t, br_le_f, br_lt_t, br_lt_f, br_eq_t, br_eq_f, br_le0_t, br_le0_f, br_lt1_t, br_lt1_f, br_1le_t, br_1le_f, br_eq0_t, br_eq0_f, br_eq1_t, br_eq1_f, br_0le, br_lt0, br_0lt_t, br_0lt_f, br_m1, iof, i_2, i_3, i_4, i_8, i_9, i_10, i_20, i_30, i_90, i_120, i_256, cl_0, cl_1, cl_2, cl_3, Int32.add_zero, nI_add, nI_1, pk_mul, nI_s1, sb_m1, ck_in, ck_0, ck_1, nI_clamp, xcp, xca, xbn, mo_c hF hw hy.1, f1]
        exact hy2
  · obtain ⟨i1, i2, i3⟩ := hI
    have hy := h.sm i1
    unfold f_X12_drawsNow_b130
    simp (disch := omega) only [xbn, ite_not, br_le_t, br_le_f, br_lt_t, br_lt_f, br_eq_t, br_eq_f, br_le0_t, br_le0_f, br_lt1_t, br_lt1_f, br_1le_t, br_1le_f, br_eq0_t, br_eq0_f, br_eq1_t, br_eq1_f, br_0le, br_lt0, br_0lt_t, br_0lt_f, br_m1, iof, i_2, i_3, i_4, i_8, i_9, i_10, i_20, i_30, i_90, i_120, i_256, cl_0, cl_1, cl_2, cl_3, Int32.add_zero, nI_add, nI_1, pk_mul, nI_s1, sb_m1, ck_in, ck_0, ck_1, nI_clamp, xcp, xca, xbn, hy.2.2.1 0 (show 0 < cntOf 5 by decide)]
    rw [i3 _ hc]
    exact ⟨ρ', rfl, i1, i2⟩
  · rw [e4, if_pos (by omega), tkA]
theorem dnL {F : Nat} (hF : 2000 ≤ F) {W : Mem} (hw : WF W) {w : Nat → Nat} {ρ : Mem} (h : RY W 2 w ρ) (hc : ∀ l, l < 4 → w l ≤ nL W l) : f_X12_drawsNow_b68 F F ρ 1 0 = some (prG W 2 w 4, ρ) := by
  refine run_up (N := 4) (fun n i => f_X12_drawsNow_b68 F n ρ (prG W 2 w i) (nI i)) (fun n i hi y hy => ?_) (fun n => ?_) F 0 (Nat.zero_le _) (by omega)
  · have l := nL_le W hw i
    unfold f_X12_drawsNow_b68
    simp (disch := omega) only [xbn, ite_not, br_le_t, br_le_f, br_lt_t, br_lt_f, br_eq_t, br_eq_f, br_le0_t, br_le0_f, br_lt1_t, br_lt1_f, br_1le_t, br_1le_f, br_eq0_t, br_eq0_f, br_eq1_t, br_eq1_f, br_0le, br_lt0, br_0lt_t, br_0lt_f, br_m1, iof, i_2, i_3, i_4, i_8, i_9, i_10, i_20, i_30, i_90, i_120, i_256, cl_0, cl_1, cl_2, cl_3, Int32.add_zero, nI_add, nI_1, pk_mul, nI_s1, sb_m1, ck_in, ck_0, ck_1, nI_clamp, xcp, xca, xbn, mo_l hF hw h.1, h.2.2.1 i hi, ov_eq hF (hc i hi) l]
    rw [prG, gs_2] at hy
    exact hy
  · unfold f_X12_drawsNow_b68
    simp (disch := omega) only [xbn, ite_not, br_le_t, br_le_f, br_lt_t, br_lt_f, br_eq_t, br_eq_f, br_le0_t, br_le0_f, br_lt1_t, br_lt1_f, br_1le_t, br_1le_f, br_eq0_t, br_eq0_f, br_eq1_t, br_eq1_f, br_0le, br_lt0, br_0lt_t, br_0lt_f, br_m1, iof, i_2, i_3, i_4, i_8, i_9, i_10, i_20, i_30, i_90, i_120, i_256, cl_0, cl_1, cl_2, cl_3, Int32.add_zero, nI_add, nI_1, pk_mul, nI_s1, sb_m1, ck_in, ck_0, ck_1, nI_clamp, xcp, xca, xbn]
/-- the reference's drawsNow -/
theorem dn_eq {F : Nat} (hF : 2000 ≤ F) {W : Mem} (hw : WF W) {k : Nat} {w : Nat → Nat} {ρ : Mem} (h : RY W k w ρ) (hc : cbk W k w) (hb : ∀ j, j < cntOf k → w j ≤ 99) : ∃ ρ2, f_X12_drawsNow F ρ = some (DR W k w, ρ2) ∧ ρ2.1 = ρ.1 ∧ ∀ x, x ≠ 16 → ρ2.2.1 x = ρ.2.1 x := by
  obtain ⟨h1, h2, h3, h4, k1, k5⟩ := id h
  have hN := rw_N hw
  unfold f_X12_drawsNow DR
  rcases (show k = 1 ∨ k = 2 ∨ k = 3 ∨ k = 4 ∨ k = 5 by omega) with rfl | rfl | rfl | rfl | rfl
  · rw [cbk1] at hc
    simp (disch := omega) only [xbn, ite_not, br_le_t, br_le_f, br_lt_t, br_lt_f, br_eq_t, br_eq_f, br_le0_t, br_le0_f, br_lt1_t, br_lt1_f, br_1le_t, br_1le_f, br_eq0_t, br_eq0_f, br_eq1_t, br_eq1_f, br_0le, br_lt0, br_0lt_t, br_0lt_f, br_m1, iof, i_2, i_3, i_4, i_8, i_9, i_10, i_20, i_30, i_90, i_120, i_256, cl_0, cl_1, cl_2, cl_3, Int32.add_zero, nI_add, nI_1, pk_mul, nI_s1, sb_m1, ck_in, ck_0, ck_1, nI_clamp, xcp, xca, xbn, h2, kc, if_true, rw_n hw h1, h3 0 (by decide), ov_eq hF hc.2 hN]
    exact ⟨ρ, rfl, rfl, fun _ _ => rfl⟩
  · rw [cbk2] at hc
    simp only [xbn, h2, kc, show ¬ (2 : Nat) = 1 by decide, if_false, if_true, show ¬ (108 : Int32) = 97 by decide, show ¬ (108 : Int32) = 101 by decide, show ¬ (108 : Int32) = 122 by decide, not_false_eq_true, not_true_eq_false, dnL hF hw h hc.1]
    exact ⟨ρ, rfl, rfl, fun _ _ => rfl⟩
  · have b0 := hb 0 (by decide)
    simp only [xbn, h2, kc, show ¬ (3 : Nat) = 1 by decide, show ¬ (3 : Nat) = 2 by decide, if_false, if_true, show ¬ (101 : Int32) = 97 by decide, not_false_eq_true, not_true_eq_false, ck_0 (show 0 < 4 by decide), cl_0, h3 0 (by decide)]
    rw [nI_l (by omega)]
    exact ⟨ρ, rfl, rfl, fun _ _ => rfl⟩
  · have sl := stp_le hw w
    simp only [xbn, h2, kc, show ¬ (4 : Nat) = 1 by decide, show ¬ (4 : Nat) = 2 by decide, show ¬ (4 : Nat) = 3 by decide, if_false, if_true, show ¬ (122 : Int32) = 97 by decide, show ¬ (122 : Int32) = 101 by decide, not_false_eq_true, not_true_eq_false, h4 rfl]
    rw [show ssz W (nm W) / w 0 = stp W w from rfl, nI_l (by omega)]
    exact ⟨ρ, rfl, rfl, fun _ _ => rfl⟩
  · rw [cbk5] at hc
    have b1 := hb 1 (by decide)
    have hK := nK_le W
    obtain ⟨ρ2, e1, e2, e3⟩ := rt_eq hF hw h b1 (by omega)
    simp only [xbn, h2, kc, show ¬ (5 : Nat) = 1 by decide, show ¬ (5 : Nat) = 2 by decide, show ¬ (5 : Nat) = 3 by decide, show ¬ (5 : Nat) = 4 by decide, if_false, show ¬ (116 : Int32) = 97 by decide, show ¬ (116 : Int32) = 101 by decide, show ¬ (116 : Int32) = 122 by decide, show ¬ (116 : Int32) = 108 by decide, not_false_eq_true, if_true]
    exact ⟨ρ2, e1, e2, e3⟩
/-- the class's countWays -/
theorem cw_eq {F : Nat} (hF : 2000 ≤ F) {W : Mem} {k : Nat} {w : Nat → Nat} {t : Nat} {μ : Mem} (h : WY W k w t μ) (hc : cbk W k w) (hb : ∀ j, j < cntOf k → w j ≤ 99) : ∃ μ2, vdis t (f_X2_countWays F μ t) (f_X4_countWays F μ t) (f_X8_countWays F μ t) = some (DR W k w, μ2) ∧ SmC μ μ2 := by
  obtain ⟨_, p, hp, ht, hw, hk1, hk5⟩ := id h
  unfold DR
  rcases (show k = 1 ∨ k = 2 ∨ k = 3 ∨ k = 4 ∨ k = 5 by omega) with rfl | rfl | rfl | rfl | rfl
  · rw [cbk1] at hc
    rw [vd_1 (h.k12 (Or.inl rfl)).1, cwG hF h (Or.inl rfl) (fun g hg => by rw [gs_1]; have : g = 0 := Nat.lt_one_iff.mp hg; subst this; exact hc.2), if_pos rfl]
    refine ⟨μ, ?_, SmC.rf μ⟩
    show some (1 * lN (ch (gs W 1 0) (w 0)), μ) = _
    rw [gs_1, Int64.one_mul]
  · rw [cbk2] at hc
    rw [vd_1 (h.k12 (Or.inr rfl)).1, cwG hF h (Or.inr rfl) (fun g hg => by rw [gs_2]; exact hc.1 g hg)]
    exact ⟨μ, rfl, SmC.rf μ⟩
  · have b0 := hb 0 (by decide)
    rw [vd_2 (h.k34 (Or.inl rfl)).1]
    unfold f_X4_countWays
    rw [pc_eq F h (Or.inl rfl) b0]
    simp only [xca, if_true, show ¬ (3 : Nat) = 1 by decide, show ¬ (3 : Nat) = 2 by decide, if_false]
    rw [nI_l (by omega)]
    exact ⟨μ, rfl, SmC.rf μ⟩
  · rw [cbk4] at hc
    have b0 := hb 0 (by decide)
    have sl := stp_le h.1.1 w
    rw [vd_2 (h.k34 (Or.inr rfl)).1]
    unfold f_X4_countWays
    rw [pc_eq F h (Or.inr rfl) b0, if_neg (by omega), if_neg (by omega), show ssz W (nm W) / w 0 = stp W w from rfl]
    simp only [xca, if_true, show ¬ (4 : Nat) = 1 by decide, show ¬ (4 : Nat) = 2 by decide, show ¬ (4 : Nat) = 3 by decide, if_false]
    rw [nI_l (by omega)]
    exact ⟨μ, rfl, SmC.rf μ⟩
  · rw [cbk5] at hc
    have b1 := hb 1 (by decide)
    have hK := nK_le W
    rw [vd_3 (h.k5 rfl)]
    obtain ⟨μ2, e1, e2⟩ := cw5 hF h b1 (by omega)
    rw [e1]
    exact ⟨μ2, rfl, e2⟩
def nol (x : Int32) : Int64 := -9223372036854775808 - x.toInt64
theorem al_C (F : Nat) (x : Int32) : f_X11_asLong F x = some (nol x) := rfl
theorem al_R (F : Nat) (x : Int32) : f_X12_no F x = some (nol x) := rfl
theorem sim_draws {F : Nat} (hF : 2000 ≤ F) (μ ρ : Mem) (a1 : Int32) (h : Rel μ ρ) : ∃ (r : Int64) (μ2 ρ2 : Mem), f_X11_draws F μ a1 = some (r, μ2) ∧ f_X12_draws F ρ a1 = some (r, ρ2) ∧ SmC μ μ2 ∧ SmR ρ ρ2 := by
  unfold f_X11_draws f_X12_draws
  rw [pl_C, pl_R]
  by_cases w : wi a1 0 3 = true
  · obtain ⟨p, hp, rfl⟩ := wi_pl w
    rw [w]
    have hcr := cr_eq hF h.1 (SmR.rf ρ) hp
    by_cases c : CB ρ p
    · obtain ⟨ρ1, r1, r2, r3, _⟩ := hcr.1 c
      obtain ⟨c1, c2, c3⟩ := pw_t hF h hp c
      obtain ⟨ρ2, d1, d2, d3⟩ := dn_eq hF h.1 r2 c.2 c3
      obtain ⟨μ2, f1, f2⟩ := cw_eq hF c2 c.2 c3
      refine ⟨DR ρ (kp ρ p) (wq ρ p), μ2, ρ2, ?_, ?_, f2, ?_⟩
      · simp (disch := omega) only [xbn, ite_not, br_le_t, br_le_f, br_lt_t, br_lt_f, br_eq_t, br_eq_f, br_le0_t, br_le0_f, br_lt1_t, br_lt1_f, br_1le_t, br_1le_f, br_eq0_t, br_eq0_f, br_eq1_t, br_eq1_f, br_0le, br_lt0, br_0lt_t, br_0lt_f, br_m1, iof, i_2, i_3, i_4, i_8, i_9, i_10, i_20, i_30, i_90, i_120, i_256, cl_0, cl_1, cl_2, cl_3, Int32.add_zero, nI_add, nI_1, pk_mul, nI_s1, sb_m1, ck_in, ck_0, ck_1, nI_clamp, xcp, xca, xbn, if_true, show ¬ (1 : Int32) = 0 by decide, if_false, c1, onul, f1]
      · simp (disch := omega) only [xbn, ite_not, br_le_t, br_le_f, br_lt_t, br_lt_f, br_eq_t, br_eq_f, br_le0_t, br_le0_f, br_lt1_t, br_lt1_f, br_1le_t, br_1le_f, br_eq0_t, br_eq0_f, br_eq1_t, br_eq1_f, br_0le, br_lt0, br_0lt_t, br_0lt_f, br_m1, iof, i_2, i_3, i_4, i_8, i_9, i_10, i_20, i_30, i_90, i_120, i_256, cl_0, cl_1, cl_2, cl_3, Int32.add_zero, nI_add, nI_1, pk_mul, nI_s1, sb_m1, ck_in, ck_0, ck_1, nI_clamp, xcp, xca, xbn, if_true, show ¬ (1 : Int32) = 0 by decide, if_false, r1, d1]
      · exact (r2.sm d2).1
    · obtain ⟨ρ2, r1, r2⟩ := hcr.2 c
      refine ⟨nol (-3), μ, ρ2, ?_, ?_, SmC.rf μ, r2⟩
      · simp (disch := omega) only [xbn, ite_not, br_le_t, br_le_f, br_lt_t, br_lt_f, br_eq_t, br_eq_f, br_le0_t, br_le0_f, br_lt1_t, br_lt1_f, br_1le_t, br_1le_f, br_eq0_t, br_eq0_f, br_eq1_t, br_eq1_f, br_0le, br_lt0, br_0lt_t, br_0lt_f, br_m1, iof, i_2, i_3, i_4, i_8, i_9, i_10, i_20, i_30, i_90, i_120, i_256, cl_0, cl_1, cl_2, cl_3, Int32.add_zero, nI_add, nI_1, pk_mul, nI_s1, sb_m1, ck_in, ck_0, ck_1, nI_clamp, xcp, xca, xbn, if_true, show ¬ (1 : Int32) = 0 by decide, if_false, pw_f hF h hp c, onul, al_C]
      · simp (disch := omega) only [xbn, ite_not, br_le_t, br_le_f, br_lt_t, br_lt_f, br_eq_t, br_eq_f, br_le0_t, br_le0_f, br_lt1_t, br_lt1_f, br_1le_t, br_1le_f, br_eq0_t, br_eq0_f, br_eq1_t, br_eq1_f, br_0le, br_lt0, br_0lt_t, br_0lt_f, br_m1, iof, i_2, i_3, i_4, i_8, i_9, i_10, i_20, i_30, i_90, i_120, i_256, cl_0, cl_1, cl_2, cl_3, Int32.add_zero, nI_add, nI_1, pk_mul, nI_s1, sb_m1, ck_in, ck_0, ck_1, nI_clamp, xcp, xca, xbn, if_true, show ¬ (1 : Int32) = 0 by decide, if_false, r1, al_R]
  · rw [Bool.not_eq_true] at w
    rw [w]
    exact ⟨_, μ, ρ, rfl, rfl, SmC.rf μ, SmR.rf ρ⟩
