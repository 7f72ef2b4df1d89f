/-! fractions in lowest terms -/
theorem lrem {a b : Nat} (ha : a < 2 ^ 63) (h0 : 0 < b) (hb : b < 2 ^ 63) : lN a - lN a / lN b * lN b = lN (a % b) := pk_lRem ha h0 hb
theorem eu_half {x y : Nat} {m : Nat} (hy : y < 2 ^ (m + 1)) (h1 : ¬ x % y = 0) (h0 : 0 < y) : y % (x % y) < 2 ^ m := by
  have hr := Nat.mod_lt x h0
  have hz := Nat.mod_lt y (Nat.pos_of_ne_zero h1)
  have hd := Nat.mod_add_div y (x % y)
  have hq : 1 ≤ y / (x % y) := (Nat.one_le_div_iff (Nat.pos_of_ne_zero h1)).mpr (Nat.le_of_lt hr)
  have hm : x % y ≤ x % y * (y / (x % y)) := Nat.le_mul_of_pos_right _ hq
  rw [Nat.pow_succ] at hy
  omega
theorem gcd_2 {x y : Nat} : Nat.gcd y (x % y) = Nat.gcd x y := by rw [Nat.gcd_comm y, ← Nat.gcd_rec, Nat.gcd_comm]
theorem co_R {F : Nat} : ∀ (m x y n : Nat), x < 2 ^ 63 → y < 2 ^ 63 → y < 2 ^ m → 2 * m + 1 ≤ n → f_X12_common_b6 F n (lN x) (lN y) = some (lN (Nat.gcd x y)) := by
  intro m
  induction m with
  | zero =>
    intro x y n hx hy hm hn
    obtain ⟨n, rfl⟩ : ∃ a, n = a + 1 := ⟨n - 1, by omega⟩
    have : y = 0 := by omega
    subst this
    unfold f_X12_common_b6
    simp (disch := omega) only [lgl, lgg, lgle, lgge, lge, l_0, l_1, l_1000, bl_le_t, bl_le_f, bl_lt_t, bl_lt_f, bl_eq_t, bl_eq_f, dvl_n, dvi_n, nI_l, lN_add, lN_mul, lN_1, if_true, Nat.gcd_zero_right]
  | succ m ih =>
    intro x y n hx hy hm hn
    obtain ⟨n, rfl⟩ : ∃ a, n = a + 1 + 1 := ⟨n - 2, by omega⟩
    unfold f_X12_common_b6
    by_cases y0 : y = 0
    · subst y0
      simp (disch := omega) only [lgl, lgg, lgle, lgge, lge, l_0, l_1, l_1000, bl_le_t, bl_le_f, bl_lt_t, bl_lt_f, bl_eq_t, bl_eq_f, dvl_n, dvi_n, nI_l, lN_add, lN_mul, lN_1, if_true, Nat.gcd_zero_right]
    · have l1 := Nat.mod_lt x (Nat.pos_of_ne_zero y0)
      simp (disch := omega) only [lgl, lgg, lgle, lgge, lge, l_0, l_1, l_1000, bl_le_t, bl_le_f, bl_lt_t, bl_lt_f, bl_eq_t, bl_eq_f, dvl_n, dvi_n, nI_l, lN_add, lN_mul, lN_1, lrem, xbn]
      unfold f_X12_common_b6
      by_cases r0 : x % y = 0
      · simp (disch := omega) only [lgl, lgg, lgle, lgge, lge, l_0, l_1, l_1000, bl_le_t, bl_le_f, bl_lt_t, bl_lt_f, bl_eq_t, bl_eq_f, dvl_n, dvi_n, nI_l, lN_add, lN_mul, lN_1]
        rw [← gcd_2, r0, Nat.gcd_zero_right]
      · have l2 := Nat.mod_lt y (Nat.pos_of_ne_zero r0)
        simp (disch := omega) only [lgl, lgg, lgle, lgge, lge, l_0, l_1, l_1000, bl_le_t, bl_le_f, bl_lt_t, bl_lt_f, bl_eq_t, bl_eq_f, dvl_n, dvi_n, nI_l, lN_add, lN_mul, lN_1, lrem, xbn]
        rw [ih (x % y) (y % (x % y)) n (by omega) (by omega) (eu_half hm r0 (Nat.pos_of_ne_zero y0)) (by omega), gcd_2, gcd_2]
theorem co_C {F : Nat} : ∀ (m x y n c : Nat), 0 < x → x < 2 ^ 63 → y < 2 ^ 63 → y < 2 ^ m → 2 * m + 1 ≤ n → c + 2 * m + 1 ≤ 1000 → f_X1_commonDivisor_b9 F n (lN x) (lN y) (nI c) = some (lN (Nat.gcd x y)) := by
  have i1000 : (1000 : Int32) = nI 1000 := rfl
  intro m
  induction m with
  | zero =>
    intro x y n c h0 hx hy hm hn hc
    obtain ⟨n, rfl⟩ : ∃ a, n = a + 1 := ⟨n - 1, by omega⟩
    have : y = 0 := by omega
    subst this
    unfold f_X1_commonDivisor_b9 f_X1_commonDivisor_b45
    simp (disch := omega) only [lgl, lgg, lgle, lgge, lge, l_0, l_1, l_1000, bl_le_t, bl_le_f, bl_lt_t, bl_lt_f, bl_eq_t, bl_eq_f, dvl_n, dvi_n, nI_l, lN_add, lN_mul, lN_1, i1000, br_le_f, Nat.gcd_zero_right]
  | succ m ih =>
    intro x y n c h0 hx hy hm hn hc
    obtain ⟨n, rfl⟩ : ∃ a, n = a + 1 + 1 := ⟨n - 2, by omega⟩
    unfold f_X1_commonDivisor_b9 f_X1_commonDivisor_b45
    by_cases y0 : y = 0
    · subst y0
      simp (disch := omega) only [lgl, lgg, lgle, lgge, lge, l_0, l_1, l_1000, bl_le_t, bl_le_f, bl_lt_t, bl_lt_f, bl_eq_t, bl_eq_f, dvl_n, dvi_n, nI_l, lN_add, lN_mul, lN_1, i1000, br_le_f, Nat.gcd_zero_right]
    · have l1 := Nat.mod_lt x (Nat.pos_of_ne_zero y0)
      simp (disch := omega) only [lgl, lgg, lgle, lgge, lge, l_0, l_1, l_1000, bl_le_t, bl_le_f, bl_lt_t, bl_lt_f, bl_eq_t, bl_eq_f, dvl_n, dvi_n, nI_l, lN_add, lN_mul, lN_1, i1000, br_le_f, lrem, xbn, nI_1]
      unfold f_X1_commonDivisor_b9 f_X1_commonDivisor_b45
      by_cases r0 : x % y = 0
      · simp (disch := omega) only [lgl, lgg, lgle, lgge, lge, l_0, l_1, l_1000, bl_le_t, bl_le_f, bl_lt_t, bl_lt_f, bl_eq_t, bl_eq_f, dvl_n, dvi_n, nI_l, lN_add, lN_mul, lN_1, i1000, br_le_f]
        rw [← gcd_2, r0, Nat.gcd_zero_right]
      · have l2 := Nat.mod_lt y (Nat.pos_of_ne_zero r0)
        simp (disch := omega) only [lgl, lgg, lgle, lgge, lge, l_0, l_1, l_1000, bl_le_t, bl_le_f, bl_lt_t, bl_lt_f, bl_eq_t, bl_eq_f, dvl_n, dvi_n, nI_l, lN_add, lN_mul, lN_1, i1000, br_le_f, lrem, xbn, nI_1]
        rw [ih (x % y) (y % (x % y)) n (c + 1 + 1) (by omega) (by omega) (by omega) (eu_half hm r0 (Nat.pos_of_ne_zero y0)) (by omega) (by omega), gcd_2, gcd_2]
/-- above and below in lowest terms -/
def ra (x y : Nat) : Nat := x / Nat.gcd x y
def rb (x y : Nat) : Nat := y / Nat.gcd x y
theorem ra_le (x y : Nat) : ra x y ≤ x := Nat.div_le_self _ _
theorem rb_le (x y : Nat) : rb x y ≤ y := Nat.div_le_self _ _
theorem rb_pos {x y : Nat} (h : 0 < y) : 0 < rb x y := Nat.div_pos (Nat.gcd_le_right _ h) (Nat.gcd_pos_of_pos_right _ h)
theorem ra_pos {x y : Nat} (h : 0 < x) : 0 < ra x y := Nat.div_pos (Nat.gcd_le_left _ h) (Nat.gcd_pos_of_pos_left _ h)
theorem bc_R {F : Nat} (hF : 2000 ≤ F) (ρ : Mem) {x y : Nat} (hx : x < 2 ^ 63) (h0 : 0 < y) (hy : y < 2 ^ 63) : f_X12_becomes F ρ (lN x) (lN y) = some ((), ul (ul ρ 0 24 (lN (ra x y))) 0 25 (lN (rb x y))) := by
  have hg := Nat.gcd_pos_of_pos_right x h0
  have hl := Nat.gcd_le_right x h0
  have e : f_X12_common F (lN x) (lN y) = some (lN (Nat.gcd x y)) := co_R 63 x y F hx hy hy (by omega)
  unfold f_X12_becomes
  rw [e]
  simp (disch := omega) only [xcp, xbn, dvl_n, pk_lDiv]
  rfl
theorem bc_C {F : Nat} (hF : 2000 ≤ F) (μ : Mem) (t : Nat) {x y : Nat} (hx : x < 2 ^ 63) (h0 : 0 < y) (hy : y < 2 ^ 63) : f_X1_become F μ t (lN x) (lN y) = some ((), ul (ul μ t 0 (lN (ra x y))) t 1 (lN (rb x y))) := by
  unfold f_X1_become f_X1_become_b12
  by_cases x0 : x = 0
  · subst x0
    have e1 : ra 0 y = 0 := Nat.zero_div _
    have e2 : rb 0 y = 1 := by unfold rb; rw [Nat.gcd_zero_left, Nat.div_self h0]
    simp (disch := omega) only [lgl, lgg, lgle, lgge, lge, l_0, l_1, l_1000, bl_le_t, bl_le_f, bl_lt_t, bl_lt_f, bl_eq_t, bl_eq_f, dvl_n, dvi_n, nI_l, lN_add, lN_mul, lN_1, xbn, e1, e2]
  · have hg := Nat.gcd_pos_of_pos_right x h0
    have hl := Nat.gcd_le_right x h0
    have e : f_X1_commonDivisor F (lN x) (lN y) = some (lN (Nat.gcd x y)) := co_C 63 x y F 0 (by omega) hx hy hy (by omega) (by omega)
    simp (disch := omega) only [lgl, lgg, lgle, lgge, lge, l_0, l_1, l_1000, bl_le_t, bl_le_f, bl_lt_t, bl_lt_f, bl_eq_t, bl_eq_f, dvl_n, dvi_n, nI_l, lN_add, lN_mul, lN_1, e, xcp, xbn, pk_lDiv]
    rfl
/-- a fraction by 0 counts as 0 by 1 -/
theorem bc_0 {F : Nat} (μ : Mem) (t : Nat) {x : Nat} (hx : x < 2 ^ 63) : f_X1_become F μ t (lN x) 0 = some ((), ul (ul μ t 0 0) t 1 1) := by
  unfold f_X1_become f_X1_become_b12
  by_cases x0 : x = 0
  · subst x0
    simp (disch := omega) only [lgl, lgg, lgle, lgge, lge, l_0, l_1, l_1000, bl_le_t, bl_le_f, bl_lt_t, bl_lt_f, bl_eq_t, bl_eq_f, dvl_n, dvi_n, nI_l, lN_add, lN_mul, lN_1, xbn]
  · simp (disch := omega) only [lgl, lgg, lgle, lgge, lge, l_0, l_1, l_1000, bl_le_t, bl_le_f, bl_lt_t, bl_lt_f, bl_eq_t, bl_eq_f, dvl_n, dvi_n, nI_l, lN_add, lN_mul, lN_1, xbn]
