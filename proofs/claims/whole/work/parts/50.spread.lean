/-! how far sums spread -/
/-- sums of values and of their squares over the first n names that f tells -/
def s1 (W : Mem) (f : Nat → Bool) : Nat → Nat
  | 0 => 0
  | n + 1 => s1 W f n + if f n then vn W n else 0
def s2 (W : Mem) (f : Nat → Bool) : Nat → Nat
  | 0 => 0
  | n + 1 => s2 W f n + if f n then vn W n * vn W n else 0
theorem amgm (t v : Nat) : 2 * t * v ≤ v * v + t * t := by
  rcases Nat.le_total t v with q | q
  · obtain ⟨d, rfl⟩ := Nat.le.dest q
    have e1 : 2 * t * (t + d) = 2 * (t * t) + 2 * (t * d) := by rw [Nat.mul_add]; simp only [Nat.mul_assoc]
    have e2 : (t + d) * (t + d) = t * t + 2 * (t * d) + d * d := by rw [Nat.add_mul, Nat.mul_add, Nat.mul_add, Nat.mul_comm d t]; omega
    omega
  · obtain ⟨d, rfl⟩ := Nat.le.dest q
    have e1 : 2 * (v + d) * v = 2 * (v * v) + 2 * (v * d) := by rw [Nat.mul_assoc, Nat.add_mul, Nat.mul_add, Nat.mul_comm d v]
    have e2 : (v + d) * (v + d) = v * v + 2 * (v * d) + d * d := by rw [Nat.add_mul, Nat.mul_add, Nat.mul_add, Nat.mul_comm d v]; omega
    omega
theorem cs_1 (W : Mem) (f : Nat → Bool) (t : Nat) : ∀ n, 2 * t * s1 W f n ≤ s2 W f n + cnt f n * (t * t)
  | 0 => by show 2 * t * 0 ≤ 0 + 0 * (t * t); omega
  | n + 1 => by
    have ih := cs_1 W f t n
    rw [s1, s2, cnt_s]
    cases f n with
    | false => simpa using ih
    | true =>
      have a := amgm t (vn W n)
      simp only [if_true, Nat.mul_add, Nat.add_mul, Nat.one_mul]
      omega
theorem cs_2 (W : Mem) (f : Nat → Bool) : ∀ n, s1 W f n * s1 W f n ≤ cnt f n * s2 W f n
  | 0 => Nat.le_refl _
  | n + 1 => by
    have ih := cs_2 W f n
    have h := cs_1 W f (vn W n) n
    rw [s1, s2, cnt_s]
    cases f n with
    | false => simpa using ih
    | true =>
      simp only [if_true, Nat.mul_add, Nat.add_mul, Nat.one_mul]
      rw [Nat.mul_comm (s1 W f n) (vn W n)]
      rw [Nat.mul_assoc] at h
      omega
theorem s1_le {W : Mem} (hw : WF W) {f : Nat → Bool} (h : ∀ x, x < nm W → f x = true → ¬ vl W x = -1) : ∀ n, n ≤ nm W → s1 W f n ≤ 10000 * cnt f n
  | 0, _ => Nat.le_refl _
  | n + 1, hn => by
    have ih := s1_le hw h n (by omega)
    rw [s1, cnt_s]
    cases q : f n with
    | false => simpa using ih
    | true =>
      have := (vn_n hw (h n (by omega) q)).2
      simp only [if_true]
      omega
theorem s2_le {W : Mem} (hw : WF W) {f : Nat → Bool} (h : ∀ x, x < nm W → f x = true → ¬ vl W x = -1) : ∀ n, n ≤ nm W → s2 W f n ≤ 100000000 * cnt f n
  | 0, _ => Nat.le_refl _
  | n + 1, hn => by
    have ih := s2_le hw h n (by omega)
    rw [s2, cnt_s]
    cases q : f n with
    | false => simpa using ih
    | true =>
      have v := (vn_n hw (h n (by omega) q)).2
      have := Nat.mul_le_mul v v
      simp only [if_true]
      omega
/-- all that f tells have values -/
def avl (W : Mem) (f : Nat → Bool) : Nat → Bool
  | 0 => true
  | n + 1 => avl W f n && (!f n || decide (¬ vl W n = -1))
theorem avl_iff {W : Mem} {f : Nat → Bool} : ∀ n, avl W f n = true ↔ ∀ x, x < n → f x = true → ¬ vl W x = -1
  | 0 => ⟨fun _ x hx => absurd hx (Nat.not_lt_zero _), fun _ => rfl⟩
  | n + 1 => by
    rw [avl, Bool.and_eq_true, avl_iff n]
    constructor
    · rintro ⟨h1, h2⟩ x hx hf
      by_cases e : x = n
      · subst e
        rw [hf] at h2
        simpa using h2
      · exact h1 x (by omega) hf
    · intro h
      refine ⟨fun x hx => h x (by omega), ?_⟩
      cases q : f n with
      | false => rfl
      | true => simpa using h n (by omega) q
/-- a group's variance, above and below -/
def vA2 (W : Mem) (k : Nat) (w : Nat → Nat) (g : Nat) : Nat := (gs W k g - w g) * (gs W k g * s2 W (gf W k g) (nm W) - s1 W (gf W k g) (nm W) * s1 W (gf W k g) (nm W))
def vB2 (W : Mem) (k : Nat) (w : Nat → Nat) (g : Nat) : Nat := w g * (gs W k g - 1)
def gok (W : Mem) (k : Nat) (w : Nat → Nat) : Nat → Bool
  | 0 => true
  | g + 1 => gok W k w g && (decide (w g = 0) || avl W (gf W k g) (nm W))
/-- the spread of the first g groups -/
def SPf (W : Mem) (k : Nat) (w : Nat → Nat) : Nat → Nat × Nat
  | 0 => (0, 1)
  | g + 1 => if 0 < w g ∧ w g < gs W k g then (fa (SPf W k w g).1 (SPf W k w g).2 (vA2 W k w g) (vB2 W k w g), fb (SPf W k w g).1 (SPf W k w g).2 (vA2 W k w g) (vB2 W k w g)) else SPf W k w g
/-- bounds: the number below, and how great the fraction is -/
def spD (W : Mem) (k : Nat) : Nat → Nat
  | 0 => 1
  | g + 1 => spD W k g * (max 1 (gs W k g) * max 1 (gs W k g))
def spV (W : Mem) (k : Nat) : Nat → Nat
  | 0 => 0
  | g + 1 => spV W k g + gs W k g * gs W k g * 100000000
theorem spD_pos (W : Mem) (k : Nat) : ∀ g, 0 < spD W k g
  | 0 => Nat.one_pos
  | g + 1 => Nat.mul_pos (spD_pos W k g) (Nat.mul_pos (by omega) (by omega))
def FJ (D V a b : Nat) : Prop := 0 < b ∧ b ≤ D ∧ a ≤ V * b ∧ Nat.gcd a b = 1
theorem FJ_add {D V a b m n X E : Nat} (h : FJ D V a b) (hn : 0 < n) (hE : n ≤ E) (hm : m ≤ X * n) : FJ (D * E) (V + X) (fa a b m n) (fb a b m n) ∧ a * n + m * b ≤ (V + X) * (D * E) ∧ b * n ≤ D * E := by
  obtain ⟨h1, h2, h3, h4⟩ := h
  have hD : 0 < b * n := Nat.mul_pos h1 hn
  have hg := Nat.gcd_pos_of_pos_right (a * n + m * b) hD
  have co : Nat.gcd (fa a b m n) (fb a b m n) = 1 := rab_co hD
  have e1 := ra_eq (a * n + m * b) (b * n)
  have e2 := rb_eq (a * n + m * b) (b * n)
  have bE : b * n ≤ D * E := Nat.mul_le_mul h2 hE
  have l1 : a * n + m * b ≤ (V + X) * (b * n) := by
    have q1 : a * n ≤ V * b * n := Nat.mul_le_mul_right _ h3
    have q2 : m * b ≤ X * n * b := Nat.mul_le_mul_right _ hm
    have q3 : X * n * b = X * (b * n) := by ac_rfl
    rw [Nat.add_mul, ← Nat.mul_assoc V]
    omega
  refine ⟨⟨rb_pos hD, Nat.le_trans (rb_le _ _) bE, ?_, co⟩, Nat.le_trans l1 (Nat.mul_le_mul_left _ bE), bE⟩
  have l2 : Nat.gcd (a * n + m * b) (b * n) * fa a b m n ≤ Nat.gcd (a * n + m * b) (b * n) * ((V + X) * fb a b m n) := by
    have k1 : Nat.gcd (a * n + m * b) (b * n) * fa a b m n = a * n + m * b := e1.symm
    have k2 : Nat.gcd (a * n + m * b) (b * n) * ((V + X) * fb a b m n) = (V + X) * (b * n) := by
      rw [Nat.mul_left_comm]
      exact congrArg ((V + X) * ·) e2.symm
    rw [k1, k2]
    exact l1
  exact Nat.le_of_mul_le_mul_left l2 hg
/-- one group's numbers -/
theorem vAB {W : Mem} (hw : WF W) {k : Nat} {w : Nat → Nat} {g : Nat} (h0 : 0 < w g) (h1 : w g < gs W k g) (ha : avl W (gf W k g) (nm W) = true) : 0 < vB2 W k w g ∧ vB2 W k w g ≤ max 1 (gs W k g) * max 1 (gs W k g) ∧ vA2 W k w g ≤ gs W k g * gs W k g * 100000000 * vB2 W k w g := by
  have hv := (avl_iff _).mp ha
  have q2 := s2_le hw hv (nm W) (Nat.le_refl _)
  rw [show cnt (gf W k g) (nm W) = gs W k g from rfl] at q2
  unfold vA2 vB2
  have m1 : max 1 (gs W k g) = gs W k g := by omega
  rw [m1]
  refine ⟨Nat.mul_pos h0 (by omega), Nat.mul_le_mul (by omega) (by omega), ?_⟩
  have t1 : (gs W k g - w g) * (gs W k g * s2 W (gf W k g) (nm W) - s1 W (gf W k g) (nm W) * s1 W (gf W k g) (nm W)) ≤ (gs W k g - 1) * (gs W k g * (100000000 * gs W k g)) := Nat.mul_le_mul (by omega) (Nat.le_trans (Nat.sub_le _ _) (Nat.mul_le_mul_left _ q2))
  have t2 : (gs W k g - 1) * (gs W k g * (100000000 * gs W k g)) = gs W k g * gs W k g * 100000000 * (1 * (gs W k g - 1)) := by rw [Nat.one_mul]; ac_rfl
  have t3 : gs W k g * gs W k g * 100000000 * (1 * (gs W k g - 1)) ≤ gs W k g * gs W k g * 100000000 * (w g * (gs W k g - 1)) := Nat.mul_le_mul_left _ (Nat.mul_le_mul_right _ h0)
  omega
theorem FJ_mono {D V a b E X : Nat} (h : FJ D V a b) (hE : 0 < E) : FJ (D * E) (V + X) a b := by
  obtain ⟨h1, h2, h3, h4⟩ := h
  refine ⟨h1, Nat.le_trans h2 (Nat.le_mul_of_pos_right _ hE), ?_, h4⟩
  rw [Nat.add_mul]
  omega
theorem gok_s {W : Mem} {k : Nat} {w : Nat → Nat} {g : Nat} (h : gok W k w (g + 1) = true) : gok W k w g = true ∧ (0 < w g → avl W (gf W k g) (nm W) = true) := by
  rw [gok, Bool.and_eq_true] at h
  refine ⟨h.1, fun q => ?_⟩
  have := h.2
  simp only [Bool.or_eq_true, decide_eq_true_eq] at this
  rcases this with e | e
  · omega
  · exact e
theorem SPf_FJ {W : Mem} (hw : WF W) {k : Nat} {w : Nat → Nat} : ∀ g, gok W k w g = true → FJ (spD W k g) (spV W k g) (SPf W k w g).1 (SPf W k w g).2
  | 0, _ => ⟨Nat.one_pos, Nat.le_refl 1, Nat.zero_le _, Nat.gcd_zero_left 1⟩
  | g + 1, h => by
    obtain ⟨h1, h2⟩ := gok_s h
    have ih := SPf_FJ hw g h1
    rw [SPf, spD, spV]
    by_cases q : 0 < w g ∧ w g < gs W k g
    · rw [if_pos q]
      obtain ⟨a1, a2, a3⟩ := vAB hw q.1 q.2 (h2 q.1)
      exact (FJ_add ih a1 a2 a3).1
    · rw [if_neg q]
      exact FJ_mono ih (Nat.mul_pos (by omega) (by omega))
theorem four {x y z u : Nat} (h : x + y + z + u ≤ 33) : x * y * z * u ≤ 4624 := by
  have a1 := amgm x y
  have a2 := amgm z u
  have p1 : 4 * (x * y) ≤ (x + y) * (x + y) := by
    have e : (x + y) * (x + y) = x * x + 2 * (x * y) + y * y := by rw [Nat.add_mul, Nat.mul_add, Nat.mul_add, Nat.mul_comm y x]; omega
    have e2 : 2 * x * y = 2 * (x * y) := Nat.mul_assoc _ _ _
    omega
  have p2 : 4 * (z * u) ≤ (z + u) * (z + u) := by
    have e : (z + u) * (z + u) = z * z + 2 * (z * u) + u * u := by rw [Nat.add_mul, Nat.mul_add, Nat.mul_add, Nat.mul_comm u z]; omega
    have e2 : 2 * z * u = 2 * (z * u) := Nat.mul_assoc _ _ _
    omega
  have p3 : 4 * ((x + y) * (z + u)) ≤ 33 * 33 := by
    have a3 := amgm (x + y) (z + u)
    have e : (x + y + (z + u)) * (x + y + (z + u)) = (x + y) * (x + y) + 2 * ((x + y) * (z + u)) + (z + u) * (z + u) := by
      generalize x + y = p
      generalize z + u = q
      rw [Nat.add_mul, Nat.mul_add, Nat.mul_add, Nat.mul_comm q p]; omega
    have e2 : 2 * (x + y) * (z + u) = 2 * ((x + y) * (z + u)) := Nat.mul_assoc _ _ _
    have e3 : (x + y + (z + u)) * (x + y + (z + u)) ≤ 33 * 33 := Nat.mul_le_mul (by omega) (by omega)
    omega
  have p4 : (x + y) * (z + u) * ((x + y) * (z + u)) ≤ 272 * 272 := Nat.mul_le_mul (by omega) (by omega)
  have p5 : 4 * (x * y) * (4 * (z * u)) ≤ (x + y) * (x + y) * ((z + u) * (z + u)) := Nat.mul_le_mul p1 p2
  have e5 : (x + y) * (x + y) * ((z + u) * (z + u)) = (x + y) * (z + u) * ((x + y) * (z + u)) := by ac_rfl
  have e6 : 4 * (x * y) * (4 * (z * u)) = 16 * (x * y * z * u) := by
    rw [show x * y * z * u = (x * y) * (z * u) by ac_rfl, show 4 * (x * y) * (4 * (z * u)) = 4 * 4 * ((x * y) * (z * u)) by ac_rfl]
  omega
theorem sumL {W : Mem} (hw : WF W) : ∀ n, n ≤ nm W → cnt (fun k => decide (ly W k = 0)) n + cnt (fun k => decide (ly W k = 1)) n + cnt (fun k => decide (ly W k = 2)) n + cnt (fun k => decide (ly W k = 3)) n = n
  | 0, _ => rfl
  | n + 1, h => by
    have ih := sumL hw n (by omega)
    have hc := (rw_l hw (SmR.rf W) (k := n) (by omega)).2
    simp only [cnt_s]
    rcases (show ly W n = 0 ∨ ly W n = 1 ∨ ly W n = 2 ∨ ly W n = 3 by omega) with e | e | e | e <;> rw [e] <;> simp <;> omega
theorem spD_le {W : Mem} (hw : WF W) {k : Nat} (hk : k = 1 ∨ k = 2) : spD W k (cntOf k) ≤ 21381376 ∧ spV W k (cntOf k) ≤ 90000000000 := by
  have hN := rw_N hw
  rcases hk with rfl | rfl
  · have e1 : spD W 1 (cntOf 1) = 1 * (max 1 (nm W) * max 1 (nm W)) := by show 1 * (max 1 (gs W 1 0) * max 1 (gs W 1 0)) = _; rw [gs_1]
    have e2 : spV W 1 (cntOf 1) = 0 + nm W * nm W * 100000000 := by show 0 + gs W 1 0 * gs W 1 0 * 100000000 = _; rw [gs_1]
    rw [e1, e2]
    have m1 : max 1 (nm W) * max 1 (nm W) ≤ 30 * 30 := Nat.mul_le_mul (by omega) (by omega)
    have m2 : nm W * nm W ≤ 30 * 30 := Nat.mul_le_mul hN hN
    omega
  · have s := sumL hw (nm W) (Nat.le_refl _)
    have e1 : spD W 2 (cntOf 2) = 1 * (max 1 (nL W 0) * max 1 (nL W 0)) * (max 1 (nL W 1) * max 1 (nL W 1)) * (max 1 (nL W 2) * max 1 (nL W 2)) * (max 1 (nL W 3) * max 1 (nL W 3)) := by
      show 1 * (max 1 (gs W 2 0) * max 1 (gs W 2 0)) * (max 1 (gs W 2 1) * max 1 (gs W 2 1)) * (max 1 (gs W 2 2) * max 1 (gs W 2 2)) * (max 1 (gs W 2 3) * max 1 (gs W 2 3)) = _
      simp only [gs_2]
    have e2 : spV W 2 (cntOf 2) = 0 + nL W 0 * nL W 0 * 100000000 + nL W 1 * nL W 1 * 100000000 + nL W 2 * nL W 2 * 100000000 + nL W 3 * nL W 3 * 100000000 := by
      show 0 + gs W 2 0 * gs W 2 0 * 100000000 + gs W 2 1 * gs W 2 1 * 100000000 + gs W 2 2 * gs W 2 2 * 100000000 + gs W 2 3 * gs W 2 3 * 100000000 = _
      simp only [gs_2]
    have s' : nL W 0 + nL W 1 + nL W 2 + nL W 3 = nm W := s
    have f := four (x := max 1 (nL W 0)) (y := max 1 (nL W 1)) (z := max 1 (nL W 2)) (u := max 1 (nL W 3)) (by omega)
    have f2 := Nat.mul_le_mul f f
    constructor
    · rw [e1]
      have e3 : 1 * (max 1 (nL W 0) * max 1 (nL W 0)) * (max 1 (nL W 1) * max 1 (nL W 1)) * (max 1 (nL W 2) * max 1 (nL W 2)) * (max 1 (nL W 3) * max 1 (nL W 3)) = max 1 (nL W 0) * max 1 (nL W 1) * max 1 (nL W 2) * max 1 (nL W 3) * (max 1 (nL W 0) * max 1 (nL W 1) * max 1 (nL W 2) * max 1 (nL W 3)) := by
        rw [Nat.one_mul]
        ac_rfl
      rw [e3]
      omega
    · rw [e2]
      have a0 : nL W 0 * nL W 0 ≤ nL W 0 * 30 := Nat.mul_le_mul_left _ (by omega)
      have a1 : nL W 1 * nL W 1 ≤ nL W 1 * 30 := Nat.mul_le_mul_left _ (by omega)
      have a2 : nL W 2 * nL W 2 ≤ nL W 2 * 30 := Nat.mul_le_mul_left _ (by omega)
      have a3 : nL W 3 * nL W 3 ≤ nL W 3 * 30 := Nat.mul_le_mul_left _ (by omega)
      omega
theorem spD_mono (W : Mem) (k : Nat) (g : Nat) : ∀ m, spD W k g ≤ spD W k (g + m) ∧ spV W k g ≤ spV W k (g + m)
  | 0 => ⟨Nat.le_refl _, Nat.le_refl _⟩
  | m + 1 => by
    obtain ⟨h1, h2⟩ := spD_mono W k g m
    rw [← Nat.add_assoc, spD, spV]
    exact ⟨Nat.le_trans h1 (Nat.le_mul_of_pos_right _ (Nat.mul_pos (by omega) (by omega))), by omega⟩
/-- the numbers of a step, and behind it, fit -/
theorem sp_fit {W : Mem} (hw : WF W) {k : Nat} {w : Nat → Nat} (hk : k = 1 ∨ k = 2) {g : Nat} (hg : g < cntOf k) (h : gok W k w g = true) (q : 0 < w g ∧ w g < gs W k g) (ha : avl W (gf W k g) (nm W) = true) : (SPf W k w g).1 * vB2 W k w g + vA2 W k w g * (SPf W k w g).2 < 2 ^ 63 ∧ (SPf W k w g).2 * vB2 W k w g < 2 ^ 63 := by
  obtain ⟨a1, a2, a3⟩ := vAB hw q.1 q.2 ha
  obtain ⟨_, b2, b3⟩ := FJ_add (SPf_FJ hw g h) a1 a2 a3
  have m := spD_mono W k (g + 1) (cntOf k - (g + 1))
  rw [show g + 1 + (cntOf k - (g + 1)) = cntOf k by omega] at m
  have l := spD_le hw hk
  have l1 : spD W k (g + 1) ≤ 21381376 := by omega
  have l2 : spV W k (g + 1) ≤ 90000000000 := by omega
  have t : spV W k (g + 1) * spD W k (g + 1) ≤ 90000000000 * 21381376 := Nat.mul_le_mul l2 l1
  have b2' : (SPf W k w g).1 * vB2 W k w g + vA2 W k w g * (SPf W k w g).2 ≤ spV W k (g + 1) * spD W k (g + 1) := b2
  have b3' : (SPf W k w g).2 * vB2 W k w g ≤ spD W k (g + 1) := b3
  omega
theorem SPf_b {W : Mem} (hw : WF W) {k : Nat} {w : Nat → Nat} (hk : k = 1 ∨ k = 2) {g : Nat} (hg : g ≤ cntOf k) (h : gok W k w g = true) : 0 < (SPf W k w g).2 ∧ (SPf W k w g).2 ≤ 21381376 ∧ (SPf W k w g).1 < 2 ^ 62 ∧ Nat.gcd (SPf W k w g).1 (SPf W k w g).2 = 1 := by
  obtain ⟨f1, f2, f3, f4⟩ := SPf_FJ hw g h
  have m := spD_mono W k g (cntOf k - g)
  rw [show g + (cntOf k - g) = cntOf k by omega] at m
  have l := spD_le hw hk
  have l1 : (SPf W k w g).2 ≤ 21381376 := by omega
  have t : spV W k g * (SPf W k w g).2 ≤ 90000000000 * 21381376 := Nat.mul_le_mul (by omega) l1
  exact ⟨f1, l1, by omega, f4⟩
/-- the class: one group's sums -/
theorem aso_C {F : Nat} (hF : 2000 ≤ F) {W : Mem} {k : Nat} {w : Nat → Nat} {t : Nat} {μ : Mem} (h : WY W k w t μ) (ho : OK W k w) (hk : k = 1 ∨ k = 2) (c : Nat) {g : Nat} (hg : g < cntOf k) (hok : gok W k w g = true) (h0 : 0 < w g) (hle : w g ≤ gs W k g) (ha : avl W (gf W k g) (nm W) = true) (e0 : μ.2.1 c 0 = lN (SPf W k w g).1) (e1 : μ.2.1 c 1 = lN (SPf W k w g).2) : ∃ μ2, f_X2_addSpreadOf F μ t (nI g) c = some ((), μ2) ∧ SmC μ μ2 ∧ (∀ x j, x ≠ c → μ2.2.1 x j = μ.2.1 x j) ∧ μ2.2.1 c 0 = lN (SPf W k w (g + 1)).1 ∧ μ2.2.1 c 1 = lN (SPf W k w (g + 1)).2 := by
  have hw := h.1.1
  have hN := rw_N hw
  have hc4 : cntOf k ≤ 4 := by rcases hk with rfl | rfl <;> decide
  have hml := msk_b (f := gf W k g) hN
  have hv := (avl_iff _).mp ha
  unfold f_X2_addSpreadOf
  rw [mb_eq F h hk hg]
  simp only [xca]
  have key := run_up (N := nm W) (r := f_X2_addSpreadOf_b15 F 1 μ t (nI g) c (nI (msk (gf W k g) (nm W))) (lN (s1 W (gf W k g) (nm W))) (lN (s2 W (gf W k g) (nm W))) (nI (nm W))) (fun n i => f_X2_addSpreadOf_b15 F n μ t (nI g) c (nI (msk (gf W k g) (nm W))) (lN (s1 W (gf W k g) i)) (lN (s2 W (gf W k g) i)) (nI i)) (fun n i hi y hy => ?_) (fun n => ?_) F 0 (Nat.zero_le _) (by omega)
  · have key' : f_X2_addSpreadOf_b15 F F μ t (nI g) c (nI (msk (gf W k g) (nm W))) 0 0 0 = _ := key
    rw [key']
    have q1 := s1_le hw hv (nm W) (Nat.le_refl _)
    have q2 := s2_le hw hv (nm W) (Nat.le_refl _)
    have q3 := cs_2 W (gf W k g) (nm W)
    rw [show cnt (gf W k g) (nm W) = gs W k g from rfl] at q1 q2 q3
    have gl := gs_le hw k g
    have t1 : gs W k g * s2 W (gf W k g) (nm W) ≤ 30 * 3000000000 := Nat.mul_le_mul gl (by omega)
    have eA : (lN (gs W k g) - lN (w g)) * (lN (gs W k g) * lN (s2 W (gf W k g) (nm W)) - lN (s1 W (gf W k g) (nm W)) * lN (s1 W (gf W k g) (nm W))) = lN (vA2 W k w g) := by
      rw [lN_sub hle, lN_mul, lN_mul, lN_sub q3, lN_mul]
      rfl
    have eB : lN (w g) * (lN (gs W k g) - 1) = lN (vB2 W k w g) := by
      rw [show (1 : Int64) = lN 1 from rfl, lN_sub (by omega), lN_mul]
      rfl
    unfold f_X2_addSpreadOf_b15
    simp (disch := omega) only [xbn, cw_n h.1, br_le_t, gz_eq F h hk hg, xca, ck_in, nI_clamp, h.num hg, nI_l]
    rw [eA, eB, SPf]
    by_cases q : w g < gs W k g
    · obtain ⟨a1, a2, a3⟩ := vAB hw h0 q ha
      obtain ⟨f1, f2⟩ := sp_fit hw hk hg hok ⟨h0, q⟩ ha
      obtain ⟨g1, g2, g3, g4⟩ := SPf_b hw hk (g := g) (by omega) hok
      obtain ⟨μ2, c1, c2, c3, c4, c5, c6⟩ := ad_C hF μ c e0 e1 g1 a1 g4 f1 f2
      rw [if_pos ⟨h0, q⟩, c1, xca]
      exact ⟨μ2, rfl, smc_eq c2 c3, c4, c5, c6⟩
    · have z : vA2 W k w g = 0 := by
        unfold vA2
        rw [show gs W k g - w g = 0 by omega, Nat.zero_mul]
      rw [if_neg (fun z => q z.2), z]
      unfold f_X1_add
      simp (disch := omega) only [lgl, lgg, lgle, lgge, lge, l_0, l_1, l_1000, bl_le_t, bl_le_f, bl_lt_t, bl_lt_f, bl_eq_t, bl_eq_f, dvl_n, dvi_n, nI_l, lN_add, lN_mul, lN_1, xca]
      exact ⟨μ, rfl, SmC.rf μ, fun _ _ _ => rfl, e0, e1⟩
  · have tb : (msk (gf W k g) (nm W)).testBit i = gf W k g i := by rw [msk_t]; simp [hi]
    unfold f_X2_addSpreadOf_b15 f_X2_addSpreadOf_b66
    rw [s1, s2] at hy
    cases q : gf W k g i with
    | false =>
      rw [q] at hy
      simp (disch := omega) only [xbn, cw_n h.1, br_le_f, ii_eq, tb, q, xcp, Bool.false_eq_true, if_false, if_true, nI_1, Nat.add_zero] at hy ⊢
      exact hy
    | true =>
      rw [q] at hy
      obtain ⟨v1, v2⟩ := vn_n hw (hv i hi q)
      have v3 : (vl W i).toInt64 = lN (vn W i) := by rw [v1, nI_l (by omega)]
      simp (disch := omega) only [xbn, cw_n h.1, br_le_f, ii_eq, tb, q, xcp, if_true, show ¬ (1 : Int32) = 0 by decide, if_false, ck_in, nI_clamp, cw_v h.1 hi, v3, lN_mul, lN_add, nI_1] at hy ⊢
      exact hy
  · obtain ⟨m, hm⟩ : ∃ m, n + 1 = m + 1 := ⟨n, rfl⟩
    unfold f_X2_addSpreadOf_b15
    simp (disch := omega) only [xbn, cw_n h.1, br_le_t]
theorem spi_C {F : Nat} (hF : 2000 ≤ F) {W : Mem} {k : Nat} {w : Nat → Nat} {t : Nat} {μ : Mem} (h : WY W k w t μ) (ho : OK W k w) (hk : k = 1 ∨ k = 2) (hle : ∀ g, g < cntOf k → w g ≤ gs W k g) (c : Nat) : ∃ μ2, f_X2_spreadInto F μ t c = some (if gok W k w (cntOf k) then 1 else 0, μ2) ∧ SmC μ μ2 ∧ (∀ x j, x ≠ c → μ2.2.1 x j = μ.2.1 x j) ∧ (gok W k w (cntOf k) = true → μ2.2.1 c 0 = lN (SPf W k w (cntOf k)).1 ∧ μ2.2.1 c 1 = lN (SPf W k w (cntOf k)).2) := by
  have hw := h.1.1
  have hN := rw_N hw
  have hc4 : cntOf k ≤ 4 := by rcases hk with rfl | rfl <;> decide
  have b0 : f_X1_become F μ c 0 1 = some ((), ul (ul μ c 0 (lN 0)) c 1 (lN 1)) := bc_C hF μ c (x := 0) (y := 1) (by omega) (by omega) (by omega)
  unfold f_X2_spreadInto
  rw [b0]
  simp only [xca]
  refine run_rel (N := cntOf k) (fun n i μ' => f_X2_spreadInto_b8 F n μ' t c (nI i)) (fun i μ' => SmC μ μ' ∧ (∀ x j, x ≠ c → μ'.2.1 x j = μ.2.1 x j) ∧ gok W k w i = true ∧ μ'.2.1 c 0 = lN (SPf W k w i).1 ∧ μ'.2.1 c 1 = lN (SPf W k w i).2) (fun o => ∃ μ2, o = some (if gok W k w (cntOf k) then 1 else 0, μ2) ∧ SmC μ μ2 ∧ (∀ x j, x ≠ c → μ2.2.1 x j = μ.2.1 x j) ∧ (gok W k w (cntOf k) = true → μ2.2.1 c 0 = lN (SPf W k w (cntOf k)).1 ∧ μ2.2.1 c 1 = lN (SPf W k w (cntOf k)).2)) (fun n i μ' hi hI => ?_) (fun n μ' hI => ?_) F 0 _ (Nat.zero_le _) (by omega) ⟨smc_2 μ c _ _, fun x j hx => by rw [ul_c hx, ul_c hx], rfl, by rw [ul_o (by omega), ul_s]; rfl, by rw [ul_s]; rfl⟩
  · obtain ⟨i1, i2, i3, i4, i5⟩ := hI
    have hy := h.sm i1
    have b99 := ho.2.2.2 i hi
    by_cases w0 : w i = 0
    · refine Or.inl ⟨μ', ⟨i1, i2, by rw [gok, i3]; simp [w0], by rw [SPf, if_neg (by omega)]; exact i4, by rw [SPf, if_neg (by omega)]; exact i5⟩, fun y hy2 => ?_⟩
      unfold f_X2_spreadInto_b8 f_X2_spreadInto_b54
      simp (disch := omega) only [xbn, (hy.k12 hk).2.2, br_le_f, ck_in, nI_clamp, hy.num hi, ite_not, br_eq0_t, nI_1]
      exact hy2
    · have hml := msk_b (f := gf W k i) hN
      have hvl := vbs_lt hw
      have dl := dif_le (msk (gf W k i) (nm W)) (vbs W)
      have cond : dif (msk (gf W k i) (nm W)) (vbs W) = 0 ↔ avl W (gf W k i) (nm W) = true := by
        rw [dif_0 (by omega), avl_iff]
        constructor
        · intro z x hx hf
          have := z x (by rw [msk_t]; simp [hx, hf])
          rw [vbs_t] at this
          simp at this
          exact this.2
        · intro z x hx
          rw [msk_t] at hx
          simp at hx
          rw [vbs_t]
          simp [hx.1, z x hx.1 hx.2]
      by_cases ha : avl W (gf W k i) (nm W) = true
      · obtain ⟨μ2, c1, c2, c3, c4, c5⟩ := aso_C hF hy ho hk c hi i3 (by omega) (hle i hi) ha i4 i5
        refine Or.inl ⟨μ2, ⟨i1.tr c2, fun x j hx => by rw [c3 x j hx, i2 x j hx], by rw [gok, i3, ha]; simp, c4, c5⟩, fun y hy2 => ?_⟩
        unfold f_X2_spreadInto_b8 f_X2_spreadInto_b54
        simp (disch := omega) only [xbn, (hy.k12 hk).2.2, br_le_f, ck_in, nI_clamp, hy.num hi, ite_not, br_eq0_f, mb_eq F hy hk hi, xca, cw_vb hy.1]
        rw [show msk (fun k => decide (¬ vl W k = -1)) (nm W) = vbs W from rfl, nI_dif, br_eq0_t (cond.mpr ha), c1]
        simp only [xca, nI_1]
        exact hy2
      · refine Or.inr ?_
        have gno : ∀ m, i < m → gok W k w m = false := by
          intro m
          induction m with
          | zero => intro z; exact absurd z (Nat.not_lt_zero _)
          | succ m ihm =>
            intro z
            rw [gok]
            by_cases e : i = m
            · subst e
              simp [w0, ha]
            · rw [ihm (by omega)]; rfl
        have dp : 0 < dif (msk (gf W k i) (nm W)) (vbs W) := Nat.pos_of_ne_zero (fun z => ha (cond.mp z))
        unfold f_X2_spreadInto_b8
        simp (disch := omega) only [xbn, (hy.k12 hk).2.2, br_le_f, ck_in, nI_clamp, hy.num hi, ite_not, br_eq0_f, mb_eq F hy hk hi, xca, cw_vb hy.1]
        rw [show msk (fun k => decide (¬ vl W k = -1)) (nm W) = vbs W from rfl, nI_dif, br_eq0_f dp (by omega), gno _ hi]
        exact ⟨μ', rfl, i1, i2, fun z => by cases z⟩
  · obtain ⟨i1, i2, i3, i4, i5⟩ := hI
    have hy := h.sm i1
    unfold f_X2_spreadInto_b8
    simp (disch := omega) only [xbn, (hy.k12 hk).2.2, br_le_t]
    rw [i3]
    exact ⟨μ', rfl, i1, i2, fun _ => ⟨i4, i5⟩⟩
