/-! how many bits: the JDK's bitCount and the reference's ones are one number -/
/-- bits among the lowest n -/
def pcn : Nat → Nat → Nat
  | 0, _ => 0
  | n + 1, x => x % 2 + pcn n (x / 2)
def z5 : Nat → Nat | 0 => 0 | k + 1 => 85 + 256 * z5 k
def z3 : Nat → Nat | 0 => 0 | k + 1 => 51 + 256 * z3 k
def zf : Nat → Nat | 0 => 0 | k + 1 => 15 + 256 * zf k
def zA1 (k x : Nat) : Nat := x - ((x / 2) &&& z5 k)
def zA2 (k x : Nat) : Nat := (zA1 k x &&& z3 k) + ((zA1 k x / 4) &&& z3 k)
def zA3 (k x : Nat) : Nat := (zA2 k x + zA2 k x / 16) &&& zf k
def zB1 (x : Nat) : Nat := x - ((x / 2) &&& 85)
def zB2 (x : Nat) : Nat := (zB1 x &&& 51) + ((zB1 x / 4) &&& 51)
theorem z_and {a b c d : Nat} (ha : a < 256) (hc : c < 256) : (a + 256 * b) &&& (c + 256 * d) = (a &&& c) + 256 * (b &&& d) := by
  have h1 : ((a + 256 * b) &&& (c + 256 * d)) % 2 ^ 8 = a &&& c := by
    rw [Nat.and_mod_two_pow, show (a + 256 * b) % 2 ^ 8 = a by omega, show (c + 256 * d) % 2 ^ 8 = c by omega]
  have h2 : ((a + 256 * b) &&& (c + 256 * d)) / 2 ^ 8 = b &&& d := by
    rw [Nat.and_div_two_pow, show (a + 256 * b) / 2 ^ 8 = b by omega, show (c + 256 * d) / 2 ^ 8 = d by omega]
  omega
theorem z_b1 : ∀ lo, lo < 256 → zB1 lo < 256 ∧ (lo / 2) &&& 85 ≤ lo ∧ ((lo / 2 + 128) &&& 85) = (lo / 2) &&& 85 := by decide +kernel
theorem z_b2 : ∀ y, y < 256 → ∀ r, r < 4 → ((y / 4 + 64 * r) &&& 51) = (y / 4) &&& 51 := by decide +kernel
theorem z_b2s : ∀ lo, lo < 256 → zB2 lo ≤ 68 ∧ zB2 lo % 16 ≤ 4 := by decide +kernel
theorem z_b3 : ∀ y, y < 69 → ∀ r, r < 5 → ((y + y / 16 + 16 * r) &&& 15) = (y + y / 16) &&& 15 := by decide +kernel
theorem z_b4 : ∀ lo, lo < 256 → (zB2 lo + zB2 lo / 16) &&& 15 = pcn 8 lo := by decide +kernel
theorem z_and_le (a b : Nat) : a &&& b ≤ a := Nat.and_le_left
theorem z_A1 (k : Nat) {lo hi : Nat} (h : lo < 256) : zA1 (k + 1) (lo + 256 * hi) = zB1 lo + 256 * zA1 k hi := by
  unfold zA1 zB1
  have e : (lo + 256 * hi) / 2 = (lo / 2 + 128 * (hi % 2)) + 256 * (hi / 2) := by omega
  have hb := z_b1 lo h
  have e2 : (lo / 2 + 128 * (hi % 2)) &&& 85 = (lo / 2) &&& 85 := by
    rcases (show hi % 2 = 0 ∨ hi % 2 = 1 by omega) with q | q
    · rw [q]; rfl
    · rw [q]; exact hb.2.2
  rw [e, show z5 (k + 1) = 85 + 256 * z5 k from rfl, z_and (by omega) (by omega), e2]
  have h3 := z_and_le (hi / 2) (z5 k)
  have h4 := hb.2.1
  omega
theorem z_A2 (k : Nat) {lo hi : Nat} (h : lo < 256) : zA2 (k + 1) (lo + 256 * hi) = zB2 lo + 256 * zA2 k hi := by
  unfold zA2 zB2
  rw [z_A1 k h]
  have hb := (z_b1 lo h).1
  generalize zB1 lo = y at hb ⊢
  generalize zA1 k hi = w
  have e : (y + 256 * w) / 4 = (y / 4 + 64 * (w % 4)) + 256 * (w / 4) := by omega
  rw [e, show z3 (k + 1) = 51 + 256 * z3 k from rfl, z_and hb (by omega), z_and (by omega) (by omega), z_b2 y hb _ (Nat.mod_lt _ (by omega))]
  omega
theorem z_low (k : Nat) : ∀ x, x < 256 ^ k → zA2 k x % 16 ≤ 4 := by
  cases k with
  | zero =>
    intro x h
    have : x = 0 := by simpa using h
    subst this
    decide
  | succ k =>
    intro x h
    have e : x = x % 256 + 256 * (x / 256) := by omega
    rw [e, z_A2 k (Nat.mod_lt _ (by omega))]
    have := (z_b2s (x % 256) (Nat.mod_lt _ (by omega))).2
    omega
theorem z_A3 (k : Nat) {lo hi : Nat} (h : lo < 256) (hh : hi < 256 ^ k) : zA3 (k + 1) (lo + 256 * hi) = pcn 8 lo + 256 * zA3 k hi := by
  unfold zA3
  rw [z_A2 k h]
  have hb := (z_b2s lo h).1
  have hl := z_low k hi hh
  rw [← z_b4 lo h]
  generalize zB2 lo = y at hb ⊢
  generalize zA2 k hi = w at hl ⊢
  have e : y + 256 * w + (y + 256 * w) / 16 = (y + y / 16 + 16 * (w % 16)) + 256 * (w + w / 16) := by omega
  rw [e, show zf (k + 1) = 15 + 256 * zf k from rfl, z_and (by omega) (by omega), z_b3 y (by omega) _ (by omega)]
theorem pcn_le : ∀ n x, pcn n x ≤ n
  | 0, _ => Nat.le_refl _
  | n + 1, x => by
    have := pcn_le n (x / 2)
    unfold pcn
    omega
theorem pcn_add : ∀ (n m x : Nat), pcn (n + m) x = pcn n x + pcn m (x / 2 ^ n)
  | 0, m, x => by simp [pcn]
  | n + 1, m, x => by
    rw [show n + 1 + m = (n + m) + 1 by omega, pcn, pcn, pcn_add n m (x / 2), Nat.div_div_eq_div_mul, Nat.pow_succ, Nat.mul_comm 2]
    omega
theorem pcn_mod : ∀ (n x : Nat), pcn n (x % 2 ^ n) = pcn n x
  | 0, _ => rfl
  | n + 1, x => by
    have e1 : x % 2 ^ (n + 1) % 2 = x % 2 := by rw [Nat.pow_succ, Nat.mul_comm, Nat.mod_mul_right_mod]
    have e2 : x % 2 ^ (n + 1) / 2 = x / 2 % 2 ^ n := by rw [Nat.pow_succ, Nat.mul_comm, Nat.mod_mul_right_div_self]
    rw [pcn, pcn, e1, e2, pcn_mod n (x / 2)]
/-- the JDK's steps, over naturals -/
theorem z_count {x : Nat} (h : x < 2 ^ 32) : (zA3 4 x + zA3 4 x / 256 + (zA3 4 x + zA3 4 x / 256) / 65536) % 64 = pcn 32 x := by
  have e0 : x = x % 256 + 256 * (x / 256 % 256 + 256 * (x / 65536 % 256 + 256 * (x / 16777216 % 256 + 256 * 0))) := by omega
  have p : pcn 32 x = pcn 8 (x % 256) + (pcn 8 (x / 256 % 256) + (pcn 8 (x / 65536 % 256) + pcn 8 (x / 16777216 % 256))) := by
    rw [show (32 : Nat) = 8 + 24 from rfl, pcn_add, show (24 : Nat) = 8 + 16 from rfl, pcn_add, show (16 : Nat) = 8 + 8 from rfl, pcn_add]
    have m1 := pcn_mod 8 x
    have m2 := pcn_mod 8 (x / 2 ^ 8)
    have m3 := pcn_mod 8 (x / 2 ^ 8 / 2 ^ 8)
    have m4 := pcn_mod 8 (x / 2 ^ 8 / 2 ^ 8 / 2 ^ 8)
    rw [show (2 : Nat) ^ 8 = 256 from rfl] at *
    rw [Nat.div_div_eq_div_mul] at *
    rw [Nat.div_div_eq_div_mul] at *
    rw [← m1, ← m2, ← m3, ← m4]
  have a3 : zA3 4 x = pcn 8 (x % 256) + 256 * (pcn 8 (x / 256 % 256) + 256 * (pcn 8 (x / 65536 % 256) + 256 * (pcn 8 (x / 16777216 % 256) + 256 * 0))) := by
    conv => lhs; rw [e0]
    rw [z_A3 3 (by omega) (by omega), z_A3 2 (by omega) (by omega), z_A3 1 (by omega) (by omega), z_A3 0 (by omega) (by omega)]
    rfl
  rw [p, a3]
  have q1 := pcn_le 8 (x % 256)
  have q2 := pcn_le 8 (x / 256 % 256)
  have q3 := pcn_le 8 (x / 65536 % 256)
  have q4 := pcn_le 8 (x / 16777216 % 256)
  generalize pcn 8 (x % 256) = p0 at *
  generalize pcn 8 (x / 256 % 256) = p1 at *
  generalize pcn 8 (x / 65536 % 256) = p2 at *
  generalize pcn 8 (x / 16777216 % 256) = p3 at *
  have s1 : (p0 + 256 * (p1 + 256 * (p2 + 256 * (p3 + 256 * 0)))) / 256 = p1 + 256 * p2 + 65536 * p3 := by omega
  rw [s1]
  have s2 : (p0 + 256 * (p1 + 256 * (p2 + 256 * (p3 + 256 * 0))) + (p1 + 256 * p2 + 65536 * p3)) / 65536 = (p2 + p3) + 256 * p3 := by omega
  rw [s2]
  omega
/-- the JDK's bitCount -/
theorem bc_eq (F : Nat) {x : Nat} (h : x < 2 ^ 32) : f_J6_bitCount_0f7a4 F (nI x) = some (nI (pcn 32 x)) := by
  have sh : ∀ (y : Nat), y < 2 ^ 32 → ∀ (s : Int32) (k : Nat), ((s.toUInt32 &&& Int32.toUInt32 31).toBitVec % 32).toNat = k → ((nI y).toUInt32 >>> (s.toUInt32 &&& Int32.toUInt32 31)).toInt32 = nI (y / 2 ^ k) := fun y hy s k hk => pk_ushrN hy s k hk
  have an2 : ∀ a b : Nat, nI a &&& nI b = nI (a &&& b) := fun a b => by
    apply Int32.toBitVec_inj.mp
    simp [nI, Int32.toBitVec_and, BitVec.ofNat_and]
  simp only [f_J6_bitCount_0f7a4, bnd]
  have hA1 : zA1 4 x = x - ((x / 2) &&& 1431655765) := rfl
  have l1 := z_and_le (x / 2) 1431655765
  have hA1l : zA1 4 x < 2 ^ 32 := by omega
  have hA2 : zA2 4 x = (zA1 4 x &&& 858993459) + ((zA1 4 x / 4) &&& 858993459) := rfl
  have l2 : (zA1 4 x &&& 858993459) ≤ 858993459 := Nat.and_le_right
  have l3 : ((zA1 4 x / 4) &&& 858993459) ≤ 858993459 := Nat.and_le_right
  have hA2l : zA2 4 x < 2 ^ 31 := by omega
  have hA3 : zA3 4 x = (zA2 4 x + zA2 4 x / 16) &&& 252645135 := rfl
  have l4 : ((zA2 4 x + zA2 4 x / 16) &&& 252645135) ≤ 252645135 := Nat.and_le_right
  have hA3l : zA3 4 x < 2 ^ 28 := by omega
  rw [sh x h 1 1 (by decide), show (1431655765 : Int32) = nI 1431655765 from rfl, an2, pk_sub (Nat.le_trans (z_and_le _ _) (Nat.div_le_self _ _)), show x - ((x / 2 ^ 1) &&& 1431655765) = zA1 4 x from rfl,
    sh _ hA1l 2 2 (by decide), show (858993459 : Int32) = nI 858993459 from rfl, an2, an2, nI_add, show (zA1 4 x &&& 858993459) + ((zA1 4 x / 2 ^ 2) &&& 858993459) = zA2 4 x from rfl,
    sh _ (by omega) 4 4 (by decide), nI_add, show (252645135 : Int32) = nI 252645135 from rfl, an2, show ((zA2 4 x + zA2 4 x / 2 ^ 4) &&& 252645135) = zA3 4 x from rfl,
    sh _ (by omega) 8 8 (by decide), nI_add, sh _ (by omega) 16 16 (by decide), nI_add, show (63 : Int32) = nI 63 from rfl, an2]
  rw [← z_count h, show (63 : Nat) = 2 ^ 6 - 1 from rfl, Nat.and_two_pow_sub_one_eq_mod]
/-- x & (x - 1) has one bit less -/
theorem pcn_drop : ∀ (n x : Nat), 0 < x → x < 2 ^ n → pcn n (x &&& (x - 1)) + 1 = pcn n x
  | 0, x, h, hx => by omega
  | n + 1, x, h, hx => by
    rcases (show x % 2 = 0 ∨ x % 2 = 1 by omega) with q | q
    · have hy : 0 < x / 2 := by omega
      have ih := pcn_drop n (x / 2) hy (by rw [Nat.pow_succ] at hx; omega)
      have e1 : (x &&& (x - 1)) % 2 = 0 := by
        have := Nat.and_mod_two_pow (a := x) (b := x - 1) (n := 1)
        rw [show (2 : Nat) ^ 1 = 2 from rfl, q] at this
        rw [this, Nat.zero_and]
      have e2 : (x &&& (x - 1)) / 2 = (x / 2) &&& (x / 2 - 1) := by rw [Nat.and_div_two, show (x - 1) / 2 = x / 2 - 1 by omega]
      rw [pcn, pcn, e1, e2, q]
      omega
    · have e1 : (x &&& (x - 1)) % 2 = 0 := by
        have := Nat.and_mod_two_pow (a := x) (b := x - 1) (n := 1)
        rw [show (2 : Nat) ^ 1 = 2 from rfl, show (x - 1) % 2 = 0 by omega] at this
        rw [this, Nat.and_zero]
      have e2 : (x &&& (x - 1)) / 2 = x / 2 := by rw [Nat.and_div_two, show (x - 1) / 2 = x / 2 by omega, Nat.and_self]
      rw [pcn, pcn, e1, e2, q]
      omega
/-- the reference's ones -/
theorem on_loop (F : Nat) : ∀ (n x a : Nat), x < 2 ^ 31 → pcn 32 x < n → f_X12_ones_b4 F n (nI a) (nI x) = some (nI (a + pcn 32 x)) := by
  intro n
  induction n with
  | zero => intro x a h1 h2; exact absurd h2 (Nat.not_lt_zero _)
  | succ n ih =>
    intro x a h1 h2
    unfold f_X12_ones_b4
    by_cases hx : x = 0
    · subst hx
      rw [if_pos nI_0, show pcn 32 0 = 0 from rfl, Nat.add_zero]
    · have hne : ¬ nI x = 0 := nI_ne0 (by omega) h1
      have hd := pcn_drop 32 x (by omega) (by omega)
      have an2 : ∀ a b : Nat, nI a &&& nI b = nI (a &&& b) := fun a b => by
        apply Int32.toBitVec_inj.mp
        simp [nI, Int32.toBitVec_and, BitVec.ofNat_and]
      have hl : x &&& (x - 1) ≤ x := Nat.and_le_left
      rw [if_neg hne]
      simp only [bnd]
      rw [show (1 : Int32) = nI 1 from rfl, pk_sub (by omega), an2, nI_add, ih _ _ (by omega) (by omega), show a + 1 + pcn 32 (x &&& (x - 1)) = a + pcn 32 x by omega]
theorem on_eq {F x : Nat} (hF : 33 ≤ F) (h : x < 2 ^ 31) : f_X12_ones F (nI x) = some (nI (pcn 32 x)) := by
  unfold f_X12_ones
  have := on_loop F F x 0 h (by have := pcn_le 32 x; omega)
  rw [show (0 : Int32) = nI 0 from rfl, this, Nat.zero_add]
