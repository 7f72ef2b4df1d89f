/-! tools of the pure side: loops by what they stand at, bits, counts -/
theorem run_up {β : Type} {N : Nat} (L : Nat → Nat → Option β) {r : Option β} (h1 : ∀ n i, i < N → ∀ y, L n (i + 1) = y → L (n + 1) i = y) (h0 : ∀ n, L (n + 1) N = r) : ∀ n i, i ≤ N → N < n + i → L n i = r := by
  intro n
  induction n with
  | zero => intro i h2 h3; exact absurd h3 (by omega)
  | succ n ih =>
    intro i h2 h3
    by_cases hi : i = N
    · subst hi; exact h0 n
    · exact h1 n i (by omega) r (ih (i + 1) (by omega) (by omega))
theorem run_rel {σ β : Type} {N : Nat} (L : Nat → Nat → σ → Option β) (I : Nat → σ → Prop) (Q : Option β → Prop)
    (h1 : ∀ n i s, i < N → I i s → (∃ s', I (i + 1) s' ∧ ∀ y, L n (i + 1) s' = y → L (n + 1) i s = y) ∨ Q (L (n + 1) i s))
    (h0 : ∀ n s, I N s → Q (L (n + 1) N s)) : ∀ n i s, i ≤ N → N < n + i → I i s → Q (L n i s) := by
  intro n
  induction n with
  | zero => intro i s h2 h3; exact absurd h3 (by omega)
  | succ n ih =>
    intro i s h2 h3 h4
    by_cases hi : i = N
    · subst hi; exact h0 n s h4
    · rcases h1 n i s (by omega) h4 with ⟨s', h5, h6⟩ | h7
      · have h8 := ih (i + 1) s' (by omega) (by omega) h5
        rw [h6 _ rfl]
        exact h8
      · exact h7
def cnt (f : Nat → Bool) : Nat → Nat
  | 0 => 0
  | n + 1 => cnt f n + if f n then 1 else 0
theorem cnt_le (f : Nat → Bool) : ∀ n, cnt f n ≤ n
  | 0 => Nat.le_refl _
  | n + 1 => by
    have := cnt_le f n
    unfold cnt
    split <;> omega
theorem cnt_s (f : Nat → Bool) (n : Nat) : cnt f (n + 1) = cnt f n + if f n then 1 else 0 := rfl
theorem cnt_mono (f : Nat → Bool) (n m : Nat) : cnt f n ≤ cnt f (n + m) := by
  induction m with
  | zero => exact Nat.le_refl _
  | succ m ih => rw [show n + (m + 1) = (n + m) + 1 from rfl, cnt_s]; omega
theorem cnt_cg {f g : Nat → Bool} : ∀ {n : Nat}, (∀ k, k < n → f k = g k) → cnt f n = cnt g n
  | 0, _ => rfl
  | n + 1, h => by rw [cnt_s, cnt_s, cnt_cg (fun k hk => h k (by omega)), h n (by omega)]
theorem cnt_0 {f : Nat → Bool} : ∀ {n : Nat}, (∀ k, k < n → f k = false) → cnt f n = 0
  | 0, _ => rfl
  | n + 1, h => by rw [cnt_s, cnt_0 (fun k hk => h k (by omega)), h n (by omega)]; rfl
theorem cnt_all {f : Nat → Bool} : ∀ {n : Nat}, (∀ k, k < n → f k = true) → cnt f n = n
  | 0, _ => rfl
  | n + 1, h => by rw [cnt_s, cnt_all (fun k hk => h k (by omega)), h n (by omega)]; rfl
theorem cnt_pos {f : Nat → Bool} : ∀ {n k : Nat}, k < n → f k = true → 0 < cnt f n
  | 0, k, h, _ => absurd h (Nat.not_lt_zero _)
  | n + 1, k, h, hf => by
    rw [cnt_s]
    by_cases e : k = n
    · subst e; rw [hf]; exact Nat.succ_pos _
    · have := cnt_pos (n := n) (k := k) (by omega) hf
      omega
theorem cnt_far {f : Nat → Bool} {n : Nat} : ∀ {m : Nat}, (∀ k, n ≤ k → f k = false) → cnt f (n + m) = cnt f n
  | 0, _ => rfl
  | m + 1, h => by rw [show n + (m + 1) = (n + m) + 1 from rfl, cnt_s, cnt_far h, h (n + m) (by omega)]; rfl
theorem cnt_to {f : Nat → Bool} {n m : Nat} (hm : n ≤ m) (h : ∀ k, n ≤ k → f k = false) : cnt f m = cnt f n := by
  obtain ⟨d, rfl⟩ := Nat.le.dest hm
  exact cnt_far h
theorem msk_s (f : Nat → Bool) (n : Nat) : msk f (n + 1) = msk f n + if f n then 2 ^ n else 0 := rfl
theorem msk_lt (f : Nat → Bool) : ∀ n, msk f n < 2 ^ n
  | 0 => by show 0 < 1; decide
  | n + 1 => by
    have := msk_lt f n
    rw [msk_s, Nat.pow_succ]
    split <;> omega
theorem pow_le30 {n : Nat} (h : n ≤ 30) : 2 ^ n ≤ 2 ^ 30 := Nat.pow_le_pow_right (by decide) h
theorem msk_b {f : Nat → Bool} {n : Nat} (h : n ≤ 30) : msk f n < 2 ^ 30 := Nat.lt_of_lt_of_le (msk_lt f n) (pow_le30 h)
theorem msk_cg {f g : Nat → Bool} : ∀ {n : Nat}, (∀ k, k < n → f k = g k) → msk f n = msk g n
  | 0, _ => rfl
  | n + 1, h => by rw [msk_s, msk_s, msk_cg (fun k hk => h k (by omega)), h n (by omega)]
theorem msk_all : ∀ n, msk (fun _ => true) n = 2 ^ n - 1
  | 0 => rfl
  | n + 1 => by
    rw [msk_s, msk_all n, Nat.pow_succ, if_pos rfl]
    have := Nat.one_le_two_pow (n := n)
    omega
theorem or_add {a n : Nat} (h : a < 2 ^ n) : a ||| 2 ^ n = a + 2 ^ n := by
  have := Nat.two_pow_add_eq_or_of_lt h 1
  rw [Nat.mul_one] at this
  rw [Nat.or_comm, ← this, Nat.add_comm]
theorem msk_or (f : Nat → Bool) (n : Nat) : msk f n ||| 2 ^ n = msk f n + 2 ^ n := or_add (msk_lt f n)
theorem msk_t (f : Nat → Bool) : ∀ n k, (msk f n).testBit k = (decide (k < n) && f k)
  | 0, k => by simp [msk]
  | n + 1, k => by
    rw [msk_s]
    have ih := msk_t f n k
    cases hf : f n with
    | false =>
      rw [if_neg (by decide), Nat.add_zero, ih]
      by_cases e : k = n
      · subst e; simp [hf]
      · have : (k < n + 1) = (k < n) := by apply propext; omega
        simp only [this]
    | true =>
      rw [if_pos rfl, ← or_add (msk_lt f n), Nat.testBit_or, ih, Nat.testBit_two_pow]
      by_cases e : k = n
      · subst e; simp [hf]
      · have : (k < n + 1) = (k < n) := by apply propext; omega
        simp only [this]
        simp [show ¬ n = k by omega]
theorem cnt_b (x : Nat) : ∀ n, pcn n x = cnt (fun k => x.testBit k) n := by
  intro n
  induction n generalizing x with
  | zero => rfl
  | succ n ih =>
    rw [pcn, ih]
    have : ∀ m, cnt (fun k => x.testBit k) (m + 1) = x % 2 + cnt (fun k => (x / 2).testBit k) m := by
      intro m
      induction m with
      | zero => simp only [cnt, Nat.testBit_zero]; rcases (show x % 2 = 0 ∨ x % 2 = 1 by omega) with q | q <;> simp [q]
      | succ m ihm => rw [cnt_s, ihm, cnt_s, Nat.testBit_div_two]; omega
    rw [this]
theorem pcn_far {x n : Nat} (h : x < 2 ^ n) {m : Nat} (hm : n ≤ m) : pcn m x = pcn n x := by
  rw [cnt_b, cnt_b]
  exact cnt_to hm (fun k hk => Nat.testBit_lt_two_pow (Nat.lt_of_lt_of_le h (Nat.pow_le_pow_right (by decide) hk)))
theorem pcn_msk (f : Nat → Bool) {n m : Nat} (h : n ≤ m) : pcn m (msk f n) = cnt f n := by
  rw [pcn_far (msk_lt f n) h, cnt_b]
  exact cnt_cg (fun k hk => by rw [msk_t]; simp [hk])
/-! ints and bits -/
theorem nI_and (a b : Nat) : nI a &&& nI b = nI (a &&& b) := by
  apply Int32.toBitVec_inj.mp
  simp [nI, Int32.toBitVec_and, BitVec.ofNat_and]
theorem nI_or (a b : Nat) : nI a ||| nI b = nI (a ||| b) := by
  apply Int32.toBitVec_inj.mp
  simp [nI, Int32.toBitVec_or, BitVec.ofNat_or]
theorem nI_xor (a b : Nat) : nI a ^^^ nI b = nI (a ^^^ b) := by
  apply Int32.toBitVec_inj.mp
  simp [nI, Int32.toBitVec_xor, BitVec.ofNat_xor]
theorem nI_m1 : (-1 : Int32) = nI (2 ^ 32 - 1) := by decide +kernel
theorem sm31 : ∀ k, k < 31 → ((nI k &&& 31).toBitVec.smod 32).toNat = k := by decide +kernel
theorem one_shl {k : Nat} (h : k < 31) : (1 : Int32) <<< (nI k &&& 31) = nI (2 ^ k) := by
  have := pk_shlN (n := 1) (nI k &&& 31) k (sm31 k h) (by rw [Nat.one_mul]; exact Nat.pow_lt_pow_right (by decide) (by omega))
  rw [Nat.one_mul] at this
  exact this
theorem sh_bit {d k : Nat} (hd : d < 2 ^ 31) (hk : k < 31) : ((nI d >>> (nI k &&& 31)) &&& 1) = if d.testBit k then 1 else 0 := by
  rw [pk_shrN hd (nI k &&& 31) k (sm31 k hk), show (1 : Int32) = nI 1 from rfl, nI_and, Nat.and_one_is_mod, Nat.testBit_eq_decide_div_mod_eq]
  rcases (show d / 2 ^ k % 2 = 0 ∨ d / 2 ^ k % 2 = 1 by omega) with q | q <;> rw [q] <;> rfl
theorem b1 {b : Bool} : (¬ (if b = true then (1 : Int32) else 0) = 1) ↔ b = false := by cases b <;> simp
theorem b1' {b : Bool} : ((if b = true then (1 : Int32) else 0) = 1) ↔ b = true := by cases b <;> simp
theorem b0 {b : Bool} : ((if b = true then (1 : Int32) else 0) = 0) ↔ b = false := by cases b <;> simp
theorem ii_eq (F : Nat) {d k : Nat} (hd : d < 2 ^ 31) (hk : k < 31) : f_X11_isIn F (nI d) (nI k) = some (if d.testBit k then 1 else 0) := by
  unfold f_X11_isIn
  rw [sh_bit hd hk]
  cases d.testBit k <;> rfl
/-- what is not in b of a -/
def dif (a b : Nat) : Nat := a &&& (b ^^^ (2 ^ 32 - 1))
theorem nI_dif (a b : Nat) : nI a &&& (nI b ^^^ (-1)) = nI (dif a b) := by rw [nI_m1, nI_xor, nI_and]; rfl
theorem dif_t {a b k : Nat} (hk : k < 32) : (dif a b).testBit k = (a.testBit k && !b.testBit k) := by
  unfold dif
  rw [Nat.testBit_and, Nat.testBit_xor, Nat.testBit_two_pow_sub_one]
  simp [hk]
theorem dif_le (a b : Nat) : dif a b ≤ a := Nat.and_le_left
theorem dif_0 {a b : Nat} (ha : a < 2 ^ 31) : dif a b = 0 ↔ ∀ k, a.testBit k = true → b.testBit k = true := by
  constructor
  · intro h k hk
    have hk2 : k < 32 := by
      rcases Nat.lt_or_ge k 32 with q | q
      · exact q
      · rw [Nat.testBit_lt_two_pow (Nat.lt_of_lt_of_le ha (Nat.pow_le_pow_right (by decide) (by omega)))] at hk; cases hk
    have h2 := dif_t (a := a) (b := b) hk2
    rw [h, Nat.zero_testBit, hk] at h2
    cases hb : b.testBit k with
    | true => rfl
    | false => rw [hb] at h2; cases h2
  · intro h
    apply Nat.eq_of_testBit_eq
    intro k
    rw [Nat.zero_testBit]
    rcases Nat.lt_or_ge k 32 with q | q
    · rw [dif_t q]
      cases ha2 : a.testBit k with
      | false => rfl
      | true => rw [h k ha2]; rfl
    · exact Nat.testBit_lt_two_pow (Nat.lt_of_le_of_lt (dif_le a b) (Nat.lt_of_lt_of_le ha (Nat.pow_le_pow_right (by decide) (by omega))))
/-- a draw: names there are alone -/
theorem hd_iff (x : Int32) {n : Nat} (hn : n ≤ 30) : (x &&& (nI (2 ^ n - 1) ^^^ (-1))) = 0 ↔ wi x 0 (nI (2 ^ n - 1)) = true := by
  have hp := pow_le30 hn
  have h1 := Nat.one_le_two_pow (n := n)
  by_cases hx : x < 0
  · have e2 : wi x 0 (nI (2 ^ n - 1)) = false := by
      unfold wi
      simp only [decide_eq_false_iff_not, not_and]
      intro q; exact absurd hx (Int32.not_lt.mpr q)
    rw [e2]
    refine ⟨fun h => ?_, fun h => by cases h⟩
    have hb : x.toBitVec.getLsbD 31 = true := by
      have := Int32.lt_iff_toInt_lt.mp hx
      have h0 : (0 : Int32).toInt = 0 := rfl
      rw [h0] at this
      have h3 : x.toBitVec.toInt < 0 := this
      rw [BitVec.toInt_neg_iff] at h3
      rw [← BitVec.testBit_toNat, Nat.testBit_eq_decide_div_mod_eq]
      have := x.toBitVec.isLt
      simp only [decide_eq_true_eq]
      omega
    have h4 := congrArg (fun y : Int32 => y.toBitVec.getLsbD 31) h
    simp only [Int32.toBitVec_and, Int32.toBitVec_xor, BitVec.getLsbD_and, BitVec.getLsbD_xor, hb] at h4
    have e3 : (nI (2 ^ n - 1)).toBitVec.getLsbD 31 = false := by
      rw [← BitVec.testBit_toNat, pk_tn (by omega)]
      exact Nat.testBit_lt_two_pow (by omega)
    rw [e3] at h4
    exact absurd h4 (by decide)
  · obtain ⟨d, hd, rfl⟩ := nI_of hx
    rw [nI_dif]
    have hl := dif_le d (2 ^ n - 1)
    have e : (nI (dif d (2 ^ n - 1)) = 0) ↔ dif d (2 ^ n - 1) = 0 := by
      constructor
      · intro h
        rcases Nat.eq_zero_or_pos (dif d (2 ^ n - 1)) with q | q
        · exact q
        · exact absurd h (nI_ne0 q (by omega))
      · intro h; rw [h]; rfl
    rw [e, dif_0 hd]
    unfold wi
    simp only [decide_eq_true_eq]
    rw [nI_leI hd (by omega)]
    constructor
    · intro h
      refine ⟨nI_pos' hd, ?_⟩
      have : d < 2 ^ n := Nat.lt_pow_two_of_testBit d (fun i hi => by
        cases hb : d.testBit i with
        | false => rfl
        | true =>
          have := h i hb
          rw [Nat.testBit_two_pow_sub_one] at this
          simp at this
          omega)
      omega
    · intro h k hk
      rw [Nat.testBit_two_pow_sub_one]
      have hlt : d < 2 ^ n := by omega
      simp only [decide_eq_true_eq]
      rcases Nat.lt_or_ge k n with q | q
      · exact q
      · rw [Nat.testBit_lt_two_pow (Nat.lt_of_lt_of_le hlt (Nat.pow_le_pow_right (by decide) q))] at hk; cases hk
theorem wi_draw {x : Int32} {n : Nat} (hn : n ≤ 30) (h : wi x 0 (nI (2 ^ n - 1)) = true) : ∃ d, d < 2 ^ n ∧ x = nI d := by
  have hp := pow_le30 hn
  have h1 := Nat.one_le_two_pow (n := n)
  obtain ⟨d, hd, e⟩ := wi_nat (n := 2 ^ n - 1) rfl (by omega) h
  exact ⟨d, by omega, e⟩
