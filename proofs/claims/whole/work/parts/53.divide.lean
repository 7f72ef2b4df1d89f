/-! weights led to a known sum: one division, as it should be -/
/-- a rest as it is held: 0 none (-2), 1 raised (-1), else the rest and 2 -/
def rk (a : Nat) : Int64 := if a = 0 then -2 else if a = 1 then -1 else lN (a - 2)
theorem rkI {a : Nat} (h : a < 2 ^ 62) : (rk a).toInt = (a : Int) - 2 := by
  unfold rk
  by_cases q : a = 0
  · rw [if_pos q, q]; rfl
  · by_cases q1 : a = 1
    · rw [if_neg q, if_pos q1, q1]; rfl
    · rw [if_neg q, if_neg q1, pk_lT (by omega)]; omega
theorem rk_le {a b : Nat} (ha : a < 2 ^ 62) (hb : b < 2 ^ 62) : rk a ≤ rk b ↔ a ≤ b := by
  rw [Int64.le_iff_toInt_le, rkI ha, rkI hb]
  omega
theorem rk_n (r : Nat) : lN r = rk (r + 2) := by unfold rk; rw [if_neg (by omega), if_neg (by omega), Nat.add_sub_cancel]
/-- sums over those that f tells -/
def gsm (f : Nat → Bool) (w : Nat → Nat) : Nat → Nat
  | 0 => 0
  | n + 1 => gsm f w n + if f n then w n else 0
theorem gsm_le {f : Nat → Bool} {w : Nat → Nat} {X : Nat} : ∀ {n : Nat}, (∀ x, x < n → w x ≤ X) → gsm f w n ≤ X * n
  | 0, _ => Nat.zero_le _
  | n + 1, h => by
    have ih := gsm_le (f := f) (w := w) (X := X) (n := n) (fun x hx => h x (by omega))
    have t := h n (by omega)
    rw [gsm, Nat.mul_add, Nat.mul_one]
    split <;> omega
theorem gsm_cg {f g : Nat → Bool} {w v : Nat → Nat} : ∀ {n : Nat}, (∀ x, x < n → (if f x then w x else 0) = (if g x then v x else 0)) → gsm f w n = gsm g v n
  | 0, _ => rfl
  | n + 1, h => by rw [gsm, gsm, gsm_cg (fun x hx => h x (by omega)), h n (by omega)]
theorem gsm_mono {f : Nat → Bool} {w : Nat → Nat} (n : Nat) : ∀ m, gsm f w n ≤ gsm f w (n + m)
  | 0 => Nat.le_refl _
  | m + 1 => Nat.le_trans (gsm_mono n m) (Nat.le_add_right _ _)
theorem gsm_part {f : Nat → Bool} {w : Nat → Nat} {n x : Nat} (hx : x < n) (hf : f x = true) : w x ≤ gsm f w n := by
  have a := gsm_mono (f := f) (w := w) (x + 1) (n - (x + 1))
  rw [show x + 1 + (n - (x + 1)) = n by omega, gsm, if_pos hf] at a
  omega
theorem gsm_div {f : Nat → Bool} {w : Nat → Nat} {S T : Nat} : ∀ n, T * gsm f (fun x => S * w x / T) n + gsm f (fun x => S * w x % T) n = S * gsm f w n
  | 0 => by simp [gsm]
  | n + 1 => by
    have ih := gsm_div (f := f) (w := w) (S := S) (T := T) n
    have e := Nat.div_add_mod (S * w n) T
    simp only [gsm, Nat.mul_add]
    cases f n with
    | false => simpa using ih
    | true => simp only [if_true]; omega
theorem gsm_cnt {f : Nat → Bool} {r : Nat → Nat} {T : Nat} (hT : 0 < T) (h : ∀ x, r x < T) : ∀ n, gsm f r n ≤ cnt (fun x => f x && decide (1 ≤ r x)) n * (T - 1)
  | 0 => Nat.zero_le _
  | n + 1 => by
    have ih := gsm_cnt hT h (f := f) n
    have t := h n
    rw [gsm, cnt_s, Nat.add_mul]
    cases q : f n with
    | false => simpa using ih
    | true =>
      by_cases q2 : 1 ≤ r n
      · simp [q2]; omega
      · simp [q2]; omega
/-- the first of the greatest that f tells -/
def pick (f : Nat → Bool) (K : Nat → Nat) (n : Nat) : Option Nat := bo f (fun c b => decide (K b < K c)) n
theorem pick_spec {f : Nat → Bool} {K : Nat → Nat} : ∀ n, (pick f K n = none → ∀ c, c < n → f c = false) ∧ ∀ b, pick f K n = some b → b < n ∧ f b = true ∧ (∀ c, c < n → f c = true → K c ≤ K b) ∧ ∀ c, c < b → f c = true → K c < K b
  | 0 => ⟨fun _ c hc => absurd hc (Nat.not_lt_zero _), fun b hb => by cases hb⟩
  | n + 1 => by
    obtain ⟨h1, h2⟩ := pick_spec (f := f) (K := K) n
    unfold pick at h1 h2 ⊢
    rw [bo]
    cases hP : f n with
    | false =>
      rw [if_neg (by decide)]
      refine ⟨fun hn c hc => ?_, fun b hb => ?_⟩
      · by_cases e : c = n
        · subst e; exact hP
        · exact h1 hn c (by omega)
      · obtain ⟨a1, a2, a3, a4⟩ := h2 b hb
        refine ⟨by omega, a2, fun c hc hpc => ?_, a4⟩
        by_cases e : c = n
        · subst e; rw [hP] at hpc; cases hpc
        · exact a3 c (by omega) hpc
    | true =>
      rw [if_pos rfl]
      cases hb0 : bo f (fun c b => decide (K b < K c)) n with
      | none =>
        refine ⟨fun hn => (by cases hn), fun b hb => ?_⟩
        cases hb
        refine ⟨by omega, hP, fun c hc hpc => ?_, fun c hc hpc => ?_⟩
        · by_cases e : c = n
          · subst e; exact Nat.le_refl _
          · rw [h1 hb0 c (by omega)] at hpc; cases hpc
        · rw [h1 hb0 c (by omega)] at hpc; cases hpc
      | some b0 =>
        obtain ⟨a1, a2, a3, a4⟩ := h2 b0 hb0
        simp only [decide_eq_true_eq]
        by_cases q2 : K b0 < K n
        · rw [if_pos q2]
          refine ⟨fun hn => (by cases hn), fun b hb => ?_⟩
          cases hb
          refine ⟨by omega, hP, fun c hc hpc => ?_, fun c hc hpc => ?_⟩
          · by_cases e : c = n
            · subst e; exact Nat.le_refl _
            · have := a3 c (by omega) hpc; omega
          · have := a3 c hc hpc; omega
        · rw [if_neg q2]
          refine ⟨fun hn => (by cases hn), fun b hb => ?_⟩
          cases hb
          refine ⟨by omega, a2, fun c hc hpc => ?_, a4⟩
          by_cases e : c = n
          · subst e; omega
          · exact a3 c (by omega) hpc
/-- the reference's walk: the first of the greatest of all -/
def mrg (K : Nat → Nat) : Nat → Nat
  | 0 => 0
  | i + 1 => if K (mrg K i) < K i then i else mrg K i
theorem mrg_spec {K : Nat → Nat} : ∀ n, 0 < n → mrg K n < n ∧ (∀ c, c < n → K c ≤ K (mrg K n)) ∧ ∀ c, c < mrg K n → K c < K (mrg K n)
  | 0, h => absurd h (by omega)
  | 1, _ => by
    have e : mrg K 1 = 0 := by show (if K 0 < K 0 then 0 else 0) = 0; simp
    rw [e]
    exact ⟨by omega, fun c hc => by have : c = 0 := by omega
                                    rw [this]; exact Nat.le_refl _, fun c hc => absurd hc (Nat.not_lt_zero _)⟩
  | n + 2, _ => by
    obtain ⟨a1, a2, a3⟩ := mrg_spec (K := K) (n + 1) (by omega)
    rw [mrg]
    by_cases q : K (mrg K (n + 1)) < K (n + 1)
    · rw [if_pos q]
      refine ⟨by omega, fun c hc => ?_, fun c hc => ?_⟩
      · by_cases e : c = n + 1
        · subst e; exact Nat.le_refl _
        · have := a2 c (by omega); omega
      · have := a2 c hc; omega
    · rw [if_neg q]
      refine ⟨by omega, fun c hc => ?_, a3⟩
      by_cases e : c = n + 1
      · subst e; omega
      · exact a2 c (by omega)
/-- where some that f and tel tell stand at 3 or more, and the others that f tells below: both find the same -/
theorem mrg_pick {f tel : Nat → Bool} {K : Nat → Nat} {n y : Nat} (hy : y < n) (hf : f y = true) (hK : 3 ≤ K y) (ht : ∀ x, x < n → f x = true → tel x = false → K x ≤ 2) : pick f K n = some (mrg (fun x => if f x && tel x then K x else 0) n) := by
  have hty : tel y = true := by
    cases q : tel y with
    | true => rfl
    | false => have := ht y hy hf q; omega
  obtain ⟨m1, m2, m3⟩ := mrg_spec (K := fun x => if f x && tel x then K x else 0) n (by omega)
  obtain ⟨p1, p2⟩ := pick_spec (f := f) (K := K) n
  generalize mrg (fun x => if f x && tel x then K x else 0) n = m at *
  cases hp : pick f K n with
  | none => rw [p1 hp y hy] at hf; cases hf
  | some b =>
    obtain ⟨b1, b2, b3, b4⟩ := p2 b hp
    have kb := b3 y hy hf
    have tb : tel b = true := by
      cases q : tel b with
      | true => rfl
      | false => have := ht b b1 b2 q; omega
    have v := m2 y hy
    simp only [hf, hty, Bool.and_self, if_true] at v
    have cm : (f m && tel m) = true := by
      cases q : (f m && tel m) with
      | true => rfl
      | false => rw [q] at v; simp at v; omega
    have cm' := cm
    simp only [Bool.and_eq_true] at cm'
    rw [cm] at v m2 m3
    simp only [if_true] at v m2 m3
    have e1 := b3 m m1 cm'.1
    have e2 := m2 b b1
    simp only [b2, tb, Bool.and_self, if_true] at e2
    rcases Nat.lt_trichotomy m b with q | q | q
    · have := b4 m q cm'.1; omega
    · rw [q]
    · have := m3 b q
      simp only [b2, tb, Bool.and_self, if_true] at this
      omega
def rz (f : Nat → Bool) (n : Nat) : Nat → (Nat → Nat) × (Nat → Nat) → (Nat → Nat) × (Nat → Nat)
  | 0, s => s
  | L + 1, s => match pick f s.2 n with
    | none => s
    | some x => rz f n L (fun y => if y = x then s.1 y + 1 else s.1 y, fun y => if y = x then 1 else s.2 y)
/-- a division: w led to S over those that f tells -/
def dvS (f : Nat → Bool) (n S : Nat) (w : Nat → Nat) : Nat → Nat :=
  if gsm f w n = 0 then w else (rz f n (S - gsm f (fun x => S * w x / gsm f w n) n) (fun x => if f x then S * w x / gsm f w n else w x, fun x => S * w x % gsm f w n + 2)).1
/-- what is left is no more than there are rests -/
theorem left_le {f : Nat → Bool} {w : Nat → Nat} {S n : Nat} (hT : 0 < gsm f w n) : gsm f (fun x => S * w x / gsm f w n) n ≤ S ∧ S - gsm f (fun x => S * w x / gsm f w n) n ≤ cnt (fun x => f x && decide (3 ≤ S * w x % gsm f w n + 2)) n := by
  have e := gsm_div (f := f) (w := w) (S := S) (T := gsm f w n) n
  have c := gsm_cnt (f := f) (r := fun x => S * w x % gsm f w n) hT (fun x => Nat.mod_lt _ hT) n
  generalize gsm f w n = T at *
  generalize gsm f (fun x => S * w x / T) n = q at *
  have l1 : q ≤ S := by
    have : T * q ≤ T * S := by rw [Nat.mul_comm T S]; omega
    exact Nat.le_of_mul_le_mul_left this hT
  refine ⟨l1, ?_⟩
  have ec : cnt (fun x => f x && decide (3 ≤ S * w x % T + 2)) n = cnt (fun x => f x && decide (1 ≤ S * w x % T)) n := cnt_cg (fun x _ => by
    congr 1
    apply decide_eq_decide.mpr
    omega)
  rw [ec]
  generalize cnt (fun x => f x && decide (1 ≤ S * w x % T)) n = cc at *
  generalize gsm f (fun x => S * w x % T) n = R at *
  rcases Nat.lt_or_ge cc (S - q) with z | z
  · exfalso
    have h1 : T * (cc + 1) ≤ T * (S - q) := Nat.mul_le_mul_left _ z
    have h2 : T * (S - q) + T * q = S * T := by rw [← Nat.mul_add, Nat.sub_add_cancel l1, Nat.mul_comm]
    have h3 : cc * (T - 1) ≤ cc * T := Nat.mul_le_mul_left _ (Nat.sub_le _ _)
    rw [Nat.mul_add, Nat.mul_one, Nat.mul_comm T cc] at h1
    omega
  · exact z
/-- a weight never passes 600000; those without a telling stay at 0 -/
def WI2 (tel : Nat → Bool) (n : Nat) (w : Nat → Nat) : Prop := ∀ x, x < n → w x ≤ 600000 ∧ (tel x = false → w x = 0)
theorem rz_step {f : Nat → Bool} {n L : Nat} {s : (Nat → Nat) × (Nat → Nat)} (h : L + 1 ≤ cnt (fun x => f x && decide (3 ≤ s.2 x)) n) : ∃ x, pick f s.2 n = some x ∧ x < n ∧ f x = true ∧ 3 ≤ s.2 x ∧ (∃ y, y < n ∧ f y = true ∧ 3 ≤ s.2 y) ∧ L ≤ cnt (fun y => f y && decide (3 ≤ if y = x then 1 else s.2 y)) n := by
  obtain ⟨p1, p2⟩ := pick_spec (f := f) (K := s.2) n
  have ex : ∃ y, y < n ∧ f y = true ∧ 3 ≤ s.2 y := by
    apply Classical.byContradiction
    intro z
    have := cnt_0 (f := fun x => f x && decide (3 ≤ s.2 x)) (n := n) (fun y hy => by
      cases q : f y with
      | false => simp
      | true =>
        by_cases q2 : 3 ≤ s.2 y
        · exact absurd ⟨y, hy, q, q2⟩ z
        · simp [q2])
    omega
  obtain ⟨y, hy, hf, hK⟩ := ex
  cases hp : pick f s.2 n with
  | none => rw [p1 hp y hy] at hf; cases hf
  | some x =>
    obtain ⟨b1, b2, b3, b4⟩ := p2 x hp
    have kx := b3 y hy hf
    refine ⟨x, rfl, b1, b2, by omega, ⟨y, hy, hf, hK⟩, ?_⟩
    have := cnt_add1 (f := fun y => f y && decide (3 ≤ if y = x then 1 else s.2 y)) (g := fun y => f y && decide (3 ≤ s.2 y)) b1 (by simp [b2]; omega) (fun u hu => by simp [hu])
    rw [if_neg (by simp)] at this
    omega
