/-! sums of fractions in lowest terms -/
theorem ra_mul {c : Nat} (hc : 0 < c) (x y : Nat) : ra (c * x) (c * y) = ra x y := by unfold ra; rw [Nat.gcd_mul_left, Nat.mul_div_mul_left _ _ hc]
theorem rb_mul {c : Nat} (hc : 0 < c) (x y : Nat) : rb (c * x) (c * y) = rb x y := by unfold rb; rw [Nat.gcd_mul_left, Nat.mul_div_mul_left _ _ hc]
theorem ra_eq (x y : Nat) : x = Nat.gcd x y * ra x y := (Nat.mul_div_cancel' (Nat.gcd_dvd_left x y)).symm
theorem rb_eq (x y : Nat) : y = Nat.gcd x y * rb x y := (Nat.mul_div_cancel' (Nat.gcd_dvd_right x y)).symm
theorem rab_co {x y : Nat} (h : 0 < y) : Nat.gcd (ra x y) (rb x y) = 1 := by
  have hg := Nat.gcd_pos_of_pos_right x h
  have e := Nat.gcd_mul_left (Nat.gcd x y) (ra x y) (rb x y)
  rw [← ra_eq, ← rb_eq] at e
  have e2 : Nat.gcd x y * 1 = Nat.gcd x y * Nat.gcd (ra x y) (rb x y) := by rw [Nat.mul_one]; exact e
  exact (Nat.eq_of_mul_eq_mul_left hg e2).symm
theorem ra_id {x y : Nat} (h : Nat.gcd x y = 1) : ra x y = x ∧ rb x y = y := by unfold ra rb; rw [h, Nat.div_one, Nat.div_one]; exact ⟨rfl, rfl⟩
/-- one more: a / b and m / n together -/
def fa (a b m n : Nat) : Nat := ra (a * n + m * b) (b * n)
def fb (a b m n : Nat) : Nat := rb (a * n + m * b) (b * n)
theorem fa_0 {a b n : Nat} (h : Nat.gcd a b = 1) (hn : 0 < n) : fa a b 0 n = a ∧ fb a b 0 n = b := by
  unfold fa fb
  rw [Nat.zero_mul, Nat.add_zero, Nat.mul_comm a, Nat.mul_comm b, ra_mul hn, rb_mul hn]
  exact ra_id h
/-- the class's way: by the common divisor of the numbers below -/
theorem fa_C {a b m n : Nat} (hb : 0 < b) (hn : 0 < n) : ra (a * (n / Nat.gcd b n) + m * (b / Nat.gcd b n)) (b * (n / Nat.gcd b n)) = fa a b m n ∧ rb (a * (n / Nat.gcd b n) + m * (b / Nat.gcd b n)) (b * (n / Nat.gcd b n)) = fb a b m n := by
  have hg := Nat.gcd_pos_of_pos_left n hb
  have e1 := Nat.mul_div_cancel' (Nat.gcd_dvd_right b n)
  have e2 := Nat.mul_div_cancel' (Nat.gcd_dvd_left b n)
  have n1 : a * n + m * b = Nat.gcd b n * (a * (n / Nat.gcd b n) + m * (b / Nat.gcd b n)) := by
    rw [Nat.mul_add, Nat.mul_left_comm, e1, Nat.mul_left_comm (Nat.gcd b n) m, e2]
  have n2 : b * n = Nat.gcd b n * (b * (n / Nat.gcd b n)) := by rw [Nat.mul_left_comm, e1]
  unfold fa fb
  rw [n1, n2, ra_mul hg, rb_mul hg]
  exact ⟨rfl, rfl⟩
/-- the reference's way: the second in lowest terms first -/
theorem fa_R {a b m n : Nat} (hn : 0 < n) : ra (a * rb m n + ra m n * b) (b * rb m n) = fa a b m n ∧ rb (a * rb m n + ra m n * b) (b * rb m n) = fb a b m n := by
  have hg := Nat.gcd_pos_of_pos_right m hn
  have n1 : a * n + m * b = Nat.gcd m n * (a * rb m n + ra m n * b) := by
    rw [Nat.mul_add, Nat.mul_left_comm, ← rb_eq, ← Nat.mul_assoc, ← ra_eq]
  have n2 : b * n = Nat.gcd m n * (b * rb m n) := by rw [Nat.mul_left_comm, ← rb_eq]
  unfold fa fb
  rw [n1, n2, ra_mul hg, rb_mul hg]
  exact ⟨rfl, rfl⟩
/-- what is kept: the number below divides D, the fraction is at most V -/
def FI (D V a b : Nat) : Prop := 0 < b ∧ b ∣ D ∧ a ≤ V * b ∧ Nat.gcd a b = 1
theorem FI_0 (D : Nat) : FI D 0 0 1 := ⟨by decide, Nat.one_dvd _, by decide, by decide⟩
theorem FI_add {D V a b m n X : Nat} (h : FI D V a b) (hn : 0 < n) (hd : n ∣ D) (hm : m ≤ X) : FI D (V + X) (fa a b m n) (fb a b m n) := by
  obtain ⟨h1, h2, h3, h4⟩ := h
  have hD : 0 < b * n := Nat.mul_pos h1 hn
  have hg := Nat.gcd_pos_of_pos_right (a * n + m * b) hD
  have co : Nat.gcd (fa a b m n) (fb a b m n) = 1 := rab_co hD
  have e1 := ra_eq (a * n + m * b) (b * n)
  have e2 := rb_eq (a * n + m * b) (b * n)
  refine ⟨rb_pos hD, ?_, ?_, co⟩
  · -- b n divides D (a n + m b)
    have d1 : b * n ∣ D * (a * n + m * b) := by
      rw [Nat.mul_add]
      refine Nat.dvd_add ?_ ?_
      · rw [← Nat.mul_assoc]
        exact Nat.mul_dvd_mul (Nat.dvd_trans h2 (Nat.dvd_mul_right _ _)) (Nat.dvd_refl _)
      · rw [← Nat.mul_assoc, Nat.mul_comm b n]
        exact Nat.mul_dvd_mul (Nat.dvd_trans hd (Nat.dvd_mul_right _ _)) (Nat.dvd_refl _)
    have d2 : Nat.gcd (a * n + m * b) (b * n) * fb a b m n ∣ Nat.gcd (a * n + m * b) (b * n) * (D * fa a b m n) := by
      have k1 : Nat.gcd (a * n + m * b) (b * n) * fb a b m n = b * n := e2.symm
      have k2 : Nat.gcd (a * n + m * b) (b * n) * (D * fa a b m n) = D * (a * n + m * b) := by
        rw [Nat.mul_left_comm]
        exact congrArg (D * ·) e1.symm
      rw [k1, k2]
      exact d1
    have d3 : fb a b m n ∣ D * fa a b m n := Nat.dvd_of_mul_dvd_mul_left hg d2
    exact Nat.Coprime.dvd_of_dvd_mul_right (by show Nat.gcd (fb a b m n) (fa a b m n) = 1; rw [Nat.gcd_comm]; exact co) d3
  · have l1 : a * n + m * b ≤ (V + X) * (b * n) := by
      have q1 : a * n ≤ V * b * n := Nat.mul_le_mul_right _ h3
      have q2 : m * b ≤ X * (b * n) := Nat.mul_le_mul hm (Nat.le_mul_of_pos_right _ hn)
      rw [Nat.add_mul, ← Nat.mul_assoc V]
      omega
    have l2 : Nat.gcd (a * n + m * b) (b * n) * fa a b m n ≤ Nat.gcd (a * n + m * b) (b * n) * ((V + X) * fb a b m n) := by
      have k1 : Nat.gcd (a * n + m * b) (b * n) * fa a b m n = a * n + m * b := e1.symm
      have k2 : Nat.gcd (a * n + m * b) (b * n) * ((V + X) * fb a b m n) = (V + X) * (b * n) := by
        rw [Nat.mul_left_comm]
        exact congrArg ((V + X) * ·) e2.symm
      rw [k1, k2]
      exact l1
    exact Nat.le_of_mul_le_mul_left l2 hg
/-- the bounds of one step -/
theorem FI_b {D V a b m n X M : Nat} (h : FI D V a b) (hD : 0 < D) (hn : 0 < n) (hnM : n ≤ M) (hm : m ≤ X) : a ≤ V * D ∧ b ≤ D ∧ a * n + m * b ≤ (V * M + X) * D ∧ b * n ≤ M * D := by
  obtain ⟨h1, h2, h3, h4⟩ := h
  have bD : b ≤ D := Nat.le_of_dvd hD h2
  have aD : a ≤ V * D := Nat.le_trans h3 (Nat.mul_le_mul_left _ bD)
  refine ⟨aD, bD, ?_, ?_⟩
  · have q1 : a * n ≤ V * D * M := Nat.mul_le_mul aD hnM
    have q2 : m * b ≤ X * D := Nat.mul_le_mul hm bD
    rw [Nat.add_mul, Nat.mul_right_comm V M D]
    omega
  · rw [Nat.mul_comm M D]
    exact Nat.mul_le_mul bD hnM
/-- the class's add, as far as the numbers fit -/
theorem ad_C {F : Nat} (hF : 2000 ≤ F) (μ : Mem) (c : Nat) {a b m n : Nat} (e0 : μ.2.1 c 0 = lN a) (e1 : μ.2.1 c 1 = lN b) (hb : 0 < b) (hn : 0 < n) (co : Nat.gcd a b = 1) (b1 : a * n + m * b < 2 ^ 63) (b2 : b * n < 2 ^ 63) : ∃ μ2, f_X1_add F μ c (lN m) (lN n) = some ((), μ2) ∧ μ2.1 = μ.1 ∧ μ2.2.2 = μ.2.2 ∧ (∀ x j, x ≠ c → μ2.2.1 x j = μ.2.1 x j) ∧ μ2.2.1 c 0 = lN (fa a b m n) ∧ μ2.2.1 c 1 = lN (fb a b m n) := by
  have m63 : m < 2 ^ 63 := by
    have : m * 1 ≤ m * b := Nat.mul_le_mul_left _ hb
    omega
  have n63 : n < 2 ^ 63 := by
    have : 1 * n ≤ b * n := Nat.mul_le_mul_right _ hb
    omega
  have b63 : b < 2 ^ 63 := by
    have : b * 1 ≤ b * n := Nat.mul_le_mul_left _ hn
    omega
  unfold f_X1_add
  by_cases m0 : m = 0
  · subst m0
    have z := fa_0 co hn
    simp (disch := omega) only [lgl, lgg, lgle, lgge, lge, l_0, l_1, l_1000, bl_le_t, bl_le_f, bl_lt_t, bl_lt_f, bl_eq_t, bl_eq_f, dvl_n, dvi_n, nI_l, lN_add, lN_mul, lN_1]
    exact ⟨μ, rfl, rfl, rfl, fun _ _ _ => rfl, by rw [z.1]; exact e0, by rw [z.2]; exact e1⟩
  · have hg := Nat.gcd_pos_of_pos_left n hb
    have hgl := Nat.gcd_le_left n hb
    have hc : f_X1_commonDivisor F (lN b) (lN n) = some (lN (Nat.gcd b n)) := co_C 63 b n F 0 hb b63 n63 n63 (by omega) (by omega)
    have dn := Nat.div_le_self n (Nat.gcd b n)
    have db := Nat.div_le_self b (Nat.gcd b n)
    have q1 : a * (n / Nat.gcd b n) ≤ a * n := Nat.mul_le_mul_left _ dn
    have q2 : m * (b / Nat.gcd b n) ≤ m * b := Nat.mul_le_mul_left _ db
    have q3 : b * (n / Nat.gcd b n) ≤ b * n := Nat.mul_le_mul_left _ dn
    have q4 : 0 < b * (n / Nat.gcd b n) := Nat.mul_pos hb (Nat.div_pos (Nat.gcd_le_right _ hn) hg)
    simp (disch := omega) only [lgl, lgg, lgle, lgge, lge, l_0, l_1, l_1000, bl_le_t, bl_le_f, bl_lt_t, bl_lt_f, bl_eq_t, bl_eq_f, dvl_n, dvi_n, nI_l, lN_add, lN_mul, lN_1, xbn, e0, e1, hc, xcp, pk_lDiv]
    rw [bc_C hF μ c (by omega) q4 (by omega), (fa_C hb hn).1, (fa_C hb hn).2, xca]
    refine ⟨_, rfl, rfl, rfl, fun x j hx => ?_, ?_, ul_s _ _ _ _⟩
    · rw [ul_c hx, ul_c hx]
    · rw [ul_o (by omega), ul_s]
/-! bounds of shares by kind -/
theorem lcm20 : ∀ n, n < 21 → 0 < n → n ∣ 232792560 := by decide +kernel
theorem sq30 : ∀ n, n < 31 → (max 1 n) * (max 1 n) ≤ 2 ^ (n + 1) := by decide +kernel
theorem sumC {W : Mem} (hw : WF W) : ∀ n, n ≤ nm W → cnt (fun k => decide (cu W k = 0)) n + cnt (fun k => decide (cu W k = 1)) n + cnt (fun k => decide (cu W k = 2)) n + cnt (fun k => decide (cu W k = 3)) n + cnt (fun k => decide (cu W k = 4)) n + cnt (fun k => decide (cu W k = 5)) n + cnt (fun k => decide (cu W k = 6)) n + cnt (fun k => decide (cu W k = 7)) n = n
  | 0, _ => rfl
  | n + 1, h => by
    have ih := sumC hw n (by omega)
    have hc := (rw_c hw (SmR.rf W) (k := n) (by omega)).2
    simp only [cnt_s]
    rcases (show cu W n = 0 ∨ cu W n = 1 ∨ cu W n = 2 ∨ cu W n = 3 ∨ cu W n = 4 ∨ cu W n = 5 ∨ cu W n = 6 ∨ cu W n = 7 by omega) with e | e | e | e | e | e | e | e <;> rw [e] <;> simp <;> omega
def prT (W : Mem) (w : Nat → Nat) : Nat → Nat
  | 0 => 1
  | c + 1 => prT W w c * max 1 (tC W w c)
theorem prT_pos (W : Mem) (w : Nat → Nat) : ∀ c, 0 < prT W w c
  | 0 => Nat.one_pos
  | c + 1 => Nat.mul_pos (prT_pos W w c) (by omega)
theorem prT_dvd {W : Mem} {w : Nat → Nat} {c : Nat} (h1 : 1 ≤ tC W w c) : ∀ n, c < n → tC W w c ∣ prT W w n
  | 0, h => absurd h (Nat.not_lt_zero _)
  | n + 1, h => by
    rw [prT]
    by_cases e : c = n
    · subst e
      rw [Nat.max_eq_right h1]
      exact Nat.dvd_mul_left _ _
    · exact Nat.dvd_trans (prT_dvd h1 n (by omega)) (Nat.dvd_mul_right _ _)
theorem sqmul (a b c d : Nat) (h1 : a * a ≤ c) (h2 : b * b ≤ d) : a * b * (a * b) ≤ c * d := by
  rw [show a * b * (a * b) = (a * a) * (b * b) by ac_rfl]
  exact Nat.mul_le_mul h1 h2
theorem prT_sq {W : Mem} (hw : WF W) (w : Nat → Nat) : ∀ n, prT W w n * prT W w n ≤ 2 ^ (sw (fun c => nC W c + 1) n)
  | 0 => Nat.le_refl 1
  | n + 1 => by
    have l := nC_le W hw n
    have t := tC_le W w n
    have m1 : max 1 (tC W w n) ≤ max 1 (nC W n) := by omega
    have m2 : max 1 (tC W w n) * max 1 (tC W w n) ≤ 2 ^ (nC W n + 1) := Nat.le_trans (Nat.mul_le_mul m1 m1) (sq30 _ (by omega))
    rw [prT, sw, Nat.pow_add]
    exact sqmul _ _ _ _ (prT_sq hw w n) m2
theorem prT_le {W : Mem} (hw : WF W) (w : Nat → Nat) : prT W w 8 ≤ 524288 := by
  have h := prT_sq hw w 8
  have s := sumC hw (nm W) (Nat.le_refl _)
  have hN := rw_N hw
  have e : sw (fun c => nC W c + 1) 8 ≤ 38 := by
    show 0 + (nC W 0 + 1) + (nC W 1 + 1) + (nC W 2 + 1) + (nC W 3 + 1) + (nC W 4 + 1) + (nC W 5 + 1) + (nC W 6 + 1) + (nC W 7 + 1) ≤ 38
    unfold nC
    omega
  have p : prT W w 8 * prT W w 8 ≤ 2 ^ 38 := Nat.le_trans h (Nat.pow_le_pow_right (by decide) e)
  rcases Nat.lt_or_ge 524288 (prT W w 8) with q | q
  · have : 524289 * 524289 ≤ prT W w 8 * prT W w 8 := Nat.mul_le_mul q q
    omega
  · exact q
/-- all the share numerators divide D; M and B bound them -/
def SB (W : Mem) (k : Nat) (w : Nat → Nat) (d D M B : Nat) : Prop := 0 < D ∧ D * M * B ≤ 2800000000000 ∧ 1 ≤ M ∧ 1 ≤ B ∧ ∀ x, x < nm W → d.testBit x = true → 0 < sA W k w x ∧ ra (sA W k w x) (sB W k w x) ∣ D ∧ ra (sA W k w x) (sB W k w x) ≤ M ∧ rb (sA W k w x) (sB W k w x) ≤ B
theorem ra_dvd (x y : Nat) : ra x y ∣ x := Nat.div_dvd_of_dvd (Nat.gcd_dvd_left x y)
theorem mkU_ex {W : Mem} {k : Nat} {w : Nat → Nat} {d : Nat} : ∀ G, mkU W k w d G = true → ∃ u, u < G ∧ DA W k w u = d
  | 0, h => by cases h
  | G + 1, h => by
    rw [mkU, Bool.or_eq_true] at h
    rcases h with h | h
    · obtain ⟨u, h1, h2⟩ := mkU_ex G h
      exact ⟨u, by omega, h2⟩
    · exact ⟨G, by omega, by simpa using h⟩
/-- a draw along points -/
theorem SB_pt {W : Mem} (hw : WF W) {k : Nat} {w : Nat → Nat} (ho : OK W k w) (hk : k = 3 ∨ k = 4) {u : Nat} (hu : u < PT W k w) : SB W k w (DA W k w u) 232792560 20 600 := by
  have hp := ho.pk hk
  have es : ∀ x, sA W k w x = PW W k w x ∧ sB W k w x = PT W k w := fun x => by
    unfold sA sB
    rcases hk with rfl | rfl
    · simp only [show ¬ (3 : Nat) = 1 by decide, show ¬ (3 : Nat) = 2 by decide, show ¬ (3 : Nat) = 5 by decide, if_false, and_self]
    · simp only [show ¬ (4 : Nat) = 1 by decide, show ¬ (4 : Nat) = 2 by decide, show ¬ (4 : Nat) = 5 by decide, if_false, and_self]
  refine ⟨by decide, by decide, by decide, by decide, fun x hx hd => ?_⟩
  obtain ⟨e1, e2⟩ := es x
  have a := PW_20 hw hp hx
  have b := PT_le hw hp
  have hi : inD W k w u x = true := by
    unfold DA at hd
    rw [msk_t] at hd
    simp at hd
    exact hd.2
  have p : 0 < PW W k w x := cnt_pos hu hi
  rw [e1, e2]
  have l1 := ra_le (PW W k w x) (PT W k w)
  have l2 := rb_le (PW W k w x) (PT W k w)
  exact ⟨p, Nat.dvd_trans (ra_dvd _ _) (lcm20 _ (by omega) p), by omega, by omega⟩
theorem SB_ex {W : Mem} (hw : WF W) {k : Nat} {w : Nat → Nat} (ho : OK W k w) {d : Nat} (hm : MK W k w d = true) : ∃ D M B, SB W k w d D M B := by
  obtain ⟨h1, h2, h3, h4⟩ := id ho
  have hN := rw_N hw
  rcases (show k = 1 ∨ k = 2 ∨ k = 3 ∨ k = 4 ∨ k = 5 by omega) with rfl | rfl | rfl | rfl | rfl
  · rw [cbk1] at h1
    have m1 : w 0 * 30 * 30 ≤ 30 * 30 * 30 := Nat.mul_le_mul (Nat.mul_le_mul (by omega) (Nat.le_refl _)) (Nat.le_refl _)
    refine ⟨w 0, 30, 30, by omega, by omega, by decide, by decide, fun x hx hd => ?_⟩
    have e1 : sA W 1 w x = w 0 := rfl
    have e2 : sB W 1 w x = nm W := rfl
    rw [e1, e2]
    have l1 := ra_le (w 0) (nm W)
    have l2 := rb_le (w 0) (nm W)
    exact ⟨by omega, ra_dvd _ _, by omega, by omega⟩
  · rw [cbk2] at h1
    have z : ∀ j, j < 4 → max 1 (w j) ≤ 30 := fun j hj => by
      have := h1.1 j hj
      have := nL_le W hw j
      omega
    have m4 := mul4 (z 0 (by omega)) (z 1 (by omega)) (z 2 (by omega)) (z 3 (by omega))
    have m5 : max 1 (w 0) * max 1 (w 1) * (max 1 (w 2) * max 1 (w 3)) * 30 * 30 ≤ 30 * 30 * (30 * 30) * 30 * 30 := Nat.mul_le_mul (Nat.mul_le_mul m4 (Nat.le_refl _)) (Nat.le_refl _)
    refine ⟨max 1 (w 0) * max 1 (w 1) * (max 1 (w 2) * max 1 (w 3)), 30, 30, Nat.mul_pos (Nat.mul_pos (by omega) (by omega)) (Nat.mul_pos (by omega) (by omega)), by omega, by decide, by decide, fun x hx hd => ?_⟩
    have l := rw_l hw (SmR.rf W) hx
    have e1 : sA W 2 w x = w (ly W x) := rfl
    have e2 : sB W 2 w x = nL W (ly W x) := rfl
    rw [e1, e2]
    have l1 := ra_le (w (ly W x)) (nL W (ly W x))
    have l2 := rb_le (w (ly W x)) (nL W (ly W x))
    have l3 := nL_le W hw (ly W x)
    have l4 := z _ l.2
    have p : 0 < w (ly W x) := by
      rcases Nat.eq_zero_or_pos (w (ly W x)) with q | q
      · exfalso
        have hm2 : mkG W 2 w d 4 = true := hm
        by_cases c : pcn 32 (d &&& msk (gf W 2 (ly W x)) (nm W)) = w (ly W x)
        · rw [q, cnt_b] at c
          have := cnt_pos (f := fun i => (d &&& msk (gf W 2 (ly W x)) (nm W)).testBit i) (n := 32) (k := x) (by omega) (by
            rw [Nat.testBit_and, hd, msk_t]
            unfold gf
            simp [hx])
          omega
        · rw [mkG_no c 4 l.2] at hm2
          cases hm2
      · exact q
    refine ⟨p, ?_, by omega, by omega⟩
    have dv : w (ly W x) ∣ max 1 (w 0) * max 1 (w 1) * (max 1 (w 2) * max 1 (w 3)) := by
      rcases (show ly W x = 0 ∨ ly W x = 1 ∨ ly W x = 2 ∨ ly W x = 3 by omega) with e | e | e | e <;> rw [e] at p ⊢
      · rw [Nat.max_eq_right (b := w 0) p]
        exact Nat.dvd_trans (Nat.dvd_mul_right _ _) (Nat.dvd_mul_right _ _)
      · rw [Nat.max_eq_right (b := w 1) p]
        exact Nat.dvd_trans (Nat.dvd_mul_left _ _) (Nat.dvd_mul_right _ _)
      · rw [Nat.max_eq_right (b := w 2) p]
        exact Nat.dvd_trans (Nat.dvd_mul_right _ _) (Nat.dvd_mul_left _ _)
      · rw [Nat.max_eq_right (b := w 3) p]
        exact Nat.dvd_trans (Nat.dvd_mul_left _ _) (Nat.dvd_mul_left _ _)
    exact Nat.dvd_trans (ra_dvd _ _) dv
  · obtain ⟨u, u1, u2⟩ := mkU_ex (PT W 3 w) (show mkU W 3 w d (PT W 3 w) = true from hm)
    exact ⟨_, _, _, u2 ▸ SB_pt hw ho (Or.inl rfl) u1⟩
  · obtain ⟨u, u1, u2⟩ := mkU_ex (PT W 4 w) (show mkU W 4 w d (PT W 4 w) = true from hm)
    exact ⟨_, _, _, u2 ▸ SB_pt hw ho (Or.inr rfl) u1⟩
  · rw [cbk5] at h1
    have hK := nK_le W
    have pl := prT_le hw w
    have pp := prT_pos W w 8
    have m1 : w 0 * prT W w 8 ≤ 8 * 524288 := Nat.mul_le_mul (by omega) pl
    have m2 : w 0 * prT W w 8 * 240 * 240 ≤ 8 * 524288 * 240 * 240 := Nat.mul_le_mul (Nat.mul_le_mul m1 (Nat.le_refl _)) (Nat.le_refl _)
    refine ⟨w 0 * prT W w 8, 240, 240, Nat.mul_pos (by omega) pp, by omega, by decide, by decide, fun x hx hd => ?_⟩
    have cc := rw_c hw (SmR.rf W) hx
    have e1 : sA W 5 w x = w 0 * tC W w (cu W x) := rfl
    have e2 : sB W 5 w x = nK W * nC W (cu W x) := rfl
    rw [e1, e2]
    have p1 : 0 < nC W (cu W x) := cnt_pos hx (by simp)
    have t1 := tC_pos h1.2.2 p1
    have t2 := tC_le W w (cu W x)
    have t3 := nC_le W hw (cu W x)
    have q1 : w 0 * tC W w (cu W x) ≤ 8 * 30 := Nat.mul_le_mul (by omega) (by omega)
    have q2 : nK W * nC W (cu W x) ≤ 8 * 30 := Nat.mul_le_mul hK t3
    have l1 := ra_le (w 0 * tC W w (cu W x)) (nK W * nC W (cu W x))
    have l2 := rb_le (w 0 * tC W w (cu W x)) (nK W * nC W (cu W x))
    exact ⟨Nat.mul_pos (by omega) t1, Nat.dvd_trans (ra_dvd _ _) (Nat.mul_dvd_mul (Nat.dvd_refl _) (prT_dvd t1 8 cc.2)), by omega, by omega⟩
