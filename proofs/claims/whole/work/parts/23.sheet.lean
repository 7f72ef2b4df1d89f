/-! loops over a sheet's items -/
/-- the class: all places from i on become 0 -/
theorem rn_loop (F : Nat) (t : Nat) : ∀ (n i : Nat) (μ : Mem), i ≤ 90 → 91 ≤ i + n → ∃ μ2, f_X7_renew_b17 F n μ t (nI i) = some ((), μ2) ∧ μ2.2 = μ.2 ∧ (∀ c, c ≠ t + 1 → ∀ j, μ2.1 c j = μ.1 c j) ∧ ∀ j, μ2.1 (t + 1) j = if i ≤ j ∧ j < 90 then 0 else μ.1 (t + 1) j := by
  intro n
  induction n with
  | zero => intro i μ h1 h2; exact absurd h2 (by omega)
  | succ n ih =>
    intro i μ h1 h2
    unfold f_X7_renew_b17
    by_cases hi : i = 90
    · subst hi
      rw [if_pos (by decide)]
      refine ⟨μ, rfl, rfl, fun _ _ _ => rfl, fun j => ?_⟩
      rw [if_neg (by omega)]
    · have hlt : i < 90 := by omega
      rw [if_neg (by rw [show (90 : Int32) = nI 90 from rfl]; exact fun q => absurd ((nI_leI (by omega) (by omega)).mp q) (by omega)), ck_in hlt (by decide), nI_clamp (by omega)]
      simp only [bnd]
      rw [nI_1]
      obtain ⟨μ2, e1, e2, e3, e4⟩ := ih (i + 1) (ui μ (t + 1) i 0) (by omega) (by omega)
      refine ⟨μ2, e1, e2, fun c hc j => by rw [e3 c hc, ui_c hc], fun j => ?_⟩
      rw [e4, ui_at]
      by_cases q : j = i
      · subst q
        rw [if_neg (by omega), if_pos rfl, if_pos (by omega)]
      · rw [if_neg q]
        by_cases q2 : i + 1 ≤ j ∧ j < 90
        · rw [if_pos q2, if_pos (by omega)]
        · rw [if_neg q2, if_neg (by omega)]
/-- the reference: the places of its items become 0 -/
theorem rs_loop (F : Nat) {s m : Nat} (hs : s < 4) (hm : m ≤ 90) : ∀ (n i : Nat) (ρ : Mem), i ≤ m → m + 1 ≤ i + n → ∃ ρ2, f_X12_sheet_b55 F n ρ (nI s) (nI m) (nI i) = some (nI m, ρ2) ∧ ρ2.2 = ρ.2 ∧ (∀ c, c ≠ 3 → ∀ j, ρ2.1 c j = ρ.1 c j) ∧ ∀ j, ρ2.1 3 j = if 90 * s + i ≤ j ∧ j < 90 * s + m then 0 else ρ.1 3 j := by
  intro n
  induction n with
  | zero => intro i ρ h1 h2; exact absurd h2 (by omega)
  | succ n ih =>
    intro i ρ h1 h2
    unfold f_X12_sheet_b55
    by_cases hi : i = m
    · subst hi
      rw [if_pos (nI_le (Nat.le_refl _) (by omega))]
      refine ⟨ρ, rfl, rfl, fun _ _ _ => rfl, fun j => ?_⟩
      rw [if_neg (by omega)]
    · have hlt : i < m := by omega
      rw [if_neg (nI_ge hlt (by omega)), show (90 : Int32) = nI 90 from rfl, pk_mul, nI_add, ck_in (show 90 * s + i < 360 by omega) (by decide), nI_clamp (by omega)]
      simp only [bnd]
      rw [nI_1]
      obtain ⟨ρ2, e1, e2, e3, e4⟩ := ih (i + 1) (ui ρ 3 (90 * s + i) 0) (by omega) (by omega)
      refine ⟨ρ2, e1, e2, fun c hc j => by rw [e3 c hc, ui_c hc], fun j => ?_⟩
      rw [e4, ui_at]
      by_cases q : j = 90 * s + i
      · rw [if_neg (by omega), if_pos q, if_pos (by omega)]
      · rw [if_neg q]
        by_cases q2 : 90 * s + (i + 1) ≤ j ∧ j < 90 * s + m
        · rw [if_pos q2, if_pos (by omega)]
        · rw [if_neg q2, if_neg (by omega)]
