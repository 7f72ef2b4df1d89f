theorem lt4 {P : Nat → Prop} (h0 : P 0) (h1 : P 1) (h2 : P 2) (h3 : P 3) : ∀ p, p < 4 → P p := by
  intro p hp
  rcases (show p = 0 ∨ p = 1 ∨ p = 2 ∨ p = 3 by omega) with rfl | rfl | rfl | rfl <;> assumption
theorem lt3 {P : Nat → Prop} (h0 : P 0) (h1 : P 1) (h2 : P 2) : ∀ p, p < 3 → P p := by
  intro p hp
  rcases (show p = 0 ∨ p = 1 ∨ p = 2 by omega) with rfl | rfl | rfl <;> assumption
theorem lt8 {P : Nat → Prop} (h0 : P 0) (h1 : P 1) (h2 : P 2) (h3 : P 3) (h4 : P 4) (h5 : P 5) (h6 : P 6) (h7 : P 7) : ∀ p, p < 8 → P p := by
  intro p hp
  rcases (show p = 0 ∨ p = 1 ∨ p = 2 ∨ p = 3 ∨ p = 4 ∨ p = 5 ∨ p = 6 ∨ p = 7 by omega) with rfl | rfl | rfl | rfl | rfl | rfl | rfl | rfl <;> assumption
theorem n0 : nm μR0 = 0 := by decide +kernel
theorem a0 : an μR0 = 0 := by decide +kernel
theorem t0p : ∀ p, p < 4 → tl μR0 p = 0 := by decide +kernel
theorem s0p : ∀ p, p < 4 → ss μR0 p = 0 := by decide +kernel
theorem rel0 : Rel μC0 μR0 := by
  refine ⟨⟨⟨by decide +kernel, by decide +kernel, fun k hk => ?_⟩, ⟨by decide +kernel, by decide +kernel, by decide +kernel, fun i hi => ?_⟩, fun p hp => ⟨?_, fun i hi => ?_⟩, by unfold WFs; decide +kernel, ?_, ?_, ?_⟩, ⟨by decide +kernel, fun k hk => ?_, by decide +kernel, by decide +kernel, by decide +kernel, by decide +kernel, by decide +kernel, by decide +kernel, by decide +kernel⟩, ⟨by decide +kernel, by decide +kernel, fun i hi => ?_⟩, fun p hp => ?_, ⟨by decide +kernel, fun s hs => ?_⟩, by decide +kernel, by decide +kernel, by decide +kernel⟩
  · rw [n0] at hk; exact absurd hk (Nat.not_lt_zero _)
  · rw [a0] at hi; exact absurd hi (Nat.not_lt_zero _)
  · exact (by decide +kernel : ∀ p, p < 4 → μR0.1 13 p = nI (tl μR0 p) ∧ tl μR0 p ≤ 20) p hp
  · rw [t0p p hp] at hi; exact absurd hi (Nat.not_lt_zero _)
  · exact lt4 ⟨0, rfl, by decide⟩ ⟨0, rfl, by decide⟩ ⟨0, rfl, by decide⟩ ⟨0, rfl, by decide⟩
  · exact lt3 ⟨0, rfl, by decide⟩ ⟨0, rfl, by decide⟩ ⟨0, rfl, by decide⟩
  · exact lt8 ⟨5, rfl, by decide⟩ ⟨5, rfl, by decide⟩ ⟨5, rfl, by decide⟩ ⟨5, rfl, by decide⟩ ⟨5, rfl, by decide⟩ ⟨5, rfl, by decide⟩ ⟨5, rfl, by decide⟩ ⟨5, rfl, by decide⟩
  · rw [n0] at hk; exact absurd hk (Nat.not_lt_zero _)
  · rw [a0] at hi; exact absurd hi (Nat.not_lt_zero _)
  · have h1 := (by decide +kernel : ∀ p, p < 4 → μC0.1 (18 + 9 * p) 7 = μR0.1 13 p ∧ μC0.1 (18 + 9 * p) 8 = flt μR0 p ∧ μC0.2.2 (18 + 9 * p) 9 = (if kp μR0 p = 0 then none else some (18 + 9 * p + 2 + kp μR0 p)) ∧ ¬ flt μR0 p = -1 ∧ μC0.1 (18 + 9 * p + 3) 3 = 0 ∧ μC0.1 (18 + 9 * p + 3) 4 = 1 ∧ μC0.1 (18 + 9 * p + 4) 3 = 1 ∧ μC0.1 (18 + 9 * p + 4) 4 = 4 ∧ μC0.1 (18 + 9 * p + 5) 3 = 0 ∧ μC0.1 (18 + 9 * p + 6) 3 = 1) p hp
    refine ⟨h1.1, fun i hi => ?_, h1.2.1, h1.2.2.1, fun q => absurd q h1.2.2.2.1, h1.2.2.2.2⟩
    rw [t0p p hp] at hi; exact absurd hi (Nat.not_lt_zero _)
  · exact (by decide +kernel : ∀ s, s < 4 → μC0.1 (55 + 2 * s) 3 = μR0.1 2 s ∧ (μC0.1 (55 + 2 * s) 1 = 1 ∧ μR0.1 1 s = -1)) s hs |>.imp id Or.inl
