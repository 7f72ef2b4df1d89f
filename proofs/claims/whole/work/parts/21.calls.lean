theorem lt4 {P : Nat → Prop} (h0 : P 0) (h1 : P 1) (h2 : P 2) (h3 : P 3) : ∀ p, p < 4 → P p := by
  intro p hp
  rcases (show p = 0 ∨ p = 1 ∨ p = 2 ∨ p = 3 by omega) with rfl | rfl | rfl | rfl <;> assumption
theorem lt3 {P : Nat → Prop} (h0 : P 0) (h1 : P 1) (h2 : P 2) : ∀ p, p < 3 → P p := by
  intro p hp
  rcases (show p = 0 ∨ p = 1 ∨ p = 2 by omega) with rfl | rfl | rfl <;> assumption
theorem lt8 {P : Nat → Prop} (h0 : P 0) (h1 : P 1) (h2 : P 2) (h3 : P 3) (h4 : P 4) (h5 : P 5) (h6 : P 6) (h7 : P 7) : ∀ p, p < 8 → P p := by
  intro p hp
  rcases (show p = 0 ∨ p = 1 ∨ p = 2 ∨ p = 3 ∨ p = 4 ∨ p = 5 ∨ p = 6 ∨ p = 7 by omega) with rfl | rfl | rfl | rfl | rfl | rfl | rfl | rfl <;> assumption
theorem n0 : nm μR0 = 0 := by decide +kernel
theorem a0 : an μR0 = 0 := by decide +kernel
theorem t0p : ∀ p, p < 4 → tl μR0 p = 0 := by decide +kernel
theorem s0p : ∀ p, p < 4 → ss μR0 p = 0 := by decide +kernel
theorem rel0 : Rel μC0 μR0 := by
  refine ⟨⟨⟨by decide +kernel, by decide +kernel, fun k hk => ?_⟩, ⟨by decide +kernel, by decide +kernel, by decide +kernel, fun i hi => ?_⟩, fun p hp => ⟨?_, fun i hi => ?_⟩, by unfold WFs; decide +kernel, ?_, ?_, ?_⟩, ⟨by decide +kernel, fun k hk => ?_, by decide +kernel, by decide +kernel, by decide +kernel, by decide +kernel, by decide +kernel, by decide +kernel, by decide +kernel⟩, ⟨by decide +kernel, by decide +kernel, fun i hi => ?_⟩, fun p hp => ?_, ⟨by decide +kernel, fun s hs => ?_⟩, by decide +kernel, by decide +kernel, by decide +kernel⟩
  · rw [n0] at hk; exact absurd hk (Nat.not_lt_zero _)
  · rw [a0] at hi; exact absurd hi (Nat.not_lt_zero _)
  · exact (by decide +kernel : ∀ p, p < 4 → μR0.1 13 p = nI (tl μR0 p) ∧ tl μR0 p ≤ 20) p hp
  · rw [t0p p hp] at hi; exact absurd hi (Nat.not_lt_zero _)
  · exact lt4 ⟨0, rfl, by decide⟩ ⟨0, rfl, by decide⟩ ⟨0, rfl, by decide⟩ ⟨0, rfl, by decide⟩
  · exact lt3 ⟨0, rfl, by decide⟩ ⟨0, rfl, by decide⟩ ⟨0, rfl, by decide⟩
  · exact lt8 ⟨5, rfl, by decide⟩ ⟨5, rfl, by decide⟩ ⟨5, rfl, by decide⟩ ⟨5, rfl, by decide⟩ ⟨5, rfl, by decide⟩ ⟨5, rfl, by decide⟩ ⟨5, rfl, by decide⟩ ⟨5, rfl, by decide⟩
  · rw [n0] at hk; exact absurd hk (Nat.not_lt_zero _)
  · rw [a0] at hi; exact absurd hi (Nat.not_lt_zero _)
  · have h1 := (by decide +kernel : ∀ p, p < 4 → μC0.1 (18 + 9 * p) 7 = μR0.1 13 p ∧ μC0.1 (18 + 9 * p) 8 = flt μR0 p ∧ μC0.2.2 (18 + 9 * p) 9 = (if kp μR0 p = 0 then none else some (18 + 9 * p + 2 + kp μR0 p)) ∧ ¬ flt μR0 p = -1 ∧ μC0.1 (18 + 9 * p + 3) 3 = 0 ∧ μC0.1 (18 + 9 * p + 3) 4 = 1 ∧ μC0.1 (18 + 9 * p + 4) 3 = 1 ∧ μC0.1 (18 + 9 * p + 4) 4 = 4 ∧ μC0.1 (18 + 9 * p + 5) 3 = 0 ∧ μC0.1 (18 + 9 * p + 6) 3 = 1) p hp
    refine ⟨h1.1, fun i hi => ?_, h1.2.1, h1.2.2.1, fun q => absurd q h1.2.2.2.1, h1.2.2.2.2⟩
    rw [t0p p hp] at hi; exact absurd hi (Nat.not_lt_zero _)
  · exact (by decide +kernel : ∀ s, s < 4 → μC0.1 (55 + 2 * s) 3 = μR0.1 2 s ∧ (μC0.1 (55 + 2 * s) 1 = 1 ∧ μR0.1 1 s = -1)) s hs |>.imp id Or.inl
/-! Rel by its groups: names, answers, plans, sheets, known sums and costs -/
def gN (ρ ρ2 : Mem) : Prop := ρ2.1 0 5 = ρ.1 0 5 ∧ ∀ c, 5 ≤ c → c ≤ 8 → ∀ j, ρ2.1 c j = ρ.1 c j
def gA (ρ ρ2 : Mem) : Prop := ρ2.1 0 10 = ρ.1 0 10 ∧ ρ2.1 0 14 = ρ.1 0 14 ∧ ∀ c, 9 ≤ c → c ≤ 11 → ∀ j, ρ2.1 c j = ρ.1 c j
def gP (ρ ρ2 : Mem) : Prop := ∀ c, 12 ≤ c → c ≤ 13 → ∀ j, ρ2.1 c j = ρ.1 c j
def gS (ρ ρ2 : Mem) : Prop := ρ2.1 0 4 = ρ.1 0 4 ∧ ∀ c, 1 ≤ c → c ≤ 3 → ∀ j, ρ2.1 c j = ρ.1 c j
def gK (ρ ρ2 : Mem) : Prop := ∀ c, (c = 17 ∨ c = 18 ∨ c = 22) → ∀ j, ρ2.1 c j = ρ.1 c j
def hN (μ μ2 : Mem) : Prop := ∀ c, 1 ≤ c → c ≤ 11 → ∀ j, μ2.1 c j = μ.1 c j
def hA (μ μ2 : Mem) : Prop := ∀ c, 12 ≤ c → c ≤ 15 → ∀ j, μ2.1 c j = μ.1 c j
def hPl (μ μ2 : Mem) : Prop := (∀ p, p < 4 → ∀ k, k ≤ 2 → ∀ j, μ2.1 (18 + 9 * p + k) j = μ.1 (18 + 9 * p + k) j) ∧ (∀ p, p < 4 → μ2.2.2 (18 + 9 * p) 9 = μ.2.2 (18 + 9 * p) 9) ∧ ∀ p, p < 4 → ∀ k, 3 ≤ k → k ≤ 6 → ∀ j, 3 ≤ j → μ2.1 (18 + 9 * p + k) j = μ.1 (18 + 9 * p + k) j
def hSh (μ μ2 : Mem) : Prop := μ2.1 0 8 = μ.1 0 8 ∧ ∀ c, 54 ≤ c → c ≤ 62 → ∀ j, μ2.1 c j = μ.1 c j
def hKn (μ μ2 : Mem) : Prop := ∀ c, (c = 64 ∨ c = 65 ∨ c = 70) → ∀ j, μ2.1 c j = μ.1 c j
theorem u_WFk {ρ ρ2 : Mem} (g : gK ρ ρ2) (h : WFk ρ) : WFk ρ2 := by
  unfold WFk at *
  simp only [g 17 (by omega), g 18 (by omega), g 22 (by omega)]
  exact h
theorem u_RKn {μ μ2 ρ ρ2 : Mem} (g : gK ρ ρ2) (k : hKn μ μ2) (h : RKn μ ρ) : RKn μ2 ρ2 := by
  unfold RKn at *
  simp only [g 17 (by omega), g 18 (by omega), g 22 (by omega), k 64 (by omega), k 65 (by omega), k 70 (by omega)]
  exact h
theorem u_ss {ρ ρ2 : Mem} (g : gS ρ ρ2) : ss ρ2 = ss ρ := by funext x; unfold ss; rw [g.2 2 (by omega) (by omega)]
theorem u_WFs {ρ ρ2 : Mem} (g : gS ρ ρ2) (h : WFs ρ) : WFs ρ2 := by
  unfold WFs at *
  simp only [u_ss g, g.2 1 (by omega) (by omega), g.2 2 (by omega) (by omega)]
  exact h
theorem u_RSh {μ μ2 ρ ρ2 : Mem} (g : gS ρ ρ2) (k : hSh μ μ2) (h : RSh μ ρ) : RSh μ2 ρ2 := by
  refine ⟨by rw [k.1, g.1]; exact h.1, fun s hs => ?_⟩
  have h4 := h.2 s hs
  simp only [u_ss g, g.2 1 (by omega) (by omega), g.2 2 (by omega) (by omega), g.2 3 (by omega) (by omega), k.2 (55 + 2 * s) (by omega) (by omega), k.2 (55 + 2 * s + 1) (by omega) (by omega)]
  exact h4
theorem u_tl {ρ ρ2 : Mem} (g : gP ρ ρ2) : tl ρ2 = tl ρ := by funext x; unfold tl; rw [g 13 (by omega) (by omega)]
theorem u_byt {ρ ρ2 : Mem} (g : gP ρ ρ2) : byt ρ2 = byt ρ := by funext p i; unfold byt; rw [u_tl g, g 12 (by omega) (by omega)]
theorem u_num {ρ ρ2 : Mem} (g : gP ρ ρ2) : num ρ2 = num ρ := by funext p i; unfold num; rw [u_byt g]
theorem u_pgo {ρ ρ2 : Mem} (g : gP ρ ρ2) (p : Nat) (sep : Int32) : ∀ m i k w, pgo ρ2 p sep m i k w = pgo ρ p sep m i k w
  | 0, i, k, w => by unfold pgo; rw [u_tl g]
  | m + 1, i, k, w => by
    unfold pgo
    rw [u_byt g, u_num g]
    simp only [u_pgo g p sep m]
theorem u_kp {ρ ρ2 : Mem} (g : gP ρ ρ2) : kp ρ2 = kp ρ := by funext p; unfold kp; rw [u_byt g]
theorem u_prs {ρ ρ2 : Mem} (g : gP ρ ρ2) : prs ρ2 = prs ρ := by funext p w; unfold prs; rw [u_kp g, u_pgo g]
theorem u_flt {ρ ρ2 : Mem} (g : gP ρ ρ2) : flt ρ2 = flt ρ := by funext p; unfold flt; rw [u_prs g]
theorem u_wnt {ρ ρ2 : Mem} (g : gP ρ ρ2) : wnt ρ2 = wnt ρ := by funext p j; unfold wnt; rw [u_prs g]
theorem u_WFp {ρ ρ2 : Mem} (g : gP ρ ρ2) (h : WFp ρ) : WFp ρ2 := by
  unfold WFp at *
  simp only [u_tl g, g 12 (by omega) (by omega), g 13 (by omega) (by omega)]
  exact h
theorem u_RPl {μ μ2 ρ ρ2 : Mem} (g : gP ρ ρ2) (k : hPl μ μ2) (h : RPl μ ρ) : RPl μ2 ρ2 := by
  intro p hp
  have h3 := h p hp
  have k0 := k.1 p hp 0 (by omega)
  rw [Nat.add_zero] at k0
  have c2 := k.2.2 p hp
  simp only [u_tl g, u_flt g, u_kp g, u_wnt g, g 12 (by omega) (by omega), g 13 (by omega) (by omega), k0, k.1 p hp 1 (by omega), k.1 p hp 2 (by omega), k.2.1 p hp, c2 3 (by omega) (by omega) 3 (by omega), c2 3 (by omega) (by omega) 4 (by omega), c2 4 (by omega) (by omega) 3 (by omega), c2 4 (by omega) (by omega) 4 (by omega), c2 5 (by omega) (by omega) 3 (by omega), c2 6 (by omega) (by omega) 3 (by omega)]
  exact h3
theorem u_nm {ρ ρ2 : Mem} (g : gN ρ ρ2) : nm ρ2 = nm ρ := by unfold nm; rw [g.1]
theorem u_ly {ρ ρ2 : Mem} (g : gN ρ ρ2) : ly ρ2 = ly ρ := by funext k; unfold ly; rw [g.2 5 (by omega) (by omega)]
theorem u_cu {ρ ρ2 : Mem} (g : gN ρ ρ2) : cu ρ2 = cu ρ := by funext k; unfold cu; rw [g.2 6 (by omega) (by omega)]
theorem u_sz {ρ ρ2 : Mem} (g : gN ρ ρ2) : sz ρ2 = sz ρ := by funext k; unfold sz; rw [g.2 7 (by omega) (by omega)]
theorem u_mk {ρ ρ2 : Mem} (g : gN ρ ρ2) : mk ρ2 = mk ρ := by funext k; unfold mk; rw [g.2 8 (by omega) (by omega)]
theorem u_ssz {ρ ρ2 : Mem} (g : gN ρ ρ2) : ∀ n, ssz ρ2 n = ssz ρ n
  | 0 => rfl
  | n + 1 => by unfold ssz; rw [u_ssz g n, u_sz g]
theorem u_hasC {ρ ρ2 : Mem} (g : gN ρ ρ2) (c : Nat) : ∀ n, hasC ρ2 c n = hasC ρ c n
  | 0 => rfl
  | n + 1 => by unfold hasC; rw [u_hasC g c n, u_cu g]
theorem u_an {ρ ρ2 : Mem} (g : gA ρ ρ2) : an ρ2 = an ρ := by unfold an; rw [g.1]
theorem u_asd {ρ ρ2 : Mem} (g : gA ρ ρ2) : asd ρ2 = asd ρ := by unfold asd; rw [g.2.1]
theorem u_aof {ρ ρ2 : Mem} (g : gA ρ ρ2) : aof ρ2 = aof ρ := by funext k; unfold aof; rw [g.2.2 9 (by omega) (by omega)]
theorem u_aday {ρ ρ2 : Mem} (g : gA ρ ρ2) : aday ρ2 = aday ρ := by funext k; unfold aday; rw [g.2.2 11 (by omega) (by omega)]
theorem u_vfold {ρ ρ2 : Mem} (g : gA ρ ρ2) (k : Nat) : ∀ a, vfold ρ2 k a = vfold ρ k a
  | 0 => rfl
  | a + 1 => by
    unfold vfold
    simp only [u_vfold g k a, u_aof g, u_aday g, u_asd g, g.2.2 10 (by omega) (by omega)]
theorem u_vl {ρ ρ2 : Mem} (g : gA ρ ρ2) : vl ρ2 = vl ρ := by funext k; unfold vl; rw [u_vfold g, u_an g]
theorem u_WFn {ρ ρ2 : Mem} (g : gN ρ ρ2) (h : WFn ρ) : WFn ρ2 := by
  unfold WFn at *
  simp only [u_nm g, u_ly g, u_cu g, u_sz g, u_mk g, g.1, g.2 5 (by omega) (by omega), g.2 6 (by omega) (by omega), g.2 7 (by omega) (by omega), g.2 8 (by omega) (by omega)]
  exact h
theorem u_WFa {ρ ρ2 : Mem} (g : gN ρ ρ2) (g2 : gA ρ ρ2) (h : WFa ρ) : WFa ρ2 := by
  unfold WFa at *
  simp only [u_nm g, u_an g2, u_asd g2, u_aof g2, u_aday g2, g2.1, g2.2.1, g2.2.2 9 (by omega) (by omega), g2.2.2 10 (by omega) (by omega), g2.2.2 11 (by omega) (by omega)]
  exact h
theorem u_RNm {μ μ2 ρ ρ2 : Mem} (g : gN ρ ρ2) (g2 : gA ρ ρ2) (k : hN μ μ2) (h : RNm μ ρ) : RNm μ2 ρ2 := by
  unfold RNm at *
  simp only [u_nm g, u_ly g, u_cu g, u_sz g, u_mk g, u_vl g2, u_ssz g, u_hasC g, g.1, g.2 5 (by omega) (by omega), g.2 6 (by omega) (by omega), g.2 7 (by omega) (by omega), g.2 8 (by omega) (by omega), k 1 (by omega) (by omega), k 2 (by omega) (by omega), k 3 (by omega) (by omega), k 4 (by omega) (by omega), k 5 (by omega) (by omega), k 6 (by omega) (by omega), k 7 (by omega) (by omega), k 8 (by omega) (by omega), k 9 (by omega) (by omega), k 10 (by omega) (by omega), k 11 (by omega) (by omega)]
  exact h
theorem u_RAn {μ μ2 ρ ρ2 : Mem} (g2 : gA ρ ρ2) (k : hA μ μ2) (h : RAn μ ρ) : RAn μ2 ρ2 := by
  unfold RAn at *
  simp only [u_an g2, g2.1, g2.2.1, g2.2.2 9 (by omega) (by omega), g2.2.2 10 (by omega) (by omega), g2.2.2 11 (by omega) (by omega), k 12 (by omega) (by omega), k 13 (by omega) (by omega), k 14 (by omega) (by omega), k 15 (by omega) (by omega)]
  exact h
