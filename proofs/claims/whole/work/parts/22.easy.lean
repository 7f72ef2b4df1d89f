theorem ui_c {μ : Mem} {k j : Nat} {v : Int32} {c : Nat} (h : c ≠ k) (i : Nat) : (ui μ k j v).1 c i = μ.1 c i := by rw [ui_ne h]
theorem ui_at (μ : Mem) (k j : Nat) (v : Int32) (i : Nat) : (ui μ k j v).1 k i = if i = j then v else μ.1 k i := by rw [ui_eq]; rfl
/-- a change of known sums or costs alone -/
theorem rel_k {μ μ2 ρ ρ2 : Mem} (h : Rel μ ρ) (hc : ∀ c, c ≠ 64 → c ≠ 65 → c ≠ 70 → ∀ j, μ2.1 c j = μ.1 c j) (hc2 : μ2.2.2 = μ.2.2) (hr : ∀ c, c ≠ 17 → c ≠ 18 → c ≠ 22 → ∀ j, ρ2.1 c j = ρ.1 c j) (h5 : WFk ρ2) (h6 : RKn μ2 ρ2) : Rel μ2 ρ2 := by
  obtain ⟨⟨w1, w2, w3, w4, w5⟩, r1, r2, r3, r4, r5⟩ := h
  have eN : gN ρ ρ2 := ⟨hr 0 (by omega) (by omega) (by omega) 5, fun c q1 q2 j => hr c (by omega) (by omega) (by omega) j⟩
  have eA : gA ρ ρ2 := ⟨hr 0 (by omega) (by omega) (by omega) 10, hr 0 (by omega) (by omega) (by omega) 14, fun c q1 q2 j => hr c (by omega) (by omega) (by omega) j⟩
  have eP : gP ρ ρ2 := fun c q1 q2 j => hr c (by omega) (by omega) (by omega) j
  have eS : gS ρ ρ2 := ⟨hr 0 (by omega) (by omega) (by omega) 4, fun c q1 q2 j => hr c (by omega) (by omega) (by omega) j⟩
  exact ⟨⟨u_WFn eN w1, u_WFa eN eA w2, u_WFp eP w3, u_WFs eS w4, h5⟩, u_RNm eN eA (fun c q1 q2 j => hc c (by omega) (by omega) (by omega) j) r1, u_RAn eA (fun c q1 q2 j => hc c (by omega) (by omega) (by omega) j) r2,
    u_RPl eP ⟨fun p hp k hk j => hc _ (by omega) (by omega) (by omega) j, fun p hp => by rw [hc2], fun p hp k q1 q2 j hj => hc _ (by omega) (by omega) (by omega) j⟩ r3, u_RSh eS ⟨hc 0 (by omega) (by omega) (by omega) 8, fun c q1 q2 j => hc c (by omega) (by omega) (by omega) j⟩ r4, h6⟩
theorem sim_cost (F : Nat) (μ ρ : Mem) (a1 a2 : Int32) (h : Rel μ ρ) : ∃ (r : Int32) (μ2 ρ2 : Mem), f_X11_cost F μ a1 a2 = some (r, μ2) ∧ f_X12_cost F ρ a1 a2 = some (r, ρ2) ∧ Rel μ2 ρ2 := by
  unfold f_X11_cost f_X12_cost f_X11_swap
  rw [wi_eq, wi_eq, in_eq F a1 0 7 (A := 0) (B := 7) rfl rfl, in_eq F a2 0 100 (A := 0) (B := 100) rfl rfl]
  simp only [calp, cal, bnd]
  by_cases w1 : wi a1 0 7 = true
  · rw [w1]
    by_cases w2 : wi a2 0 100 = true
    · obtain ⟨j, hj, rfl⟩ := wi_nat (n := 7) rfl (by decide) w1
      obtain ⟨v, hv, rfl⟩ := wi_nat (n := 100) rfl (by decide) w2
      rw [w2]
      simp only [show kindC 70 - 1000 = 8 from rfl, ck_in (show j < 8 by omega) (by decide), nI_clamp (show j < 2 ^ 31 by omega)]
      refine ⟨μ.1 70 j, ui μ 70 j (nI v), ui ρ 22 j (nI v), rfl, ?_, ?_⟩
      · rw [h.2.2.2.2.2.2.2 j (by omega)]; rfl
      · refine rel_k h (fun c q1 q2 q3 i => ui_c q3 i) rfl (fun c q1 q2 q3 i => ui_c q3 i) ⟨fun l hl => ?_, fun m hm => ?_, fun c hc => ?_⟩ ⟨fun l hl => ?_, fun m hm => ?_, fun c hc => ?_⟩
        · rw [ui_c (by omega)]; exact h.1.2.2.2.2.1 l hl
        · rw [ui_c (by omega)]; exact h.1.2.2.2.2.2.1 m hm
        · rw [ui_at]
          by_cases e : c = j
          · exact ⟨v, by rw [if_pos e], hv⟩
          · rw [if_neg e]; exact h.1.2.2.2.2.2.2 c hc
        · rw [ui_c (by omega), ui_c (by omega)]; exact h.2.2.2.2.2.1 l hl
        · rw [ui_c (by omega), ui_c (by omega)]; exact h.2.2.2.2.2.2.1 m hm
        · rw [ui_at, ui_at, h.2.2.2.2.2.2.2 c hc]
    · rw [Bool.not_eq_true] at w2
      rw [w2]
      exact ⟨-2, μ, ρ, rfl, rfl, h⟩
  · rw [Bool.not_eq_true] at w1
    rw [w1]
    exact ⟨-2, μ, ρ, rfl, rfl, h⟩
theorem wi01 {x : Int32} (h : wi x 0 1 = true) : x = 0 ∨ x = 1 := by
  obtain ⟨j, hj, rfl⟩ := wi_nat (n := 1) rfl (by decide) h
  rcases (show j = 0 ∨ j = 1 by omega) with rfl | rfl
  · exact Or.inl rfl
  · exact Or.inr rfl
theorem sim_known (F : Nat) (μ ρ : Mem) (a1 a2 a3 : Int32) (h : Rel μ ρ) : ∃ (r : Int32) (μ2 ρ2 : Mem), f_X11_known F μ a1 a2 a3 = some (r, μ2) ∧ f_X12_known F ρ a1 a2 a3 = some (r, ρ2) ∧ Rel μ2 ρ2 := by
  unfold f_X11_known f_X12_known f_X11_known_b40 f_X12_known_b26 f_X12_known_b66 f_X11_swap
  rw [wi_eq, wi_eq, wi_eq, in_eq F a1 0 1 (A := 0) (B := 1) rfl rfl, in_eq F a2 0 2 (A := 0) (B := 2) rfl rfl, in_eq F a2 0 3 (A := 0) (B := 3) rfl rfl, in_eq F a3 0 30000 (A := 0) (B := 30000) rfl rfl]
  simp only [calp, cal, bnd]
  by_cases w3 : wi a3 0 30000 = true
  · obtain ⟨v, hv, rfl⟩ := wi_nat (n := 30000) rfl (by decide) w3
    by_cases e0 : a1 = 0
    · subst e0
      rw [w3, show wi 0 0 1 = true from rfl]
      by_cases w2 : wi a2 0 3 = true
      · obtain ⟨j, hj, rfl⟩ := wi_nat (n := 3) rfl (by decide) w2
        rw [w2]
        simp only [show kindC 64 - 1000 = 4 from rfl, ck_in (show j < 4 by omega) (by decide), nI_clamp (show j < 2 ^ 31 by omega)]
        refine ⟨μ.1 64 j, ui μ 64 j (nI v), ui ρ 17 j (nI v), rfl, ?_, ?_⟩
        · rw [h.2.2.2.2.2.1 j (by omega)]; rfl
        · refine rel_k h (fun c q1 q2 q3 i => ui_c q1 i) rfl (fun c q1 q2 q3 i => ui_c q1 i) ⟨fun l hl => ?_, fun m hm => ?_, fun c hc => ?_⟩ ⟨fun l hl => ?_, fun m hm => ?_, fun c hc => ?_⟩
          · rw [ui_at]
            by_cases e : l = j
            · exact ⟨v, by rw [if_pos e], hv⟩
            · rw [if_neg e]; exact h.1.2.2.2.2.1 l hl
          · rw [ui_c (by omega)]; exact h.1.2.2.2.2.2.1 m hm
          · rw [ui_c (by omega)]; exact h.1.2.2.2.2.2.2 c hc
          · rw [ui_at, ui_at, h.2.2.2.2.2.1 l hl]
          · rw [ui_c (by omega), ui_c (by omega)]; exact h.2.2.2.2.2.2.1 m hm
          · rw [ui_c (by omega), ui_c (by omega)]; exact h.2.2.2.2.2.2.2 c hc
      · rw [Bool.not_eq_true] at w2
        rw [w2]
        exact ⟨-2, μ, ρ, rfl, rfl, h⟩
    · by_cases e1 : a1 = 1
      · subst e1
        rw [w3, show wi 1 0 1 = true from rfl]
        by_cases w2 : wi a2 0 2 = true
        · obtain ⟨j, hj, rfl⟩ := wi_nat (n := 2) rfl (by decide) w2
          rw [w2]
          simp only [show kindC 65 - 1000 = 3 from rfl, ck_in (show j < 3 by omega) (by decide), nI_clamp (show j < 2 ^ 31 by omega)]
          refine ⟨μ.1 65 j, ui μ 65 j (nI v), ui ρ 18 j (nI v), rfl, ?_, ?_⟩
          · rw [h.2.2.2.2.2.2.1 j (by omega)]; rfl
          · refine rel_k h (fun c q1 q2 q3 i => ui_c q2 i) rfl (fun c q1 q2 q3 i => ui_c q2 i) ⟨fun l hl => ?_, fun m hm => ?_, fun c hc => ?_⟩ ⟨fun l hl => ?_, fun m hm => ?_, fun c hc => ?_⟩
            · rw [ui_c (by omega)]; exact h.1.2.2.2.2.1 l hl
            · rw [ui_at]
              by_cases e : m = j
              · exact ⟨v, by rw [if_pos e], hv⟩
              · rw [if_neg e]; exact h.1.2.2.2.2.2.1 m hm
            · rw [ui_c (by omega)]; exact h.1.2.2.2.2.2.2 c hc
            · rw [ui_c (by omega), ui_c (by omega)]; exact h.2.2.2.2.2.1 l hl
            · rw [ui_at, ui_at, h.2.2.2.2.2.2.1 m hm]
            · rw [ui_c (by omega), ui_c (by omega)]; exact h.2.2.2.2.2.2.2 c hc
        · rw [Bool.not_eq_true] at w2
          rw [w2]
          exact ⟨-2, μ, ρ, rfl, rfl, h⟩
      · have w1 : wi a1 0 1 = false := by
          rw [← Bool.not_eq_true]
          intro q
          exact (wi01 q).elim e0 e1
        refine ⟨-2, μ, ρ, ?_, ?_, h⟩
        · simp [w3, e0, e1]
        · simp [w1]
  · rw [Bool.not_eq_true] at w3
    refine ⟨-2, μ, ρ, ?_, ?_, h⟩
    · simp [w3]
    · simp [w3]
/-- a change of sheets and of the latest finding alone -/
theorem rel_s {μ μ2 ρ ρ2 : Mem} (h : Rel μ ρ) (hc : ∀ c, (c < 54 ∨ 62 < c) → c ≠ 0 → ∀ j, μ2.1 c j = μ.1 c j) (hc2 : μ2.2.2 = μ.2.2) (hr : ∀ c, 3 < c → ∀ j, ρ2.1 c j = ρ.1 c j) (h0 : ∀ j, j ≠ 4 → ρ2.1 0 j = ρ.1 0 j) (h5 : WFs ρ2) (h6 : RSh μ2 ρ2) : Rel μ2 ρ2 := by
  obtain ⟨⟨w1, w2, w3, w4, w5⟩, r1, r2, r3, r4, r5⟩ := h
  have eN : gN ρ ρ2 := ⟨h0 5 (by omega), fun c q1 q2 j => hr c (by omega) j⟩
  have eA : gA ρ ρ2 := ⟨h0 10 (by omega), h0 14 (by omega), fun c q1 q2 j => hr c (by omega) j⟩
  have eP : gP ρ ρ2 := fun c q1 q2 j => hr c (by omega) j
  have eK : gK ρ ρ2 := fun c q1 j => hr c (by omega) j
  exact ⟨⟨u_WFn eN w1, u_WFa eN eA w2, u_WFp eP w3, h5, u_WFk eK w5⟩, u_RNm eN eA (fun c q1 q2 j => hc c (by omega) (by omega) j) r1, u_RAn eA (fun c q1 q2 j => hc c (by omega) (by omega) j) r2,
    u_RPl eP ⟨fun p hp k hk j => hc _ (by omega) (by omega) j, fun p hp => by rw [hc2], fun p hp k q1 q2 j hj => hc _ (by omega) (by omega) j⟩ r3, h6, u_RKn eK (fun c q1 j => hc c (by omega) (by omega) j) r5⟩
theorem zk01 {α : Type} (b : Bool) (k : Option α) : zk (if b then 1 else 0) k = k := by cases b <;> rfl
theorem sh_C (F : Nat) (x : Int32) : f_X11_isSheet F x = some (if wi x 0 3 then 1 else 0) := by unfold f_X11_isSheet; rw [wi_eq]; simp only [calp, zk01]
theorem sh_R (F : Nat) (x : Int32) : f_X12_isSheet F x = some (if wi x 0 3 then 1 else 0) := by unfold f_X12_isSheet; rw [in_eq F x 0 3 (A := 0) (B := 3) rfl rfl]; simp only [calp, zk01]
theorem fo_C (F : Nat) (x : Int32) : f_X11_isForm F x = some (if wi x 0 2 then 1 else 0) := by unfold f_X11_isForm; rw [wi_eq]; simp only [calp, zk01]
/-- a finding: both note it -/
theorem rel_find {μ ρ : Mem} (h : Rel μ ρ) (v : Int32) : Rel (ui μ 0 8 v) (ui ρ 0 4 v) := by
  refine rel_s h (fun c _ q j => ui_c q j) rfl (fun c q j => ui_c (by omega) j) (fun j q => by rw [ui_at, if_neg q]) ?_ ⟨rfl, fun s hs => ?_⟩
  · have e : ss (ui ρ 0 4 v) = ss ρ := by funext x; unfold ss; rw [ui_c (by omega)]
    intro s hs
    rw [e, ui_c (by omega), ui_c (by omega)]
    exact h.1.2.2.2.1 s hs
  · have e : ss (ui ρ 0 4 v) = ss ρ := by funext x; unfold ss; rw [ui_c (by omega)]
    have h4 := h.2.2.2.2.1.2 s hs
    simp only [e, ui_c (show (1 : Nat) ≠ 0 by omega), ui_c (show (2 : Nat) ≠ 0 by omega), ui_c (show (3 : Nat) ≠ 0 by omega), ui_c (show 55 + 2 * s ≠ 0 by omega), ui_c (show 55 + 2 * s + 1 ≠ 0 by omega)]
    exact h4
theorem sim_lose (F : Nat) (μ ρ : Mem) (a1 : Int32) (h : Rel μ ρ) : ∃ (r : Int32) (μ2 ρ2 : Mem), f_X11_lose F μ a1 = some (r, μ2) ∧ f_X12_lose F ρ a1 = some (r, ρ2) ∧ Rel μ2 ρ2 := by
  unfold f_X11_lose f_X12_lose f_X11_findingOf f_X12_met
  rw [sh_C, sh_R]
  simp only [calp, cal, bnd]
  by_cases w1 : wi a1 0 3 = true
  · rw [w1]
    obtain ⟨j, hj, rfl⟩ := wi_nat (n := 3) rfl (by decide) w1
    have hw := h.1.2.2.2.1 j (by omega)
    have hs := h.2.2.2.2.1.2 j (by omega)
    simp only [ck_in (show j < 4 by omega) (by decide), nI_clamp (show j < 2 ^ 31 by omega)]
    rcases hs.2 with ⟨l1, l2⟩ | ⟨l1, l2, l3, l4⟩
    · rw [l1, l2]
      exact ⟨_, _, _, rfl, rfl, rel_find h 1⟩
    · have hge : 0 ≤ ρ.1 1 j := by
        rcases hw.1 with q | q | q | q
        · exact absurd q l2
        · rw [q]; decide
        · rw [q]; decide
        · rw [q]; decide
      rw [l1, if_pos hge]
      refine ⟨ρ.1 2 j, ui μ (55 + 2 * j) 1 1, ui ρ 1 j (-1), ?_, ?_, ?_⟩
      · have e3 : (ui μ (55 + 2 * j) 1 1).1 (55 + 2 * j) 3 = ρ.1 2 j := by rw [ui_at, if_neg (by omega), hs.1]
        exact congrArg (fun v => some (v, ui μ (55 + 2 * j) 1 1)) e3
      · have e3 : (ui ρ 1 j (-1)).1 2 j = ρ.1 2 j := ui_c (by omega) j
        exact congrArg (fun v => some (v, ui ρ 1 j (-1))) e3
      · have e : ss (ui ρ 1 j (-1)) = ss ρ := by funext x; unfold ss; rw [ui_c (by omega)]
        refine rel_s h (fun c q _ i => ui_c (by omega) i) rfl (fun c q i => ui_c (by omega) i) (fun i _ => ui_c (by omega) i) (fun s hs2 => ?_) ⟨by rw [ui_c (by omega), ui_c (by omega)]; exact h.2.2.2.2.1.1, fun s hs2 => ?_⟩
        · have hw2 := h.1.2.2.2.1 s hs2
          rw [e, ui_c (c := 2) (by omega), ui_at]
          refine ⟨?_, hw2.2⟩
          by_cases q : s = j
          · rw [if_pos q]; exact Or.inl rfl
          · rw [if_neg q]; exact hw2.1
        · have h4 := h.2.2.2.2.1.2 s hs2
          by_cases q : s = j
          · subst q
            rw [ui_at, if_neg (by omega), ui_c (c := 2) (by omega)]
            refine ⟨h4.1, Or.inl ⟨?_, ?_⟩⟩
            · rw [ui_at, if_pos rfl]
            · rw [ui_at, if_pos rfl]
          · simp only [e, ui_c (show 55 + 2 * s ≠ 55 + 2 * j by omega), ui_c (show 55 + 2 * s + 1 ≠ 55 + 2 * j by omega), ui_c (show (2 : Nat) ≠ 1 by omega), ui_c (show (3 : Nat) ≠ 1 by omega), ui_at, if_neg q]
            exact h4
  · rw [Bool.not_eq_true] at w1
    rw [w1]
    exact ⟨-2, μ, ρ, rfl, rfl, h⟩
theorem wi_len {x : Int32} {n : Nat} (hn : n ≤ 1000) (h : wi x 0 (nI n - 1) = true) : ∃ i, i < n ∧ x = nI i := by
  have h1 : 0 ≤ x ∧ x ≤ nI n - 1 := by simpa [wi] using h
  cases n with
  | zero =>
    have h2 : x ≤ -1 := h1.2
    rw [Int32.le_iff_toInt_le] at h2
    have h3 := Int32.le_iff_toInt_le.mp h1.1
    exact absurd (Int.le_trans h3 h2) (by decide)
  | succ n =>
    rw [nI_pred] at h1
    obtain ⟨j, hj, rfl⟩ := nI_of (x := x) (by rw [Int32.not_lt]; exact h1.1)
    exact ⟨j, Nat.lt_succ_of_le ((nI_leI hj (by omega)).mp h1.2), rfl⟩
/-- what stands against an item: the class's findingAt and the reference's lacks -/
theorem fa_lk (F : Nat) {μ ρ : Mem} (h : Rel μ ρ) {j : Nat} (hj : j < 4) (a2 a3 : Int32) :
    (f_X7_findingAt F μ (55 + 2 * j) a2 a3 = some (0, μ) ∧ f_X12_lacks F ρ (nI j) a2 a3 = some (0, ρ) ∧ μ.1 (55 + 2 * j) 1 = 0 ∧ ρ.1 1 j = a2 ∧ ∃ i, i < ss ρ j ∧ a3 = nI i) ∨
    (∃ v, (v = 1 ∨ v = 2 ∨ v = 3) ∧ f_X7_findingAt F μ (55 + 2 * j) a2 a3 = some (v, μ) ∧ f_X12_lacks F ρ (nI j) a2 a3 = some (-10 - v, ui ρ 0 4 v)) := by
  have hw := h.1.2.2.2.1 j hj
  have hs := h.2.2.2.2.1.2 j hj
  unfold f_X7_findingAt f_X12_lacks f_X12_met
  simp only [calp, cal, bnd, ck_in hj (by decide), nI_clamp (show j < 2 ^ 31 by omega)]
  rcases hs.2 with ⟨l1, l2⟩ | ⟨l1, l2, l3, l4⟩
  · rw [l1, l2]
    exact Or.inr ⟨1, Or.inl rfl, rfl, rfl⟩
  · have hge : 0 ≤ ρ.1 1 j := by
      rcases hw.1 with q | q | q | q
      · exact absurd q l2
      · rw [q]; decide
      · rw [q]; decide
      · rw [q]; decide
    rw [l1, l3, if_pos hge, if_pos rfl]
    by_cases e : ρ.1 1 j = a2
    · rw [if_pos e, if_pos e, hs.1, wi_eq, in_eq F a3 0 (ρ.1 2 j - 1) (A := 0) rfl rfl, hw.2.1]
      by_cases w : wi a3 0 (nI (ss ρ j) - 1) = true
      · rw [w]
        exact Or.inl ⟨rfl, rfl, rfl, e, wi_len (by omega) w⟩
      · rw [Bool.not_eq_true] at w
        rw [w]
        exact Or.inr ⟨2, Or.inr (Or.inl rfl), rfl, rfl⟩
    · rw [if_neg e, if_neg e]
      exact Or.inr ⟨3, Or.inr (Or.inr rfl), rfl, rfl⟩
theorem sim_get (F : Nat) (μ ρ : Mem) (a1 a2 a3 : Int32) (h : Rel μ ρ) : ∃ (r : Int32) (μ2 ρ2 : Mem), f_X11_get F μ a1 a2 a3 = some (r, μ2) ∧ f_X12_get F ρ a1 a2 a3 = some (r, ρ2) ∧ Rel μ2 ρ2 := by
  unfold f_X11_get f_X12_get
  rw [sh_C, sh_R, fo_C, in_eq F a2 0 2 (A := 0) (B := 2) rfl rfl]
  simp only [calp]
  by_cases w1 : wi a1 0 3 = true
  · rw [w1]
    by_cases w2 : wi a2 0 2 = true
    · rw [w2]
      obtain ⟨j, hj, rfl⟩ := wi_nat (n := 3) rfl (by decide) w1
      simp only [ck_in (show j < 4 by omega) (by decide), nI_clamp (show j < 2 ^ 31 by omega)]
      have hw := h.1.2.2.2.1 j (by omega)
      have hs := h.2.2.2.2.1.2 j (by omega)
      rcases fa_lk F h (show j < 4 by omega) a2 a3 with ⟨f1, f2, f3, f4, i, hi, rfl⟩ | ⟨v, hv, f1, f2⟩
      · rw [f1, f2]
        simp only [cal, bnd, show (90 : Int32) = nI 90 from rfl, pk_mul, nI_add, ck_in (show i < 90 by omega) (by decide), ck_in (show 90 * j + i < 360 by omega) (by decide), nI_clamp (show i < 2 ^ 31 by omega), nI_clamp (show 90 * j + i < 2 ^ 31 by omega)]
        refine ⟨ρ.1 3 (90 * j + i), μ, ρ, ?_, rfl, h⟩
        rcases hs.2 with ⟨l1, l2⟩ | ⟨l1, l2, l3, l4⟩
        · rw [l1] at f3; exact absurd f3 (by decide)
        · rw [l4 i hi]; rfl
      · rw [f1, f2]
        rcases hv with rfl | rfl | rfl <;> exact ⟨_, _, _, rfl, rfl, rel_find h _⟩
    · rw [Bool.not_eq_true] at w2
      rw [w2]
      exact ⟨_, μ, ρ, rfl, rfl, h⟩
  · rw [Bool.not_eq_true] at w1
    rw [w1]
    exact ⟨_, μ, ρ, rfl, rfl, h⟩
/-- one item of a sheet changes on both sides -/
theorem rel_item {μ ρ : Mem} (h : Rel μ ρ) {j i : Nat} (hj : j < 4) (hi : i < 90) (v : Int32) : Rel (ui μ (55 + 2 * j + 1) i v) (ui ρ 3 (90 * j + i) v) := by
  have e : ss (ui ρ 3 (90 * j + i) v) = ss ρ := by funext x; unfold ss; rw [ui_c (by omega)]
  refine rel_s h (fun c q _ k => ui_c (by omega) k) rfl (fun c q k => ui_c (by omega) k) (fun k _ => ui_c (by omega) k) (fun s hs => ?_) ⟨by rw [ui_c (by omega), ui_c (by omega)]; exact h.2.2.2.2.1.1, fun s hs => ?_⟩
  · have hw2 := h.1.2.2.2.1 s hs
    rw [e, ui_c (c := 2) (by omega), ui_c (c := 1) (by omega)]
    exact hw2
  · have h4 := h.2.2.2.2.1.2 s hs
    have hl := (h.1.2.2.2.1 s hs).2.2
    simp only [e, ui_c (show 55 + 2 * s ≠ 55 + 2 * j + 1 by omega), ui_c (show (1 : Nat) ≠ 3 by omega), ui_c (show (2 : Nat) ≠ 3 by omega)]
    refine ⟨h4.1, ?_⟩
    rcases h4.2 with q | ⟨q1, q2, q3, q4⟩
    · exact Or.inl q
    · refine Or.inr ⟨q1, q2, q3, fun k hk => ?_⟩
      rw [ui_at]
      by_cases es : s = j
      · subst es
        rw [ui_at]
        by_cases ek : k = i
        · rw [if_pos ek, if_pos (by omega)]
        · rw [if_neg ek, if_neg (by omega)]; exact q4 k hk
      · rw [ui_c (by omega), if_neg (by omega)]; exact q4 k hk
theorem sim_put (F : Nat) (μ ρ : Mem) (a1 a2 a3 a4 : Int32) (h : Rel μ ρ) : ∃ (r : Int32) (μ2 ρ2 : Mem), f_X11_put F μ a1 a2 a3 a4 = some (r, μ2) ∧ f_X12_put F ρ a1 a2 a3 a4 = some (r, ρ2) ∧ Rel μ2 ρ2 := by
  unfold f_X11_put f_X12_put
  rw [sh_C, sh_R, fo_C, in_eq F a2 0 2 (A := 0) (B := 2) rfl rfl]
  simp only [calp]
  by_cases w1 : wi a1 0 3 = true
  · rw [w1]
    by_cases w2 : wi a2 0 2 = true
    · rw [w2]
      obtain ⟨j, hj, rfl⟩ := wi_nat (n := 3) rfl (by decide) w1
      simp only [ck_in (show j < 4 by omega) (by decide), nI_clamp (show j < 2 ^ 31 by omega)]
      have hw := h.1.2.2.2.1 j (by omega)
      have hs := h.2.2.2.2.1.2 j (by omega)
      rcases fa_lk F h (show j < 4 by omega) a2 a3 with ⟨f1, f2, f3, f4, i, hi, rfl⟩ | ⟨v, hv, f1, f2⟩
      · rw [f1, f2]
        have l3 : μ.1 (55 + 2 * j) 2 = a2 := by
          rcases hs.2 with ⟨l1, l2⟩ | ⟨l1, l2, l3, l4⟩
          · rw [l1] at f3; exact absurd f3 (by decide)
          · rw [l3, f4]
        simp only [cal, bnd, f_X7_store, f_X12_low, l3, show (90 : Int32) = nI 90 from rfl, pk_mul, nI_add, ck_in (show i < 90 by omega) (by decide), nI_clamp (show i < 2 ^ 31 by omega), nI_clamp (show 90 * j + i < 2 ^ 31 by omega)]
        by_cases e0 : a2 = 0
        · simp only [e0, ck_in (show 90 * j + i < 360 by omega) (by decide)]
          exact ⟨1, _, _, rfl, rfl, rel_item h (by omega) (by omega) _⟩
        · by_cases e1 : a2 = 1
          · simp only [e1, ck_in (show 90 * j + i < 360 by omega) (by decide)]
            exact ⟨1, _, _, rfl, rfl, rel_item h (by omega) (by omega) _⟩
          · simp only [e0, e1, ck_in (show 90 * j + i < 360 by omega) (by decide)]
            exact ⟨1, _, _, rfl, rfl, rel_item h (by omega) (by omega) _⟩
      · rw [f1, f2]
        rcases hv with rfl | rfl | rfl <;> exact ⟨_, _, _, rfl, rfl, rel_find h _⟩
    · rw [Bool.not_eq_true] at w2
      rw [w2]
      exact ⟨_, μ, ρ, rfl, rfl, h⟩
  · rw [Bool.not_eq_true] at w1
    rw [w1]
    exact ⟨_, μ, ρ, rfl, rfl, h⟩
