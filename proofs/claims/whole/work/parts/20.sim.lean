theorem SmR.rf (ρ : Mem) : SmR ρ ρ := ⟨fun _ _ => rfl, rfl, rfl, rfl, rfl⟩
theorem SmR.tr {a b c : Mem} (h : SmR a b) (h2 : SmR b c) : SmR a c := ⟨fun k hk => (h2.1 k hk).trans (h.1 k hk), h2.2.1.trans h.2.1, h2.2.2.1.trans h.2.2.1, h2.2.2.2.1.trans h.2.2.2.1, h2.2.2.2.2.trans h.2.2.2.2⟩
theorem SmC.rf (μ : Mem) : SmC μ μ := ⟨rfl, fun _ _ => rfl, fun _ _ => ⟨rfl, rfl, rfl, rfl⟩, fun _ _ _ _ _ _ _ => rfl⟩
theorem SmC.tr {a b c : Mem} (h : SmC a b) (h2 : SmC b c) : SmC a c := ⟨h2.1.trans h.1, fun k hk => (h2.2.1 k hk).trans (h.2.1 k hk), fun p hp => ⟨(h2.2.2.1 p hp).1.trans (h.2.2.1 p hp).1, (h2.2.2.1 p hp).2.1.trans (h.2.2.1 p hp).2.1, (h2.2.2.1 p hp).2.2.1.trans (h.2.2.1 p hp).2.2.1, (h2.2.2.1 p hp).2.2.2.trans (h.2.2.1 p hp).2.2.2⟩, fun p hp k h3 h6 j hj => (h2.2.2.2 p hp k h3 h6 j hj).trans (h.2.2.2 p hp k h3 h6 j hj)⟩
/-- a number between bounds -/
def wi (x a b : Int32) : Bool := decide (a ≤ x ∧ x ≤ b)
theorem wi_eq (F : Nat) (x a b : Int32) : f_X11_within F x a b = some (if wi x a b then 1 else 0) := by
  unfold f_X11_within wi
  by_cases h1 : x < a
  · rw [if_pos h1, if_neg (by simp; intro h; exact absurd h1 (by rw [Int32.not_lt]; exact h))]
  · rw [if_neg h1]
    by_cases h2 : b < x
    · rw [if_pos h2, if_neg (by simp; intro _; exact h2)]
    · rw [if_neg h2, if_pos (by simp; exact ⟨Int32.not_lt.mp h1, Int32.not_lt.mp h2⟩)]
theorem lgl (x y : Int64) : lg_cmp x y < 0 ↔ x < y := by
  unfold lg_cmp
  by_cases h1 : x > y
  · rw [if_pos h1]; constructor
    · intro h; exact absurd h (by decide)
    · intro h; exact absurd (Int64.lt_trans h h1) Int64.lt_irrefl
  · rw [if_neg h1]
    by_cases h2 : x = y
    · rw [if_pos h2, h2]; constructor
      · intro h; exact absurd h (by decide)
      · intro h; exact absurd h Int64.lt_irrefl
    · rw [if_neg h2]; constructor
      · intro _; exact Int64.lt_of_le_of_ne (Int64.not_lt.mp h1) h2
      · intro _; decide
theorem lgg (x y : Int64) : 0 < lg_cmp x y ↔ y < x := by
  unfold lg_cmp
  by_cases h1 : x > y
  · rw [if_pos h1]; exact ⟨fun _ => h1, fun _ => by decide⟩
  · rw [if_neg h1]
    by_cases h2 : x = y
    · rw [if_pos h2]; exact ⟨fun h => absurd h (by decide), fun h => absurd h h1⟩
    · rw [if_neg h2]; exact ⟨fun h => absurd h (by decide), fun h => absurd h h1⟩
theorem wl (a b : Int32) : a.toInt64 < b.toInt64 ↔ a < b := by
  rw [Int64.lt_iff_toInt_lt, Int32.lt_iff_toInt_lt, Int32.toInt_toInt64, Int32.toInt_toInt64]
theorem in_eq (F : Nat) (x a b : Int32) {A B : Int64} (ha : A = a.toInt64) (hb : B = b.toInt64) : f_X12_in F x.toInt64 A B = some (if wi x a b then 1 else 0) := by
  rw [← wi_eq F x a b]
  subst ha; subst hb
  unfold f_X12_in f_X11_within
  simp only [lgl, lgg, wl]
/-- an index looked at -/
theorem ck_in {α : Type} {i n : Nat} {k : Option α} (h : i < n) (hn : n < 2 ^ 31) : ck (nI i) n k = k := by
  unfold ck
  rw [if_neg (nI_in h hn)]
theorem wi_nat {x : Int32} {n : Nat} {b : Int32} (hb : b = nI n) (hn : n < 2 ^ 31) (h : wi x 0 b = true) : ∃ j, j ≤ n ∧ x = nI j := by
  have h1 : 0 ≤ x ∧ x ≤ b := by simpa [wi] using h
  obtain ⟨j, hj, rfl⟩ := nI_of (x := x) (by rw [Int32.not_lt]; exact h1.1)
  exact ⟨j, (nI_leI hj hn).mp (by rw [← hb]; exact h1.2), rfl⟩
/-! what only looks leaves Rel -/
theorem SmR.c {ρ ρ2 : Mem} (h : SmR ρ ρ2) {c : Nat} (hc : (c = 1 ∨ c = 2 ∨ c = 3 ∨ (5 ≤ c ∧ c ≤ 13) ∨ c = 17 ∨ c = 18 ∨ c = 22)) (j : Nat) : ρ2.1 c j = ρ.1 c j := congrFun (h.1 c hc) j
theorem s_nm {ρ ρ2 : Mem} (h : SmR ρ ρ2) : nm ρ2 = nm ρ := by unfold nm; rw [h.2.2.1]
theorem s_ly {ρ ρ2 : Mem} (h : SmR ρ ρ2) : ly ρ2 = ly ρ := by funext k; unfold ly; rw [h.c (by omega)]
theorem s_cu {ρ ρ2 : Mem} (h : SmR ρ ρ2) : cu ρ2 = cu ρ := by funext k; unfold cu; rw [h.c (by omega)]
theorem s_sz {ρ ρ2 : Mem} (h : SmR ρ ρ2) : sz ρ2 = sz ρ := by funext k; unfold sz; rw [h.c (by omega)]
theorem s_mk {ρ ρ2 : Mem} (h : SmR ρ ρ2) : mk ρ2 = mk ρ := by funext k; unfold mk; rw [h.c (by omega)]
theorem s_an {ρ ρ2 : Mem} (h : SmR ρ ρ2) : an ρ2 = an ρ := by unfold an; rw [h.2.2.2.1]
theorem s_aof {ρ ρ2 : Mem} (h : SmR ρ ρ2) : aof ρ2 = aof ρ := by funext k; unfold aof; rw [h.c (by omega)]
theorem s_aday {ρ ρ2 : Mem} (h : SmR ρ ρ2) : aday ρ2 = aday ρ := by funext k; unfold aday; rw [h.c (by omega)]
theorem s_asd {ρ ρ2 : Mem} (h : SmR ρ ρ2) : asd ρ2 = asd ρ := by unfold asd; rw [h.2.2.2.2]
theorem s_tl {ρ ρ2 : Mem} (h : SmR ρ ρ2) : tl ρ2 = tl ρ := by funext k; unfold tl; rw [h.c (by omega)]
theorem s_ss {ρ ρ2 : Mem} (h : SmR ρ ρ2) : ss ρ2 = ss ρ := by funext k; unfold ss; rw [h.c (by omega)]
theorem s_vfold {ρ ρ2 : Mem} (h : SmR ρ ρ2) (k : Nat) : ∀ a, vfold ρ2 k a = vfold ρ k a
  | 0 => rfl
  | a + 1 => by
    unfold vfold
    simp only [s_vfold h k a, s_aof h, s_aday h, s_asd h, h.c (c := 10) (by omega)]
theorem s_vl {ρ ρ2 : Mem} (h : SmR ρ ρ2) : vl ρ2 = vl ρ := by funext k; unfold vl; rw [s_vfold h, s_an h]
theorem s_ssz {ρ ρ2 : Mem} (h : SmR ρ ρ2) : ∀ n, ssz ρ2 n = ssz ρ n
  | 0 => rfl
  | n + 1 => by unfold ssz; rw [s_ssz h n, s_sz h]
theorem s_hasC {ρ ρ2 : Mem} (h : SmR ρ ρ2) (c : Nat) : ∀ n, hasC ρ2 c n = hasC ρ c n
  | 0 => rfl
  | n + 1 => by unfold hasC; rw [s_hasC h c n, s_cu h]
theorem s_byt {ρ ρ2 : Mem} (h : SmR ρ ρ2) : byt ρ2 = byt ρ := by funext p i; unfold byt; rw [s_tl h, h.c (by omega)]
theorem s_num {ρ ρ2 : Mem} (h : SmR ρ ρ2) : num ρ2 = num ρ := by funext p i; unfold num; rw [s_byt h]
theorem s_pgo {ρ ρ2 : Mem} (h : SmR ρ ρ2) (p : Nat) (sep : Int32) : ∀ m i k w, pgo ρ2 p sep m i k w = pgo ρ p sep m i k w
  | 0, i, k, w => by unfold pgo; rw [s_tl h]
  | m + 1, i, k, w => by
    unfold pgo
    rw [s_byt h, s_num h]
    simp only [s_pgo h p sep m]
theorem s_kp {ρ ρ2 : Mem} (h : SmR ρ ρ2) : kp ρ2 = kp ρ := by funext p; unfold kp; rw [s_byt h]
theorem s_prs {ρ ρ2 : Mem} (h : SmR ρ ρ2) : prs ρ2 = prs ρ := by funext p w; unfold prs; rw [s_kp h, s_pgo h]
theorem s_flt {ρ ρ2 : Mem} (h : SmR ρ ρ2) : flt ρ2 = flt ρ := by funext p; unfold flt; rw [s_prs h]
theorem s_wnt {ρ ρ2 : Mem} (h : SmR ρ ρ2) : wnt ρ2 = wnt ρ := by funext p j; unfold wnt; rw [s_prs h]
theorem rel_same {μ μ2 ρ ρ2 : Mem} (h : Rel μ ρ) (hc : SmC μ μ2) (hr : SmR ρ ρ2) : Rel μ2 ρ2 := by
  obtain ⟨⟨w1, w2, w3, w4, w5⟩, r1, r2, r3, r4, r5⟩ := h
  have hC : ∀ c, ((1 ≤ c ∧ c ≤ 15) ∨ (54 ≤ c ∧ c ≤ 65) ∨ c = 70) → ∀ j, μ2.1 c j = μ.1 c j := fun c q j => congrFun (hc.2.1 c q) j
  refine ⟨⟨?_, ?_, ?_, ?_, ?_⟩, ?_, ?_, ?_, ?_, ?_⟩
  · unfold WFn at *
    simp only [s_nm hr, s_ly hr, s_cu hr, s_sz hr, s_mk hr, hr.2.2.1, hr.c (c := 5) (by omega), hr.c (c := 6) (by omega), hr.c (c := 7) (by omega), hr.c (c := 8) (by omega)]
    exact w1
  · unfold WFa at *
    simp only [s_nm hr, s_an hr, s_asd hr, s_aof hr, s_aday hr, hr.2.2.2.1, hr.2.2.2.2, hr.c (c := 9) (by omega), hr.c (c := 10) (by omega), hr.c (c := 11) (by omega)]
    exact w2
  · unfold WFp at *
    simp only [s_tl hr, hr.c (c := 12) (by omega), hr.c (c := 13) (by omega)]
    exact w3
  · unfold WFs at *
    simp only [s_ss hr, hr.c (c := 1) (by omega), hr.c (c := 2) (by omega)]
    exact w4
  · unfold WFk at *
    simp only [hr.c (c := 17) (by omega), hr.c (c := 18) (by omega), hr.c (c := 22) (by omega)]
    exact w5
  · unfold RNm at *
    simp only [s_nm hr, s_ly hr, s_cu hr, s_sz hr, s_mk hr, s_vl hr, s_ssz hr, s_hasC hr, hr.2.2.1, hr.c (c := 5) (by omega), hr.c (c := 6) (by omega), hr.c (c := 7) (by omega), hr.c (c := 8) (by omega), hC 1 (by omega), hC 2 (by omega), hC 3 (by omega), hC 4 (by omega), hC 5 (by omega), hC 6 (by omega), hC 7 (by omega), hC 8 (by omega), hC 9 (by omega), hC 10 (by omega), hC 11 (by omega)]
    exact r1
  · unfold RAn at *
    simp only [s_an hr, hr.2.2.2.1, hr.2.2.2.2, hr.c (c := 9) (by omega), hr.c (c := 10) (by omega), hr.c (c := 11) (by omega), hC 12 (by omega), hC 13 (by omega), hC 14 (by omega), hC 15 (by omega)]
    exact r2
  · intro p hp
    have h3 := r3 p hp
    have c1 := hc.2.2.1 p hp
    have c2 := hc.2.2.2 p hp
    simp only [s_tl hr, s_flt hr, s_kp hr, s_wnt hr, hr.c (c := 12) (by omega), hr.c (c := 13) (by omega), c1.1, c1.2.1, c1.2.2.1, c1.2.2.2, c2 3 (by omega) (by omega) 3 (by omega), c2 3 (by omega) (by omega) 4 (by omega), c2 4 (by omega) (by omega) 3 (by omega), c2 4 (by omega) (by omega) 4 (by omega), c2 5 (by omega) (by omega) 3 (by omega), c2 6 (by omega) (by omega) 3 (by omega)]
    exact h3
  · refine ⟨by rw [hc.1, hr.2.1]; exact r4.1, fun s hs => ?_⟩
    have h4 := r4.2 s hs
    simp only [s_ss hr, hr.c (c := 1) (by omega), hr.c (c := 2) (by omega), hr.c (c := 3) (by omega), hC (55 + 2 * s) (by omega), hC (55 + 2 * s + 1) (by omega)]
    exact h4
  · unfold RKn at *
    simp only [hr.c (c := 17) (by omega), hr.c (c := 18) (by omega), hr.c (c := 22) (by omega), hC 64 (by omega), hC 65 (by omega), hC 70 (by omega)]
    exact r5
