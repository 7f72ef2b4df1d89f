/-- the kind of a cell of the class: 100 + the number of its class, 1000 + length (ints), 2000 + length (longs), 3000 + length (booleans), 4001 plans, 4002 sheets -/
def kindL : List Nat := [111, 106, 1030, 1030, 1030, 1030, 1030, 1004, 1008, 1003, 1030, 1600, 100, 1120, 1120, 1120, 1030, 4001, 105, 1020, 1004, 102, 102, 104, 104, 108, 2009, 105, 1020, 1004, 102, 102, 104, 104, 108, 2009, 105, 1020, 1004, 102, 102, 104, 104, 108, 2009, 105, 1020, 1004, 102, 102, 104, 104, 108, 2009, 4002, 107, 1090, 107, 1090, 107, 1090, 107, 1090, 110, 1004, 1003, 1030, 2030, 101, 103, 1008, 1008, 101, 101, 101]
def kindC (i : Nat) : Nat := kindL.getD i 99
def numL : List Nat := [0, 0, 0, 0, 0, 0, 0, 0, 0, 0, 0, 0, 0, 0, 0, 0, 0, 0, 0, 0, 0, 20, 20, 20, 20, 20, 0, 0, 0, 0, 29, 29, 29, 29, 29, 0, 0, 0, 0, 38, 38, 38, 38, 38, 0, 0, 0, 0, 47, 47, 47, 47, 47, 0, 0, 0, 0, 0, 0, 0, 0, 0, 0, 0, 0, 0, 0, 0, 0, 0, 0, 0, 0, 0, 0]
def numC (i : Nat) : Nat := numL.getD i 0
def kindLR : List Nat := [112, 1004, 1004, 1360, 1090, 1030, 1030, 1030, 1030, 1120, 1120, 1120, 1080, 1004, 1004, 1030, 2009, 1004, 1003, 2030, 3030, 2030, 1008, 2008]
def kindR (i : Nat) : Nat := kindLR.getD i 99
def Fs0 (ad : Nat → Nat) (t : Nat) (f : Nat → Int32) (g : Nat → Int64) (h : Nat → Option Nat) : List Value := [.ref (ad 1), .ref (ad 13), .ref (ad 14), .ref (ad 15), .ref (ad 16), .int (f 5), .int (f 6)]
def Fs1 (ad : Nat → Nat) (t : Nat) (f : Nat → Int32) (g : Nat → Int64) (h : Nat → Option Nat) : List Value := [.long (g 0), .long (g 1)]
def Fs2 (ad : Nat → Nat) (t : Nat) (f : Nat → Int32) (g : Nat → Int64) (h : Nat → Option Nat) : List Value := [.ref (ad 1), .ref (ad (numC t)), .int (f 2), .int (f 3), .int (f 4)]
def Fs3 (ad : Nat → Nat) (t : Nat) (f : Nat → Int32) (g : Nat → Int64) (h : Nat → Option Nat) : List Value := [.ref (ad 1), .ref (ad 70), .ref (ad 71), .ref (ad 72), .int (f 4), .int (f 5), .int (f 6)]
def Fs4 (ad : Nat → Nat) (t : Nat) (f : Nat → Int32) (g : Nat → Int64) (h : Nat → Option Nat) : List Value := [.ref (ad 1), .ref (ad (numC t)), .int (f 2), .int (f 3)]
def Fs5 (ad : Nat → Nat) (t : Nat) (f : Nat → Int32) (g : Nat → Int64) (h : Nat → Option Nat) : List Value := [.ref (ad (t + 1)), .ref (ad (t + 2)), .ref (ad (t + 3)), .ref (ad (t + 4)), .ref (ad (t + 5)), .ref (ad (t + 6)), .ref (ad (t + 7)), .int (f 7), .int (f 8), va_rf ((h 9).map ad)]
def Fs6 (ad : Nat → Nat) (t : Nat) (f : Nat → Int32) (g : Nat → Int64) (h : Nat → Option Nat) : List Value := [.ref (ad 2), .ref (ad 3), .ref (ad 4), .ref (ad 5), .ref (ad 6), .ref (ad 7), .ref (ad 8), .ref (ad 9), .ref (ad 10), .ref (ad 11), .int (f 10), .int (f 11), .int (f 12), .int (f 13), .int (f 14)]
def Fs7 (ad : Nat → Nat) (t : Nat) (f : Nat → Int32) (g : Nat → Int64) (h : Nat → Option Nat) : List Value := [.ref (ad (t + 1)), .int (f 1), .int (f 2), .int (f 3)]
def Fs8 (ad : Nat → Nat) (t : Nat) (f : Nat → Int32) (g : Nat → Int64) (h : Nat → Option Nat) : List Value := [.ref (ad 1), .ref (ad (numC t)), .int (f 2), .ref (ad (t + 1))]
def Fs10 (ad : Nat → Nat) (t : Nat) (f : Nat → Int32) (g : Nat → Int64) (h : Nat → Option Nat) : List Value := [.ref (ad 1), .ref (ad 64), .ref (ad 65), .ref (ad 66), .ref (ad 67), .ref (ad 68)]
def Fs11 (ad : Nat → Nat) (t : Nat) (f : Nat → Int32) (g : Nat → Int64) (h : Nat → Option Nat) : List Value := [.ref (ad 1), .ref (ad 12), .ref (ad 17), .ref (ad 54), .ref (ad 63), .ref (ad 69), .ref (ad 73), .ref (ad 74), .int (f 8)]
def Fs12 (ad : Nat → Nat) (t : Nat) (f : Nat → Int32) (g : Nat → Int64) (h : Nat → Option Nat) : List Value := [.ref (ad 1), .ref (ad 2), .ref (ad 3), .ref (ad 4), .int (f 4), .int (f 5), .ref (ad 5), .ref (ad 6), .ref (ad 7), .ref (ad 8), .int (f 10), .ref (ad 9), .ref (ad 10), .ref (ad 11), .int (f 14), .ref (ad 12), .ref (ad 13), .int (f 17), .ref (ad 14), .int (f 19), .int (f 20), .int (f 21), .ref (ad 15), .ref (ad 16), .long (g 24), .long (g 25), .int (f 26), .long (g 27), .long (g 28), .ref (ad 17), .ref (ad 18), .ref (ad 19), .ref (ad 20), .ref (ad 21), .ref (ad 22), .ref (ad 23)]
def shC (ks : Nat → ClassId) (ad : Nat → Nat) : Sh := fun t f g h => if kindC t = 100 then .inr (0, Fs0 ad t f g h) else if kindC t = 101 then .inr (1, Fs1 ad t f g h) else if kindC t = 102 then .inr (2, Fs2 ad t f g h) else if kindC t = 103 then .inr (3, Fs3 ad t f g h) else if kindC t = 104 then .inr (4, Fs4 ad t f g h) else if kindC t = 105 then .inr (5, Fs5 ad t f g h) else if kindC t = 106 then .inr (6, Fs6 ad t f g h) else if kindC t = 107 then .inr (7, Fs7 ad t f g h) else if kindC t = 108 then .inr (8, Fs8 ad t f g h) else if kindC t = 110 then .inr (9, Fs10 ad t f g h) else if kindC t = 111 then .inr (10, Fs11 ad t f g h) else if kindC t = 4001 then .inl (ks 3, 4, .inr (.inr (.inr (.inr (fun p => some (ad (18 + 9 * p))))))) else if kindC t = 4002 then .inl (ks 4, 4, .inr (.inr (.inr (.inr (fun p => some (ad (55 + 2 * p))))))) else if kindC t < 2000 then .inl (ks 0, kindC t - 1000, .inl f) else .inl (ks 1, kindC t - 2000, .inr (.inl g))
def shR (ks : Nat → ClassId) (ad : Nat → Nat) : Sh := fun t f g h => if kindR t = 112 then .inr (11, Fs12 ad t f g h) else if kindR t < 2000 then .inl (ks 0, kindR t - 1000, .inl f) else if kindR t < 3000 then .inl (ks 1, kindR t - 2000, .inr (.inl g)) else .inl (ks 2, kindR t - 3000, .inl f)
theorem ltC {t : Nat} (h : ¬ kindC t = 99) : t < 75 := by
  rcases Nat.lt_or_ge t 75 with q | q
  · exact q
  · exact absurd (show kindC t = 99 by unfold kindC; rw [List.getD_eq_getElem?_getD, List.getElem?_eq_none (show kindL.length ≤ t from q)]; rfl) h
theorem ltR {t : Nat} (h : ¬ kindR t = 99) : t < 24 := by
  rcases Nat.lt_or_ge t 24 with q | q
  · exact q
  · exact absurd (show kindR t = 99 by unfold kindR; rw [List.getD_eq_getElem?_getD, List.getElem?_eq_none (show kindLR.length ≤ t from q)]; rfl) h
theorem o0 {ks : Nat → ClassId} {ad : Nat → Nat} {t : Nat} (hk : kindC t = 100) : OB (shC ks ad) 75 t 0 (Fs0 ad t) := ⟨ltC (by rw [hk]; decide), fun f g h => by simp [shC, hk]⟩
theorem o1 {ks : Nat → ClassId} {ad : Nat → Nat} {t : Nat} (hk : kindC t = 101) : OB (shC ks ad) 75 t 1 (Fs1 ad t) := ⟨ltC (by rw [hk]; decide), fun f g h => by simp [shC, hk]⟩
theorem o2 {ks : Nat → ClassId} {ad : Nat → Nat} {t : Nat} (hk : kindC t = 102) : OB (shC ks ad) 75 t 2 (Fs2 ad t) := ⟨ltC (by rw [hk]; decide), fun f g h => by simp [shC, hk]⟩
theorem o3 {ks : Nat → ClassId} {ad : Nat → Nat} {t : Nat} (hk : kindC t = 103) : OB (shC ks ad) 75 t 3 (Fs3 ad t) := ⟨ltC (by rw [hk]; decide), fun f g h => by simp [shC, hk]⟩
theorem o4 {ks : Nat → ClassId} {ad : Nat → Nat} {t : Nat} (hk : kindC t = 104) : OB (shC ks ad) 75 t 4 (Fs4 ad t) := ⟨ltC (by rw [hk]; decide), fun f g h => by simp [shC, hk]⟩
theorem o5 {ks : Nat → ClassId} {ad : Nat → Nat} {t : Nat} (hk : kindC t = 105) : OB (shC ks ad) 75 t 5 (Fs5 ad t) := ⟨ltC (by rw [hk]; decide), fun f g h => by simp [shC, hk]⟩
theorem o6 {ks : Nat → ClassId} {ad : Nat → Nat} {t : Nat} (hk : kindC t = 106) : OB (shC ks ad) 75 t 6 (Fs6 ad t) := ⟨ltC (by rw [hk]; decide), fun f g h => by simp [shC, hk]⟩
theorem o7 {ks : Nat → ClassId} {ad : Nat → Nat} {t : Nat} (hk : kindC t = 107) : OB (shC ks ad) 75 t 7 (Fs7 ad t) := ⟨ltC (by rw [hk]; decide), fun f g h => by simp [shC, hk]⟩
theorem o8 {ks : Nat → ClassId} {ad : Nat → Nat} {t : Nat} (hk : kindC t = 108) : OB (shC ks ad) 75 t 8 (Fs8 ad t) := ⟨ltC (by rw [hk]; decide), fun f g h => by simp [shC, hk]⟩
theorem o10 {ks : Nat → ClassId} {ad : Nat → Nat} {t : Nat} (hk : kindC t = 110) : OB (shC ks ad) 75 t 9 (Fs10 ad t) := ⟨ltC (by rw [hk]; decide), fun f g h => by simp [shC, hk]⟩
theorem o11 {ks : Nat → ClassId} {ad : Nat → Nat} {t : Nat} (hk : kindC t = 111) : OB (shC ks ad) 75 t 10 (Fs11 ad t) := ⟨ltC (by rw [hk]; decide), fun f g h => by simp [shC, hk]⟩
theorem o12 {ks : Nat → ClassId} {ad : Nat → Nat} {t : Nat} (hk : kindR t = 112) : OB (shR ks ad) 24 t 11 (Fs12 ad t) := ⟨ltR (by rw [hk]; decide), fun f g h => by simp [shR, hk]⟩
theorem kNe {k a b : Nat} (hk : k = a) (h : ¬ a = b) : ¬ k = b := by rw [hk]; exact h
theorem aiC {ks : Nat → ClassId} {ad : Nat → Nat} {t n : Nat} (hn : n < 1000) (hk : kindC t = 1000 + n) : AI (shC ks ad) ks 75 t n := by
  refine ⟨ltC (by omega), fun f g h => ?_⟩
  have e : kindC t - 1000 = n := by omega
  simp only [shC]
  rw [if_neg (by omega), if_neg (by omega), if_neg (by omega), if_neg (by omega), if_neg (by omega), if_neg (by omega), if_neg (by omega), if_neg (by omega), if_neg (by omega), if_neg (by omega), if_neg (by omega), if_neg (by omega), if_neg (by omega), if_pos (by omega), e]
theorem ajC {ks : Nat → ClassId} {ad : Nat → Nat} {t n : Nat} (hn : n < 1000) (hk : kindC t = 2000 + n) : AJ (shC ks ad) ks 75 t n := by
  refine ⟨ltC (by omega), fun f g h => ?_⟩
  have e : kindC t - 2000 = n := by omega
  simp only [shC]
  rw [if_neg (by omega), if_neg (by omega), if_neg (by omega), if_neg (by omega), if_neg (by omega), if_neg (by omega), if_neg (by omega), if_neg (by omega), if_neg (by omega), if_neg (by omega), if_neg (by omega), if_neg (by omega), if_neg (by omega), if_neg (by omega), e]
theorem aiR {ks : Nat → ClassId} {ad : Nat → Nat} {t n : Nat} (hn : n < 1000) (hk : kindR t = 1000 + n) : AI (shR ks ad) ks 24 t n := by
  refine ⟨ltR (by omega), fun f g h => ?_⟩
  have e : kindR t - 1000 = n := by omega
  simp only [shR]
  rw [if_neg (by omega), if_pos (by omega), e]
theorem ajR {ks : Nat → ClassId} {ad : Nat → Nat} {t n : Nat} (hn : n < 1000) (hk : kindR t = 2000 + n) : AJ (shR ks ad) ks 24 t n := by
  refine ⟨ltR (by omega), fun f g h => ?_⟩
  have e : kindR t - 2000 = n := by omega
  simp only [shR]
  rw [if_neg (by omega), if_neg (by omega), if_pos (by omega), e]
theorem azR {ks : Nat → ClassId} {ad : Nat → Nat} {t n : Nat} (hn : n < 1000) (hk : kindR t = 3000 + n) : AZ (shR ks ad) ks 24 t n := by
  refine ⟨ltR (by omega), fun f g h => ?_⟩
  have e : kindR t - 3000 = n := by omega
  simp only [shR]
  rw [if_neg (by omega), if_neg (by omega), if_neg (by omega), e]
theorem arP {ks : Nat → ClassId} {ad : Nat → Nat} : (17 < 75) ∧ ∀ f g h, shC ks ad 17 f g h = .inl (ks 3, 4, .inr (.inr (.inr (.inr (fun p => some (ad ((fun p => 18 + 9 * p) p))))))) := ⟨by decide, fun f g h => rfl⟩
theorem arS {ks : Nat → ClassId} {ad : Nat → Nat} : (54 < 75) ∧ ∀ f g h, shC ks ad 54 f g h = .inl (ks 4, 4, .inr (.inr (.inr (.inr (fun p => some (ad ((fun p => 55 + 2 * p) p))))))) := ⟨by decide, fun f g h => rfl⟩
theorem k2_numbers {t : Nat} (hk : kindC t = 102) : kindC (numC t) = 1004 := (by decide +kernel : ∀ t, t < 75 → kindC t = 102 → kindC (numC t) = 1004) t (ltC (kNe hk (by decide))) hk
theorem k4_numbers {t : Nat} (hk : kindC t = 104) : kindC (numC t) = 1004 := (by decide +kernel : ∀ t, t < 75 → kindC t = 104 → kindC (numC t) = 1004) t (ltC (kNe hk (by decide))) hk
theorem k5_text {t : Nat} (hk : kindC t = 105) : kindC (t + 1) = 1020 := (by decide +kernel : ∀ t, t < 75 → kindC t = 105 → kindC (t + 1) = 1020) t (ltC (kNe hk (by decide))) hk
theorem k5_numbers {t : Nat} (hk : kindC t = 105) : kindC (t + 2) = 1004 := (by decide +kernel : ∀ t, t < 75 → kindC t = 105 → kindC (t + 2) = 1004) t (ltC (kNe hk (by decide))) hk
theorem k5_ofAll {t : Nat} (hk : kindC t = 105) : kindC (t + 3) = 102 := (by decide +kernel : ∀ t, t < 75 → kindC t = 105 → kindC (t + 3) = 102) t (ltC (kNe hk (by decide))) hk
theorem k5_ofLayers {t : Nat} (hk : kindC t = 105) : kindC (t + 4) = 102 := (by decide +kernel : ∀ t, t < 75 → kindC t = 105 → kindC (t + 4) = 102) t (ltC (kNe hk (by decide))) hk
theorem k5_ofEach {t : Nat} (hk : kindC t = 105) : kindC (t + 5) = 104 := (by decide +kernel : ∀ t, t < 75 → kindC t = 105 → kindC (t + 5) = 104) t (ltC (kNe hk (by decide))) hk
theorem k5_ofSizes {t : Nat} (hk : kindC t = 105) : kindC (t + 6) = 104 := (by decide +kernel : ∀ t, t < 75 → kindC t = 105 → kindC (t + 6) = 104) t (ltC (kNe hk (by decide))) hk
theorem k5_ofSteps {t : Nat} (hk : kindC t = 105) : kindC (t + 7) = 108 := (by decide +kernel : ∀ t, t < 75 → kindC t = 105 → kindC (t + 7) = 108) t (ltC (kNe hk (by decide))) hk
theorem k7_items {t : Nat} (hk : kindC t = 107) : kindC (t + 1) = 1090 := (by decide +kernel : ∀ t, t < 75 → kindC t = 107 → kindC (t + 1) = 1090) t (ltC (kNe hk (by decide))) hk
theorem k8_numbers {t : Nat} (hk : kindC t = 108) : kindC (numC t) = 1004 := (by decide +kernel : ∀ t, t < 75 → kindC t = 108 → kindC (numC t) = 1004) t (ltC (kNe hk (by decide))) hk
theorem k8_waysOfSoMany {t : Nat} (hk : kindC t = 108) : kindC (t + 1) = 2009 := (by decide +kernel : ∀ t, t < 75 → kindC t = 108 → kindC (t + 1) = 2009) t (ltC (kNe hk (by decide))) hk
theorem kPl {i : Int32} (h : vp_in i 4) : kindC (18 + 9 * i.toNatClampNeg) = 105 := (by decide +kernel : ∀ n, n < 4 → kindC (18 + 9 * n) = 105) _ (by unfold vp_in at h; omega)
theorem kSh {i : Int32} (h : vp_in i 4) : kindC (55 + 2 * i.toNatClampNeg) = 107 := (by decide +kernel : ∀ n, n < 4 → kindC (55 + 2 * n) = 107) _ (by unfold vp_in at h; omega)
def vdis {α : Type} (y : Nat) (a b c : Option α) : Option α := if kindC y = 102 then a else if kindC y = 104 then b else if kindC y = 108 then c else none
theorem vdis_some {α : Type} {y : Nat} {a b c : Option α} {r : α} (h : vdis y a b c = some r) : (kindC y = 102 ∧ a = some r) ∨ (kindC y = 104 ∧ b = some r) ∨ (kindC y = 108 ∧ c = some r) := by
  unfold vdis at h
  by_cases h1 : kindC y = 102
  · rw [if_pos h1] at h; exact Or.inl ⟨h1, h⟩
  · rw [if_neg h1] at h
    by_cases h2 : kindC y = 104
    · rw [if_pos h2] at h; exact Or.inr (Or.inl ⟨h2, h⟩)
    · rw [if_neg h2] at h
      by_cases h3 : kindC y = 108
      · rw [if_pos h3] at h; exact Or.inr (Or.inr ⟨h3, h⟩)
      · rw [if_neg h3] at h; cases h
def instk {α : Type} (x : Option Nat) (k : Nat) (F : Int32 → Option α) : Option α := onul x (F 0) (fun y => vdis y (if k = 102 then F 1 else F 0) (if k = 104 then F 1 else F 0) (if k = 108 then F 1 else F 0))
def castk {α : Type} (x : Option Nat) (k : Nat) (F : Nat → Option α) : Option α := onul x none (fun y => if kindC y = k then F y else none)
theorem castk_some {α : Type} {x : Option Nat} {k : Nat} {F : Nat → Option α} {r : α} (h : castk x k F = some r) : ∃ y, x = some y ∧ kindC y = k ∧ F y = some r := by
  obtain ⟨y, h1, h2⟩ := onul_some h
  by_cases h3 : kindC y = k
  · rw [if_pos h3] at h2; exact ⟨y, h1, h3, h2⟩
  · rw [if_neg h3] at h2; cases h2
