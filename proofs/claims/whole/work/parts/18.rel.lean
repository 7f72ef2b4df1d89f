/-! THE PURE SIDE: what the reference's memory means, and how the class's memory follows it -/
def nm (ρ : Mem) : Nat := (ρ.1 0 5).toNatClampNeg
def ly (ρ : Mem) (k : Nat) : Nat := (ρ.1 5 k).toNatClampNeg
def cu (ρ : Mem) (k : Nat) : Nat := (ρ.1 6 k).toNatClampNeg
def sz (ρ : Mem) (k : Nat) : Nat := (ρ.1 7 k).toNatClampNeg
def mk (ρ : Mem) (k : Nat) : Nat := (ρ.1 8 k).toNatClampNeg
def an (ρ : Mem) : Nat := (ρ.1 0 10).toNatClampNeg
def aof (ρ : Mem) (i : Nat) : Nat := (ρ.1 9 i).toNatClampNeg
def aday (ρ : Mem) (i : Nat) : Nat := (ρ.1 11 i).toNatClampNeg
def asd (ρ : Mem) : Nat := (ρ.1 0 14).toNatClampNeg
def tl (ρ : Mem) (p : Nat) : Nat := (ρ.1 13 p).toNatClampNeg
def ss (ρ : Mem) (s : Nat) : Nat := (ρ.1 2 s).toNatClampNeg
/-- the last answer of k up to the day, of the first a answers: its day and value -/
def vfold (ρ : Mem) (k : Nat) : Nat → Option (Nat × Int32)
  | 0 => none
  | a + 1 => if aof ρ a = k ∧ aday ρ a ≤ asd ρ ∧ (∀ q ∈ vfold ρ k a, q.1 ≤ aday ρ a) then some (aday ρ a, ρ.1 10 a) else vfold ρ k a
def vl (ρ : Mem) (k : Nat) : Int32 := match vfold ρ k (an ρ) with
  | none => -1
  | some q => q.2
/-- a set of names below n as bits -/
def msk (f : Nat → Bool) : Nat → Nat
  | 0 => 0
  | n + 1 => msk f n + if f n then 2 ^ n else 0
/-- where a name begins on the line -/
def ssz (ρ : Mem) : Nat → Nat
  | 0 => 0
  | n + 1 => ssz ρ n + sz ρ n
def hasC (ρ : Mem) (c : Nat) : Nat → Bool
  | 0 => false
  | n + 1 => hasC ρ c n || decide (cu ρ n = c)
/-- a plan's text: byte i of plan p, none behind its end -/
def byt (ρ : Mem) (p i : Nat) : Int32 := if i < tl ρ p then ρ.1 12 (20 * p + i) else -1
def fig (x : Int32) : Bool := decide (48 ≤ x ∧ x ≤ 57)
/-- a number of one or two figures at place i: its value, and where it ends (none: no figure there) -/
def num (ρ : Mem) (p i : Nat) : Option (Int32 × Nat) := if fig (byt ρ p i) then (if fig (byt ρ p (i + 1)) then some (10 * (byt ρ p i - 48) + (byt ρ p (i + 1) - 48), i + 2) else some (byt ρ p i - 48, i + 1)) else none
/-- the kind of a plan by its first byte: 1 a, 2 l, 3 e, 4 z, 5 t, 0 none -/
def kd (x : Int32) : Nat := if x = 97 then 1 else if x = 108 then 2 else if x = 101 then 3 else if x = 122 then 4 else if x = 116 then 5 else 0
def cntOf (k : Nat) : Nat := if k = 2 then 4 else if k = 5 then 2 else 1
def sepOf (k : Nat) : Int32 := if k = 2 then 44 else if k = 5 then 120 else -1
/-- m more numbers from place i on, the next is number k: the fault, and the numbers -/
def pgo (ρ : Mem) (p : Nat) (sep : Int32) : Nat → Nat → Nat → (Nat → Int32) → Int32 × (Nat → Int32)
  | 0, i, _, w => (if i < tl ρ p then nI i else -1, w)
  | m + 1, i, k, w => if 0 < k ∧ ¬ byt ρ p i = sep then (nI i, w) else
      match num ρ p (if 0 < k then i + 1 else i) with
      | none => (nI (if 0 < k then i + 1 else i), w)
      | some q => pgo ρ p sep m q.2 (k + 1) (upd w k q.1)
def kp (ρ : Mem) (p : Nat) : Nat := kd (byt ρ p 0)
/-- a plan understood: its fault (-1: none) and its numbers -/
def prs (ρ : Mem) (p : Nat) (w : Nat → Int32) : Int32 × (Nat → Int32) := if kp ρ p = 0 then (0, w) else pgo ρ p (sepOf (kp ρ p)) (cntOf (kp ρ p)) 1 0 w
def flt (ρ : Mem) (p : Nat) : Int32 := (prs ρ p (fun _ => 0)).1
def wnt (ρ : Mem) (p j : Nat) : Int32 := (prs ρ p (fun _ => 0)).2 j
/-- the reference's memory is as its calls leave it -/
def WFn (ρ : Mem) : Prop := ρ.1 0 5 = nI (nm ρ) ∧ nm ρ ≤ 30 ∧ ∀ k, k < nm ρ → (ρ.1 5 k = nI (ly ρ k) ∧ ly ρ k < 4) ∧ (ρ.1 6 k = nI (cu ρ k) ∧ cu ρ k < 8) ∧ (ρ.1 7 k = nI (sz ρ k) ∧ 1 ≤ sz ρ k ∧ sz ρ k ≤ 20) ∧ (ρ.1 8 k = nI (mk ρ k) ∧ mk ρ k < 3)
def WFa (ρ : Mem) : Prop := ρ.1 0 10 = nI (an ρ) ∧ an ρ ≤ 120 ∧ (ρ.1 0 14 = nI (asd ρ) ∧ asd ρ ≤ 399) ∧ ∀ i, i < an ρ → (ρ.1 9 i = nI (aof ρ i) ∧ aof ρ i < nm ρ) ∧ (-1 ≤ (ρ.1 10 i).toInt ∧ (ρ.1 10 i).toInt ≤ 10000) ∧ (ρ.1 11 i = nI (aday ρ i) ∧ aday ρ i ≤ 399)
def WFp (ρ : Mem) : Prop := ∀ p, p < 4 → (ρ.1 13 p = nI (tl ρ p) ∧ tl ρ p ≤ 20) ∧ ∀ i, i < tl ρ p → 0 ≤ (ρ.1 12 (20 * p + i)).toInt ∧ (ρ.1 12 (20 * p + i)).toInt ≤ 255
def WFs (ρ : Mem) : Prop := ∀ s, s < 4 → (ρ.1 1 s = -1 ∨ ρ.1 1 s = 0 ∨ ρ.1 1 s = 1 ∨ ρ.1 1 s = 2) ∧ (ρ.1 2 s = nI (ss ρ s) ∧ ss ρ s ≤ 90)
def WFk (ρ : Mem) : Prop := (∀ l, l < 4 → ∃ v, ρ.1 17 l = nI v ∧ v ≤ 30000) ∧ (∀ m, m < 3 → ∃ v, ρ.1 18 m = nI v ∧ v ≤ 30000) ∧ ∀ c, c < 8 → ∃ v, ρ.1 22 c = nI v ∧ v ≤ 100
/-- the class's memory follows it -/
def RNm (μ ρ : Mem) : Prop := μ.1 1 10 = ρ.1 0 5 ∧ (∀ k, k < nm ρ → μ.1 2 k = ρ.1 5 k ∧ μ.1 3 k = ρ.1 6 k ∧ μ.1 4 k = ρ.1 7 k ∧ μ.1 5 k = ρ.1 8 k ∧ μ.1 6 k = vl ρ k ∧ μ.1 10 k = nI (ssz ρ k) ∧ ∀ x, x < sz ρ k → μ.1 11 (ssz ρ k + x) = nI k) ∧
  (∀ l, l < 4 → μ.1 7 l = nI (msk (fun k => decide (ly ρ k = l)) (nm ρ))) ∧ (∀ c, c < 8 → μ.1 8 c = nI (msk (fun k => decide (cu ρ k = c)) (nm ρ))) ∧ (∀ m, m < 3 → μ.1 9 m = nI (msk (fun k => decide (mk ρ k = m)) (nm ρ))) ∧
  μ.1 1 11 = nI (msk (fun _ => true) (nm ρ)) ∧ μ.1 1 12 = nI (msk (fun c => hasC ρ c (nm ρ)) 8) ∧ μ.1 1 13 = nI (ssz ρ (nm ρ)) ∧ μ.1 1 14 = nI (msk (fun k => decide (¬ vl ρ k = -1)) (nm ρ))
def RAn (μ ρ : Mem) : Prop := μ.1 12 5 = ρ.1 0 10 ∧ μ.1 12 6 = ρ.1 0 14 ∧ ∀ i, i < an ρ → μ.1 13 i = ρ.1 9 i ∧ μ.1 14 i = ρ.1 10 i ∧ μ.1 15 i = ρ.1 11 i
def RPl (μ ρ : Mem) : Prop := ∀ p, p < 4 → μ.1 (18 + 9 * p) 7 = ρ.1 13 p ∧ (∀ i, i < tl ρ p → μ.1 (18 + 9 * p + 1) i = ρ.1 12 (20 * p + i)) ∧ μ.1 (18 + 9 * p) 8 = flt ρ p ∧ μ.2.2 (18 + 9 * p) 9 = (if kp ρ p = 0 then none else some (18 + 9 * p + 2 + kp ρ p)) ∧
  (flt ρ p = -1 → ∀ j, j < cntOf (kp ρ p) → μ.1 (18 + 9 * p + 2) j = wnt ρ p j) ∧
  μ.1 (18 + 9 * p + 3) 3 = 0 ∧ μ.1 (18 + 9 * p + 3) 4 = 1 ∧ μ.1 (18 + 9 * p + 4) 3 = 1 ∧ μ.1 (18 + 9 * p + 4) 4 = 4 ∧ μ.1 (18 + 9 * p + 5) 3 = 0 ∧ μ.1 (18 + 9 * p + 6) 3 = 1
def RSh (μ ρ : Mem) : Prop := μ.1 0 8 = ρ.1 0 4 ∧ ∀ s, s < 4 → μ.1 (55 + 2 * s) 3 = ρ.1 2 s ∧ ((μ.1 (55 + 2 * s) 1 = 1 ∧ ρ.1 1 s = -1) ∨ (μ.1 (55 + 2 * s) 1 = 0 ∧ ¬ ρ.1 1 s = -1 ∧ μ.1 (55 + 2 * s) 2 = ρ.1 1 s ∧ ∀ i, i < ss ρ s → μ.1 (55 + 2 * s + 1) i = ρ.1 3 (90 * s + i)))
def RKn (μ ρ : Mem) : Prop := (∀ l, l < 4 → μ.1 64 l = ρ.1 17 l) ∧ (∀ m, m < 3 → μ.1 65 m = ρ.1 18 m) ∧ ∀ c, c < 8 → μ.1 70 c = ρ.1 22 c
def Rel (μ ρ : Mem) : Prop := (WFn ρ ∧ WFa ρ ∧ WFp ρ ∧ WFs ρ ∧ WFk ρ) ∧ RNm μ ρ ∧ RAn μ ρ ∧ RPl μ ρ ∧ RSh μ ρ ∧ RKn μ ρ
/-- memories that agree on all that lasts -/
def SmR (ρ ρ2 : Mem) : Prop := (∀ c, (c = 1 ∨ c = 2 ∨ c = 3 ∨ (5 ≤ c ∧ c ≤ 13) ∨ c = 17 ∨ c = 18 ∨ c = 22) → ρ2.1 c = ρ.1 c) ∧ ρ2.1 0 4 = ρ.1 0 4 ∧ ρ2.1 0 5 = ρ.1 0 5 ∧ ρ2.1 0 10 = ρ.1 0 10 ∧ ρ2.1 0 14 = ρ.1 0 14
def SmC (μ μ2 : Mem) : Prop := μ2.1 0 8 = μ.1 0 8 ∧ (∀ c, ((1 ≤ c ∧ c ≤ 15) ∨ (54 ≤ c ∧ c ≤ 65) ∨ c = 70) → μ2.1 c = μ.1 c) ∧ (∀ p, p < 4 → μ2.1 (18 + 9 * p) = μ.1 (18 + 9 * p) ∧ μ2.1 (18 + 9 * p + 1) = μ.1 (18 + 9 * p + 1) ∧ μ2.1 (18 + 9 * p + 2) = μ.1 (18 + 9 * p + 2) ∧ μ2.2.2 (18 + 9 * p) = μ.2.2 (18 + 9 * p)) ∧ ∀ p, p < 4 → ∀ k, 3 ≤ k → k ≤ 6 → ∀ j, 3 ≤ j → μ2.1 (18 + 9 * p + k) j = μ.1 (18 + 9 * p + k) j
