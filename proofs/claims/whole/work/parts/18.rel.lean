/-! THE PURE SIDE: what the reference's memory means, and how the class's memory follows it -/
def nm (ρ : Mem) : Nat := (ρ.1 0 5).toNatClampNeg
def ly (ρ : Mem) (k : Nat) : Nat := (ρ.1 5 k).toNatClampNeg
def cu (ρ : Mem) (k : Nat) : Nat := (ρ.1 6 k).toNatClampNeg
def sz (ρ : Mem) (k : Nat) : Nat := (ρ.1 7 k).toNatClampNeg
def mk (ρ : Mem) (k : Nat) : Nat := (ρ.1 8 k).toNatClampNeg
def an (ρ : Mem) : Nat := (ρ.1 0 10).toNatClampNeg
def aof (ρ : Mem) (i : Nat) : Nat := (ρ.1 9 i).toNatClampNeg
def aday (ρ : Mem) (i : Nat) : Nat := (ρ.1 11 i).toNatClampNeg
def asd (ρ : Mem) : Nat := (ρ.1 0 14).toNatClampNeg
def tl (ρ : Mem) (p : Nat) : Nat := (ρ.1 13 p).toNatClampNeg
def ss (ρ : Mem) (s : Nat) : Nat := (ρ.1 2 s).toNatClampNeg
/-- the last answer of k up to the day, of the first a answers: its day and value -/
def vfold (ρ : Mem) (k : Nat) : Nat → Option (Nat × Int32)
  | 0 => none
  | a + 1 => if aof ρ a = k ∧ aday ρ a ≤ asd ρ ∧ (∀ q ∈ vfold ρ k a, q.1 ≤ aday ρ a) then some (aday ρ a, ρ.1 10 a) else vfold ρ k a
def vl (ρ : Mem) (k : Nat) : Int32 := match vfold ρ k (an ρ) with
  | none => -1
  | some q => q.2
/-- a set of names below n as bits -/
def msk (f : Nat → Bool) : Nat → Nat
  | 0 => 0
  | n + 1 => msk f n + if f n then 2 ^ n else 0
/-- where a name begins on the line -/
def ssz (ρ : Mem) : Nat → Nat
  | 0 => 0
  | n + 1 => ssz ρ n + sz ρ n
def hasC (ρ : Mem) (c : Nat) : Nat → Bool
  | 0 => false
  | n + 1 => hasC ρ c n || decide (cu ρ n = c)
/-- a plan's text: byte i of plan p, none behind its end -/
def byt (ρ : Mem) (p i : Nat) : Int32 := if i < tl ρ p then ρ.1 12 (20 * p + i) else -1
def fig (x : Int32) : Bool := decide (48 ≤ x ∧ x ≤ 57)
/-- a number of one or two figures at place i: its value, and where it ends (none: no figure there) -/
def num (ρ : Mem) (p i : Nat) : Option (Int32 × Nat) := if fig (byt ρ p i) then (if fig (byt ρ p (i + 1)) then some (10 * (byt ρ p i - 48) + (byt ρ p (i + 1) - 48), i + 2) else some (byt ρ p i - 48, i + 1)) else none
