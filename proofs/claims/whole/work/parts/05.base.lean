
/-- no value of an int or long row, nor of a slot: memory by cells and places -/
abbrev Mem : Type := (Nat → Nat → Int32) × (Nat → Nat → Int64) × (Nat → Nat → Option Nat)
def ui (μ : Mem) (k j : Nat) (v : Int32) : Mem := (fun a => if a = k then upd (μ.1 a) j v else μ.1 a, μ.2)
def ul (μ : Mem) (k j : Nat) (v : Int64) : Mem := (μ.1, fun a => if a = k then vp_updL (μ.2.1 a) j v else μ.2.1 a, μ.2.2)
def ur (μ : Mem) (k j : Nat) (v : Option Nat) : Mem := (μ.1, μ.2.1, fun a => if a = k then (fun b => if b = j then v else μ.2.2 a b) else μ.2.2 a)
def uc (μ : Mem) (k : Nat) (f : Nat → Int32) : Mem := (fun a => if a = k then f else μ.1 a, μ.2)
abbrev Sh : Type := Nat → (Nat → Int32) → (Nat → Int64) → (Nat → Option Nat) → va_E
def wsM (N : Nat) (ad : Nat → Nat) (sh : Sh) (μ : Mem) : va_W := (List.range N).map (fun i => (ad i, sh i (μ.1 i) (μ.2.1 i) (μ.2.2 i)))
theorem wsM_len (N : Nat) (ad : Nat → Nat) (sh : Sh) (μ : Mem) : (wsM N ad sh μ).length = N := by simp [wsM]
theorem wsM_at {N : Nat} {ad : Nat → Nat} {sh : Sh} {μ : Mem} {k : Nat} (h : k < N) : (wsM N ad sh μ)[k]? = some (ad k, sh k (μ.1 k) (μ.2.1 k) (μ.2.2 k)) := by
  simp [wsM, h]
theorem wsM_inv {N : Nat} {ad : Nat → Nat} {sh : Sh} {μ : Mem} {k : Nat} {q : Nat × va_E} (h : (wsM N ad sh μ)[k]? = some q) : k < N ∧ q = (ad k, sh k (μ.1 k) (μ.2.1 k) (μ.2.2 k)) := by
  have hk : k < N := by
    have h1 := (List.getElem?_eq_some_iff.mp h).1
    rwa [wsM_len] at h1
  rw [wsM_at hk] at h
  exact ⟨hk, (Option.some.inj h).symm⟩
theorem wsM_set {N : Nat} {ad : Nat → Nat} {sh : Sh} {μ μ' : Mem} {k : Nat} (h : k < N) (h1 : ∀ i, i ≠ k → μ'.1 i = μ.1 i) (h2 : ∀ i, i ≠ k → μ'.2.1 i = μ.2.1 i) (h3 : ∀ i, i ≠ k → μ'.2.2 i = μ.2.2 i) : (wsM N ad sh μ).set k (ad k, sh k (μ'.1 k) (μ'.2.1 k) (μ'.2.2 k)) = wsM N ad sh μ' := by
  apply List.ext_getElem?
  intro i
  rw [List.getElem?_set]
  by_cases hi : k = i
  · subst hi
    rw [if_pos rfl, wsM_len, if_pos h, wsM_at h]
  · rw [if_neg hi]
    by_cases hN : i < N
    · rw [wsM_at hN, wsM_at hN, h1 i (fun q => hi q.symm), h2 i (fun q => hi q.symm), h3 i (fun q => hi q.symm)]
    · rw [List.getElem?_eq_none (by rw [wsM_len]; omega), List.getElem?_eq_none (by rw [wsM_len]; omega)]
theorem wsM_D {A : Nat → Prop} {N : Nat} {ad : Nat → Nat} {sh sh' : Sh} {μ μ' : Mem} (h : va_D A (wsM N ad sh μ)) : va_D A (wsM N ad sh' μ') := by
  refine ⟨fun i j x y hi hj hxy => ?_, fun k q hk => ?_⟩
  · obtain ⟨a1, b1⟩ := wsM_inv hi
    obtain ⟨a2, b2⟩ := wsM_inv hj
    subst b1; subst b2
    exact h.1 i j _ _ (wsM_at a1) (wsM_at a2) hxy
  · obtain ⟨a1, b1⟩ := wsM_inv hk
    subst b1
    exact h.2 k (ad k, sh k (μ.1 k) (μ.2.1 k) (μ.2.2 k)) (wsM_at a1)
theorem ui_ne {μ : Mem} {k j : Nat} {v : Int32} {i : Nat} (h : i ≠ k) : (ui μ k j v).1 i = μ.1 i := if_neg h
theorem ui_eq {μ : Mem} {k j : Nat} {v : Int32} : (ui μ k j v).1 k = upd (μ.1 k) j v := if_pos rfl
theorem ul_ne {μ : Mem} {k j : Nat} {v : Int64} {i : Nat} (h : i ≠ k) : (ul μ k j v).2.1 i = μ.2.1 i := if_neg h
theorem ul_eq {μ : Mem} {k j : Nat} {v : Int64} : (ul μ k j v).2.1 k = vp_updL (μ.2.1 k) j v := if_pos rfl
theorem ur_ne {μ : Mem} {k j : Nat} {v : Option Nat} {i : Nat} (h : i ≠ k) : (ur μ k j v).2.2 i = μ.2.2 i := if_neg h
theorem ur_eq {μ : Mem} {k j : Nat} {v : Option Nat} : (ur μ k j v).2.2 k = (fun b => if b = j then v else μ.2.2 k b) := if_pos rfl
theorem uc_ne {μ : Mem} {k : Nat} {f : Nat → Int32} {i : Nat} (h : i ≠ k) : (uc μ k f).1 i = μ.1 i := if_neg h
theorem uc_eq {μ : Mem} {k : Nat} {f : Nat → Int32} : (uc μ k f).1 k = f := if_pos rfl
theorem wsM_ui {N : Nat} {ad : Nat → Nat} {sh : Sh} {μ : Mem} {k j : Nat} {v : Int32} {x : va_E} (h : k < N) (hx : sh k (upd (μ.1 k) j v) (μ.2.1 k) (μ.2.2 k) = x) : (wsM N ad sh μ).set k (ad k, x) = wsM N ad sh (ui μ k j v) := by
  rw [← hx, ← wsM_set (μ := μ) (μ' := ui μ k j v) h (fun i hi => ui_ne hi) (fun _ _ => rfl) (fun _ _ => rfl), ui_eq]
  rfl
theorem wsM_ul {N : Nat} {ad : Nat → Nat} {sh : Sh} {μ : Mem} {k j : Nat} {v : Int64} {x : va_E} (h : k < N) (hx : sh k (μ.1 k) (vp_updL (μ.2.1 k) j v) (μ.2.2 k) = x) : (wsM N ad sh μ).set k (ad k, x) = wsM N ad sh (ul μ k j v) := by
  rw [← hx, ← wsM_set (μ := μ) (μ' := ul μ k j v) h (fun _ _ => rfl) (fun i hi => ul_ne hi) (fun _ _ => rfl), ul_eq]
  rfl
theorem wsM_ur {N : Nat} {ad : Nat → Nat} {sh : Sh} {μ : Mem} {k j : Nat} {v : Option Nat} {x : va_E} (h : k < N) (hx : sh k (μ.1 k) (μ.2.1 k) (fun b => if b = j then v else μ.2.2 k b) = x) : (wsM N ad sh μ).set k (ad k, x) = wsM N ad sh (ur μ k j v) := by
  rw [← hx, ← wsM_set (μ := μ) (μ' := ur μ k j v) h (fun _ _ => rfl) (fun _ _ => rfl) (fun i hi => ur_ne hi), ur_eq]
  rfl
theorem wsM_uc {N : Nat} {ad : Nat → Nat} {sh : Sh} {μ : Mem} {k : Nat} {f : Nat → Int32} {x : va_E} (h : k < N) (hx : sh k f (μ.2.1 k) (μ.2.2 k) = x) : (wsM N ad sh μ).set k (ad k, x) = wsM N ad sh (uc μ k f) := by
  rw [← hx, ← wsM_set (μ := μ) (μ' := uc μ k f) h (fun i hi => uc_ne hi) (fun _ _ => rfl) (fun _ _ => rfl), uc_eq]
  rfl
/-- nest links and declared methods -/
def nkind : Cond → Bool
  | .methodLinkNest .. => true
  | .fieldLinkNest .. => true
  | .declares .. => true
  | _ => false
def NW (U : State) : Prop := (∀ w ∈ wn, nkind w = true → va_Nw w U) ∧ va_Nc RX4 RX2 U ∧ va_Nc RX8 RX2 U ∧ va_Nc RX2 RX4 U ∧ va_Nc RX8 RX4 U
theorem NW.warm {s U : State} (hW : s.WarmedH U.vm) (h : NW s) : NW U := by
  refine ⟨fun w hw hk => ?_, h.2.1.moved hW.alike, h.2.2.1.moved hW.alike, h.2.2.2.1.moved hW.alike, h.2.2.2.2.moved hW.alike⟩
  have h1 := h.1 w hw hk
  cases w <;> first | exact va_Nw.warmM hW h1 | exact va_Nw.warmF hW h1 | exact va_Nw.warmD hW h1 | (exact absurd hk (by intro q; cases q))
theorem NW.same {u U : State} (hv : u.vm = U.vm) (h : NW u) : NW U := by
  have ha : u.vm.Alike U.vm := hv ▸ Vm.Alike.refl u.vm
  refine ⟨fun w hw hk => ?_, h.2.1.moved ha, h.2.2.1.moved ha, h.2.2.2.1.moved ha, h.2.2.2.2.moved ha⟩
  have h1 := h.1 w hw hk
  cases w <;> first | exact va_Nw.same rfl hv h1 | (exact absurd hk (by intro q; cases q))
abbrev tysM (ks : Nat → ClassId) : List (ClassId × FieldType) := [(ks 0, .int), (ks 1, .long), (ks 2, .boolean), (ks 3, .object "DrawnList$Plan"), (ks 4, .object "DrawnList$Sheet")]
def Cx (p : Program) (s : State) (m : MethodId) (args : Array Value) (meth : Method) (c : Code) (cc : ByteArray) (nL : Nat) (own : String) (D : va_G) (ks : Nat → ClassId) (A : Nat → Prop) (N : Nat) (ad : Nat → Nat) (sh : Sh) : Prop :=
  CallFix p m c cc nL s args wg own ∧ NW s ∧ va_K D vwCl (tysM ks) s ∧ meth.locks = false ∧ ∀ μ : Mem, va_D A (wsM N ad sh μ)
/-- from every state at pc whose heap holds the memory μ, with these locals and this stack, the machine comes to Q -/
def G (p : Program) (l : Launch) (e : Env) (R : Room) (s : State) (m : MethodId) (args : Array Value) (below : List Frame) (meth : Method) (c : Code) (D : va_G) (A : Nat → Prop) (nL : Nat) (Q : State → Prop) (N : Nat) (ad : Nat → Nat) (sh : Sh) (μ : Mem) (pc : Nat) (lv : List (Nat × Value)) (st : List Value) : Prop :=
  ∀ (H : Heap) (locs : List Loc) (ls : Array Slot), va_P D vwCl (wsM N ad sh μ) H → va_S A s.heap H locs → lv_has ls nL lv → W p l e R s m args below meth c H locs 0 0 Q (F0 m pc ls st)
/-- binds, checks, calls of the functions -/
def bnd {α β : Type} (x : α) (k : α → β) : β := k x
theorem bnd_e {α β : Type} {x : α} {k : α → Option β} {r : β} (h : bnd x k = some r) : k x = some r := h
def ck {α : Type} (i : Int32) (n : Nat) (k : Option α) : Option α := if i < 0 ∨ n ≤ i.toNatClampNeg then none else k
def dvi {α : Type} (y : Int32) (k : Option α) : Option α := if y = 0 then none else k
def dvl {α : Type} (y : Int64) (k : Option α) : Option α := if y = 0 then none else k
def cal {α β : Type} (o : Option (α × Mem)) (k : α → Mem → Option β) : Option β := match o with
  | none => none
  | some q => k q.1 q.2
def calp {α β : Type} (o : Option α) (k : α → Option β) : Option β := match o with
  | none => none
  | some q => k q
theorem ck_some {α : Type} {i : Int32} {n : Nat} {k : Option α} {r : α} (h : ck i n k = some r) : vp_in i n ∧ k = some r := by
  unfold ck at h
  by_cases hc : i < 0 ∨ n ≤ i.toNatClampNeg
  · rw [if_pos hc] at h; cases h
  · rw [if_neg hc] at h; exact ⟨hc, h⟩
theorem dvi_some {α : Type} {y : Int32} {k : Option α} {r : α} (h : dvi y k = some r) : ¬ y = 0 ∧ k = some r := by
  unfold dvi at h
  by_cases hc : y = 0
  · rw [if_pos hc] at h; cases h
  · rw [if_neg hc] at h; exact ⟨hc, h⟩
theorem dvl_some {α : Type} {y : Int64} {k : Option α} {r : α} (h : dvl y k = some r) : ¬ y = 0 ∧ k = some r := by
  unfold dvl at h
  by_cases hc : y = 0
  · rw [if_pos hc] at h; cases h
  · rw [if_neg hc] at h; exact ⟨hc, h⟩
theorem cal_some {α β : Type} {o : Option (α × Mem)} {k : α → Mem → Option β} {r : β} (h : cal o k = some r) : ∃ q, o = some q ∧ k q.1 q.2 = some r := by
  cases o with
  | none => cases h
  | some q => exact ⟨q, rfl, h⟩
theorem calp_some {α β : Type} {o : Option α} {k : α → Option β} {r : β} (h : calp o k = some r) : ∃ q, o = some q ∧ k q = some r := by
  cases o with
  | none => cases h
  | some q => exact ⟨q, rfl, h⟩
theorem gw_self : GoodIn wg wg := fun w hw => ⟨hw, good_of_word (List.mem_filter.mp hw).2⟩
theorem gw_cons {w : Cond} {L : List Cond} (h : w ∈ wg) (hL : GoodIn wg L) : GoodIn wg (w :: L) := fun x hx => (List.mem_cons.mp hx).elim (fun q => q ▸ gw_self _ h) (hL x)
/-- the start of a contract: the memory is there -/
def PC (D : va_G) (ks : Nat → ClassId) (N : Nat) (ad : Nat → Nat) (sh : Sh) (μ : Mem) (av : List Value) : Array Value → State → Prop := va_Pc av (fun U => va_P D vwCl (wsM N ad sh μ) U.heap ∧ va_K D vwCl (tysM ks) U ∧ NW U)
def QI (D : va_G) (N : Nat) (ad : Nat → Nat) (sh : Sh) (A : Nat → Prop) (r : Int32 × Mem) : Array Value → State → Outcome → State → Prop := va_Qi (fun x (_ : Unit) => x = r.1) (fun _ t => va_P D vwCl (wsM N ad sh r.2) t.heap) A
def QL (D : va_G) (N : Nat) (ad : Nat → Nat) (sh : Sh) (A : Nat → Prop) (r : Int64 × Mem) : Array Value → State → Outcome → State → Prop := va_Ql (fun x (_ : Unit) => x = r.1) (fun _ t => va_P D vwCl (wsM N ad sh r.2) t.heap) A
def QV (D : va_G) (N : Nat) (ad : Nat → Nat) (sh : Sh) (A : Nat → Prop) (r : Unit × Mem) : Array Value → State → Outcome → State → Prop := va_Qv (fun (_ : Unit) => True) (fun _ t => va_P D vwCl (wsM N ad sh r.2) t.heap) A
def QR (D : va_G) (N : Nat) (ad : Nat → Nat) (sh : Sh) (A : Nat → Prop) (r : Option Nat × Mem) : Array Value → State → Outcome → State → Prop := va_Qq (fun x (_ : Unit) => x = r.1.map ad) (fun _ t => va_P D vwCl (wsM N ad sh r.2) t.heap) A

def onul {β : Type} (x : Option Nat) (a : Option β) (b : Nat → Option β) : Option β := match x with
  | none => a
  | some y => b y
theorem onul_some {β : Type} {x : Option Nat} {b : Nat → Option β} {r : β} (h : onul x none b = some r) : ∃ y, x = some y ∧ b y = some r := by
  cases x with
  | none => cases h
  | some y => exact ⟨y, rfl, h⟩
/-- what kind of cell: an object of class ci, rows of ints, longs, booleans -/
def OB (sh : Sh) (N k ci : Nat) (fs : (Nat → Int32) → (Nat → Int64) → (Nat → Option Nat) → List Value) : Prop := k < N ∧ ∀ f g h, sh k f g h = .inr (ci, fs f g h)
def AI (sh : Sh) (ks : Nat → ClassId) (N k len : Nat) : Prop := k < N ∧ ∀ f g h, sh k f g h = .inl (ks 0, len, .inl f)
def AZ (sh : Sh) (ks : Nat → ClassId) (N k len : Nat) : Prop := k < N ∧ ∀ f g h, sh k f g h = .inl (ks 2, len, .inl f)
def AJ (sh : Sh) (ks : Nat → ClassId) (N k len : Nat) : Prop := k < N ∧ ∀ f g h, sh k f g h = .inl (ks 1, len, .inr (.inl g))
/-- a field's link: class ci, slot j -/
def FL (own : String) (idx ci j : Nat) : Prop := ∃ (ref C : String) (T : u_T) (NF : Nat), vwCl[ci]? = some (C, T, NF) ∧ (∀ w ∈ u_ws C T NF, w ∈ wg) ∧ j < NF ∧ (Cond.fieldLink own idx ref (T j).2.1 (T j).2.2.1 ∈ wg ∨ ∃ host, Cond.fieldLinkNest own idx ref (T j).2.1 (T j).2.2.1 host ∈ wn) ∧ (ref = (T j).1 ∨ Cond.sameField ref (T j).1 (T j).2.1 (T j).2.2.1 ∈ wg)
def FP (own : String) (idx ci j : Nat) (ty : FieldType) : Prop := ∃ (ref C : String) (T : u_T) (NF : Nat) (ty0 : Nat → FieldType), vwCl[ci]? = some (C, T, NF) ∧ (∀ w ∈ u_ws C T NF, w ∈ wg) ∧ j < NF ∧ (Cond.fieldLink own idx ref (T j).2.1 (T j).2.2.1 ∈ wg ∨ ∃ host, Cond.fieldLinkNest own idx ref (T j).2.1 (T j).2.2.1 host ∈ wn) ∧ (ref = (T j).1 ∨ Cond.sameField ref (T j).1 (T j).2.1 (T j).2.2.1 ∈ wg) ∧ (∀ k, k < NF → parseFieldDescriptor (T k).2.2.1 = some (ty0 k)) ∧ (∀ a, a < NF → ∀ b, b < NF → a ≠ b → (T a).2.1 ≠ (T b).2.1) ∧ (T j).2.2.2 = false ∧ parseFieldDescriptor (T j).2.2.1 = some ty
theorem same_of {args : Array Value} {s : State} {ref O f d : String} (hts : ∀ w ∈ wg, w.before args s = true) (h : ref = O ∨ Cond.sameField ref O f d ∈ wg) : ∀ x, s.fieldFound? O f d = some x → s.fieldFound? ref f d = some x := by
  rcases h with h | h
  · subst h; exact fun _ q => q
  · exact u_same (hts _ h)
def HD (c d : String) (k : Nat) : Prop := c ≠ "java/lang/invoke/MethodHandle" ∧ c ≠ "java/lang/invoke/VarHandle" ∧ (parseMethodDescriptor d).map (fun d => d.parameters.length) = some k
def CDS (own : String) (idx : Nat) (y : MethodName) (bytes : ByteArray) (maxL : Nat) (ret : Option FieldType) (k : Nat) : Prop := Cond.code y bytes maxL ret ∈ wg ∧ Cond.initialized y.cls ∈ wg ∧ (Cond.methodLink own idx y ∈ wg ∧ Cond.static y ∈ wg) ∧ HD y.cls y.desc k
def CDSN (own : String) (idx : Nat) (y : MethodName) (bytes : ByteArray) (maxL : Nat) (ret : Option FieldType) (k : Nat) : Prop := Cond.code y bytes maxL ret ∈ wg ∧ Cond.initialized y.cls ∈ wg ∧ ((∃ host, Cond.methodLinkNest own idx y host ∈ wn) ∧ Cond.static y ∈ wg) ∧ HD y.cls y.desc k
def CDV (C own : String) (idx : Nat) (y : MethodName) (bytes : ByteArray) (maxL : Nat) (ret : Option FieldType) (k : Nat) : Prop := Cond.code y bytes maxL ret ∈ wg ∧ Cond.initialized y.cls ∈ wg ∧ (Cond.methodLink own idx y ∈ wg ∧ Cond.instanceMethod y ∈ wg ∧ Cond.selects C y y ∈ wg) ∧ HD y.cls y.desc k
def CDVN (C own : String) (idx : Nat) (y : MethodName) (bytes : ByteArray) (maxL : Nat) (ret : Option FieldType) (k : Nat) : Prop := Cond.code y bytes maxL ret ∈ wg ∧ Cond.initialized y.cls ∈ wg ∧ ((∃ host, Cond.methodLinkNest own idx y host ∈ wn) ∧ Cond.instanceMethod y ∈ wg ∧ Cond.selects C y y ∈ wg) ∧ HD y.cls y.desc k
def CDU (C owner own : String) (idx : Nat) (x y : MethodName) (bytes : ByteArray) (maxL : Nat) (ret : Option FieldType) (k : Nat) : Prop := Cond.code y bytes maxL ret ∈ wg ∧ Cond.initialized y.cls ∈ wg ∧ Cond.methodLink own idx x ∈ wg ∧ Cond.sameMethod x.cls owner x.name x.desc ∈ wg ∧ Cond.selects C x y ∈ wg ∧ Cond.instanceMethod y ∈ wg ∧ y = ⟨owner, x.name, x.desc⟩ ∧ HD owner x.desc k
def CDA (C owner own : String) (idx : Nat) (x y : MethodName) (bytes : ByteArray) (maxL : Nat) (ret : Option FieldType) (k : Nat) : Prop := Cond.code y bytes maxL ret ∈ wg ∧ Cond.initialized y.cls ∈ wg ∧ Cond.methodLink own idx x ∈ wg ∧ Cond.sameMethod x.cls owner x.name x.desc ∈ wg ∧ Cond.selects C x y ∈ wg ∧ Cond.instanceMethod y ∈ wg ∧ Cond.declares ⟨owner, x.name, x.desc⟩ ∈ wn ∧ HD owner x.desc k
/-- contracts of methods that touch no memory: no cell at all -/
def sh0 : Sh := fun _ _ _ _ => .inr (0, [])
def μ0 : Mem := (fun _ _ => 0, fun _ _ => 0, fun _ _ => none)
def ad0 : Nat → Nat := fun _ => 0
def PN (D : va_G) (ks : Nat → ClassId) (av : List Value) : Array Value → State → Prop := PC D ks 0 ad0 sh0 μ0 av
def QNi (D : va_G) (r : Int32) : Array Value → State → Outcome → State → Prop := QI D 0 ad0 sh0 (fun _ => False) (r, μ0)
def QNl (D : va_G) (r : Int64) : Array Value → State → Outcome → State → Prop := QL D 0 ad0 sh0 (fun _ => False) (r, μ0)
theorem d0 (μ : Mem) : va_D (fun _ => False) (wsM 0 ad0 sh0 μ) := ⟨fun i j x y hi _ _ => absurd (wsM_inv hi).1 (Nat.not_lt_zero _), fun k q hk => absurd (wsM_inv hk).1 (Nat.not_lt_zero _)⟩
theorem PC_blind {D : va_G} {ks : Nat → ClassId} {N : Nat} {ad : Nat → Nat} {sh : Sh} {μ : Mem} {av : List Value} : FrameBlind (PC D ks N ad sh μ av) := fun a U g mk q => ⟨q.1, q.2.1, va_K.moved (u := U) (U := U.calling g mk a) (Vm.Alike.refl U.vm) q.2.2.1, NW.same (u := U) (U := U.calling g mk a) rfl q.2.2.2⟩
theorem QI_self {D : va_G} {N : Nat} {ad : Nat → Nat} {sh : Sh} {A : Nat → Prop} {r : Int32 × Mem} {a : Array Value} {s t : State} (hP : va_P D vwCl (wsM N ad sh r.2) t.heap) (hF : va_F A s t) : QI D N ad sh A r a s (.returned (some (.int r.1))) t := ⟨⟨r.1, (), rfl, rfl, hP⟩, hF⟩

section GB
variable {p : Program} {l : Launch} {e : Env} {R : Room} {s : State} {m : MethodId} {args : Array Value} {below : List Frame} {meth : Method} {c : Code} {cc : ByteArray} {nL : Nat} {own : String} {D : va_G} {ks : Nat → ClassId} {A : Nat → Prop} {Q : State → Prop} {N : Nat} {ad : Nat → Nat} {sh : Sh} {μ : Mem} {pc : Nat} {lv : List (Nat × Value)} {st : List Value}
theorem g_iconst (n : Nat) (X : Cx p s m args meth c cc nL own D ks A N ad sh) {i : Int} {v : Int32} (hd : decode cc pc = .ok (.iconst i, 1)) (hv : Int32.ofInt i = v) (hn : pc + 1 = n) (K : G p l e R s m args below meth c D A nL Q N ad sh μ (n) lv (.int v :: st)) : G p l e R s m args below meth c D A nL Q N ad sh μ (pc) lv (st) := by
  subst hn
  exact fun H locs ls hP hS hl => lv_iconst X.1.1 X.1.2.1 hd hv (K H locs ls hP hS hl)
theorem g_bipush (n : Nat) (X : Cx p s m args meth c cc nL own D ks A N ad sh) {i : Int} {v : Int32} (hd : decode cc pc = .ok (.bipush i, 2)) (hv : (Int8.ofInt i).toInt32 = v) (hn : pc + 2 = n) (K : G p l e R s m args below meth c D A nL Q N ad sh μ (n) lv (.int v :: st)) : G p l e R s m args below meth c D A nL Q N ad sh μ (pc) lv (st) := by
  subst hn
  exact fun H locs ls hP hS hl => lv_bipush X.1.1 X.1.2.1 hd hv (K H locs ls hP hS hl)
theorem g_sipush (n : Nat) (X : Cx p s m args meth c cc nL own D ks A N ad sh) {i : Int} {v : Int32} (hd : decode cc pc = .ok (.sipush i, 3)) (hv : (Int16.ofInt i).toInt32 = v) (hn : pc + 3 = n) (K : G p l e R s m args below meth c D A nL Q N ad sh μ (n) lv (.int v :: st)) : G p l e R s m args below meth c D A nL Q N ad sh μ (pc) lv (st) := by
  subst hn
  exact fun H locs ls hP hS hl => lv_sipush X.1.1 X.1.2.1 hd hv (K H locs ls hP hS hl)
theorem g_lconst (n : Nat) (X : Cx p s m args meth c cc nL own D ks A N ad sh) {i : Fin 2} {v : Int64} (hd : decode cc pc = .ok (.lconst i, 1)) (hv : Int64.ofNat (i : Nat) = v) (hn : pc + 1 = n) (K : G p l e R s m args below meth c D A nL Q N ad sh μ (n) lv (.long v :: st)) : G p l e R s m args below meth c D A nL Q N ad sh μ (pc) lv (st) := by
  subst hn
  exact fun H locs ls hP hS hl => lv_lconst X.1.1 X.1.2.1 hd hv (K H locs ls hP hS hl)
theorem g_null (n : Nat) (X : Cx p s m args meth c cc nL own D ks A N ad sh)  (hd : decode cc pc = .ok (.aconst_null, 1))  (hn : pc + 1 = n) (K : G p l e R s m args below meth c D A nL Q N ad sh μ (n) lv (.null :: st)) : G p l e R s m args below meth c D A nL Q N ad sh μ (pc) lv (st) := by
  subst hn
  exact fun H locs ls hP hS hl => lv_null X.1.1 X.1.2.1 hd (K H locs ls hP hS hl)
theorem g_ldc (n : Nat) (X : Cx p s m args meth c cc nL own D ks A N ad sh) {idx : Nat} {v : Int32} (hw : Cond.constant own idx v ∈ wg) (hd : decode cc pc = .ok (.ldc idx, 2)) (hn : pc + 2 = n) (K : G p l e R s m args below meth c D A nL Q N ad sh μ (n) lv (.int v :: st)) : G p l e R s m args below meth c D A nL Q N ad sh μ (pc) lv (st) := by
  subst hn
  exact fun H locs ls hP hS hl => lv_ldc X.1.1 X.1.2.1 X.1.2.2.2.1 (X.1.2.2.2.2 _ hw) hd (K H locs ls hP hS hl)
theorem g_ldcw (n : Nat) (X : Cx p s m args meth c cc nL own D ks A N ad sh) {idx : Nat} {v : Int32} (hw : Cond.constant own idx v ∈ wg) (hd : decode cc pc = .ok (.ldc_w idx, 3)) (hn : pc + 3 = n) (K : G p l e R s m args below meth c D A nL Q N ad sh μ (n) lv (.int v :: st)) : G p l e R s m args below meth c D A nL Q N ad sh μ (pc) lv (st) := by
  subst hn
  exact fun H locs ls hP hS hl => lv_ldcw X.1.1 X.1.2.1 X.1.2.2.2.1 (X.1.2.2.2.2 _ hw) hd (K H locs ls hP hS hl)
theorem g_ldc2 (n : Nat) (X : Cx p s m args meth c cc nL own D ks A N ad sh) {idx : Nat} {v : Int64} (hw : Cond.constantLong own idx v ∈ wg) (hd : decode cc pc = .ok (.ldc2_w idx, 3)) (hn : pc + 3 = n) (K : G p l e R s m args below meth c D A nL Q N ad sh μ (n) lv (.long v :: st)) : G p l e R s m args below meth c D A nL Q N ad sh μ (pc) lv (st) := by
  subst hn
  exact fun H locs ls hP hS hl => lv_ldc2 X.1.1 X.1.2.1 X.1.2.2.2.1 (X.1.2.2.2.2 _ hw) hd (K H locs ls hP hS hl)
theorem g_iload_n (n : Nat) (X : Cx p s m args meth c cc nL own D ks A N ad sh) {k : Fin 4} {x : Int32} (q : Nat) (hd : decode cc pc = .ok (.iload_n k, 1)) (hq : lv[q]? = some (k.val, .int x)) (hn : pc + 1 = n) (K : G p l e R s m args below meth c D A nL Q N ad sh μ (n) lv (.int x :: st)) : G p l e R s m args below meth c D A nL Q N ad sh μ (pc) lv (st) := by
  subst hn
  exact fun H locs ls hP hS hl => lv_iload_n X.1.1 X.1.2.1 hd rfl (lv_at hl q hq) (K H locs ls hP hS hl)
theorem g_iload (n : Nat) (X : Cx p s m args meth c cc nL own D ks A N ad sh) {i : Nat} {x : Int32} (q : Nat) (hd : decode cc pc = .ok (.iload i, 2)) (hq : lv[q]? = some (i, .int x)) (hn : pc + 2 = n) (K : G p l e R s m args below meth c D A nL Q N ad sh μ (n) lv (.int x :: st)) : G p l e R s m args below meth c D A nL Q N ad sh μ (pc) lv (st) := by
  subst hn
  exact fun H locs ls hP hS hl => lv_iload X.1.1 X.1.2.1 hd (lv_at hl q hq) (K H locs ls hP hS hl)
theorem g_lload_n (n : Nat) (X : Cx p s m args meth c cc nL own D ks A N ad sh) {k : Fin 4} {x : Int64} (q : Nat) (hd : decode cc pc = .ok (.lload_n k, 1)) (hq : lv[q]? = some (k.val, .long x)) (hn : pc + 1 = n) (K : G p l e R s m args below meth c D A nL Q N ad sh μ (n) lv (.long x :: st)) : G p l e R s m args below meth c D A nL Q N ad sh μ (pc) lv (st) := by
  subst hn
  exact fun H locs ls hP hS hl => lv_lload_n X.1.1 X.1.2.1 hd rfl (lv_at hl q hq) (K H locs ls hP hS hl)
theorem g_lload (n : Nat) (X : Cx p s m args meth c cc nL own D ks A N ad sh) {i : Nat} {x : Int64} (q : Nat) (hd : decode cc pc = .ok (.lload i, 2)) (hq : lv[q]? = some (i, .long x)) (hn : pc + 2 = n) (K : G p l e R s m args below meth c D A nL Q N ad sh μ (n) lv (.long x :: st)) : G p l e R s m args below meth c D A nL Q N ad sh μ (pc) lv (st) := by
  subst hn
  exact fun H locs ls hP hS hl => lv_lload X.1.1 X.1.2.1 hd (lv_at hl q hq) (K H locs ls hP hS hl)
theorem g_aload_n (n : Nat) (X : Cx p s m args meth c cc nL own D ks A N ad sh) {k : Fin 4} {x : Nat} (q : Nat) (hd : decode cc pc = .ok (.aload_n k, 1)) (hq : lv[q]? = some (k.val, .ref x)) (hn : pc + 1 = n) (K : G p l e R s m args below meth c D A nL Q N ad sh μ (n) lv (.ref x :: st)) : G p l e R s m args below meth c D A nL Q N ad sh μ (pc) lv (st) := by
  subst hn
  exact fun H locs ls hP hS hl => lv_aload_n X.1.1 X.1.2.1 hd rfl (lv_at hl q hq) (K H locs ls hP hS hl)
theorem g_aload (n : Nat) (X : Cx p s m args meth c cc nL own D ks A N ad sh) {i : Nat} {x : Nat} (q : Nat) (hd : decode cc pc = .ok (.aload i, 2)) (hq : lv[q]? = some (i, .ref x)) (hn : pc + 2 = n) (K : G p l e R s m args below meth c D A nL Q N ad sh μ (n) lv (.ref x :: st)) : G p l e R s m args below meth c D A nL Q N ad sh μ (pc) lv (st) := by
  subst hn
  exact fun H locs ls hP hS hl => lv_aload X.1.1 X.1.2.1 hd (lv_at hl q hq) (K H locs ls hP hS hl)
theorem g_aloadq_n (n : Nat) (X : Cx p s m args meth c cc nL own D ks A N ad sh) {k : Fin 4} {x : Option Nat} (q : Nat) (hd : decode cc pc = .ok (.aload_n k, 1)) (hq : lv[q]? = some (k.val, va_rf x)) (hn : pc + 1 = n) (K : G p l e R s m args below meth c D A nL Q N ad sh μ (n) lv (va_rf x :: st)) : G p l e R s m args below meth c D A nL Q N ad sh μ (pc) lv (st) := by
  subst hn
  cases x with
  | none => exact fun H locs ls hP hS hl => lv_aload_nN X.1.1 X.1.2.1 hd rfl (lv_at hl q hq) (K H locs ls hP hS hl)
  | some y => exact fun H locs ls hP hS hl => lv_aload_n X.1.1 X.1.2.1 hd rfl (lv_at hl q hq) (K H locs ls hP hS hl)
theorem g_aloadq (n : Nat) (X : Cx p s m args meth c cc nL own D ks A N ad sh) {i : Nat} {x : Option Nat} (q : Nat) (hd : decode cc pc = .ok (.aload i, 2)) (hq : lv[q]? = some (i, va_rf x)) (hn : pc + 2 = n) (K : G p l e R s m args below meth c D A nL Q N ad sh μ (n) lv (va_rf x :: st)) : G p l e R s m args below meth c D A nL Q N ad sh μ (pc) lv (st) := by
  subst hn
  cases x with
  | none => exact fun H locs ls hP hS hl => lv_aloadN X.1.1 X.1.2.1 hd (lv_at hl q hq) (K H locs ls hP hS hl)
  | some y => exact fun H locs ls hP hS hl => lv_aload X.1.1 X.1.2.1 hd (lv_at hl q hq) (K H locs ls hP hS hl)
theorem g_istore_n (n : Nat) (X : Cx p s m args meth c cc nL own D ks A N ad sh) {k : Fin 4} {x : Int32} (hd : decode cc pc = .ok (.istore_n k, 1)) (hi : k.val < nL) (hn : pc + 1 = n) (K : G p l e R s m args below meth c D A nL Q N ad sh μ (n) ((k.val, Value.int x) :: lv.filter (fun q => !(q.1 == k.val) && !(q.1 + 1 == k.val && q.2.category == 2))) (st)) : G p l e R s m args below meth c D A nL Q N ad sh μ (pc) lv (.int x :: st) := by
  subst hn
  exact fun H locs ls hP hS hl => lv_istore_n X.1.1 X.1.2.1 hd rfl hl hi rfl (fun ls2 hl2 => K H locs ls2 hP hS hl2)
theorem g_istore (n : Nat) (X : Cx p s m args meth c cc nL own D ks A N ad sh) {i : Nat} {x : Int32} (hd : decode cc pc = .ok (.istore i, 2)) (hi : i < nL) (hn : pc + 2 = n) (K : G p l e R s m args below meth c D A nL Q N ad sh μ (n) ((i, Value.int x) :: lv.filter (fun q => !(q.1 == i) && !(q.1 + 1 == i && q.2.category == 2))) (st)) : G p l e R s m args below meth c D A nL Q N ad sh μ (pc) lv (.int x :: st) := by
  subst hn
  exact fun H locs ls hP hS hl => lv_istore X.1.1 X.1.2.1 hd hl hi rfl (fun ls2 hl2 => K H locs ls2 hP hS hl2)
theorem g_lstore_n (n : Nat) (X : Cx p s m args meth c cc nL own D ks A N ad sh) {k : Fin 4} {x : Int64} (hd : decode cc pc = .ok (.lstore_n k, 1)) (hi : k.val + 1 < nL) (hn : pc + 1 = n) (K : G p l e R s m args below meth c D A nL Q N ad sh μ (n) ((k.val, Value.long x) :: lv.filter (fun q => !(q.1 == k.val) && (!(q.1 == k.val + 1) && !(q.1 + 1 == k.val && q.2.category == 2)))) (st)) : G p l e R s m args below meth c D A nL Q N ad sh μ (pc) lv (.long x :: st) := by
  subst hn
  exact fun H locs ls hP hS hl => lv_lstore_n X.1.1 X.1.2.1 hd rfl hl hi rfl (fun ls2 hl2 => K H locs ls2 hP hS hl2)
theorem g_lstore (n : Nat) (X : Cx p s m args meth c cc nL own D ks A N ad sh) {i : Nat} {x : Int64} (hd : decode cc pc = .ok (.lstore i, 2)) (hi : i + 1 < nL) (hn : pc + 2 = n) (K : G p l e R s m args below meth c D A nL Q N ad sh μ (n) ((i, Value.long x) :: lv.filter (fun q => !(q.1 == i) && (!(q.1 == i + 1) && !(q.1 + 1 == i && q.2.category == 2)))) (st)) : G p l e R s m args below meth c D A nL Q N ad sh μ (pc) lv (.long x :: st) := by
  subst hn
  exact fun H locs ls hP hS hl => lv_lstore X.1.1 X.1.2.1 hd hl hi rfl (fun ls2 hl2 => K H locs ls2 hP hS hl2)
theorem g_astore_n (n : Nat) (X : Cx p s m args meth c cc nL own D ks A N ad sh) {k : Fin 4} {x : Nat} (hd : decode cc pc = .ok (.astore_n k, 1)) (hi : k.val < nL) (hn : pc + 1 = n) (K : G p l e R s m args below meth c D A nL Q N ad sh μ (n) ((k.val, Value.ref x) :: lv.filter (fun q => !(q.1 == k.val) && !(q.1 + 1 == k.val && q.2.category == 2))) (st)) : G p l e R s m args below meth c D A nL Q N ad sh μ (pc) lv (.ref x :: st) := by
  subst hn
  exact fun H locs ls hP hS hl => lv_astore_n X.1.1 X.1.2.1 hd rfl hl hi rfl (fun ls2 hl2 => K H locs ls2 hP hS hl2)
theorem g_astore (n : Nat) (X : Cx p s m args meth c cc nL own D ks A N ad sh) {i : Nat} {x : Nat} (hd : decode cc pc = .ok (.astore i, 2)) (hi : i < nL) (hn : pc + 2 = n) (K : G p l e R s m args below meth c D A nL Q N ad sh μ (n) ((i, Value.ref x) :: lv.filter (fun q => !(q.1 == i) && !(q.1 + 1 == i && q.2.category == 2))) (st)) : G p l e R s m args below meth c D A nL Q N ad sh μ (pc) lv (.ref x :: st) := by
  subst hn
  exact fun H locs ls hP hS hl => lv_astore X.1.1 X.1.2.1 hd hl hi rfl (fun ls2 hl2 => K H locs ls2 hP hS hl2)
theorem g_astoreq_n (n : Nat) (X : Cx p s m args meth c cc nL own D ks A N ad sh) {k : Fin 4} {x : Option Nat} (hd : decode cc pc = .ok (.astore_n k, 1)) (hi : k.val < nL) (hn : pc + 1 = n) (K : G p l e R s m args below meth c D A nL Q N ad sh μ (n) ((k.val, va_rf x) :: lv.filter (fun q => !(q.1 == k.val) && !(q.1 + 1 == k.val && q.2.category == 2))) (st)) : G p l e R s m args below meth c D A nL Q N ad sh μ (pc) lv (va_rf x :: st) := by
  subst hn
  cases x with
  | none => exact fun H locs ls hP hS hl => lv_astore_nN X.1.1 X.1.2.1 hd rfl hl hi rfl (fun ls2 hl2 => K H locs ls2 hP hS hl2)
  | some y => exact fun H locs ls hP hS hl => lv_astore_n X.1.1 X.1.2.1 hd rfl hl hi rfl (fun ls2 hl2 => K H locs ls2 hP hS hl2)
theorem g_astoreq (n : Nat) (X : Cx p s m args meth c cc nL own D ks A N ad sh) {i : Nat} {x : Option Nat} (hd : decode cc pc = .ok (.astore i, 2)) (hi : i < nL) (hn : pc + 2 = n) (K : G p l e R s m args below meth c D A nL Q N ad sh μ (n) ((i, va_rf x) :: lv.filter (fun q => !(q.1 == i) && !(q.1 + 1 == i && q.2.category == 2))) (st)) : G p l e R s m args below meth c D A nL Q N ad sh μ (pc) lv (va_rf x :: st) := by
  subst hn
  cases x with
  | none => exact fun H locs ls hP hS hl => lv_astoreN X.1.1 X.1.2.1 hd hl hi rfl (fun ls2 hl2 => K H locs ls2 hP hS hl2)
  | some y => exact fun H locs ls hP hS hl => lv_astore X.1.1 X.1.2.1 hd hl hi rfl (fun ls2 hl2 => K H locs ls2 hP hS hl2)
theorem g_iinc (n : Nat) (X : Cx p s m args meth c cc nL own D ks A N ad sh) {i : Nat} {d : Int} {x w : Int32} (q : Nat) (hd : decode cc pc = .ok (.iinc i d, 3)) (hw : Int32.ofInt d = w) (hq : lv[q]? = some (i, .int x)) (hi : i < nL) (hn : pc + 3 = n) (K : G p l e R s m args below meth c D A nL Q N ad sh μ (n) ((i, Value.int (x + w)) :: lv.filter (fun q => !(q.1 == i) && !(q.1 + 1 == i && q.2.category == 2))) (st)) : G p l e R s m args below meth c D A nL Q N ad sh μ (pc) lv (st) := by
  subst hn
  exact fun H locs ls hP hS hl => lv_iinc X.1.1 X.1.2.1 hd hl hq (by rw [hw]) hi rfl (fun ls2 hl2 => K H locs ls2 hP hS hl2)
theorem g_iadd (n : Nat) (X : Cx p s m args meth c cc nL own D ks A N ad sh) {x y : Int32} (hd : decode cc pc = .ok (.iadd, 1))  (hn : pc + 1 = n) (K : G p l e R s m args below meth c D A nL Q N ad sh μ (n) lv (.int (x + y) :: st)) : G p l e R s m args below meth c D A nL Q N ad sh μ (pc) lv (.int y :: .int x :: st) := by
  subst hn
  exact fun H locs ls hP hS hl => lv_iadd X.1.1 X.1.2.1 hd (K H locs ls hP hS hl)
theorem g_isub (n : Nat) (X : Cx p s m args meth c cc nL own D ks A N ad sh) {x y : Int32} (hd : decode cc pc = .ok (.isub, 1))  (hn : pc + 1 = n) (K : G p l e R s m args below meth c D A nL Q N ad sh μ (n) lv (.int (x - y) :: st)) : G p l e R s m args below meth c D A nL Q N ad sh μ (pc) lv (.int y :: .int x :: st) := by
  subst hn
  exact fun H locs ls hP hS hl => lv_isub X.1.1 X.1.2.1 hd (K H locs ls hP hS hl)
theorem g_imul (n : Nat) (X : Cx p s m args meth c cc nL own D ks A N ad sh) {x y : Int32} (hd : decode cc pc = .ok (.imul, 1))  (hn : pc + 1 = n) (K : G p l e R s m args below meth c D A nL Q N ad sh μ (n) lv (.int (x * y) :: st)) : G p l e R s m args below meth c D A nL Q N ad sh μ (pc) lv (.int y :: .int x :: st) := by
  subst hn
  exact fun H locs ls hP hS hl => lv_imul X.1.1 X.1.2.1 hd (K H locs ls hP hS hl)
theorem g_iand (n : Nat) (X : Cx p s m args meth c cc nL own D ks A N ad sh) {x y : Int32} (hd : decode cc pc = .ok (.iand, 1))  (hn : pc + 1 = n) (K : G p l e R s m args below meth c D A nL Q N ad sh μ (n) lv (.int (x &&& y) :: st)) : G p l e R s m args below meth c D A nL Q N ad sh μ (pc) lv (.int y :: .int x :: st) := by
  subst hn
  exact fun H locs ls hP hS hl => lv_iand X.1.1 X.1.2.1 hd (K H locs ls hP hS hl)
theorem g_ior (n : Nat) (X : Cx p s m args meth c cc nL own D ks A N ad sh) {x y : Int32} (hd : decode cc pc = .ok (.ior, 1))  (hn : pc + 1 = n) (K : G p l e R s m args below meth c D A nL Q N ad sh μ (n) lv (.int (x ||| y) :: st)) : G p l e R s m args below meth c D A nL Q N ad sh μ (pc) lv (.int y :: .int x :: st) := by
  subst hn
  exact fun H locs ls hP hS hl => lv_ior X.1.1 X.1.2.1 hd (K H locs ls hP hS hl)
theorem g_ixor (n : Nat) (X : Cx p s m args meth c cc nL own D ks A N ad sh) {x y : Int32} (hd : decode cc pc = .ok (.ixor, 1))  (hn : pc + 1 = n) (K : G p l e R s m args below meth c D A nL Q N ad sh μ (n) lv (.int (x ^^^ y) :: st)) : G p l e R s m args below meth c D A nL Q N ad sh μ (pc) lv (.int y :: .int x :: st) := by
  subst hn
  exact fun H locs ls hP hS hl => lv_ixor X.1.1 X.1.2.1 hd (K H locs ls hP hS hl)
theorem g_ishl (n : Nat) (X : Cx p s m args meth c cc nL own D ks A N ad sh) {x y : Int32} (hd : decode cc pc = .ok (.ishl, 1))  (hn : pc + 1 = n) (K : G p l e R s m args below meth c D A nL Q N ad sh μ (n) lv (.int (x <<< (y &&& 31)) :: st)) : G p l e R s m args below meth c D A nL Q N ad sh μ (pc) lv (.int y :: .int x :: st) := by
  subst hn
  exact fun H locs ls hP hS hl => lv_ishl X.1.1 X.1.2.1 hd (K H locs ls hP hS hl)
theorem g_ishr (n : Nat) (X : Cx p s m args meth c cc nL own D ks A N ad sh) {x y : Int32} (hd : decode cc pc = .ok (.ishr, 1))  (hn : pc + 1 = n) (K : G p l e R s m args below meth c D A nL Q N ad sh μ (n) lv (.int (x >>> (y &&& 31)) :: st)) : G p l e R s m args below meth c D A nL Q N ad sh μ (pc) lv (.int y :: .int x :: st) := by
  subst hn
  exact fun H locs ls hP hS hl => lv_ishr X.1.1 X.1.2.1 hd (K H locs ls hP hS hl)
theorem g_ladd (n : Nat) (X : Cx p s m args meth c cc nL own D ks A N ad sh) {x y : Int64} (hd : decode cc pc = .ok (.ladd, 1))  (hn : pc + 1 = n) (K : G p l e R s m args below meth c D A nL Q N ad sh μ (n) lv (.long (x + y) :: st)) : G p l e R s m args below meth c D A nL Q N ad sh μ (pc) lv (.long y :: .long x :: st) := by
  subst hn
  exact fun H locs ls hP hS hl => lv_ladd X.1.1 X.1.2.1 hd (K H locs ls hP hS hl)
theorem g_lsub (n : Nat) (X : Cx p s m args meth c cc nL own D ks A N ad sh) {x y : Int64} (hd : decode cc pc = .ok (.lsub, 1))  (hn : pc + 1 = n) (K : G p l e R s m args below meth c D A nL Q N ad sh μ (n) lv (.long (x - y) :: st)) : G p l e R s m args below meth c D A nL Q N ad sh μ (pc) lv (.long y :: .long x :: st) := by
  subst hn
  exact fun H locs ls hP hS hl => lv_lsub X.1.1 X.1.2.1 hd (K H locs ls hP hS hl)
theorem g_lmul (n : Nat) (X : Cx p s m args meth c cc nL own D ks A N ad sh) {x y : Int64} (hd : decode cc pc = .ok (.lmul, 1))  (hn : pc + 1 = n) (K : G p l e R s m args below meth c D A nL Q N ad sh μ (n) lv (.long (x * y) :: st)) : G p l e R s m args below meth c D A nL Q N ad sh μ (pc) lv (.long y :: .long x :: st) := by
  subst hn
  exact fun H locs ls hP hS hl => lv_lmul X.1.1 X.1.2.1 hd (K H locs ls hP hS hl)
theorem g_ineg (n : Nat) (X : Cx p s m args meth c cc nL own D ks A N ad sh) {x : Int32} (hd : decode cc pc = .ok (.ineg, 1))  (hn : pc + 1 = n) (K : G p l e R s m args below meth c D A nL Q N ad sh μ (n) lv (.int (-x) :: st)) : G p l e R s m args below meth c D A nL Q N ad sh μ (pc) lv (.int x :: st) := by
  subst hn
  exact fun H locs ls hP hS hl => lv_ineg X.1.1 X.1.2.1 hd (K H locs ls hP hS hl)
theorem g_lneg (n : Nat) (X : Cx p s m args meth c cc nL own D ks A N ad sh) {x : Int64} (hd : decode cc pc = .ok (.lneg, 1))  (hn : pc + 1 = n) (K : G p l e R s m args below meth c D A nL Q N ad sh μ (n) lv (.long (-x) :: st)) : G p l e R s m args below meth c D A nL Q N ad sh μ (pc) lv (.long x :: st) := by
  subst hn
  exact fun H locs ls hP hS hl => lv_lneg X.1.1 X.1.2.1 hd (K H locs ls hP hS hl)
theorem g_iushr (n : Nat) (X : Cx p s m args meth c cc nL own D ks A N ad sh) {x y : Int32} (hd : decode cc pc = .ok (.iushr, 1))  (hn : pc + 1 = n) (K : G p l e R s m args below meth c D A nL Q N ad sh μ (n) lv (.int ((x.toUInt32 >>> (y.toUInt32 &&& Int32.toUInt32 31)).toInt32) :: st)) : G p l e R s m args below meth c D A nL Q N ad sh μ (pc) lv (.int y :: .int x :: st) := by
  subst hn
  exact fun H locs ls hP hS hl => lv_iushr X.1.1 X.1.2.1 hd rfl (K H locs ls hP hS hl)
theorem g_i2l (n : Nat) (X : Cx p s m args meth c cc nL own D ks A N ad sh) {x : Int32} (hd : decode cc pc = .ok (.i2l, 1))  (hn : pc + 1 = n) (K : G p l e R s m args below meth c D A nL Q N ad sh μ (n) lv (.long (x.toInt64) :: st)) : G p l e R s m args below meth c D A nL Q N ad sh μ (pc) lv (.int x :: st) := by
  subst hn
  exact fun H locs ls hP hS hl => lv_i2l X.1.1 X.1.2.1 hd rfl (K H locs ls hP hS hl)
theorem g_l2i (n : Nat) (X : Cx p s m args meth c cc nL own D ks A N ad sh) {x : Int64} (hd : decode cc pc = .ok (.l2i, 1))  (hn : pc + 1 = n) (K : G p l e R s m args below meth c D A nL Q N ad sh μ (n) lv (.int (x.toInt32) :: st)) : G p l e R s m args below meth c D A nL Q N ad sh μ (pc) lv (.long x :: st) := by
  subst hn
  exact fun H locs ls hP hS hl => lv_l2i X.1.1 X.1.2.1 hd rfl (K H locs ls hP hS hl)
theorem g_i2b (n : Nat) (X : Cx p s m args meth c cc nL own D ks A N ad sh) {x : Int32} (hd : decode cc pc = .ok (.i2b, 1))  (hn : pc + 1 = n) (K : G p l e R s m args below meth c D A nL Q N ad sh μ (n) lv (.int (x.toInt8.toInt32) :: st)) : G p l e R s m args below meth c D A nL Q N ad sh μ (pc) lv (.int x :: st) := by
  subst hn
  exact fun H locs ls hP hS hl => lv_i2b X.1.1 X.1.2.1 hd rfl (K H locs ls hP hS hl)
theorem g_i2s (n : Nat) (X : Cx p s m args meth c cc nL own D ks A N ad sh) {x : Int32} (hd : decode cc pc = .ok (.i2s, 1))  (hn : pc + 1 = n) (K : G p l e R s m args below meth c D A nL Q N ad sh μ (n) lv (.int (x.toInt16.toInt32) :: st)) : G p l e R s m args below meth c D A nL Q N ad sh μ (pc) lv (.int x :: st) := by
  subst hn
  exact fun H locs ls hP hS hl => lv_i2s X.1.1 X.1.2.1 hd rfl (K H locs ls hP hS hl)
theorem g_lcmp (n : Nat) (X : Cx p s m args meth c cc nL own D ks A N ad sh) {x y : Int64} (hd : decode cc pc = .ok (.lcmp, 1))  (hn : pc + 1 = n) (K : G p l e R s m args below meth c D A nL Q N ad sh μ (n) lv (.int (lg_cmp x y) :: st)) : G p l e R s m args below meth c D A nL Q N ad sh μ (pc) lv (.long y :: .long x :: st) := by
  subst hn
  exact fun H locs ls hP hS hl => W.lcmp X.1.1 X.1.2.1 hd (K H locs ls hP hS hl)
theorem g_idiv (n : Nat) (X : Cx p s m args meth c cc nL own D ks A N ad sh) {x y : Int32} {α : Type} {F : Option α} {r : α} (hd : decode cc pc = .ok (.idiv, 1)) (h : dvi y F = some r) (hn : pc + 1 = n) (K : F = some r → G p l e R s m args below meth c D A nL Q N ad sh μ (n) lv (.int (x / y) :: st)) : G p l e R s m args below meth c D A nL Q N ad sh μ (pc) lv (.int y :: .int x :: st) := by
  subst hn
  obtain ⟨h1, h2⟩ := dvi_some h
  exact fun H locs ls hP hS hl => lv_idiv X.1.1 X.1.2.1 hd h1 (K h2 H locs ls hP hS hl)
theorem g_irem (n : Nat) (X : Cx p s m args meth c cc nL own D ks A N ad sh) {x y : Int32} {α : Type} {F : Option α} {r : α} (hd : decode cc pc = .ok (.irem, 1)) (h : dvi y F = some r) (hn : pc + 1 = n) (K : F = some r → G p l e R s m args below meth c D A nL Q N ad sh μ (n) lv (.int (x - x / y * y) :: st)) : G p l e R s m args below meth c D A nL Q N ad sh μ (pc) lv (.int y :: .int x :: st) := by
  subst hn
  obtain ⟨h1, h2⟩ := dvi_some h
  exact fun H locs ls hP hS hl => lv_irem X.1.1 X.1.2.1 hd h1 (K h2 H locs ls hP hS hl)
theorem g_ldiv (n : Nat) (X : Cx p s m args meth c cc nL own D ks A N ad sh) {x y : Int64} {α : Type} {F : Option α} {r : α} (hd : decode cc pc = .ok (.ldiv, 1)) (h : dvl y F = some r) (hn : pc + 1 = n) (K : F = some r → G p l e R s m args below meth c D A nL Q N ad sh μ (n) lv (.long (x / y) :: st)) : G p l e R s m args below meth c D A nL Q N ad sh μ (pc) lv (.long y :: .long x :: st) := by
  subst hn
  obtain ⟨h1, h2⟩ := dvl_some h
  exact fun H locs ls hP hS hl => lv_ldiv X.1.1 X.1.2.1 hd h1 (K h2 H locs ls hP hS hl)
theorem g_lrem (n : Nat) (X : Cx p s m args meth c cc nL own D ks A N ad sh) {x y : Int64} {α : Type} {F : Option α} {r : α} (hd : decode cc pc = .ok (.lrem, 1)) (h : dvl y F = some r) (hn : pc + 1 = n) (K : F = some r → G p l e R s m args below meth c D A nL Q N ad sh μ (n) lv (.long (x - x / y * y) :: st)) : G p l e R s m args below meth c D A nL Q N ad sh μ (pc) lv (.long y :: .long x :: st) := by
  subst hn
  obtain ⟨h1, h2⟩ := dvl_some h
  exact fun H locs ls hP hS hl => lv_lrem X.1.1 X.1.2.1 hd h1 (K h2 H locs ls hP hS hl)
theorem g_dup (n : Nat) (X : Cx p s m args meth c cc nL own D ks A N ad sh) {v : Value} (hd : decode cc pc = .ok (.dup, 1)) (hv : v.category = 1) (hn : pc + 1 = n) (K : G p l e R s m args below meth c D A nL Q N ad sh μ (n) lv (v :: v :: st)) : G p l e R s m args below meth c D A nL Q N ad sh μ (pc) lv (v :: st) := by
  subst hn
  exact fun H locs ls hP hS hl => lv_dup X.1.1 X.1.2.1 hd hv (K H locs ls hP hS hl)
theorem g_dup2 (n : Nat) (X : Cx p s m args meth c cc nL own D ks A N ad sh) {v w : Value} (hd : decode cc pc = .ok (.dup2, 1)) (hv : v.category = 1) (hw : w.category = 1) (hn : pc + 1 = n) (K : G p l e R s m args below meth c D A nL Q N ad sh μ (n) lv (v :: w :: v :: w :: st)) : G p l e R s m args below meth c D A nL Q N ad sh μ (pc) lv (v :: w :: st) := by
  subst hn
  exact fun H locs ls hP hS hl => lv_dup2_11 X.1.1 X.1.2.1 hd hv hw (K H locs ls hP hS hl)
theorem g_if_eq (t n : Nat) (X : Cx p s m args meth c cc nL own D ks A N ad sh) {x : Int32} {off : Int} {α : Type} {F1 F2 : Option α} {r : α} (hd : decode cc pc = .ok (.ifCond .eq off, 3)) (ht : (pc : Int) + off = (t : Int)) (hn : pc + 3 = n) (h : (if x = 0 then F1 else F2) = some r) (kt : F1 = some r → G p l e R s m args below meth c D A nL Q N ad sh μ (t) lv (st)) (kf : F2 = some r → G p l e R s m args below meth c D A nL Q N ad sh μ (n) lv (st)) : G p l e R s m args below meth c D A nL Q N ad sh μ (pc) lv (.int x :: st) := by
  subst hn
  by_cases hc : x = 0
  · rw [if_pos hc] at h
    exact fun H locs ls hP hS hl => lv_if_eq X.1.1 X.1.2.1 hd ht (fun _ => kt h H locs ls hP hS hl) (fun q => absurd hc q)
  · rw [if_neg hc] at h
    exact fun H locs ls hP hS hl => lv_if_eq X.1.1 X.1.2.1 hd ht (fun q => absurd q hc) (fun _ => kf h H locs ls hP hS hl)
theorem g_if_ne (t n : Nat) (X : Cx p s m args meth c cc nL own D ks A N ad sh) {x : Int32} {off : Int} {α : Type} {F1 F2 : Option α} {r : α} (hd : decode cc pc = .ok (.ifCond .ne off, 3)) (ht : (pc : Int) + off = (t : Int)) (hn : pc + 3 = n) (h : (if ¬ x = 0 then F1 else F2) = some r) (kt : F1 = some r → G p l e R s m args below meth c D A nL Q N ad sh μ (t) lv (st)) (kf : F2 = some r → G p l e R s m args below meth c D A nL Q N ad sh μ (n) lv (st)) : G p l e R s m args below meth c D A nL Q N ad sh μ (pc) lv (.int x :: st) := by
  subst hn
  by_cases hc : ¬ x = 0
  · rw [if_pos hc] at h
    exact fun H locs ls hP hS hl => lv_if_ne X.1.1 X.1.2.1 hd ht (fun _ => kt h H locs ls hP hS hl) (fun q => absurd q hc)
  · rw [if_neg hc] at h
    exact fun H locs ls hP hS hl => lv_if_ne X.1.1 X.1.2.1 hd ht (fun q => absurd q hc) (fun _ => kf h H locs ls hP hS hl)
theorem g_if_lt (t n : Nat) (X : Cx p s m args meth c cc nL own D ks A N ad sh) {x : Int32} {off : Int} {α : Type} {F1 F2 : Option α} {r : α} (hd : decode cc pc = .ok (.ifCond .lt off, 3)) (ht : (pc : Int) + off = (t : Int)) (hn : pc + 3 = n) (h : (if x < 0 then F1 else F2) = some r) (kt : F1 = some r → G p l e R s m args below meth c D A nL Q N ad sh μ (t) lv (st)) (kf : F2 = some r → G p l e R s m args below meth c D A nL Q N ad sh μ (n) lv (st)) : G p l e R s m args below meth c D A nL Q N ad sh μ (pc) lv (.int x :: st) := by
  subst hn
  by_cases hc : x < 0
  · rw [if_pos hc] at h
    exact fun H locs ls hP hS hl => lv_if_lt X.1.1 X.1.2.1 hd ht (fun _ => kt h H locs ls hP hS hl) (fun q => absurd hc q)
  · rw [if_neg hc] at h
    exact fun H locs ls hP hS hl => lv_if_lt X.1.1 X.1.2.1 hd ht (fun q => absurd q hc) (fun _ => kf h H locs ls hP hS hl)
theorem g_if_ge (t n : Nat) (X : Cx p s m args meth c cc nL own D ks A N ad sh) {x : Int32} {off : Int} {α : Type} {F1 F2 : Option α} {r : α} (hd : decode cc pc = .ok (.ifCond .ge off, 3)) (ht : (pc : Int) + off = (t : Int)) (hn : pc + 3 = n) (h : (if 0 ≤ x then F1 else F2) = some r) (kt : F1 = some r → G p l e R s m args below meth c D A nL Q N ad sh μ (t) lv (st)) (kf : F2 = some r → G p l e R s m args below meth c D A nL Q N ad sh μ (n) lv (st)) : G p l e R s m args below meth c D A nL Q N ad sh μ (pc) lv (.int x :: st) := by
  subst hn
  by_cases hc : 0 ≤ x
  · rw [if_pos hc] at h
    exact fun H locs ls hP hS hl => lv_if_ge X.1.1 X.1.2.1 hd ht (fun _ => kt h H locs ls hP hS hl) (fun q => absurd hc q)
  · rw [if_neg hc] at h
    exact fun H locs ls hP hS hl => lv_if_ge X.1.1 X.1.2.1 hd ht (fun q => absurd q hc) (fun _ => kf h H locs ls hP hS hl)
theorem g_if_gt (t n : Nat) (X : Cx p s m args meth c cc nL own D ks A N ad sh) {x : Int32} {off : Int} {α : Type} {F1 F2 : Option α} {r : α} (hd : decode cc pc = .ok (.ifCond .gt off, 3)) (ht : (pc : Int) + off = (t : Int)) (hn : pc + 3 = n) (h : (if 0 < x then F1 else F2) = some r) (kt : F1 = some r → G p l e R s m args below meth c D A nL Q N ad sh μ (t) lv (st)) (kf : F2 = some r → G p l e R s m args below meth c D A nL Q N ad sh μ (n) lv (st)) : G p l e R s m args below meth c D A nL Q N ad sh μ (pc) lv (.int x :: st) := by
  subst hn
  by_cases hc : 0 < x
  · rw [if_pos hc] at h
    exact fun H locs ls hP hS hl => lv_if_gt X.1.1 X.1.2.1 hd ht (fun _ => kt h H locs ls hP hS hl) (fun q => absurd hc q)
  · rw [if_neg hc] at h
    exact fun H locs ls hP hS hl => lv_if_gt X.1.1 X.1.2.1 hd ht (fun q => absurd q hc) (fun _ => kf h H locs ls hP hS hl)
theorem g_if_le (t n : Nat) (X : Cx p s m args meth c cc nL own D ks A N ad sh) {x : Int32} {off : Int} {α : Type} {F1 F2 : Option α} {r : α} (hd : decode cc pc = .ok (.ifCond .le off, 3)) (ht : (pc : Int) + off = (t : Int)) (hn : pc + 3 = n) (h : (if x ≤ 0 then F1 else F2) = some r) (kt : F1 = some r → G p l e R s m args below meth c D A nL Q N ad sh μ (t) lv (st)) (kf : F2 = some r → G p l e R s m args below meth c D A nL Q N ad sh μ (n) lv (st)) : G p l e R s m args below meth c D A nL Q N ad sh μ (pc) lv (.int x :: st) := by
  subst hn
  by_cases hc : x ≤ 0
  · rw [if_pos hc] at h
    exact fun H locs ls hP hS hl => lv_if_le X.1.1 X.1.2.1 hd ht (fun _ => kt h H locs ls hP hS hl) (fun q => absurd hc q)
  · rw [if_neg hc] at h
    exact fun H locs ls hP hS hl => lv_if_le X.1.1 X.1.2.1 hd ht (fun q => absurd q hc) (fun _ => kf h H locs ls hP hS hl)
theorem g_icmp_eq (t n : Nat) (X : Cx p s m args meth c cc nL own D ks A N ad sh) {x y : Int32} {off : Int} {α : Type} {F1 F2 : Option α} {r : α} (hd : decode cc pc = .ok (.if_icmp .eq off, 3)) (ht : (pc : Int) + off = (t : Int)) (hn : pc + 3 = n) (h : (if x = y then F1 else F2) = some r) (kt : F1 = some r → G p l e R s m args below meth c D A nL Q N ad sh μ (t) lv (st)) (kf : F2 = some r → G p l e R s m args below meth c D A nL Q N ad sh μ (n) lv (st)) : G p l e R s m args below meth c D A nL Q N ad sh μ (pc) lv (.int y :: .int x :: st) := by
  subst hn
  by_cases hc : x = y
  · rw [if_pos hc] at h
    exact fun H locs ls hP hS hl => lv_icmp_eq X.1.1 X.1.2.1 hd ht (fun _ => kt h H locs ls hP hS hl) (fun q => absurd hc q)
  · rw [if_neg hc] at h
    exact fun H locs ls hP hS hl => lv_icmp_eq X.1.1 X.1.2.1 hd ht (fun q => absurd q hc) (fun _ => kf h H locs ls hP hS hl)
theorem g_icmp_ne (t n : Nat) (X : Cx p s m args meth c cc nL own D ks A N ad sh) {x y : Int32} {off : Int} {α : Type} {F1 F2 : Option α} {r : α} (hd : decode cc pc = .ok (.if_icmp .ne off, 3)) (ht : (pc : Int) + off = (t : Int)) (hn : pc + 3 = n) (h : (if ¬ x = y then F1 else F2) = some r) (kt : F1 = some r → G p l e R s m args below meth c D A nL Q N ad sh μ (t) lv (st)) (kf : F2 = some r → G p l e R s m args below meth c D A nL Q N ad sh μ (n) lv (st)) : G p l e R s m args below meth c D A nL Q N ad sh μ (pc) lv (.int y :: .int x :: st) := by
  subst hn
  by_cases hc : ¬ x = y
  · rw [if_pos hc] at h
    exact fun H locs ls hP hS hl => lv_icmp_ne X.1.1 X.1.2.1 hd ht (fun _ => kt h H locs ls hP hS hl) (fun q => absurd q hc)
  · rw [if_neg hc] at h
    exact fun H locs ls hP hS hl => lv_icmp_ne X.1.1 X.1.2.1 hd ht (fun q => absurd q hc) (fun _ => kf h H locs ls hP hS hl)
theorem g_icmp_lt (t n : Nat) (X : Cx p s m args meth c cc nL own D ks A N ad sh) {x y : Int32} {off : Int} {α : Type} {F1 F2 : Option α} {r : α} (hd : decode cc pc = .ok (.if_icmp .lt off, 3)) (ht : (pc : Int) + off = (t : Int)) (hn : pc + 3 = n) (h : (if x < y then F1 else F2) = some r) (kt : F1 = some r → G p l e R s m args below meth c D A nL Q N ad sh μ (t) lv (st)) (kf : F2 = some r → G p l e R s m args below meth c D A nL Q N ad sh μ (n) lv (st)) : G p l e R s m args below meth c D A nL Q N ad sh μ (pc) lv (.int y :: .int x :: st) := by
  subst hn
  by_cases hc : x < y
  · rw [if_pos hc] at h
    exact fun H locs ls hP hS hl => lv_icmp_lt X.1.1 X.1.2.1 hd ht (fun _ => kt h H locs ls hP hS hl) (fun q => absurd hc q)
  · rw [if_neg hc] at h
    exact fun H locs ls hP hS hl => lv_icmp_lt X.1.1 X.1.2.1 hd ht (fun q => absurd q hc) (fun _ => kf h H locs ls hP hS hl)
theorem g_icmp_ge (t n : Nat) (X : Cx p s m args meth c cc nL own D ks A N ad sh) {x y : Int32} {off : Int} {α : Type} {F1 F2 : Option α} {r : α} (hd : decode cc pc = .ok (.if_icmp .ge off, 3)) (ht : (pc : Int) + off = (t : Int)) (hn : pc + 3 = n) (h : (if y ≤ x then F1 else F2) = some r) (kt : F1 = some r → G p l e R s m args below meth c D A nL Q N ad sh μ (t) lv (st)) (kf : F2 = some r → G p l e R s m args below meth c D A nL Q N ad sh μ (n) lv (st)) : G p l e R s m args below meth c D A nL Q N ad sh μ (pc) lv (.int y :: .int x :: st) := by
  subst hn
  by_cases hc : y ≤ x
  · rw [if_pos hc] at h
    exact fun H locs ls hP hS hl => lv_icmp_ge X.1.1 X.1.2.1 hd ht (fun _ => kt h H locs ls hP hS hl) (fun q => absurd hc q)
  · rw [if_neg hc] at h
    exact fun H locs ls hP hS hl => lv_icmp_ge X.1.1 X.1.2.1 hd ht (fun q => absurd q hc) (fun _ => kf h H locs ls hP hS hl)
theorem g_icmp_gt (t n : Nat) (X : Cx p s m args meth c cc nL own D ks A N ad sh) {x y : Int32} {off : Int} {α : Type} {F1 F2 : Option α} {r : α} (hd : decode cc pc = .ok (.if_icmp .gt off, 3)) (ht : (pc : Int) + off = (t : Int)) (hn : pc + 3 = n) (h : (if y < x then F1 else F2) = some r) (kt : F1 = some r → G p l e R s m args below meth c D A nL Q N ad sh μ (t) lv (st)) (kf : F2 = some r → G p l e R s m args below meth c D A nL Q N ad sh μ (n) lv (st)) : G p l e R s m args below meth c D A nL Q N ad sh μ (pc) lv (.int y :: .int x :: st) := by
  subst hn
  by_cases hc : y < x
  · rw [if_pos hc] at h
    exact fun H locs ls hP hS hl => lv_icmp_gt X.1.1 X.1.2.1 hd ht (fun _ => kt h H locs ls hP hS hl) (fun q => absurd hc q)
  · rw [if_neg hc] at h
    exact fun H locs ls hP hS hl => lv_icmp_gt X.1.1 X.1.2.1 hd ht (fun q => absurd q hc) (fun _ => kf h H locs ls hP hS hl)
theorem g_icmp_le (t n : Nat) (X : Cx p s m args meth c cc nL own D ks A N ad sh) {x y : Int32} {off : Int} {α : Type} {F1 F2 : Option α} {r : α} (hd : decode cc pc = .ok (.if_icmp .le off, 3)) (ht : (pc : Int) + off = (t : Int)) (hn : pc + 3 = n) (h : (if x ≤ y then F1 else F2) = some r) (kt : F1 = some r → G p l e R s m args below meth c D A nL Q N ad sh μ (t) lv (st)) (kf : F2 = some r → G p l e R s m args below meth c D A nL Q N ad sh μ (n) lv (st)) : G p l e R s m args below meth c D A nL Q N ad sh μ (pc) lv (.int y :: .int x :: st) := by
  subst hn
  by_cases hc : x ≤ y
  · rw [if_pos hc] at h
    exact fun H locs ls hP hS hl => lv_icmp_le X.1.1 X.1.2.1 hd ht (fun _ => kt h H locs ls hP hS hl) (fun q => absurd hc q)
  · rw [if_neg hc] at h
    exact fun H locs ls hP hS hl => lv_icmp_le X.1.1 X.1.2.1 hd ht (fun q => absurd q hc) (fun _ => kf h H locs ls hP hS hl)
theorem g_goto (t : Nat) (X : Cx p s m args meth c cc nL own D ks A N ad sh) {off : Int} (hd : decode cc pc = .ok (.goto off, 3)) (ht : (pc : Int) + off = (t : Int)) (K : G p l e R s m args below meth c D A nL Q N ad sh μ (t) lv (st)) : G p l e R s m args below meth c D A nL Q N ad sh μ (pc) lv (st) := fun H locs ls hP hS hl => lv_goto X.1.1 X.1.2.1 hd ht (K H locs ls hP hS hl)
theorem g_ifnull (t n : Nat) (X : Cx p s m args meth c cc nL own D ks A N ad sh) {x : Option Nat} {off : Int} {α : Type} {F1 : Option α} {F2 : Nat → Option α} {r : α} (hd : decode cc pc = .ok (.ifnull off, 3)) (ht : (pc : Int) + off = (t : Int)) (hn : pc + 3 = n) (h : onul x F1 F2 = some r) (kt : x = none → F1 = some r → G p l e R s m args below meth c D A nL Q N ad sh μ (t) lv (st)) (kf : ∀ y, x = some y → F2 y = some r → G p l e R s m args below meth c D A nL Q N ad sh μ (n) lv (st)) : G p l e R s m args below meth c D A nL Q N ad sh μ (pc) lv (va_rf (x.map ad) :: st) := by
  subst hn
  cases x with
  | none => exact fun H locs ls hP hS hl => lv_ifnullN X.1.1 X.1.2.1 hd ht (kt rfl h H locs ls hP hS hl)
  | some y => exact fun H locs ls hP hS hl => lv_ifnull X.1.1 X.1.2.1 hd (kf y rfl h H locs ls hP hS hl)
theorem g_ifnonnull (t n : Nat) (X : Cx p s m args meth c cc nL own D ks A N ad sh) {x : Option Nat} {off : Int} {α : Type} {F1 : Option α} {F2 : Nat → Option α} {r : α} (hd : decode cc pc = .ok (.ifnonnull off, 3)) (ht : (pc : Int) + off = (t : Int)) (hn : pc + 3 = n) (h : onul x F1 F2 = some r) (kt : ∀ y, x = some y → F2 y = some r → G p l e R s m args below meth c D A nL Q N ad sh μ (t) lv (st)) (kf : x = none → F1 = some r → G p l e R s m args below meth c D A nL Q N ad sh μ (n) lv (st)) : G p l e R s m args below meth c D A nL Q N ad sh μ (pc) lv (va_rf (x.map ad) :: st) := by
  subst hn
  cases x with
  | none => exact fun H locs ls hP hS hl => lv_ifnonnullN X.1.1 X.1.2.1 hd (kf rfl h H locs ls hP hS hl)
  | some y => exact fun H locs ls hP hS hl => lv_ifnonnull X.1.1 X.1.2.1 hd ht (kt y rfl h H locs ls hP hS hl)
theorem G.sub {lv2 : List (Nat × Value)} (qs : List Nat) (hq : lv_pick lv qs = lv2) (K : G p l e R s m args below meth c D A nL Q N ad sh μ (pc) lv2 (st)) : G p l e R s m args below meth c D A nL Q N ad sh μ (pc) lv (st) := fun H locs ls hP hS hl => K H locs ls hP hS (lv_sub hl qs hq)
theorem g_geti (n : Nat) (X : Cx p s m args meth c cc nL own D ks A N ad sh) {ci j idx k : Nat} {fs : (Nat → Int32) → (Nat → Int64) → (Nat → Option Nat) → List Value} {α : Type} {F : Int32 → Option α} {r : α} (fl : FL own idx ci j) (ho : OB sh N k ci fs) (hv : (fs (μ.1 k) (μ.2.1 k) (μ.2.2 k))[j]? = some (.int (μ.1 k j))) (hd : decode cc pc = .ok (.getfield idx, 3)) (h : bnd (μ.1 k j) F = some r) (hn : pc + 3 = n) (K : ∀ (v : Int32), F v = some r → G p l e R s m args below meth c D A nL Q N ad sh μ (n) lv (.int v :: st)) : G p l e R s m args below meth c D A nL Q N ad sh μ (pc) lv (.ref (ad k) :: st) := by
  subst hn
  obtain ⟨ref, C, T, NF, hc, hin, hj, hl1, hsm⟩ := fl
  have he : (wsM N ad sh μ)[k]? = some (ad k, .inr (ci, fs (μ.1 k) (μ.2.1 k) (μ.2.2 k))) := by rw [wsM_at ho.1, ho.2]
  have hsame := same_of X.1.2.2.2.2 hsm
  rcases hl1 with hw | ⟨host, hw⟩
  · exact fun H locs ls hP hS hl => va_get X.1.1 X.1.2.1 X.1.2.2.2.2 hin X.1.2.2.2.1 X.2.2.1 hP k he hc j hj (X.1.2.2.2.2 _ hw) hsame hv hd (K (μ.1 k j) h H locs ls hP hS hl)
  · exact fun H locs ls hP hS hl => va_getN X.1.1 X.1.2.1 X.1.2.2.2.2 hin X.1.2.2.2.1 X.2.2.1 hP k he hc j hj (va_Nw.use rfl (X.2.1.1 _ hw rfl)) hsame hv hd (K (μ.1 k j) h H locs ls hP hS hl)
theorem g_getl (n : Nat) (X : Cx p s m args meth c cc nL own D ks A N ad sh) {ci j idx k : Nat} {fs : (Nat → Int32) → (Nat → Int64) → (Nat → Option Nat) → List Value} {α : Type} {F : Int64 → Option α} {r : α} (fl : FL own idx ci j) (ho : OB sh N k ci fs) (hv : (fs (μ.1 k) (μ.2.1 k) (μ.2.2 k))[j]? = some (.long (μ.2.1 k j))) (hd : decode cc pc = .ok (.getfield idx, 3)) (h : bnd (μ.2.1 k j) F = some r) (hn : pc + 3 = n) (K : ∀ (v : Int64), F v = some r → G p l e R s m args below meth c D A nL Q N ad sh μ (n) lv (.long v :: st)) : G p l e R s m args below meth c D A nL Q N ad sh μ (pc) lv (.ref (ad k) :: st) := by
  subst hn
  obtain ⟨ref, C, T, NF, hc, hin, hj, hl1, hsm⟩ := fl
  have he : (wsM N ad sh μ)[k]? = some (ad k, .inr (ci, fs (μ.1 k) (μ.2.1 k) (μ.2.2 k))) := by rw [wsM_at ho.1, ho.2]
  have hsame := same_of X.1.2.2.2.2 hsm
  rcases hl1 with hw | ⟨host, hw⟩
  · exact fun H locs ls hP hS hl => va_get X.1.1 X.1.2.1 X.1.2.2.2.2 hin X.1.2.2.2.1 X.2.2.1 hP k he hc j hj (X.1.2.2.2.2 _ hw) hsame hv hd (K (μ.2.1 k j) h H locs ls hP hS hl)
  · exact fun H locs ls hP hS hl => va_getN X.1.1 X.1.2.1 X.1.2.2.2.2 hin X.1.2.2.2.1 X.2.2.1 hP k he hc j hj (va_Nw.use rfl (X.2.1.1 _ hw rfl)) hsame hv hd (K (μ.2.1 k j) h H locs ls hP hS hl)
theorem g_getq (n : Nat) (X : Cx p s m args meth c cc nL own D ks A N ad sh) {ci j idx k : Nat} {fs : (Nat → Int32) → (Nat → Int64) → (Nat → Option Nat) → List Value} {α : Type} {F : Option Nat → Option α} {r : α} (fl : FL own idx ci j) (ho : OB sh N k ci fs) (hv : (fs (μ.1 k) (μ.2.1 k) (μ.2.2 k))[j]? = some (va_rf ((μ.2.2 k j).map ad))) (hd : decode cc pc = .ok (.getfield idx, 3)) (h : bnd (μ.2.2 k j) F = some r) (hn : pc + 3 = n) (K : ∀ (v : Option Nat), F v = some r → G p l e R s m args below meth c D A nL Q N ad sh μ (n) lv (va_rf (v.map ad) :: st)) : G p l e R s m args below meth c D A nL Q N ad sh μ (pc) lv (.ref (ad k) :: st) := by
  subst hn
  obtain ⟨ref, C, T, NF, hc, hin, hj, hl1, hsm⟩ := fl
  have he : (wsM N ad sh μ)[k]? = some (ad k, .inr (ci, fs (μ.1 k) (μ.2.1 k) (μ.2.2 k))) := by rw [wsM_at ho.1, ho.2]
  have hsame := same_of X.1.2.2.2.2 hsm
  rcases hl1 with hw | ⟨host, hw⟩
  · exact fun H locs ls hP hS hl => va_get X.1.1 X.1.2.1 X.1.2.2.2.2 hin X.1.2.2.2.1 X.2.2.1 hP k he hc j hj (X.1.2.2.2.2 _ hw) hsame hv hd (K (μ.2.2 k j) h H locs ls hP hS hl)
  · exact fun H locs ls hP hS hl => va_getN X.1.1 X.1.2.1 X.1.2.2.2.2 hin X.1.2.2.2.1 X.2.2.1 hP k he hc j hj (va_Nw.use rfl (X.2.1.1 _ hw rfl)) hsame hv hd (K (μ.2.2 k j) h H locs ls hP hS hl)
theorem g_getr (n : Nat) (X : Cx p s m args meth c cc nL own D ks A N ad sh) {ci j idx k : Nat} {w : Nat} {fs : (Nat → Int32) → (Nat → Int64) → (Nat → Option Nat) → List Value} (fl : FL own idx ci j) (ho : OB sh N k ci fs) (hv : (fs (μ.1 k) (μ.2.1 k) (μ.2.2 k))[j]? = some (.ref (ad w))) (hd : decode cc pc = .ok (.getfield idx, 3)) (hn : pc + 3 = n) (K : G p l e R s m args below meth c D A nL Q N ad sh μ (n) lv (.ref (ad w) :: st)) : G p l e R s m args below meth c D A nL Q N ad sh μ (pc) lv (.ref (ad k) :: st) := by
  subst hn
  obtain ⟨ref, C, T, NF, hc, hin, hj, hl1, hsm⟩ := fl
  have he : (wsM N ad sh μ)[k]? = some (ad k, .inr (ci, fs (μ.1 k) (μ.2.1 k) (μ.2.2 k))) := by rw [wsM_at ho.1, ho.2]
  have hsame := same_of X.1.2.2.2.2 hsm
  rcases hl1 with hw | ⟨host, hw⟩
  · exact fun H locs ls hP hS hl => va_get X.1.1 X.1.2.1 X.1.2.2.2.2 hin X.1.2.2.2.1 X.2.2.1 hP k he hc j hj (X.1.2.2.2.2 _ hw) hsame hv hd (K H locs ls hP hS hl)
  · exact fun H locs ls hP hS hl => va_getN X.1.1 X.1.2.1 X.1.2.2.2.2 hin X.1.2.2.2.1 X.2.2.1 hP k he hc j hj (va_Nw.use rfl (X.2.1.1 _ hw rfl)) hsame hv hd (K H locs ls hP hS hl)
theorem g_puti (n : Nat) (X : Cx p s m args meth c cc nL own D ks A N ad sh) {ci j idx k : Nat} {ty : FieldType} {fs : (Nat → Int32) → (Nat → Int64) → (Nat → Option Nat) → List Value} {v : Int32} (fp : FP own idx ci j ty) (ho : OB sh N k ci fs) (hs : fs (upd (μ.1 k) j v) (μ.2.1 k) (μ.2.2 k) = (fs (μ.1 k) (μ.2.1 k) (μ.2.2 k)).set j (.int v)) (hl : j < (fs (μ.1 k) (μ.2.1 k) (μ.2.2 k)).length) (hna : narrow ty (.int v) = .int v) (hfi : fits ty (.int v) = true) (hd : decode cc pc = .ok (.putfield idx, 3)) {α : Type} {F : Mem → Option α} {r : α} (h : bnd (ui μ k j v) F = some r) (hn : pc + 3 = n) (K : ∀ μ2 : Mem, F μ2 = some r → G p l e R s m args below meth c D A nL Q N ad sh μ2 (n) lv (st)) : G p l e R s m args below meth c D A nL Q N ad sh μ (pc) lv (.int v :: .ref (ad k) :: st) := by
  subst hn
  obtain ⟨ref, C, T, NF, ty0, hc, hin, hj, hl1, hsm, hty, hnm, hfin, hpt⟩ := fp
  have he : (wsM N ad sh μ)[k]? = some (ad k, .inr (ci, fs (μ.1 k) (μ.2.1 k) (μ.2.2 k))) := by rw [wsM_at ho.1, ho.2]
  have hsame := same_of X.1.2.2.2.2 hsm
  have hset : (wsM N ad sh μ).set k (ad k, .inr (ci, (fs (μ.1 k) (μ.2.1 k) (μ.2.2 k)).set j (.int v))) = wsM N ad sh (ui μ k j v) := wsM_ui ho.1 (by rw [ho.2, hs])
  rcases hl1 with hw | ⟨host, hw⟩
  · exact fun H locs ls hP hS hl2 => va_put X.1.1 X.1.2.1 X.1.2.2.2.2 hin ty0 hty hnm X.1.2.2.2.1 X.2.2.1 hP (X.2.2.2.2 μ) hS k he hc j hj (X.1.2.2.2.2 _ hw) hsame hfin hpt hna hfi hl hd (fun H1 locs1 hP1 _ hS1 => K (ui μ k j v) h H1 locs1 ls (hset ▸ hP1) hS1 hl2)
  · exact fun H locs ls hP hS hl2 => va_putN X.1.1 X.1.2.1 X.1.2.2.2.2 hin ty0 hty hnm X.1.2.2.2.1 X.2.2.1 hP (X.2.2.2.2 μ) hS k he hc j hj (va_Nw.use rfl (X.2.1.1 _ hw rfl)) hsame hfin hpt hna hfi hl hd (fun H1 locs1 hP1 _ hS1 => K (ui μ k j v) h H1 locs1 ls (hset ▸ hP1) hS1 hl2)

theorem g_putl (n : Nat) (X : Cx p s m args meth c cc nL own D ks A N ad sh) {ci j idx k : Nat} {ty : FieldType} {fs : (Nat → Int32) → (Nat → Int64) → (Nat → Option Nat) → List Value} {v : Int64} (fp : FP own idx ci j ty) (ho : OB sh N k ci fs) (hs : fs (μ.1 k) (vp_updL (μ.2.1 k) j v) (μ.2.2 k) = (fs (μ.1 k) (μ.2.1 k) (μ.2.2 k)).set j (.long v)) (hl : j < (fs (μ.1 k) (μ.2.1 k) (μ.2.2 k)).length) (hna : narrow ty (.long v) = .long v) (hfi : fits ty (.long v) = true) (hd : decode cc pc = .ok (.putfield idx, 3)) {α : Type} {F : Mem → Option α} {r : α} (h : bnd (ul μ k j v) F = some r) (hn : pc + 3 = n) (K : ∀ μ2 : Mem, F μ2 = some r → G p l e R s m args below meth c D A nL Q N ad sh μ2 (n) lv (st)) : G p l e R s m args below meth c D A nL Q N ad sh μ (pc) lv (.long v :: .ref (ad k) :: st) := by
  subst hn
  obtain ⟨ref, C, T, NF, ty0, hc, hin, hj, hl1, hsm, hty, hnm, hfin, hpt⟩ := fp
  have he : (wsM N ad sh μ)[k]? = some (ad k, .inr (ci, fs (μ.1 k) (μ.2.1 k) (μ.2.2 k))) := by rw [wsM_at ho.1, ho.2]
  have hsame := same_of X.1.2.2.2.2 hsm
  have hset : (wsM N ad sh μ).set k (ad k, .inr (ci, (fs (μ.1 k) (μ.2.1 k) (μ.2.2 k)).set j (.long v))) = wsM N ad sh (ul μ k j v) := wsM_ul ho.1 (by rw [ho.2, hs])
  rcases hl1 with hw | ⟨host, hw⟩
  · exact fun H locs ls hP hS hl2 => va_put X.1.1 X.1.2.1 X.1.2.2.2.2 hin ty0 hty hnm X.1.2.2.2.1 X.2.2.1 hP (X.2.2.2.2 μ) hS k he hc j hj (X.1.2.2.2.2 _ hw) hsame hfin hpt hna hfi hl hd (fun H1 locs1 hP1 _ hS1 => K (ul μ k j v) h H1 locs1 ls (hset ▸ hP1) hS1 hl2)
  · exact fun H locs ls hP hS hl2 => va_putN X.1.1 X.1.2.1 X.1.2.2.2.2 hin ty0 hty hnm X.1.2.2.2.1 X.2.2.1 hP (X.2.2.2.2 μ) hS k he hc j hj (va_Nw.use rfl (X.2.1.1 _ hw rfl)) hsame hfin hpt hna hfi hl hd (fun H1 locs1 hP1 _ hS1 => K (ul μ k j v) h H1 locs1 ls (hset ▸ hP1) hS1 hl2)

theorem g_putr (n : Nat) (X : Cx p s m args meth c cc nL own D ks A N ad sh) {ci j idx k : Nat} {ty : FieldType} {fs : (Nat → Int32) → (Nat → Int64) → (Nat → Option Nat) → List Value} {v : Option Nat} (fp : FP own idx ci j ty) (ho : OB sh N k ci fs) (hs : fs (μ.1 k) (μ.2.1 k) (fun b => if b = j then v else μ.2.2 k b) = (fs (μ.1 k) (μ.2.1 k) (μ.2.2 k)).set j (va_rf (v.map ad))) (hl : j < (fs (μ.1 k) (μ.2.1 k) (μ.2.2 k)).length) (hna : narrow ty (va_rf (v.map ad)) = va_rf (v.map ad)) (hfi : fits ty (va_rf (v.map ad)) = true) (hd : decode cc pc = .ok (.putfield idx, 3)) {α : Type} {F : Mem → Option α} {r : α} (h : bnd (ur μ k j v) F = some r) (hn : pc + 3 = n) (K : ∀ μ2 : Mem, F μ2 = some r → G p l e R s m args below meth c D A nL Q N ad sh μ2 (n) lv (st)) : G p l e R s m args below meth c D A nL Q N ad sh μ (pc) lv (va_rf (v.map ad) :: .ref (ad k) :: st) := by
  subst hn
  obtain ⟨ref, C, T, NF, ty0, hc, hin, hj, hl1, hsm, hty, hnm, hfin, hpt⟩ := fp
  have he : (wsM N ad sh μ)[k]? = some (ad k, .inr (ci, fs (μ.1 k) (μ.2.1 k) (μ.2.2 k))) := by rw [wsM_at ho.1, ho.2]
  have hsame := same_of X.1.2.2.2.2 hsm
  have hset : (wsM N ad sh μ).set k (ad k, .inr (ci, (fs (μ.1 k) (μ.2.1 k) (μ.2.2 k)).set j (va_rf (v.map ad)))) = wsM N ad sh (ur μ k j v) := wsM_ur ho.1 (by rw [ho.2, hs])
  rcases hl1 with hw | ⟨host, hw⟩
  · exact fun H locs ls hP hS hl2 => va_put X.1.1 X.1.2.1 X.1.2.2.2.2 hin ty0 hty hnm X.1.2.2.2.1 X.2.2.1 hP (X.2.2.2.2 μ) hS k he hc j hj (X.1.2.2.2.2 _ hw) hsame hfin hpt hna hfi hl hd (fun H1 locs1 hP1 _ hS1 => K (ur μ k j v) h H1 locs1 ls (hset ▸ hP1) hS1 hl2)
  · exact fun H locs ls hP hS hl2 => va_putN X.1.1 X.1.2.1 X.1.2.2.2.2 hin ty0 hty hnm X.1.2.2.2.1 X.2.2.1 hP (X.2.2.2.2 μ) hS k he hc j hj (va_Nw.use rfl (X.2.1.1 _ hw rfl)) hsame hfin hpt hna hfi hl hd (fun H1 locs1 hP1 _ hS1 => K (ur μ k j v) h H1 locs1 ls (hset ▸ hP1) hS1 hl2)

theorem g_iald (n : Nat) (X : Cx p s m args meth c cc nL own D ks A N ad sh) {k len : Nat} {i : Int32} {α : Type} {F : Int32 → Option α} {r : α} (ha : AI sh ks N k len) (hd : decode cc pc = .ok (.iaload, 1)) (h : ck i len (bnd (μ.1 k i.toNatClampNeg) F) = some r) (hn : pc + 1 = n) (K : ∀ v : Int32, F v = some r → G p l e R s m args below meth c D A nL Q N ad sh μ (n) lv (.int v :: st)) : G p l e R s m args below meth c D A nL Q N ad sh μ (pc) lv (.int i :: .ref (ad k) :: st) := by
  subst hn
  obtain ⟨h1, h2⟩ := ck_some h
  have he := wsM_at (ad := ad) (sh := sh) (μ := μ) ha.1
  rw [ha.2] at he
  exact fun H locs ls hP hS hl => va_iald X.1.1 X.1.2.1 X.2.2.1 hP k 0 he rfl h1 hd (K _ h2 H locs ls hP hS hl)
theorem g_zald (n : Nat) (X : Cx p s m args meth c cc nL own D ks A N ad sh) {k len : Nat} {i : Int32} {α : Type} {F : Int32 → Option α} {r : α} (ha : AZ sh ks N k len) (hd : decode cc pc = .ok (.baload, 1)) (h : ck i len (bnd (μ.1 k i.toNatClampNeg) F) = some r) (hn : pc + 1 = n) (K : ∀ v : Int32, F v = some r → G p l e R s m args below meth c D A nL Q N ad sh μ (n) lv (.int v :: st)) : G p l e R s m args below meth c D A nL Q N ad sh μ (pc) lv (.int i :: .ref (ad k) :: st) := by
  subst hn
  obtain ⟨h1, h2⟩ := ck_some h
  have he := wsM_at (ad := ad) (sh := sh) (μ := μ) ha.1
  rw [ha.2] at he
  exact fun H locs ls hP hS hl => va_zald X.1.1 X.1.2.1 X.2.2.1 hP k 2 he rfl h1 hd (K _ h2 H locs ls hP hS hl)
theorem g_lald (n : Nat) (X : Cx p s m args meth c cc nL own D ks A N ad sh) {k len : Nat} {i : Int32} {α : Type} {F : Int64 → Option α} {r : α} (ha : AJ sh ks N k len) (hd : decode cc pc = .ok (.laload, 1)) (h : ck i len (bnd (μ.2.1 k i.toNatClampNeg) F) = some r) (hn : pc + 1 = n) (K : ∀ v : Int64, F v = some r → G p l e R s m args below meth c D A nL Q N ad sh μ (n) lv (.long v :: st)) : G p l e R s m args below meth c D A nL Q N ad sh μ (pc) lv (.int i :: .ref (ad k) :: st) := by
  subst hn
  obtain ⟨h1, h2⟩ := ck_some h
  have he := wsM_at (ad := ad) (sh := sh) (μ := μ) ha.1
  rw [ha.2] at he
  exact fun H locs ls hP hS hl => va_lald X.1.1 X.1.2.1 X.2.2.1 hP k 1 he rfl h1 hd (K _ h2 H locs ls hP hS hl)
theorem g_iast (n : Nat) (X : Cx p s m args meth c cc nL own D ks A N ad sh) {k len : Nat} {i : Int32} {x : Int32} {α : Type} {F : Mem → Option α} {r : α} (ha : AI sh ks N k len) (hd : decode cc pc = .ok (.iastore, 1)) (h : ck i len (bnd (ui μ k i.toNatClampNeg x) F) = some r) (hn : pc + 1 = n) (K : ∀ μ2 : Mem, F μ2 = some r → G p l e R s m args below meth c D A nL Q N ad sh μ2 (n) lv (st)) : G p l e R s m args below meth c D A nL Q N ad sh μ (pc) lv (.int x :: .int i :: .ref (ad k) :: st) := by
  subst hn
  obtain ⟨h1, h2⟩ := ck_some h
  have he := wsM_at (ad := ad) (sh := sh) (μ := μ) ha.1
  rw [ha.2] at he
  exact fun H locs ls hP hS hl => va_iast X.1.1 X.1.2.1 X.2.2.1 hP (X.2.2.2.2 μ) hS k 0 he rfl h1 hd (fun H1 locs1 hP1 _ hS1 => K _ h2 H1 locs1 ls ((wsM_ui ha.1 (ha.2 _ _ _)) ▸ hP1) hS1 hl)
theorem g_zast (n : Nat) (X : Cx p s m args meth c cc nL own D ks A N ad sh) {k len : Nat} {i : Int32} {x : Int32} {α : Type} {F : Mem → Option α} {r : α} (ha : AZ sh ks N k len) (hd : decode cc pc = .ok (.bastore, 1)) (h : ck i len (bnd (ui μ k i.toNatClampNeg (vp_nar .boolean x)) F) = some r) (hn : pc + 1 = n) (K : ∀ μ2 : Mem, F μ2 = some r → G p l e R s m args below meth c D A nL Q N ad sh μ2 (n) lv (st)) : G p l e R s m args below meth c D A nL Q N ad sh μ (pc) lv (.int x :: .int i :: .ref (ad k) :: st) := by
  subst hn
  obtain ⟨h1, h2⟩ := ck_some h
  have he := wsM_at (ad := ad) (sh := sh) (μ := μ) ha.1
  rw [ha.2] at he
  exact fun H locs ls hP hS hl => va_zast X.1.1 X.1.2.1 X.2.2.1 hP (X.2.2.2.2 μ) hS k 2 he rfl h1 hd (fun H1 locs1 hP1 _ hS1 => K _ h2 H1 locs1 ls ((wsM_ui ha.1 (ha.2 _ _ _)) ▸ hP1) hS1 hl)
theorem g_last (n : Nat) (X : Cx p s m args meth c cc nL own D ks A N ad sh) {k len : Nat} {i : Int32} {x : Int64} {α : Type} {F : Mem → Option α} {r : α} (ha : AJ sh ks N k len) (hd : decode cc pc = .ok (.lastore, 1)) (h : ck i len (bnd (ul μ k i.toNatClampNeg x) F) = some r) (hn : pc + 1 = n) (K : ∀ μ2 : Mem, F μ2 = some r → G p l e R s m args below meth c D A nL Q N ad sh μ2 (n) lv (st)) : G p l e R s m args below meth c D A nL Q N ad sh μ (pc) lv (.long x :: .int i :: .ref (ad k) :: st) := by
  subst hn
  obtain ⟨h1, h2⟩ := ck_some h
  have he := wsM_at (ad := ad) (sh := sh) (μ := μ) ha.1
  rw [ha.2] at he
  exact fun H locs ls hP hS hl => va_last X.1.1 X.1.2.1 X.2.2.1 hP (X.2.2.2.2 μ) hS k 1 he rfl h1 hd (fun H1 locs1 hP1 _ hS1 => K _ h2 H1 locs1 ls ((wsM_ul ha.1 (ha.2 _ _ _)) ▸ hP1) hS1 hl)
theorem g_aald (n : Nat) (X : Cx p s m args meth c cc nL own D ks A N ad sh) {k len t0 : Nat} {fn : Nat → Nat} {C : String} {i : Int32} {α : Type} {F : Option α} {r : α} (ha : k < N ∧ ∀ f g h, sh k f g h = .inl (ks t0, len, .inr (.inr (.inr (.inr (fun p => some (ad (fn p)))))))) (ht : (tysM ks)[t0]? = some (ks t0, .object C)) (hd : decode cc pc = .ok (.aaload, 1)) (h : ck i len F = some r) (hn : pc + 1 = n) (K : vp_in i len → F = some r → G p l e R s m args below meth c D A nL Q N ad sh μ (n) lv (.ref (ad (fn i.toNatClampNeg)) :: st)) : G p l e R s m args below meth c D A nL Q N ad sh μ (pc) lv (.int i :: .ref (ad k) :: st) := by
  subst hn
  obtain ⟨h1, h2⟩ := ck_some h
  have he := wsM_at (ad := ad) (sh := sh) (μ := μ) ha.1
  rw [ha.2] at he
  exact fun H locs ls hP hS hl => va_aldq X.1.1 X.1.2.1 X.2.2.1 hP k t0 he ht h1 hd (K h1 h2 H locs ls hP hS hl)
theorem g_alen (n : Nat) (X : Cx p s m args meth c cc nL own D ks A N ad sh) {k len : Nat} {v : Int32} (ha : AI sh ks N k len) (hv : Int32.ofNat len = v) (hd : decode cc pc = .ok (.arraylength, 1)) (hn : pc + 1 = n) (K : G p l e R s m args below meth c D A nL Q N ad sh μ (n) lv (.int v :: st)) : G p l e R s m args below meth c D A nL Q N ad sh μ (pc) lv (.ref (ad k) :: st) := by
  subst hn
  have he := wsM_at (ad := ad) (sh := sh) (μ := μ) ha.1
  rw [ha.2] at he
  exact fun H locs ls hP hS hl => va_alen X.1.1 X.1.2.1 X.2.2.1 hP k 0 he (ty := .int) rfl hv hd (K H locs ls hP hS hl)
theorem g_iret (X : Cx p s m args meth c cc nL own D ks A N ad sh) {v : Int32} {r : Int32 × Mem} (hr : meth.sig.returnType = some .int) (hd : decode cc pc = .ok (.ireturn, 1)) (h : some (v, μ) = some r) : G p l e R s m args below meth c D A nL (MQ below (QI D N ad sh A r) args s 0 0 A) N ad sh μ (pc) lv ([.int v]) := by
  cases h
  exact fun H locs ls hP hS hl => W.iret X.1.1 X.1.2.1 hr (fun t ht hW => ⟨⟨v, (), rfl, rfl, by show va_P D vwCl _ t.heap; rw [ht]; exact hP⟩, hS.F ht⟩) hS.2.2 hd X.2.2.2.1
theorem g_zret (X : Cx p s m args meth c cc nL own D ks A N ad sh) {v : Int32} {r : Int32 × Mem} (hr : meth.sig.returnType = some .boolean) (hna : narrow .boolean (.int v) = .int v) (hd : decode cc pc = .ok (.ireturn, 1)) (h : some (v, μ) = some r) : G p l e R s m args below meth c D A nL (MQ below (QI D N ad sh A r) args s 0 0 A) N ad sh μ (pc) lv ([.int v]) := by
  cases h
  exact fun H locs ls hP hS hl => W.zret X.1.1 X.1.2.1 hr hna (fun t ht hW => ⟨⟨v, (), rfl, rfl, by show va_P D vwCl _ t.heap; rw [ht]; exact hP⟩, hS.F ht⟩) hS.2.2 hd X.2.2.2.1
theorem g_lret (X : Cx p s m args meth c cc nL own D ks A N ad sh) {v : Int64} {r : Int64 × Mem} (hr : meth.sig.returnType = some .long) (hd : decode cc pc = .ok (.lreturn, 1)) (h : some (v, μ) = some r) : G p l e R s m args below meth c D A nL (MQ below (QL D N ad sh A r) args s 0 0 A) N ad sh μ (pc) lv ([.long v]) := by
  cases h
  exact fun H locs ls hP hS hl => W.lret X.1.1 X.1.2.1 hr (fun t ht hW => ⟨⟨v, (), rfl, rfl, by show va_P D vwCl _ t.heap; rw [ht]; exact hP⟩, hS.F ht⟩) hS.2.2 hd X.2.2.2.1
theorem g_vret (X : Cx p s m args meth c cc nL own D ks A N ad sh) {v : Unit} {r : Unit × Mem} (hr : meth.sig.returnType = none) (hd : decode cc pc = .ok (.return_, 1)) (h : some (v, μ) = some r) : G p l e R s m args below meth c D A nL (MQ below (QV D N ad sh A r) args s 0 0 A) N ad sh μ (pc) lv ([]) := by
  cases h
  exact fun H locs ls hP hS hl => W.vret X.1.1 X.1.2.1 hr (fun t ht hW => ⟨⟨(), rfl, trivial, by show va_P D vwCl _ t.heap; rw [ht]; exact hP⟩, hS.F ht⟩) hS.2.2 hd X.2.2.2.1
theorem g_aret (X : Cx p s m args meth c cc nL own D ks A N ad sh) {C : String} {v : Option Nat} {r : Option Nat × Mem} (hr : meth.sig.returnType = some (.object C)) (hd : decode cc pc = .ok (.areturn, 1)) (h : some (v, μ) = some r) : G p l e R s m args below meth c D A nL (MQ below (QR D N ad sh A r) args s 0 0 A) N ad sh μ (pc) lv ([va_rf (v.map ad)]) := by
  cases h
  exact fun H locs ls hP hS hl => W.aret X.1.1 X.1.2.1 hr (Or.inl ⟨C, rfl⟩) (by cases v with | none => exact Or.inl rfl | some y => exact Or.inr ⟨_, rfl⟩) (fun t ht hW => ⟨⟨v.map ad, (), rfl, rfl, by show va_P D vwCl _ t.heap; rw [ht]; exact hP⟩, hS.F ht⟩) hS.2.2 hd X.2.2.2.1
theorem gn_iret (X : Cx p s m args meth c cc nL own D ks (fun _ => False) 0 ad0 sh0) {v r : Int32} (hr : meth.sig.returnType = some .int) (hd : decode cc pc = .ok (.ireturn, 1)) (h : some v = some r) : G p l e R s m args below meth c D (fun _ => False) nL (MQ below (QNi D r) args s 0 0 (fun _ => False)) 0 ad0 sh0 μ0 pc lv [.int v] := by
  cases h
  exact g_iret X hr hd rfl
theorem gn_zret (X : Cx p s m args meth c cc nL own D ks (fun _ => False) 0 ad0 sh0) {v r : Int32} (hr : meth.sig.returnType = some .boolean) (hna : narrow .boolean (.int v) = .int v) (hd : decode cc pc = .ok (.ireturn, 1)) (h : some v = some r) : G p l e R s m args below meth c D (fun _ => False) nL (MQ below (QNi D r) args s 0 0 (fun _ => False)) 0 ad0 sh0 μ0 pc lv [.int v] := by
  cases h
  exact g_zret X hr hna hd rfl
theorem gn_lret (X : Cx p s m args meth c cc nL own D ks (fun _ => False) 0 ad0 sh0) {v r : Int64} (hr : meth.sig.returnType = some .long) (hd : decode cc pc = .ok (.lreturn, 1)) (h : some v = some r) : G p l e R s m args below meth c D (fun _ => False) nL (MQ below (QNl D r) args s 0 0 (fun _ => False)) 0 ad0 sh0 μ0 pc lv [.long v] := by
  cases h
  exact g_lret X hr hd rfl
/-- the machine, at a call: what comes back -/
def RunG (p : Program) (l : Launch) (e : Env) (R : Room) (s : State) (m : MethodId) (args : Array Value) (below : List Frame) (meth : Method) (c : Code) (D : va_G) (A : Nat → Prop) (nL : Nat) (N : Nat) (ad : Nat → Nat) (sh : Sh) (μ : Mem) (pc : Nat) (lv : List (Nat × Value)) (st rest : List Value) (Qa : Array Value → State → Outcome → State → Prop) (F : Nat → Prop) : Prop :=
  ∀ (H : Heap) (locs : List Loc) (ls : Array Slot), va_P D vwCl (wsM N ad sh μ) H → va_S A s.heap H locs → lv_has ls nL lv → ∃ a, va_Run p l e R s m args below meth c H locs 0 0 0 0 (F0 m pc ls st) rest (Qa a) F
theorem g_ci (n : Nat) {rest : List Value} {oc : Option (Int32 × Mem)} {α : Type} {F : Int32 → Mem → Option α} {r : α} (h : cal oc F = some r) (hrun : ∀ q, oc = some q → RunG p l e R s m args below meth c D A nL N ad sh μ pc lv (st) rest (QI D N ad sh A q) A) (hn : pc + 3 = n) (K : ∀ (x : Int32) (μ2 : Mem), F x μ2 = some r → G p l e R s m args below meth c D A nL Q N ad sh μ2 (n) lv (.int x :: rest)) : G p l e R s m args below meth c D A nL Q N ad sh μ (pc) lv (st) := by
  subst hn
  obtain ⟨q, h1, h2⟩ := cal_some h
  intro H locs ls hP hS hl
  obtain ⟨a, hr⟩ := hrun q h1 H locs ls hP hS hl
  exact va_calli hr hS (fun _ _ h => h) (fun _ h => h) (fun x u t H1 locs1 ht hvm hw hB hz hk hS1 => by subst hw; exact K q.1 q.2 h2 H1 locs1 ls (ht ▸ hB) hS1 hl)
theorem g_cl (n : Nat) {rest : List Value} {oc : Option (Int64 × Mem)} {α : Type} {F : Int64 → Mem → Option α} {r : α} (h : cal oc F = some r) (hrun : ∀ q, oc = some q → RunG p l e R s m args below meth c D A nL N ad sh μ pc lv (st) rest (QL D N ad sh A q) A) (hn : pc + 3 = n) (K : ∀ (x : Int64) (μ2 : Mem), F x μ2 = some r → G p l e R s m args below meth c D A nL Q N ad sh μ2 (n) lv (.long x :: rest)) : G p l e R s m args below meth c D A nL Q N ad sh μ (pc) lv (st) := by
  subst hn
  obtain ⟨q, h1, h2⟩ := cal_some h
  intro H locs ls hP hS hl
  obtain ⟨a, hr⟩ := hrun q h1 H locs ls hP hS hl
  exact va_calll hr hS (fun _ _ h => h) (fun _ h => h) (fun x u t H1 locs1 ht hvm hw hB hz hk hS1 => by subst hw; exact K q.1 q.2 h2 H1 locs1 ls (ht ▸ hB) hS1 hl)
theorem g_cv (n : Nat) {rest : List Value} {oc : Option (Unit × Mem)} {α : Type} {F : Unit → Mem → Option α} {r : α} (h : cal oc F = some r) (hrun : ∀ q, oc = some q → RunG p l e R s m args below meth c D A nL N ad sh μ pc lv (st) rest (QV D N ad sh A q) A) (hn : pc + 3 = n) (K : ∀ (x : Unit) (μ2 : Mem), F x μ2 = some r → G p l e R s m args below meth c D A nL Q N ad sh μ2 (n) lv (rest)) : G p l e R s m args below meth c D A nL Q N ad sh μ (pc) lv (st) := by
  subst hn
  obtain ⟨q, h1, h2⟩ := cal_some h
  intro H locs ls hP hS hl
  obtain ⟨a, hr⟩ := hrun q h1 H locs ls hP hS hl
  exact va_callv hr hS (fun _ _ h => h) (fun _ h => h) (fun u t H1 locs1 ht hvm hw hB hz hk hS1 => K q.1 q.2 h2 H1 locs1 ls (ht ▸ hB) hS1 hl)
theorem g_cr (n : Nat) {rest : List Value} {oc : Option (Option Nat × Mem)} {α : Type} {F : Option Nat → Mem → Option α} {r : α} (h : cal oc F = some r) (hrun : ∀ q, oc = some q → RunG p l e R s m args below meth c D A nL N ad sh μ pc lv (st) rest (QR D N ad sh A q) A) (hn : pc + 3 = n) (K : ∀ (x : Option Nat) (μ2 : Mem), F x μ2 = some r → G p l e R s m args below meth c D A nL Q N ad sh μ2 (n) lv (va_rf (x.map ad) :: rest)) : G p l e R s m args below meth c D A nL Q N ad sh μ (pc) lv (st) := by
  subst hn
  obtain ⟨q, h1, h2⟩ := cal_some h
  intro H locs ls hP hS hl
  obtain ⟨a, hr⟩ := hrun q h1 H locs ls hP hS hl
  exact va_callq hr hS (fun _ _ h => h) (fun _ h => h) (fun x u t H1 locs1 ht hvm hw hB hz hk hS1 => by subst hw; exact K q.1 q.2 h2 H1 locs1 ls (ht ▸ hB) hS1 hl)
theorem g_ni (n : Nat) {rest : List Value} {oc : Option Int32} {α : Type} {F : Int32 → Option α} {r : α} (h : calp oc F = some r) (hrun : ∀ q, oc = some q → RunG p l e R s m args below meth c D A nL N ad sh μ pc lv (st) rest (QNi D q) (fun _ => False)) (hn : pc + 3 = n) (K : ∀ (x : Int32), F x = some r → G p l e R s m args below meth c D A nL Q N ad sh μ (n) lv (.int x :: rest)) : G p l e R s m args below meth c D A nL Q N ad sh μ (pc) lv (st) := by
  subst hn
  obtain ⟨q, h1, h2⟩ := calp_some h
  intro H locs ls hP hS hl
  obtain ⟨a, hr⟩ := hrun q h1 H locs ls hP hS hl
  refine va_calli (a := a) hr hS (fun _ _ h => h.elim) (fun _ h => h.elim) (fun x u t H1 locs1 ht hvm hw hB hz hk hS1 => ?_)
  have hx : x = q := hw
  rw [hx]
  exact K q h2 H1 locs1 ls (hP.kept (fun k z hz2 => hk _ (hP k z hz2).lt (fun q => q))) hS1 hl
theorem g_nl (n : Nat) {rest : List Value} {oc : Option Int64} {α : Type} {F : Int64 → Option α} {r : α} (h : calp oc F = some r) (hrun : ∀ q, oc = some q → RunG p l e R s m args below meth c D A nL N ad sh μ pc lv (st) rest (QNl D q) (fun _ => False)) (hn : pc + 3 = n) (K : ∀ (x : Int64), F x = some r → G p l e R s m args below meth c D A nL Q N ad sh μ (n) lv (.long x :: rest)) : G p l e R s m args below meth c D A nL Q N ad sh μ (pc) lv (st) := by
  subst hn
  obtain ⟨q, h1, h2⟩ := calp_some h
  intro H locs ls hP hS hl
  obtain ⟨a, hr⟩ := hrun q h1 H locs ls hP hS hl
  refine va_calll (a := a) hr hS (fun _ _ h => h.elim) (fun _ h => h.elim) (fun x u t H1 locs1 ht hvm hw hB hz hk hS1 => ?_)
  have hx : x = q := hw
  rw [hx]
  exact K q h2 H1 locs1 ls (hP.kept (fun k z hz2 => hk _ (hP k z hz2).lt (fun q => q))) hS1 hl

theorem nwUse {s : State} {args : Array Value} {w : Cond} (h : NW s) (hw : w ∈ wn) (hk : nkind w = true) (ho : w.onTables = true) : w.before args s = true := va_Nw.use ho (h.1 _ hw hk)

theorem r_S (X : Cx p s m args meth c cc nL own D ks A N ad sh) {y : MethodName} {bytes : ByteArray} {maxL k idx : Nat} {ret : Option FieldType} {rm : Room} {Pc : Array Value → State → Prop} {Qc : Array Value → State → Outcome → State → Prop} {Fr : Nat → Prop} {As rest : List Value}  (cd : CDS own idx y bytes maxL ret k) (hrm : rm.cells = 0 ∧ rm.slots = 0) (hR : rm.frames + 1 ≤ R.frames ∧ 8 + (maxL + 11) + rm.locals ≤ R.locals) (hM : Met l y (Cond.code y bytes maxL ret :: wg) rm Pc Qc 0 0 Fr) (hbl : FrameBlind Pc) (hpre : ∀ (H : Heap) (U : State), va_P D vwCl (wsM N ad sh μ) H → U.heap = H → s.WarmedH U.vm → Pc (As).toArray U)  (hk : As.length = k) (hst : As.reverse ++ rest = st) (hW : (rest.map fun v => v.category).sum ≤ 8) (hd : decode cc pc = .ok (.invokestatic idx, 3)) : RunG p l e R s m args below meth c D A nL N ad sh μ pc lv st rest Qc Fr := by
  subst hst
  intro H locs ls hP hS hl
  refine ⟨(As).toArray, ?_⟩
  obtain ⟨hw, hst⟩ : (Cond.methodLink own idx y ∈ wg) ∧ (Cond.static y ∈ wg) := ⟨cd.2.2.1.1, cd.2.2.1.2⟩
  exact va_runS X.1 hM ⟨callB_of k X.1.2.2.2.2 (gw_cons cd.1 gw_self) rfl hrm.1 hrm.2 (X.1.2.2.2.2 _ cd.2.1) (X.1.2.2.2.2 _ hw) cd.2.2.2 hR, X.1.2.2.2.2 _ hst⟩ ⟨hbl, fun U hU hw2 => hpre H U hP hU hw2⟩ rfl hk hl.1 rfl (lv_room hW) hd ⟨Nat.zero_le _, Nat.zero_le _⟩
theorem r_SN (X : Cx p s m args meth c cc nL own D ks A N ad sh) {y : MethodName} {bytes : ByteArray} {maxL k idx : Nat} {ret : Option FieldType} {rm : Room} {Pc : Array Value → State → Prop} {Qc : Array Value → State → Outcome → State → Prop} {Fr : Nat → Prop} {As rest : List Value}  (cd : CDSN own idx y bytes maxL ret k) (hrm : rm.cells = 0 ∧ rm.slots = 0) (hR : rm.frames + 1 ≤ R.frames ∧ 8 + (maxL + 11) + rm.locals ≤ R.locals) (hM : Met l y (Cond.code y bytes maxL ret :: wg) rm Pc Qc 0 0 Fr) (hbl : FrameBlind Pc) (hpre : ∀ (H : Heap) (U : State), va_P D vwCl (wsM N ad sh μ) H → U.heap = H → s.WarmedH U.vm → Pc (As).toArray U)  (hk : As.length = k) (hst : As.reverse ++ rest = st) (hW : (rest.map fun v => v.category).sum ≤ 8) (hd : decode cc pc = .ok (.invokestatic idx, 3)) : RunG p l e R s m args below meth c D A nL N ad sh μ pc lv st rest Qc Fr := by
  subst hst
  intro H locs ls hP hS hl
  refine ⟨(As).toArray, ?_⟩
  obtain ⟨host, hw⟩ := cd.2.2.1.1
  exact va_runSN X.1 hM ⟨va_cnB k X.1.2.2.2.2 (gw_cons cd.1 gw_self) rfl hrm.1 hrm.2 (X.2.1.1 _ hw rfl) (X.1.2.2.2.2 _ cd.2.1) cd.2.2.2 hR, X.1.2.2.2.2 _ cd.2.2.1.2, trivial⟩ ⟨hbl, fun U hU hw2 => hpre H U hP hU hw2⟩ rfl hk hl.1 rfl (lv_room hW) hd ⟨Nat.zero_le _, Nat.zero_le _⟩
theorem r_V (X : Cx p s m args meth c cc nL own D ks A N ad sh) {y : MethodName} {bytes : ByteArray} {maxL k idx : Nat} {ret : Option FieldType} {rm : Room} {Pc : Array Value → State → Prop} {Qc : Array Value → State → Outcome → State → Prop} {Fr : Nat → Prop} {As rest : List Value} {C : String} {t : Nat} (cd : CDV C own idx y bytes maxL ret k) (hrm : rm.cells = 0 ∧ rm.slots = 0) (hR : rm.frames + 1 ≤ R.frames ∧ 8 + (maxL + 11) + rm.locals ≤ R.locals) (hM : Met l y (Cond.code y bytes maxL ret :: wg) rm Pc Qc 0 0 Fr) (hbl : FrameBlind Pc) (hpre : ∀ (H : Heap) (U : State), va_P D vwCl (wsM N ad sh μ) H → U.heap = H → s.WarmedH U.vm → Pc (.ref (ad t) :: As).toArray U) (hrc : ∀ H : Heap, va_P D vwCl (wsM N ad sh μ) H → ∃ cell : Cell, H[ad t]? = some cell ∧ cell.vm.isStatics = false ∧ s.vm.findClass C = some cell.cls) (hk : As.length = k) (hst : As.reverse ++ .ref (ad t) :: rest = st) (hW : (rest.map fun v => v.category).sum ≤ 8) (hd : decode cc pc = .ok (.invokevirtual idx, 3)) : RunG p l e R s m args below meth c D A nL N ad sh μ pc lv st rest Qc Fr := by
  subst hst
  intro H locs ls hP hS hl
  refine ⟨(.ref (ad t) :: As).toArray, ?_⟩
  have hw := cd.2.2.1.1
  exact va_runV X.1 hM ⟨callB_of k X.1.2.2.2.2 (gw_cons cd.1 gw_self) rfl hrm.1 hrm.2 (X.1.2.2.2.2 _ cd.2.1) (X.1.2.2.2.2 _ hw) cd.2.2.2 hR, X.1.2.2.2.2 _ cd.2.2.1.2.1, X.1.2.2.2.2 _ cd.2.2.1.2.2⟩ ⟨hbl, hrc H hP, fun U hU hw2 => hpre H U hP hU hw2⟩ rfl hk hl.1 rfl (lv_room hW) hd ⟨Nat.zero_le _, Nat.zero_le _⟩
theorem r_VN (X : Cx p s m args meth c cc nL own D ks A N ad sh) {y : MethodName} {bytes : ByteArray} {maxL k idx : Nat} {ret : Option FieldType} {rm : Room} {Pc : Array Value → State → Prop} {Qc : Array Value → State → Outcome → State → Prop} {Fr : Nat → Prop} {As rest : List Value} {C : String} {t : Nat} (cd : CDVN C own idx y bytes maxL ret k) (hrm : rm.cells = 0 ∧ rm.slots = 0) (hR : rm.frames + 1 ≤ R.frames ∧ 8 + (maxL + 11) + rm.locals ≤ R.locals) (hM : Met l y (Cond.code y bytes maxL ret :: wg) rm Pc Qc 0 0 Fr) (hbl : FrameBlind Pc) (hpre : ∀ (H : Heap) (U : State), va_P D vwCl (wsM N ad sh μ) H → U.heap = H → s.WarmedH U.vm → Pc (.ref (ad t) :: As).toArray U) (hrc : ∀ H : Heap, va_P D vwCl (wsM N ad sh μ) H → ∃ cell : Cell, H[ad t]? = some cell ∧ cell.vm.isStatics = false ∧ s.vm.findClass C = some cell.cls) (hk : As.length = k) (hst : As.reverse ++ .ref (ad t) :: rest = st) (hW : (rest.map fun v => v.category).sum ≤ 8) (hd : decode cc pc = .ok (.invokevirtual idx, 3)) : RunG p l e R s m args below meth c D A nL N ad sh μ pc lv st rest Qc Fr := by
  subst hst
  intro H locs ls hP hS hl
  refine ⟨(.ref (ad t) :: As).toArray, ?_⟩
  obtain ⟨host, hw⟩ := cd.2.2.1.1
  exact va_runVN X.1 hM ⟨va_cnB k X.1.2.2.2.2 (gw_cons cd.1 gw_self) rfl hrm.1 hrm.2 (X.2.1.1 _ hw rfl) (X.1.2.2.2.2 _ cd.2.1) cd.2.2.2 hR, X.1.2.2.2.2 _ cd.2.2.1.2.1, X.1.2.2.2.2 _ cd.2.2.1.2.2⟩ ⟨hbl, hrc H hP, fun U hU hw2 => hpre H U hP hU hw2⟩ rfl hk hl.1 rfl (lv_room hW) hd ⟨Nat.zero_le _, Nat.zero_le _⟩
theorem r_U (X : Cx p s m args meth c cc nL own D ks A N ad sh) {y : MethodName} {bytes : ByteArray} {maxL k idx : Nat} {ret : Option FieldType} {rm : Room} {Pc : Array Value → State → Prop} {Qc : Array Value → State → Outcome → State → Prop} {Fr : Nat → Prop} {As rest : List Value} {C owner : String} {x : MethodName} {t : Nat} (cd : CDU C owner own idx x y bytes maxL ret k) (hrm : rm.cells = 0 ∧ rm.slots = 0) (hR : rm.frames + 1 ≤ R.frames ∧ 8 + (maxL + 11) + rm.locals ≤ R.locals) (hM : Met l y (Cond.code y bytes maxL ret :: wg) rm Pc Qc 0 0 Fr) (hbl : FrameBlind Pc) (hpre : ∀ (H : Heap) (U : State), va_P D vwCl (wsM N ad sh μ) H → U.heap = H → s.WarmedH U.vm → Pc (.ref (ad t) :: As).toArray U) (hrc : ∀ H : Heap, va_P D vwCl (wsM N ad sh μ) H → ∃ cell : Cell, H[ad t]? = some cell ∧ cell.vm.isStatics = false ∧ s.vm.findClass C = some cell.cls) (hk : As.length = k) (hst : As.reverse ++ .ref (ad t) :: rest = st) (hW : (rest.map fun v => v.category).sum ≤ 8) (hd : decode cc pc = .ok (.invokevirtual idx, 3)) : RunG p l e R s m args below meth c D A nL N ad sh μ pc lv st rest Qc Fr := by
  subst hst
  intro H locs ls hP hS hl
  refine ⟨(.ref (ad t) :: As).toArray, ?_⟩
  exact va_runU X.1 hM (va_cwU k X.1.2.2.2.2 (gw_cons cd.2.2.1 (gw_cons cd.2.2.2.1 (gw_cons cd.2.2.2.2.1 (gw_cons cd.2.2.2.2.2.1 (gw_cons cd.2.1 (gw_cons cd.1 gw_self)))))) rfl hrm.1 hrm.2 cd.2.2.2.2.2.2.1 cd.2.2.2.2.2.2.2 hR) ⟨hbl, hrc H hP, fun U hU hw2 => hpre H U hP hU hw2⟩ rfl hk hl.1 rfl (lv_room hW) hd ⟨Nat.zero_le _, Nat.zero_le _⟩
theorem r_A (X : Cx p s m args meth c cc nL own D ks A N ad sh) {y : MethodName} {bytes : ByteArray} {maxL k idx : Nat} {ret : Option FieldType} {rm : Room} {Pc : Array Value → State → Prop} {Qc : Array Value → State → Outcome → State → Prop} {Fr : Nat → Prop} {As rest : List Value} {C owner : String} {x : MethodName} {t : Nat} (cd : CDA C owner own idx x y bytes maxL ret k) (hrm : rm.cells = 0 ∧ rm.slots = 0) (hR : rm.frames + 1 ≤ R.frames ∧ 8 + (maxL + 11) + rm.locals ≤ R.locals) (hM : Met l y (Cond.code y bytes maxL ret :: wg) rm Pc Qc 0 0 Fr) (hbl : FrameBlind Pc) (hpre : ∀ (H : Heap) (U : State), va_P D vwCl (wsM N ad sh μ) H → U.heap = H → s.WarmedH U.vm → Pc (.ref (ad t) :: As).toArray U) (hrc : ∀ H : Heap, va_P D vwCl (wsM N ad sh μ) H → ∃ cell : Cell, H[ad t]? = some cell ∧ cell.vm.isStatics = false ∧ s.vm.findClass C = some cell.cls) (hk : As.length = k) (hst : As.reverse ++ .ref (ad t) :: rest = st) (hW : (rest.map fun v => v.category).sum ≤ 8) (hd : decode cc pc = .ok (.invokevirtual idx, 3)) : RunG p l e R s m args below meth c D A nL N ad sh μ pc lv st rest Qc Fr := by
  subst hst
  intro H locs ls hP hS hl
  refine ⟨(.ref (ad t) :: As).toArray, ?_⟩
  exact va_runU X.1 hM (va_cwA k X.1.2.2.2.2 (gw_cons cd.2.2.1 (gw_cons cd.2.2.2.1 (gw_cons cd.2.2.2.2.1 (gw_cons cd.2.2.2.2.2.1 (gw_cons cd.2.1 (gw_cons cd.1 gw_self)))))) rfl hrm.1 hrm.2 (X.2.1.1 _ cd.2.2.2.2.2.2.1 rfl) cd.2.2.2.2.2.2.2 hR) ⟨hbl, hrc H hP, fun U hU hw2 => hpre H U hP hU hw2⟩ rfl hk hl.1 rfl (lv_room hW) hd ⟨Nat.zero_le _, Nat.zero_le _⟩

theorem pc_pre {av : List Value} (X : Cx p s m args meth c cc nL own D ks A N ad sh) (H : Heap) (U : State) (hP : va_P D vwCl (wsM N ad sh μ) H) (hU : U.heap = H) (hW : s.WarmedH U.vm) : PC D ks N ad sh μ av av.toArray U := ⟨rfl, by rw [hU]; exact hP, X.2.2.1.moved hW.alike, X.2.1.warm hW⟩
theorem pn_pre {av : List Value} (X : Cx p s m args meth c cc nL own D ks A N ad sh) (H : Heap) (U : State) (_ : va_P D vwCl (wsM N ad sh μ) H) (_ : U.heap = H) (hW : s.WarmedH U.vm) : PN D ks av av.toArray U := by
  refine ⟨rfl, ?_⟩
  exact ⟨fun k q hk => absurd (wsM_inv hk).1 (Nat.not_lt_zero _), X.2.2.1.moved hW.alike, X.2.1.warm hW⟩
theorem g_recv {k ci : Nat} {fs : (Nat → Int32) → (Nat → Int64) → (Nat → Option Nat) → List Value} {q : vw_C} (X : Cx p s m args meth c cc nL own D ks A N ad sh) (ho : OB sh N k ci fs) (hc : vwCl[ci]? = some q) (H : Heap) (hP : va_P D vwCl (wsM N ad sh μ) H) : ∃ cell : Cell, H[ad k]? = some cell ∧ cell.vm.isStatics = false ∧ s.vm.findClass q.1 = some cell.cls :=
  va_recv X.2.2.1 hP hc (show (wsM N ad sh μ)[k]? = some (ad k, .inr (ci, fs (μ.1 k) (μ.2.1 k) (μ.2.2 k))) by rw [wsM_at ho.1, ho.2])
/-- a contract out of its walk -/
theorem met_of {y : MethodName} {maxL : Nat} {ret : Option FieldType} {av : List Value} {Qc : Array Value → State → Outcome → State → Prop} (hy : plainName y.cls = true) (hlen : (lg_sl av).length ≤ maxL) (hD : ∀ μ : Mem, va_D A (wsM N ad sh μ))
    (body : ∀ (p : Program) (e : Env) (s : State) (m : MethodId) (args : Array Value) (below : List Frame) (meth : Method) (c : Code), Cx p s m args meth c cc maxL y.cls D ks A N ad sh → meth.sig.returnType = ret → G p l e R s m args below meth c D A maxL (MQ below Qc args s 0 0 A) N ad sh μ 0 (lv_args 0 av) []) :
    Met l y (Cond.code y cc maxL ret :: wg) R (PC D ks N ad sh μ av) Qc 0 0 A := by
  refine Met.ofW (cc := cc) (maxL := maxL) (ret := ret) hy rfl ?_
  intro p e s m args below meth c s₁ B hml hv
  obtain ⟨rfl, hP, hK, hN⟩ := hv
  have hts := atoms_spec (ws := Cond.code y cc maxL ret :: wg) B.pre
  have hown : s.vm.findClass y.cls = some m.cls := findClass_of_methodNamed B.named
  have X : Cx p s m av.toArray meth c cc maxL y.cls D ks A N ad sh := ⟨⟨B.exec, B.bytes, hml, hown, fun w hw => hts w (List.mem_cons_of_mem _ hw)⟩, hN, hK, B.notSynchronized, hD⟩
  have hl := lv_entry av (n := maxL) hlen
  rw [lg_entry_eq]
  exact body p e s m _ below meth c X B.returns s.heap [] _ hP va_S.rf hl


theorem g_tin (t : Nat) (X : Cx p s m args meth c cc nL own D ks A N ad sh) {x v : Int32} {dflt lo hi off : Int} {offs : Array Int} {len : Nat} (hx : x = v) (hd : decode cc pc = .ok (.tableswitch dflt lo hi offs, len)) (h1 : ¬ v.toInt < lo) (h2 : ¬ hi < v.toInt) (ho : offs[(v.toInt - lo).toNat]? = some off) (ht : (pc : Int) + off = (t : Int)) (K : G p l e R s m args below meth c D A nL Q N ad sh μ t lv st) : G p l e R s m args below meth c D A nL Q N ad sh μ pc lv (.int x :: st) := by
  subst hx
  exact fun H locs ls hP hS hl => lv_tableIn X.1.1 X.1.2.1 hd h1 h2 ho ht (K H locs ls hP hS hl)
theorem g_tout (t : Nat) (X : Cx p s m args meth c cc nL own D ks A N ad sh) {x : Int32} {dflt lo hi : Int} {offs : Array Int} {len : Nat} (hd : decode cc pc = .ok (.tableswitch dflt lo hi offs, len)) (h1 : x.toInt < lo ∨ hi < x.toInt) (ht : (pc : Int) + dflt = (t : Int)) (K : G p l e R s m args below meth c D A nL Q N ad sh μ t lv st) : G p l e R s m args below meth c D A nL Q N ad sh μ pc lv (.int x :: st) :=
  fun H locs ls hP hS hl => lv_tableOut X.1.1 X.1.2.1 hd h1 ht (K H locs ls hP hS hl)
theorem g_look (t : Nat) (X : Cx p s m args meth c cc nL own D ks A N ad sh) {x : Int32} {dflt off : Int} {ps : Array (Int × Int)} {len : Nat} (hd : decode cc pc = .ok (.lookupswitch dflt ps, len)) (hp : (ps.toList.zip (ps.toList.drop 1)).all (fun (a, next) => a.1 < next.1) = true) (ho : Op.lookupswitch.offset ps.toList dflt x.toInt = off) (ht : (pc : Int) + off = (t : Int)) (K : G p l e R s m args below meth c D A nL Q N ad sh μ t lv st) : G p l e R s m args below meth c D A nL Q N ad sh μ pc lv (.int x :: st) :=
  fun H locs ls hP hS hl => lv_lookup X.1.1 X.1.2.1 hd hp ho ht (K H locs ls hP hS hl)
theorem ne_ti {x v : Int32} {k : Int} (h : ¬ x = v) (hk : v.toInt = k) : x.toInt ≠ k := fun q => h (Int32.toInt_inj.mp (q.trans hk.symm))
theorem if_t {α : Type} {P : Prop} [Decidable P] {F1 F2 : Option α} {r : α} (h : (if P then F1 else F2) = some r) (hp : P) : F1 = some r := by rwa [if_pos hp] at h
theorem if_f {α : Type} {P : Prop} [Decidable P] {F1 F2 : Option α} {r : α} (h : (if P then F1 else F2) = some r) (hp : ¬ P) : F2 = some r := by rwa [if_neg hp] at h

end GB
