
def AO (U : State) : Prop := va_AO "DrawnList$Plan" U ∧ va_AO "DrawnList$Sheet" U
theorem AO.moved {u U : State} (hvm : u.vm.Alike U.vm) (h : AO u) : AO U := ⟨h.1.moved hvm, h.2.moved hvm⟩
def FQ (own : String) (idx ci j : Nat) (ty : FieldType) : Prop := ∃ (ref C : String) (T : u_T) (NF : Nat) (ty0 : Nat → FieldType), vwCl[ci]? = some (C, T, NF) ∧ (∀ w ∈ u_ws C T NF, w ∈ wg) ∧ j < NF ∧ Cond.fieldLink own idx ref (T j).2.1 (T j).2.2.1 ∈ wg ∧ (ref = (T j).1 ∨ Cond.sameField ref (T j).1 (T j).2.1 (T j).2.2.1 ∈ wg) ∧ (∀ k, k < NF → parseFieldDescriptor (T k).2.2.1 = some (ty0 k)) ∧ (∀ a, a < NF → ∀ b, b < NF → a ≠ b → (T a).2.1 ≠ (T b).2.1) ∧ ((T j).2.2.2 = false ∨ ((T j).2.2.2 = true ∧ (T j).1 = own)) ∧ parseFieldDescriptor (T j).2.2.1 = some ty
def CDI (own : String) (idx : Nat) (y : MethodName) (bytes : ByteArray) (maxL : Nat) (k : Nat) : Prop := Cond.code y bytes maxL none ∈ wg ∧ Cond.initialized y.cls ∈ wg ∧ (Cond.methodLink own idx y ∈ wg ∨ ∃ host, Cond.methodLinkNest own idx y host ∈ wn) ∧ y.name = "<init>" ∧ Cond.instanceMethod y ∈ wg ∧ HD y.cls y.desc k
theorem fm_of (iC : List Nat) (w wc : va_W) (h : iC.map (fun i => w[i]?) = wc.map some) : iC.filterMap (fun i => w[i]?) = wc := by
  rw [show iC.filterMap (fun i => w[i]?) = (iC.map (fun i => w[i]?)).filterMap id by rw [List.filterMap_map]; rfl, h, List.filterMap_map]
  simp

/-- constructors: worlds that grow -/
def Cw (p : Program) (s : State) (m : MethodId) (args : Array Value) (meth : Method) (c : Code) (cc : ByteArray) (nL : Nat) (own : String) (D : va_G) (ks : Nat → ClassId) (A : Nat → Prop) : Prop :=
  CallFix p m c cc nL s args wg own ∧ NW s ∧ va_K D vwCl (tysM ks) s ∧ meth.locks = false ∧ (∀ q, s.heap.size ≤ q → A q) ∧ AO s
def GW (p : Program) (l : Launch) (e : Env) (R : Room) (s : State) (m : MethodId) (args : Array Value) (below : List Frame) (meth : Method) (c : Code) (D : va_G) (A : Nat → Prop) (nL : Nat) (Q : State → Prop) (ce sl : Nat) (w : va_W) (pc : Nat) (lv : List (Nat × Value)) (st : List Value) : Prop :=
  ∀ (H : Heap) (locs : List Loc) (ls : Array Slot), va_P D vwCl w H → va_D A w → va_S A s.heap H locs → lv_has ls nL lv → W p l e R s m args below meth c H locs ce sl Q (F0 m pc ls st)
/-- a constructor's contract: from the cells wc to the cells w1 q, q the new addresses -/
def MI (l : Launch) (y : MethodName) (cc : ByteArray) (maxL : Nat) (rm : Room) (D : va_G) (ks : Nat → ClassId) (wc : va_W) (w1 : (Nat → Nat) → va_W) (av : List Value) (mc ms : Nat) : Prop :=
  ∀ sz : Nat, Met l y (Cond.code y cc maxL none :: wg) rm (va_Pc av (fun U => U.heap.size = sz ∧ va_P D vwCl wc U.heap ∧ va_K D vwCl (tysM ks) U ∧ NW U ∧ AO U ∧ va_D (fun _ => True) wc)) (va_Qv (fun _ : Unit => True) (fun _ t => ∃ q : Nat → Nat, va_P D vwCl (w1 q) t.heap ∧ va_D (va_A wc sz) (w1 q)) (va_A wc sz)) mc ms (va_A wc sz)
theorem ksI {D : va_G} {ks : Nat → ClassId} {cl : List vw_C} {s : State} {cA : ClassId} {ty : FieldType} (k : Nat) (hK : va_K D cl (tysM ks) s) (hk : (tysM ks)[k]? = some (ks k, ty)) (h2 : va_K D cl (tysM ks ++ [(cA, ty)]) s) : cA = ks k := by
  have h1 := (hK.2 k _ hk).2
  have h3 := (h2.2 5 (cA, ty) rfl).2
  cases ty with
  | object C =>
    obtain ⟨a1, b1, c1, d1, e1, f1⟩ := h1
    obtain ⟨a2, b2, c2, d2, e2, f2⟩ := h3
    exact Option.some.inj (f2.symm.trans f1)
  | _ => exact Option.some.inj (h3.symm.trans h1)
section GC
variable {p : Program} {l : Launch} {e : Env} {R : Room} {s : State} {m : MethodId} {args : Array Value} {below : List Frame} {meth : Method} {c : Code} {cc : ByteArray} {nL : Nat} {own : String} {D : va_G} {ks : Nat → ClassId} {A : Nat → Prop} {Q : State → Prop} {ce sl : Nat} {w : va_W} {pc : Nat} {lv : List (Nat × Value)} {st : List Value}
theorem w_iconst (n : Nat) (X : Cw p s m args meth c cc nL own D ks A) {i : Int} {v : Int32} (hd : decode cc pc = .ok (.iconst i, 1)) (hv : Int32.ofInt i = v) (hn : pc + 1 = n) (K : GW p l e R s m args below meth c D A nL Q (ce) (sl) (w) (n) lv (.int v :: st)) : GW p l e R s m args below meth c D A nL Q (ce) (sl) (w) (pc) lv (st) := by
  subst hn
  exact fun H locs ls hP hD hS hl => lv_iconst X.1.1 X.1.2.1 hd hv (K H locs ls hP hD hS hl)
theorem w_bipush (n : Nat) (X : Cw p s m args meth c cc nL own D ks A) {i : Int} {v : Int32} (hd : decode cc pc = .ok (.bipush i, 2)) (hv : (Int8.ofInt i).toInt32 = v) (hn : pc + 2 = n) (K : GW p l e R s m args below meth c D A nL Q (ce) (sl) (w) (n) lv (.int v :: st)) : GW p l e R s m args below meth c D A nL Q (ce) (sl) (w) (pc) lv (st) := by
  subst hn
  exact fun H locs ls hP hD hS hl => lv_bipush X.1.1 X.1.2.1 hd hv (K H locs ls hP hD hS hl)
theorem w_sipush (n : Nat) (X : Cw p s m args meth c cc nL own D ks A) {i : Int} {v : Int32} (hd : decode cc pc = .ok (.sipush i, 3)) (hv : (Int16.ofInt i).toInt32 = v) (hn : pc + 3 = n) (K : GW p l e R s m args below meth c D A nL Q (ce) (sl) (w) (n) lv (.int v :: st)) : GW p l e R s m args below meth c D A nL Q (ce) (sl) (w) (pc) lv (st) := by
  subst hn
  exact fun H locs ls hP hD hS hl => lv_sipush X.1.1 X.1.2.1 hd hv (K H locs ls hP hD hS hl)
theorem w_lconst (n : Nat) (X : Cw p s m args meth c cc nL own D ks A) {i : Fin 2} {v : Int64} (hd : decode cc pc = .ok (.lconst i, 1)) (hv : Int64.ofNat (i : Nat) = v) (hn : pc + 1 = n) (K : GW p l e R s m args below meth c D A nL Q (ce) (sl) (w) (n) lv (.long v :: st)) : GW p l e R s m args below meth c D A nL Q (ce) (sl) (w) (pc) lv (st) := by
  subst hn
  exact fun H locs ls hP hD hS hl => lv_lconst X.1.1 X.1.2.1 hd hv (K H locs ls hP hD hS hl)
theorem w_dup (n : Nat) (X : Cw p s m args meth c cc nL own D ks A) {v : Value} (hd : decode cc pc = .ok (.dup, 1)) (hv : v.category = 1) (hn : pc + 1 = n) (K : GW p l e R s m args below meth c D A nL Q (ce) (sl) (w) (n) lv (v :: v :: st)) : GW p l e R s m args below meth c D A nL Q (ce) (sl) (w) (pc) lv (v :: st) := by
  subst hn
  exact fun H locs ls hP hD hS hl => lv_dup X.1.1 X.1.2.1 hd hv (K H locs ls hP hD hS hl)
theorem w_iload_n (n : Nat) (X : Cw p s m args meth c cc nL own D ks A) {k : Fin 4} {x : Int32} (q : Nat) (hd : decode cc pc = .ok (.iload_n k, 1)) (hq : lv[q]? = some (k.val, .int x)) (hn : pc + 1 = n) (K : GW p l e R s m args below meth c D A nL Q (ce) (sl) (w) (n) lv (.int x :: st)) : GW p l e R s m args below meth c D A nL Q (ce) (sl) (w) (pc) lv (st) := by
  subst hn
  exact fun H locs ls hP hD hS hl => lv_iload_n X.1.1 X.1.2.1 hd rfl (lv_at hl q hq) (K H locs ls hP hD hS hl)
theorem w_aload_n (n : Nat) (X : Cw p s m args meth c cc nL own D ks A) {k : Fin 4} {x : Nat} (q : Nat) (hd : decode cc pc = .ok (.aload_n k, 1)) (hq : lv[q]? = some (k.val, .ref x)) (hn : pc + 1 = n) (K : GW p l e R s m args below meth c D A nL Q (ce) (sl) (w) (n) lv (.ref x :: st)) : GW p l e R s m args below meth c D A nL Q (ce) (sl) (w) (pc) lv (st) := by
  subst hn
  exact fun H locs ls hP hD hS hl => lv_aload_n X.1.1 X.1.2.1 hd rfl (lv_at hl q hq) (K H locs ls hP hD hS hl)
theorem w_istore_n (n : Nat) (X : Cw p s m args meth c cc nL own D ks A) {k : Fin 4} {x : Int32} (hd : decode cc pc = .ok (.istore_n k, 1)) (hi : k.val < nL) (hn : pc + 1 = n) (K : GW p l e R s m args below meth c D A nL Q (ce) (sl) (w) (n) ((k.val, Value.int x) :: lv.filter (fun q => !(q.1 == k.val) && !(q.1 + 1 == k.val && q.2.category == 2))) (st)) : GW p l e R s m args below meth c D A nL Q (ce) (sl) (w) (pc) lv (.int x :: st) := by
  subst hn
  exact fun H locs ls hP hD hS hl => lv_istore_n X.1.1 X.1.2.1 hd rfl hl hi rfl (fun ls2 hl2 => K H locs ls2 hP hD hS hl2)
theorem w_iinc (n : Nat) (X : Cw p s m args meth c cc nL own D ks A) {i : Nat} {d : Int} {x v : Int32} (q : Nat) (hd : decode cc pc = .ok (.iinc i d, 3)) (hw : x + Int32.ofInt d = v) (hq : lv[q]? = some (i, .int x)) (hi : i < nL) (hn : pc + 3 = n) (K : GW p l e R s m args below meth c D A nL Q (ce) (sl) (w) (n) ((i, Value.int v) :: lv.filter (fun q => !(q.1 == i) && !(q.1 + 1 == i && q.2.category == 2))) (st)) : GW p l e R s m args below meth c D A nL Q (ce) (sl) (w) (pc) lv (st) := by
  subst hn
  exact fun H locs ls hP hD hS hl => lv_iinc X.1.1 X.1.2.1 hd hl hq hw hi rfl (fun ls2 hl2 => K H locs ls2 hP hD hS hl2)
theorem w_goto (t : Nat) (X : Cw p s m args meth c cc nL own D ks A) {off : Int} (hd : decode cc pc = .ok (.goto off, 3)) (ht : (pc : Int) + off = (t : Int)) (K : GW p l e R s m args below meth c D A nL Q (ce) (sl) (w) (t) lv (st)) : GW p l e R s m args below meth c D A nL Q (ce) (sl) (w) (pc) lv (st) := fun H locs ls hP hD hS hl => lv_goto X.1.1 X.1.2.1 hd ht (K H locs ls hP hD hS hl)
theorem w_ge_t (t : Nat) (X : Cw p s m args meth c cc nL own D ks A) {x y : Int32} {off : Int} (hc : y ≤ x) (hd : decode cc pc = .ok (.if_icmp .ge off, 3)) (ht : (pc : Int) + off = (t : Int)) (K : GW p l e R s m args below meth c D A nL Q (ce) (sl) (w) (t) lv (st)) : GW p l e R s m args below meth c D A nL Q (ce) (sl) (w) (pc) lv (.int y :: .int x :: st) := fun H locs ls hP hD hS hl => lv_icmp_ge X.1.1 X.1.2.1 hd ht (fun _ => K H locs ls hP hD hS hl) (fun q => absurd hc q)
theorem w_ge_f (n t : Nat) (X : Cw p s m args meth c cc nL own D ks A) {x y : Int32} {off : Int} (hc : ¬ y ≤ x) (hd : decode cc pc = .ok (.if_icmp .ge off, 3)) (ht : (pc : Int) + off = (t : Int)) (hn : pc + 3 = n) (K : GW p l e R s m args below meth c D A nL Q (ce) (sl) (w) (n) lv (st)) : GW p l e R s m args below meth c D A nL Q (ce) (sl) (w) (pc) lv (.int y :: .int x :: st) := by
  subst hn
  exact fun H locs ls hP hD hS hl => lv_icmp_ge X.1.1 X.1.2.1 hd ht (fun q => absurd q hc) (fun _ => K H locs ls hP hD hS hl)
theorem w_eq_t (t : Nat) (X : Cw p s m args meth c cc nL own D ks A) {x : Int32} {off : Int} (hc : x = 0) (hd : decode cc pc = .ok (.ifCond .eq off, 3)) (ht : (pc : Int) + off = (t : Int)) (K : GW p l e R s m args below meth c D A nL Q (ce) (sl) (w) (t) lv (st)) : GW p l e R s m args below meth c D A nL Q (ce) (sl) (w) (pc) lv (.int x :: st) := fun H locs ls hP hD hS hl => lv_if_eq X.1.1 X.1.2.1 hd ht (fun _ => K H locs ls hP hD hS hl) (fun q => absurd hc q)
theorem w_eq_f (n t : Nat) (X : Cw p s m args meth c cc nL own D ks A) {x : Int32} {off : Int} (hc : ¬ x = 0) (hd : decode cc pc = .ok (.ifCond .eq off, 3)) (ht : (pc : Int) + off = (t : Int)) (hn : pc + 3 = n) (K : GW p l e R s m args below meth c D A nL Q (ce) (sl) (w) (n) lv (st)) : GW p l e R s m args below meth c D A nL Q (ce) (sl) (w) (pc) lv (.int x :: st) := by
  subst hn
  exact fun H locs ls hP hD hS hl => lv_if_eq X.1.1 X.1.2.1 hd ht (fun q => absurd q hc) (fun _ => K H locs ls hP hD hS hl)
theorem GW.eq {w2 : va_W} (hw : w = w2) (K : GW p l e R s m args below meth c D A nL Q (ce) (sl) (w2) (pc) lv (st)) : GW p l e R s m args below meth c D A nL Q (ce) (sl) (w) (pc) lv (st) := hw ▸ K
theorem w_new (n : Nat) (X : Cw p s m args meth c cc nL own D ks A) {C : String} {T : u_T} {NF ci idx : Nat} (fs : List Value) (hin : ∀ z ∈ u_ws C T NF, z ∈ wg) (ty : Nat → FieldType) (hty : ∀ k, k < NF → parseFieldDescriptor (T k).2.2.1 = some (ty k)) (hc : vwCl[ci]? = some (C, T, NF)) (hcl : Cond.classLink own idx C ∈ wg) (hit : Cond.instantiable C NF ∈ wg) (hini : Cond.initialized C ∈ wg) (hfs : ∀ j, j < NF → defaultValue (ty j) = vp_V fs j) (hR : ce + 1 ≤ R.cells ∧ sl + NF ≤ R.slots) (hd : decode cc pc = .ok (.new idx, 3)) (hn : pc + 3 = n) (K : ∀ q : Nat, GW p l e R s m args below meth c D A nL Q (ce + 1) (sl + NF) (w ++ [(q, .inr (ci, fs))]) (n) lv (.ref q :: st)) : GW p l e R s m args below meth c D A nL Q (ce) (sl) (w) (pc) lv (st) := by
  subst hn
  exact fun H locs ls hP hD hS hl => va_new X.1.1 X.1.2.1 X.1.2.2.2.2 hin ty hty X.1.2.2.2.1 (X.1.2.2.2.2 _ hcl) (X.1.2.2.2.2 _ hit) (X.1.2.2.2.2 _ hini) X.2.2.1 hP hD hS X.2.2.2.2.1 hc hfs hR.1 hR.2 hd (fun q H1 hP1 hD1 hS1 => K q H1 locs ls hP1 hD1 hS1 hl)
theorem w_newa_int (n : Nat) (X : Cw p s m args meth c cc nL own D ks A) {x : Int32} (N2 : Nat) (hx : ¬ x < 0) (hN : x.toNatClampNeg = N2) (hb : N2 * componentBytes .int ≤ 536870912) (hR : ce + 1 ≤ R.cells ∧ sl + N2 ≤ R.slots) (hd : decode cc pc = .ok (.newarray .int, 2)) (hn : pc + 2 = n) (K : ∀ q : Nat, GW p l e R s m args below meth c D A nL Q (ce + 1) (sl + N2) (w ++ [(q, .inl (ks 0, N2, .inl (fun _ => 0)))]) (n) lv (.ref q :: st)) : GW p l e R s m args below meth c D A nL Q (ce) (sl) (w) (pc) lv (.int x :: st) := by
  subst hn
  exact fun H locs ls hP hD hS hl => va_newa (atype := .int) (ty := .int) (a0 := (N2, .inl (fun _ => 0))) X.1.1 X.1.2.1 (X.1.2.2.2.2 _ m176) rfl X.2.2.1 hP hD hS X.2.2.2.2.1 (fun _ => rfl) hx hN hb hR.1 hR.2 hd (fun q cA H1 hK1 hP1 hD1 hS1 => by
    have hk := ksI 0 X.2.2.1 rfl hK1
    subst hk
    exact K q H1 locs ls hP1 hD1 hS1 hl)
theorem w_newa_long (n : Nat) (X : Cw p s m args meth c cc nL own D ks A) {x : Int32} (N2 : Nat) (hx : ¬ x < 0) (hN : x.toNatClampNeg = N2) (hb : N2 * componentBytes .long ≤ 536870912) (hR : ce + 1 ≤ R.cells ∧ sl + N2 ≤ R.slots) (hd : decode cc pc = .ok (.newarray .long, 2)) (hn : pc + 2 = n) (K : ∀ q : Nat, GW p l e R s m args below meth c D A nL Q (ce + 1) (sl + N2) (w ++ [(q, .inl (ks 1, N2, .inr (.inl (fun _ => 0))))]) (n) lv (.ref q :: st)) : GW p l e R s m args below meth c D A nL Q (ce) (sl) (w) (pc) lv (.int x :: st) := by
  subst hn
  exact fun H locs ls hP hD hS hl => va_newa (atype := .long) (ty := .long) (a0 := (N2, .inr (.inl (fun _ => 0)))) X.1.1 X.1.2.1 (X.1.2.2.2.2 _ m232) rfl X.2.2.1 hP hD hS X.2.2.2.2.1 (fun _ => rfl) hx hN hb hR.1 hR.2 hd (fun q cA H1 hK1 hP1 hD1 hS1 => by
    have hk := ksI 1 X.2.2.1 rfl hK1
    subst hk
    exact K q H1 locs ls hP1 hD1 hS1 hl)
theorem w_newa_boolean (n : Nat) (X : Cw p s m args meth c cc nL own D ks A) {x : Int32} (N2 : Nat) (hx : ¬ x < 0) (hN : x.toNatClampNeg = N2) (hb : N2 * componentBytes .boolean ≤ 536870912) (hR : ce + 1 ≤ R.cells ∧ sl + N2 ≤ R.slots) (hd : decode cc pc = .ok (.newarray .boolean, 2)) (hn : pc + 2 = n) (K : ∀ q : Nat, GW p l e R s m args below meth c D A nL Q (ce + 1) (sl + N2) (w ++ [(q, .inl (ks 2, N2, .inl (fun _ => 0)))]) (n) lv (.ref q :: st)) : GW p l e R s m args below meth c D A nL Q (ce) (sl) (w) (pc) lv (.int x :: st) := by
  subst hn
  exact fun H locs ls hP hD hS hl => va_newa (atype := .boolean) (ty := .boolean) (a0 := (N2, .inl (fun _ => 0))) X.1.1 X.1.2.1 (X.1.2.2.2.2 _ m1136) rfl X.2.2.1 hP hD hS X.2.2.2.2.1 (fun _ => rfl) hx hN hb hR.1 hR.2 hd (fun q cA H1 hK1 hP1 hD1 hS1 => by
    have hk := ksI 2 X.2.2.1 rfl hK1
    subst hk
    exact K q H1 locs ls hP1 hD1 hS1 hl)
theorem w_newq (n : Nat) (X : Cw p s m args meth c cc nL own D ks A) {C : String} {x : Int32} {idx : Nat} (k N2 : Nat) (hk : (tysM ks)[k]? = some (ks k, .object C)) (hcl : Cond.classLink own idx C ∈ wg) (hov : va_AO C s) (hx : ¬ x < 0) (hN : x.toNatClampNeg = N2) (hb : N2 * 4 ≤ 536870912) (hR : ce + 1 ≤ R.cells ∧ sl + N2 ≤ R.slots) (hd : decode cc pc = .ok (.anewarray idx, 3)) (hn : pc + 3 = n) (K : ∀ q : Nat, GW p l e R s m args below meth c D A nL Q (ce + 1) (sl + N2) (w ++ [(q, .inl (ks k, N2, .inr (.inr (.inr (.inr (fun _ => none))))))]) (n) lv (.ref q :: st)) : GW p l e R s m args below meth c D A nL Q (ce) (sl) (w) (pc) lv (.int x :: st) := by
  subst hn
  exact fun H locs ls hP hD hS hl => va_newq X.1.1 X.1.2.1 X.1.2.2.2.1 (X.1.2.2.2.2 _ hcl) hov X.2.2.1 hP hD hS X.2.2.2.2.1 hx hN hb hR.1 hR.2 hd (fun q cA H1 hK1 hP1 hD1 hS1 => by
    have h2 := ksI k X.2.2.1 hk hK1
    subst h2
    exact K q H1 locs ls hP1 hD1 hS1 hl)
theorem w_put (n : Nat) (X : Cw p s m args meth c cc nL own D ks A) {ci j idx a : Nat} {ty : FieldType} {fs : List Value} {v : Value} (q0 : Nat) (hw : w[q0]? = some (a, .inr (ci, fs))) (fp : FQ own idx ci j ty) (hin : meth.name = "<init>") (hl : j < fs.length) (hna : narrow ty v = v) (hfi : fits ty v = true) (hd : decode cc pc = .ok (.putfield idx, 3)) (hn : pc + 3 = n) (K : GW p l e R s m args below meth c D A nL Q (ce) (sl) (w.set q0 (a, .inr (ci, fs.set j v))) (n) lv (st)) : GW p l e R s m args below meth c D A nL Q (ce) (sl) (w) (pc) lv (v :: .ref a :: st) := by
  subst hn
  obtain ⟨ref, C, T, NF, ty0, hc, hi2, hj, hw2, hsm, hty, hnm, hfin, hpt⟩ := fp
  have hsame := same_of X.1.2.2.2.2 hsm
  rcases hfin with hfin | ⟨hfin, hdecl⟩
  · exact fun H locs ls hP hD hS hl2 => va_put X.1.1 X.1.2.1 X.1.2.2.2.2 hi2 ty0 hty hnm X.1.2.2.2.1 X.2.2.1 hP hD hS q0 hw hc j hj (X.1.2.2.2.2 _ hw2) hsame hfin hpt hna hfi hl hd (fun H1 locs1 hP1 hD1 hS1 => K H1 locs1 ls hP1 hD1 hS1 hl2)
  · exact fun H locs ls hP hD hS hl2 => va_putF X.1.1 X.1.2.1 X.1.2.2.2.2 hi2 ty0 hty hnm X.1.2.2.2.1 X.2.2.1 hP hD hS q0 hw hc j hj (X.1.2.2.2.2 _ hw2) hsame hfin hin hdecl hpt hna hfi hl hd (fun H1 locs1 hP1 hD1 hS1 => K H1 locs1 ls hP1 hD1 hS1 hl2)
theorem w_get (n : Nat) (X : Cw p s m args meth c cc nL own D ks A) {ci j idx a : Nat} {fs : List Value} {v : Value} (q0 : Nat) (hw : w[q0]? = some (a, .inr (ci, fs))) (fl : FL own idx ci j) (hv : fs[j]? = some v) (hd : decode cc pc = .ok (.getfield idx, 3)) (hn : pc + 3 = n) (K : GW p l e R s m args below meth c D A nL Q (ce) (sl) (w) (n) lv (v :: st)) : GW p l e R s m args below meth c D A nL Q (ce) (sl) (w) (pc) lv (.ref a :: st) := by
  subst hn
  obtain ⟨ref, C, T, NF, hc, hin, hj, hl1, hsm⟩ := fl
  have hsame := same_of X.1.2.2.2.2 hsm
  rcases hl1 with hw2 | ⟨host, hw2⟩
  · exact fun H locs ls hP hD hS hl => va_get X.1.1 X.1.2.1 X.1.2.2.2.2 hin X.1.2.2.2.1 X.2.2.1 hP q0 hw hc j hj (X.1.2.2.2.2 _ hw2) hsame hv hd (K H locs ls hP hD hS hl)
  · exact fun H locs ls hP hD hS hl => va_getN X.1.1 X.1.2.1 X.1.2.2.2.2 hin X.1.2.2.2.1 X.2.2.1 hP q0 hw hc j hj (va_Nw.use rfl (X.2.1.1 _ hw2 rfl)) hsame hv hd (K H locs ls hP hD hS hl)
theorem w_obj (n : Nat) (X : Cw p s m args meth c cc nL own D ks A) {idx a : Nat} (hw : Cond.methodLink own idx objectInit ∈ wg) (hR : 1 ≤ R.frames ∧ (st.map fun v => v.category).sum + 12 ≤ R.locals) (hd : decode cc pc = .ok (.invokespecial idx, 3)) (hn : pc + 3 = n) (K : GW p l e R s m args below meth c D A nL Q (ce) (sl) (w) (n) lv (st)) : GW p l e R s m args below meth c D A nL Q (ce) (sl) (w) (pc) lv (.ref a :: st) := by
  subst hn
  exact fun H locs ls hP hD hS hl => W.objInit X.1.1 X.1.2.1 X.1.2.2.2.1 (X.1.2.2.2.2 _ hw) (X.1.2.2.2.2 _ m89) (X.1.2.2.2.2 _ m90) rfl (hl.1.trans X.1.2.2.1.symm) rfl hd hR.1 (by have h9 : 2 * (F0 m pc ls (.ref a :: st)).monitorRoom = 0 := rfl; rw [h9, Nat.zero_add]; exact hR.2) (K H locs ls hP hD hS hl)
theorem w_iast (n : Nat) (X : Cw p s m args meth c cc nL own D ks A) {a N2 : Nat} {i x : Int32} {f : Nat → Int32} (q0 : Nat) (hw : w[q0]? = some (a, .inl (ks 0, N2, .inl f))) (hi : vp_in i N2) (hd : decode cc pc = .ok (.iastore, 1)) (hn : pc + 1 = n) (K : GW p l e R s m args below meth c D A nL Q (ce) (sl) (w.set q0 (a, .inl (ks 0, N2, .inl (upd f i.toNatClampNeg x)))) (n) lv (st)) : GW p l e R s m args below meth c D A nL Q (ce) (sl) (w) (pc) lv (.int x :: .int i :: .ref a :: st) := by
  subst hn
  exact fun H locs ls hP hD hS hl => va_iast X.1.1 X.1.2.1 X.2.2.1 hP hD hS q0 0 hw rfl hi hd (fun H1 locs1 hP1 hD1 hS1 => K H1 locs1 ls hP1 hD1 hS1 hl)
theorem w_aast (n : Nat) (X : Cw p s m args meth c cc nL own D ks A) {a N2 v ci : Nat} {r : vw_C} {vs : List Value} {i : Int32} {f : Nat → Option Nat} (q0 t0 qk : Nat) (hw : w[q0]? = some (a, .inl (ks t0, N2, .inr (.inr (.inr (.inr f)))))) (ht : (tysM ks)[t0]? = some (ks t0, .object r.1)) (hv : w[qk]? = some (v, .inr (ci, vs))) (hc : vwCl[ci]? = some r) (hi : vp_in i N2) (hd : decode cc pc = .ok (.aastore, 1)) (hn : pc + 1 = n) (K : GW p l e R s m args below meth c D A nL Q (ce) (sl) (w.set q0 (a, .inl (ks t0, N2, .inr (.inr (.inr (.inr (va_up f i.toNatClampNeg (some v)))))))) (n) lv (st)) : GW p l e R s m args below meth c D A nL Q (ce) (sl) (w) (pc) lv (.ref v :: .int i :: .ref a :: st) := by
  subst hn
  exact fun H locs ls hP hD hS hl => va_astq X.1.1 X.1.2.1 X.2.2.1 hP hD hS q0 t0 qk ci hw ht hv hc hi hd (fun H1 locs1 hP1 hD1 hS1 => K H1 locs1 ls hP1 hD1 hS1 hl)
theorem w_call (n : Nat) (X : Cw p s m args meth c cc nL own D ks A) {y : MethodName} {bytes : ByteArray} {maxL k idx b mc ms : Nat} {rm : Room} {wc : va_W} {w1 : (Nat → Nat) → va_W} {As rest : List Value} (cd : CDI own idx y bytes maxL k) (hM : MI l y bytes maxL rm D ks wc w1 (.ref b :: As) mc ms) (hrm : rm.cells = mc ∧ rm.slots = ms) (hR : rm.frames + 1 ≤ R.frames ∧ 8 + (maxL + 11) + rm.locals ≤ R.locals) (hC : ce + mc ≤ R.cells ∧ sl + ms ≤ R.slots) (iC iR : List Nat) (h1 : iC.map (fun i => w[i]?) = wc.map some) (h2 : iR.map (fun i => w[i]?) = (iR.filterMap (fun i => w[i]?)).map some) (h3 : va_nd iC = true) (h4 : va_nd iR = true) (h5 : ∀ i ∈ iR, i ∉ iC) (hk : As.length = k) (hst : As.reverse ++ .ref b :: rest = st) (hW : (rest.map fun v => v.category).sum ≤ 8) (hd : decode cc pc = .ok (.invokespecial idx, 3)) (hn : pc + 3 = n) (K : ∀ q : Nat → Nat, GW p l e R s m args below meth c D A nL Q (ce + mc) (sl + ms) (iR.filterMap (fun i => w[i]?) ++ w1 q) (n) lv (rest)) : GW p l e R s m args below meth c D A nL Q (ce) (sl) (w) (pc) lv (st) := by
  subst hn
  subst hst
  intro H locs ls hP hD hS hl
  have hF := va_free (wc := wc) hD hS X.2.2.2.2.1 iC h1
  have hPc : va_P D vwCl wc H := by
    have h6 := hP.sub (ws' := iC.filterMap (fun i => w[i]?)) iC rfl
    have h7 : iC.filterMap (fun i => w[i]?) = wc := fm_of iC w wc h1
    rw [h7] at h6
    exact h6
  have hDc : va_D A wc := hD.sub (ws' := wc) iC h3 h1
  have hpre : PreS s H (va_Pc (.ref b :: As) (fun U => U.heap.size = H.size ∧ va_P D vwCl wc U.heap ∧ va_K D vwCl (tysM ks) U ∧ NW U ∧ AO U ∧ va_D (fun _ => True) wc)) (.ref b :: As) :=
    ⟨fun a U g mk q => ⟨q.1, q.2.1, q.2.2.1, va_K.moved (u := U) (U := U.calling g mk a) (Vm.Alike.refl U.vm) q.2.2.2.1, NW.same (u := U) (U := U.calling g mk a) rfl q.2.2.2.2.1, AO.moved (u := U) (U := U.calling g mk a) (Vm.Alike.refl U.vm) q.2.2.2.2.2.1, q.2.2.2.2.2.2⟩,
     fun U hU hW2 => ⟨rfl, by rw [hU], by rw [hU]; exact hPc, X.2.2.1.moved hW2.alike, X.2.1.warm hW2, X.2.2.2.2.2.moved hW2.alike, hDc.weaken (fun _ _ _ _ => trivial)⟩⟩
  have hrun : va_Run p l e R s m args below meth c H locs ce sl mc ms (F0 m pc ls (As.reverse ++ .ref b :: rest)) rest (va_Qv (fun _ : Unit => True) (fun _ t => ∃ q : Nat → Nat, va_P D vwCl (w1 q) t.heap ∧ va_D (va_A wc H.size) (w1 q)) (va_A wc H.size) (Value.ref b :: As).toArray) (va_A wc H.size) := by
    rcases cd.2.2.1 with hlk | ⟨host, hlk⟩
    · exact va_runI X.1 (hM H.size) ⟨callB_of k X.1.2.2.2.2 (gw_cons cd.1 gw_self) rfl hrm.1 hrm.2 (X.1.2.2.2.2 _ cd.2.1) (X.1.2.2.2.2 _ hlk) cd.2.2.2.2.2 hR, cd.2.2.2.1, X.1.2.2.2.2 _ cd.2.2.2.2.1⟩ hpre rfl hk hl.1 rfl (lv_room hW) hd hC
    · exact va_runIN X.1 (hM H.size) ⟨va_cnB k X.1.2.2.2.2 (gw_cons cd.1 gw_self) rfl hrm.1 hrm.2 (X.2.1.1 _ hlk rfl) (X.1.2.2.2.2 _ cd.2.1) cd.2.2.2.2.2 hR, cd.2.2.2.1, X.1.2.2.2.2 _ cd.2.2.2.2.1⟩ hpre rfl hk hl.1 rfl (lv_room hW) hd hC
  refine va_callv hrun hS (fun q _ h => hF q h) hF (fun u t H1 locs1 ht hvm hw hB hz hk1 hS1 => ?_)
  obtain ⟨q, hP1, hD1⟩ := hB
  rw [ht] at hP1
  obtain ⟨hP2, hD2⟩ := va_join (wr := iR.filterMap (fun i => w[i]?)) (w1 := w1 q) hP hD iC iR h1 h2 h4 h5 hk1 hF hP1 hD1
  exact K q H1 locs1 ls hP2 hD2 hS1 hl
end GC
section GD
variable {p : Program} {l : Launch} {e : Env} {R : Room} {s : State} {m : MethodId} {args : Array Value} {below : List Frame} {meth : Method} {c : Code} {cc : ByteArray} {nL : Nat} {own : String} {D : va_G} {ks : Nat → ClassId} {ce sl : Nat} {w : va_W} {pc : Nat} {lv : List (Nat × Value)} {st : List Value}
theorem w_vret {wc : va_W} {w1 : (Nat → Nat) → va_W} {sz mc ms : Nat} (X : Cw p s m args meth c cc nL own D ks (va_A wc sz)) (hr : meth.sig.returnType = none) (qf : Nat → Nat) (hw : w = w1 qf) (hc : ce ≤ mc ∧ sl ≤ ms) (hd : decode cc pc = .ok (.return_, 1)) : GW p l e R s m args below meth c D (va_A wc sz) nL (MQ below (va_Qv (fun _ : Unit => True) (fun _ t => ∃ q : Nat → Nat, va_P D vwCl (w1 q) t.heap ∧ va_D (va_A wc sz) (w1 q)) (va_A wc sz)) args s mc ms (va_A wc sz)) ce sl w pc lv [] := by
  subst hw
  intro H locs ls hP hD hS hl
  refine W.widen (k := mc) (n := ms) hc.1 hc.2 ?_
  exact W.vret X.1.1 X.1.2.1 hr (fun t ht hW => ⟨⟨(), rfl, trivial, qf, by show va_P D vwCl _ t.heap; rw [ht]; exact hP, hD⟩, hS.F ht⟩) hS.2.2 hd X.2.2.2.1
theorem mi_of {y : MethodName} {maxL : Nat} {av : List Value} {wc : va_W} {w1 : (Nat → Nat) → va_W} {mc ms : Nat} (hy : plainName y.cls = true) (hyn : y.name = "<init>") (hlen : (lg_sl av).length ≤ maxL)
    (body : ∀ (sz : Nat) (p : Program) (e : Env) (s : State) (m : MethodId) (args : Array Value) (below : List Frame) (meth : Method) (c : Code), Cw p s m args meth c cc maxL y.cls D ks (va_A wc sz) → meth.sig.returnType = none → meth.name = "<init>" → GW p l e R s m args below meth c D (va_A wc sz) maxL (MQ below (va_Qv (fun _ : Unit => True) (fun _ t => ∃ q : Nat → Nat, va_P D vwCl (w1 q) t.heap ∧ va_D (va_A wc sz) (w1 q)) (va_A wc sz)) args s mc ms (va_A wc sz)) 0 0 wc 0 (lv_args 0 av) []) :
    MI l y cc maxL R D ks wc w1 av mc ms := by
  intro sz
  refine Met.ofW (cc := cc) (maxL := maxL) (ret := none) hy rfl ?_
  intro p e s m args below meth c s₁ B hml hv
  obtain ⟨rfl, hsz, hP, hK, hN, hAO, hD0⟩ := hv
  have hts := atoms_spec (ws := Cond.code y cc maxL none :: wg) B.pre
  have hown : s.vm.findClass y.cls = some m.cls := findClass_of_methodNamed B.named
  have X : Cw p s m av.toArray meth c cc maxL y.cls D ks (va_A wc sz) := ⟨⟨B.exec, B.bytes, hml, hown, fun w hw => hts w (List.mem_cons_of_mem _ hw)⟩, hN, hK, B.notSynchronized, fun q hq => Or.inr (by rw [← hsz]; exact hq), hAO⟩
  have hl := lv_entry av (n := maxL) hlen
  rw [lg_entry_eq]
  exact body sz p e s m _ below meth c X B.returns ((name_of_methodNamed B.named B.method).1.trans hyn) s.heap [] _ hP hD0.self va_S.rf hl
end GD
