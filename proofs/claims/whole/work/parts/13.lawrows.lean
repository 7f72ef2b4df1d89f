theorem lgxx (x : Int64) : lg_cmp x x = 0 := by
  unfold lg_cmp
  rw [if_neg (fun h => Int64.lt_irrefl h), if_pos rfl]

/-- the law: both objects and the script -/
def XL (p : Program) (R : Room) (s : State) (m : MethodId) (args : Array Value) (meth : Method) (c : Code) (D : va_G) (ks : Nat → ClassId) (A1 A2 : Nat → Prop) (ad1 ad2 : Nat → Nat) (b L : Nat) (xs : Nat → Int32) (ce sl : Nat) : Prop :=
  CallFix p m c cL_law 4 s args wg RL ∧ NW s ∧ va_K D vwCl (tysM ks) s ∧ (∀ μ : Mem, va_D A1 (wsM 75 ad1 (shC ks ad1) μ)) ∧ (∀ μ : Mem, va_D A2 (wsM 24 ad2 (shR ks ad2) μ)) ∧ (∀ q, A1 q → s.heap.size ≤ q) ∧ (∀ q, A2 q → s.heap.size ≤ q) ∧ (∀ q, A1 q → ¬ A2 q) ∧ (va_X b L xs s s.heap ∧ b < s.heap.size) ∧ (ce ≤ R.cells ∧ sl ≤ R.slots) ∧ L ≤ 3072
def GL (p : Program) (l : Launch) (e : Env) (R : Room) (s : State) (m : MethodId) (args : Array Value) (below : List Frame) (meth : Method) (c : Code) (D : va_G) (ks : Nat → ClassId) (ad1 ad2 : Nat → Nat) (Q : State → Prop) (ce sl : Nat) (μ ρ : Mem) (pc : Nat) (lv : List (Nat × Value)) (st : List Value) : Prop :=
  ∀ (H : Heap) (locs : List Loc) (ls : Array Slot), va_P D vwCl (wsM 75 ad1 (shC ks ad1) μ) H → va_P D vwCl (wsM 24 ad2 (shR ks ad2) ρ) H → va_S (fun q => s.heap.size ≤ q) s.heap H locs → lv_has ls 4 lv → W p l e R s m args below meth c H locs ce sl Q (F0 m pc ls st)
theorem vj0 {j L : Nat} (h : j + 6 ≤ L) (hL : L ≤ 3072) : vp_in (nI j) L := vp_in_nI (by omega) (by omega)
theorem vjk {j L : Nat} {x : Int32} (k : Nat) (hx : x = nI k) (hk : k < 6) (h : j + 6 ≤ L) (hL : L ≤ 3072) : vp_in (nI j + x) L := by
  rw [hx, nI_add]
  exact vp_in_nI (by omega) (by omega)
section GL
variable {p : Program} {l : Launch} {e : Env} {R : Room} {s : State} {m : MethodId} {args : Array Value} {below : List Frame} {meth : Method} {c : Code} {D : va_G} {ks : Nat → ClassId} {A1 A2 : Nat → Prop} {ad1 ad2 : Nat → Nat} {b L : Nat} {xs : Nat → Int32} {Q : State → Prop} {ce sl : Nat} {μ ρ : Mem} {pc : Nat} {lv : List (Nat × Value)} {st : List Value}
theorem l_iconst (n : Nat) (X : XL p R s m args meth c D ks A1 A2 ad1 ad2 b L xs ce sl) {i : Int} {v : Int32} (hd : decode cL_law pc = .ok (.iconst i, 1)) (hv : Int32.ofInt i = v) (hn : pc + 1 = n) (K : GL p l e R s m args below meth c D ks ad1 ad2 Q ce sl μ ρ (n) lv (.int v :: st)) : GL p l e R s m args below meth c D ks ad1 ad2 Q ce sl μ ρ (pc) lv (st) := by
  subst hn
  exact fun H locs ls hP hP2 hS hl => lv_iconst X.1.1 X.1.2.1 hd hv (K H locs ls hP hP2 hS hl)
theorem l_bipush (n : Nat) (X : XL p R s m args meth c D ks A1 A2 ad1 ad2 b L xs ce sl) {i : Int} {v : Int32} (hd : decode cL_law pc = .ok (.bipush i, 2)) (hv : (Int8.ofInt i).toInt32 = v) (hn : pc + 2 = n) (K : GL p l e R s m args below meth c D ks ad1 ad2 Q ce sl μ ρ (n) lv (.int v :: st)) : GL p l e R s m args below meth c D ks ad1 ad2 Q ce sl μ ρ (pc) lv (st) := by
  subst hn
  exact fun H locs ls hP hP2 hS hl => lv_bipush X.1.1 X.1.2.1 hd hv (K H locs ls hP hP2 hS hl)
theorem l_iadd (n : Nat) (X : XL p R s m args meth c D ks A1 A2 ad1 ad2 b L xs ce sl) {x y : Int32} (hd : decode cL_law pc = .ok (.iadd, 1))  (hn : pc + 1 = n) (K : GL p l e R s m args below meth c D ks ad1 ad2 Q ce sl μ ρ (n) lv (.int (x + y) :: st)) : GL p l e R s m args below meth c D ks ad1 ad2 Q ce sl μ ρ (pc) lv (.int y :: .int x :: st) := by
  subst hn
  exact fun H locs ls hP hP2 hS hl => lv_iadd X.1.1 X.1.2.1 hd (K H locs ls hP hP2 hS hl)
theorem l_isub (n : Nat) (X : XL p R s m args meth c D ks A1 A2 ad1 ad2 b L xs ce sl) {x y : Int32} (hd : decode cL_law pc = .ok (.isub, 1))  (hn : pc + 1 = n) (K : GL p l e R s m args below meth c D ks ad1 ad2 Q ce sl μ ρ (n) lv (.int (x - y) :: st)) : GL p l e R s m args below meth c D ks ad1 ad2 Q ce sl μ ρ (pc) lv (.int y :: .int x :: st) := by
  subst hn
  exact fun H locs ls hP hP2 hS hl => lv_isub X.1.1 X.1.2.1 hd (K H locs ls hP hP2 hS hl)
theorem l_iand (n : Nat) (X : XL p R s m args meth c D ks A1 A2 ad1 ad2 b L xs ce sl) {x y : Int32} (hd : decode cL_law pc = .ok (.iand, 1))  (hn : pc + 1 = n) (K : GL p l e R s m args below meth c D ks ad1 ad2 Q ce sl μ ρ (n) lv (.int (x &&& y) :: st)) : GL p l e R s m args below meth c D ks ad1 ad2 Q ce sl μ ρ (pc) lv (.int y :: .int x :: st) := by
  subst hn
  exact fun H locs ls hP hP2 hS hl => lv_iand X.1.1 X.1.2.1 hd (K H locs ls hP hP2 hS hl)
theorem l_lcmp (n : Nat) (X : XL p R s m args meth c D ks A1 A2 ad1 ad2 b L xs ce sl) {x y : Int64} (hd : decode cL_law pc = .ok (.lcmp, 1))  (hn : pc + 1 = n) (K : GL p l e R s m args below meth c D ks ad1 ad2 Q ce sl μ ρ (n) lv (.int (lg_cmp x y) :: st)) : GL p l e R s m args below meth c D ks ad1 ad2 Q ce sl μ ρ (pc) lv (.long y :: .long x :: st) := by
  subst hn
  exact fun H locs ls hP hP2 hS hl => W.lcmp X.1.1 X.1.2.1 hd (K H locs ls hP hP2 hS hl)
theorem l_iload_n (n : Nat) (X : XL p R s m args meth c D ks A1 A2 ad1 ad2 b L xs ce sl) {k : Fin 4} {x : Int32} (q : Nat) (hd : decode cL_law pc = .ok (.iload_n k, 1)) (hq : lv[q]? = some (k.val, .int x)) (hn : pc + 1 = n) (K : GL p l e R s m args below meth c D ks ad1 ad2 Q ce sl μ ρ (n) lv (.int x :: st)) : GL p l e R s m args below meth c D ks ad1 ad2 Q ce sl μ ρ (pc) lv (st) := by
  subst hn
  exact fun H locs ls hP hP2 hS hl => lv_iload_n X.1.1 X.1.2.1 hd rfl (lv_at hl q hq) (K H locs ls hP hP2 hS hl)
theorem l_aload_n (n : Nat) (X : XL p R s m args meth c D ks A1 A2 ad1 ad2 b L xs ce sl) {k : Fin 4} {x : Nat} (q : Nat) (hd : decode cL_law pc = .ok (.aload_n k, 1)) (hq : lv[q]? = some (k.val, .ref x)) (hn : pc + 1 = n) (K : GL p l e R s m args below meth c D ks ad1 ad2 Q ce sl μ ρ (n) lv (.ref x :: st)) : GL p l e R s m args below meth c D ks ad1 ad2 Q ce sl μ ρ (pc) lv (st) := by
  subst hn
  exact fun H locs ls hP hP2 hS hl => lv_aload_n X.1.1 X.1.2.1 hd rfl (lv_at hl q hq) (K H locs ls hP hP2 hS hl)
theorem l_iinc (n : Nat) (X : XL p R s m args meth c D ks A1 A2 ad1 ad2 b L xs ce sl) {i : Nat} {d : Int} {x v : Int32} (q : Nat) (hd : decode cL_law pc = .ok (.iinc i d, 3)) (hw : x + Int32.ofInt d = v) (hq : lv[q]? = some (i, .int x)) (hi : i < 4) (hn : pc + 3 = n) (K : GL p l e R s m args below meth c D ks ad1 ad2 Q ce sl μ ρ (n) ((i, Value.int v) :: lv.filter (fun q => !(q.1 == i) && !(q.1 + 1 == i && q.2.category == 2))) (st)) : GL p l e R s m args below meth c D ks ad1 ad2 Q ce sl μ ρ (pc) lv (st) := by
  subst hn
  exact fun H locs ls hP hP2 hS hl => lv_iinc X.1.1 X.1.2.1 hd hl hq hw hi rfl (fun ls2 hl2 => K H locs ls2 hP hP2 hS hl2)
theorem l_goto (t : Nat) (X : XL p R s m args meth c D ks A1 A2 ad1 ad2 b L xs ce sl) {off : Int} (hd : decode cL_law pc = .ok (.goto off, 3)) (ht : (pc : Int) + off = (t : Int)) (K : GL p l e R s m args below meth c D ks ad1 ad2 Q ce sl μ ρ (t) lv (st)) : GL p l e R s m args below meth c D ks ad1 ad2 Q ce sl μ ρ (pc) lv (st) := fun H locs ls hP hP2 hS hl => lv_goto X.1.1 X.1.2.1 hd ht (K H locs ls hP hP2 hS hl)
theorem GL.sub {lv2 : List (Nat × Value)} (qs : List Nat) (hq : lv_pick lv qs = lv2) (K : GL p l e R s m args below meth c D ks ad1 ad2 Q ce sl μ ρ (pc) lv2 (st)) : GL p l e R s m args below meth c D ks ad1 ad2 Q ce sl μ ρ (pc) lv (st) := fun H locs ls hP hP2 hS hl => K H locs ls hP hP2 hS (lv_sub hl qs hq)
theorem l_sld (n : Nat) (X : XL p R s m args meth c D ks A1 A2 ad1 ad2 b L xs ce sl) {i : Int32} (hi : vp_in i L) (hd : decode cL_law pc = .ok (.iaload, 1)) (hn : pc + 1 = n) (K : GL p l e R s m args below meth c D ks ad1 ad2 Q ce sl μ ρ (n) lv (.int (xs i.toNatClampNeg) :: st)) : GL p l e R s m args below meth c D ks ad1 ad2 Q ce sl μ ρ (pc) lv (.int i :: .ref b :: st) := by
  subst hn
  exact fun H locs ls hP hP2 hS hl => va_sld X.1.1 X.1.2.1 X.2.2.2.2.2.2.2.2.1.1 X.2.2.2.2.2.2.2.2.1.2 (Nat.not_le.mpr X.2.2.2.2.2.2.2.2.1.2) hS hi hd (K H locs ls hP hP2 hS hl)
theorem l_slen (n : Nat) (X : XL p R s m args meth c D ks A1 A2 ad1 ad2 b L xs ce sl) (hd : decode cL_law pc = .ok (.arraylength, 1)) (hn : pc + 1 = n) (K : GL p l e R s m args below meth c D ks ad1 ad2 Q ce sl μ ρ (n) lv (.int (nI L) :: st)) : GL p l e R s m args below meth c D ks ad1 ad2 Q ce sl μ ρ (pc) lv (.ref b :: st) := by
  subst hn
  exact fun H locs ls hP hP2 hS hl => va_slen X.1.1 X.1.2.1 X.2.2.2.2.2.2.2.2.1.1 X.2.2.2.2.2.2.2.2.1.2 (Nat.not_le.mpr X.2.2.2.2.2.2.2.2.1.2) hS hd (K H locs ls hP hP2 hS hl)
theorem l_eq (t : Nat) (X : XL p R s m args meth c D ks A1 A2 ad1 ad2 b L xs ce sl) {x : Int32} {off : Int} (hd : decode cL_law pc = .ok (.if_icmp .eq off, 3)) (ht : (pc : Int) + off = (t : Int)) (K : GL p l e R s m args below meth c D ks ad1 ad2 Q ce sl μ ρ (t) lv (st)) : GL p l e R s m args below meth c D ks ad1 ad2 Q ce sl μ ρ (pc) lv (.int x :: .int x :: st) := fun H locs ls hP hP2 hS hl => lv_icmp_eq X.1.1 X.1.2.1 hd ht (fun _ => K H locs ls hP hP2 hS hl) (fun q => absurd rfl q)
theorem l_eqL (t : Nat) (X : XL p R s m args meth c D ks A1 A2 ad1 ad2 b L xs ce sl) {x : Int64} {off : Int} (hd : decode cL_law pc = .ok (.ifCond .eq off, 3)) (ht : (pc : Int) + off = (t : Int)) (K : GL p l e R s m args below meth c D ks ad1 ad2 Q ce sl μ ρ (t) lv (st)) : GL p l e R s m args below meth c D ks ad1 ad2 Q ce sl μ ρ (pc) lv (.int (lg_cmp x x) :: st) := fun H locs ls hP hP2 hS hl => lv_if_eq X.1.1 X.1.2.1 hd ht (fun _ => K H locs ls hP hP2 hS hl) (fun q => absurd (lgxx x) q)
theorem l_gt (t n : Nat) (X : XL p R s m args meth c D ks A1 A2 ad1 ad2 b L xs ce sl) {x y : Int32} {off : Int} (hd : decode cL_law pc = .ok (.if_icmp .gt off, 3)) (ht : (pc : Int) + off = (t : Int)) (hn : pc + 3 = n) (kt : y < x → GL p l e R s m args below meth c D ks ad1 ad2 Q ce sl μ ρ (t) lv (st)) (kf : ¬ y < x → GL p l e R s m args below meth c D ks ad1 ad2 Q ce sl μ ρ (n) lv (st)) : GL p l e R s m args below meth c D ks ad1 ad2 Q ce sl μ ρ (pc) lv (.int y :: .int x :: st) := by
  subst hn
  exact fun H locs ls hP hP2 hS hl => lv_icmp_gt X.1.1 X.1.2.1 hd ht (fun q => kt q H locs ls hP hP2 hS hl) (fun q => kf q H locs ls hP hP2 hS hl)
theorem l_tin (t : Nat) (X : XL p R s m args meth c D ks A1 A2 ad1 ad2 b L xs ce sl) {x v : Int32} {dflt lo hi off : Int} {offs : Array Int} {len : Nat} (hx : x = v) (hd : decode cL_law pc = .ok (.tableswitch dflt lo hi offs, len)) (h1 : ¬ v.toInt < lo) (h2 : ¬ hi < v.toInt) (ho : offs[(v.toInt - lo).toNat]? = some off) (ht : (pc : Int) + off = (t : Int)) (K : GL p l e R s m args below meth c D ks ad1 ad2 Q ce sl μ ρ (t) lv (st)) : GL p l e R s m args below meth c D ks ad1 ad2 Q ce sl μ ρ (pc) lv (.int x :: st) := by
  subst hx
  exact fun H locs ls hP hP2 hS hl => lv_tableIn X.1.1 X.1.2.1 hd h1 h2 ho ht (K H locs ls hP hP2 hS hl)
theorem l_tout (t : Nat) (X : XL p R s m args meth c D ks A1 A2 ad1 ad2 b L xs ce sl) {x : Int32} {dflt lo hi : Int} {offs : Array Int} {len : Nat} (hd : decode cL_law pc = .ok (.tableswitch dflt lo hi offs, len)) (h1 : x.toInt < lo ∨ hi < x.toInt) (ht : (pc : Int) + dflt = (t : Int)) (K : GL p l e R s m args below meth c D ks ad1 ad2 Q ce sl μ ρ (t) lv (st)) : GL p l e R s m args below meth c D ks ad1 ad2 Q ce sl μ ρ (pc) lv (.int x :: st) := fun H locs ls hP hP2 hS hl => lv_tableOut X.1.1 X.1.2.1 hd h1 ht (K H locs ls hP hP2 hS hl)
theorem l_Ci (n : Nat) (X : XL p R s m args meth c D ks A1 A2 ad1 ad2 b L xs ce sl) {y : MethodName} {bytes : ByteArray} {maxL k idx : Nat} {ret : Option FieldType} {rm : Room} {As rest : List Value} {r : Int32 × Mem} (cd : CDV RX11 RL idx y bytes maxL ret k) (hrm : rm.cells = 0 ∧ rm.slots = 0) (hR : rm.frames + 1 ≤ R.frames ∧ 8 + (maxL + 11) + rm.locals ≤ R.locals) (hM : Met l y (Cond.code y bytes maxL ret :: wg) rm (PC D ks 75 ad1 (shC ks ad1) μ (.ref (ad1 0) :: As)) (QI D 75 ad1 (shC ks ad1) A1 r) 0 0 A1) (hk : As.length = k) (hst : As.reverse ++ .ref (ad1 0) :: rest = st) (hW : (rest.map fun v => v.category).sum ≤ 8) (hd : decode cL_law pc = .ok (.invokevirtual idx, 3)) (hn : pc + 3 = n) (K : GL p l e R s m args below meth c D ks ad1 ad2 Q ce sl r.2 ρ (n) lv (.int r.1 :: rest)) : GL p l e R s m args below meth c D ks ad1 ad2 Q ce sl μ ρ (pc) lv (st) := by
  subst hn
  subst hst
  intro H locs ls hP hP2 hS hl
  have ho : OB (shC ks ad1) 75 0 10 (Fs11 ad1 0) := (o11 rfl)
  have hat : (wsM 75 ad1 (shC ks ad1) μ)[0]? = some (ad1 0, .inr (10, Fs11 ad1 0 (μ.1 0) (μ.2.1 0) (μ.2.2 0))) := by rw [wsM_at ho.1, ho.2]
  have hrecv := va_recv (q := (RX11, TX11, 9)) X.2.2.1 hP rfl hat
  have hrun := va_runV (p := p) (e := e) (below := below) (meth := meth) (locs := locs) (cells := ce) (slots := sl) (b := ad1 0) (As := As) (rest := rest) (g := F0 m pc ls (As.reverse ++ .ref (ad1 0) :: rest)) X.1 hM ⟨callB_of k X.1.2.2.2.2 (gw_cons cd.1 gw_self) rfl hrm.1 hrm.2 (X.1.2.2.2.2 _ cd.2.1) (X.1.2.2.2.2 _ cd.2.2.1.1) cd.2.2.2 hR, X.1.2.2.2.2 _ cd.2.2.1.2.1, X.1.2.2.2.2 _ cd.2.2.1.2.2⟩ ⟨PC_blind, hrecv, fun U hU hw2 => ⟨rfl, by rw [hU]; exact hP, X.2.2.1.moved hw2.alike, X.2.1.warm hw2⟩⟩ rfl hk hl.1 rfl (lv_room hW) hd X.2.2.2.2.2.2.2.2.2.1
  refine va_calli hrun hS (fun q _ h => X.2.2.2.2.2.1 q h) X.2.2.2.2.2.1 (fun x u t H1 locs1 ht hvm hw hB hz hk1 hS1 => ?_)
  have hx : x = r.1 := hw
  rw [hx]
  exact K H1 locs1 ls (ht ▸ hB) (hP2.kept (fun k z hz2 => hk1 _ (hP2 k z hz2).lt (fun hq => X.2.2.2.2.2.2.2.1 _ hq ((X.2.2.2.2.1 ρ).2 k z hz2)))) hS1 hl
theorem l_Cl (n : Nat) (X : XL p R s m args meth c D ks A1 A2 ad1 ad2 b L xs ce sl) {y : MethodName} {bytes : ByteArray} {maxL k idx : Nat} {ret : Option FieldType} {rm : Room} {As rest : List Value} {r : Int64 × Mem} (cd : CDV RX11 RL idx y bytes maxL ret k) (hrm : rm.cells = 0 ∧ rm.slots = 0) (hR : rm.frames + 1 ≤ R.frames ∧ 8 + (maxL + 11) + rm.locals ≤ R.locals) (hM : Met l y (Cond.code y bytes maxL ret :: wg) rm (PC D ks 75 ad1 (shC ks ad1) μ (.ref (ad1 0) :: As)) (QL D 75 ad1 (shC ks ad1) A1 r) 0 0 A1) (hk : As.length = k) (hst : As.reverse ++ .ref (ad1 0) :: rest = st) (hW : (rest.map fun v => v.category).sum ≤ 8) (hd : decode cL_law pc = .ok (.invokevirtual idx, 3)) (hn : pc + 3 = n) (K : GL p l e R s m args below meth c D ks ad1 ad2 Q ce sl r.2 ρ (n) lv (.long r.1 :: rest)) : GL p l e R s m args below meth c D ks ad1 ad2 Q ce sl μ ρ (pc) lv (st) := by
  subst hn
  subst hst
  intro H locs ls hP hP2 hS hl
  have ho : OB (shC ks ad1) 75 0 10 (Fs11 ad1 0) := (o11 rfl)
  have hat : (wsM 75 ad1 (shC ks ad1) μ)[0]? = some (ad1 0, .inr (10, Fs11 ad1 0 (μ.1 0) (μ.2.1 0) (μ.2.2 0))) := by rw [wsM_at ho.1, ho.2]
  have hrecv := va_recv (q := (RX11, TX11, 9)) X.2.2.1 hP rfl hat
  have hrun := va_runV (p := p) (e := e) (below := below) (meth := meth) (locs := locs) (cells := ce) (slots := sl) (b := ad1 0) (As := As) (rest := rest) (g := F0 m pc ls (As.reverse ++ .ref (ad1 0) :: rest)) X.1 hM ⟨callB_of k X.1.2.2.2.2 (gw_cons cd.1 gw_self) rfl hrm.1 hrm.2 (X.1.2.2.2.2 _ cd.2.1) (X.1.2.2.2.2 _ cd.2.2.1.1) cd.2.2.2 hR, X.1.2.2.2.2 _ cd.2.2.1.2.1, X.1.2.2.2.2 _ cd.2.2.1.2.2⟩ ⟨PC_blind, hrecv, fun U hU hw2 => ⟨rfl, by rw [hU]; exact hP, X.2.2.1.moved hw2.alike, X.2.1.warm hw2⟩⟩ rfl hk hl.1 rfl (lv_room hW) hd X.2.2.2.2.2.2.2.2.2.1
  refine va_calll hrun hS (fun q _ h => X.2.2.2.2.2.1 q h) X.2.2.2.2.2.1 (fun x u t H1 locs1 ht hvm hw hB hz hk1 hS1 => ?_)
  have hx : x = r.1 := hw
  rw [hx]
  exact K H1 locs1 ls (ht ▸ hB) (hP2.kept (fun k z hz2 => hk1 _ (hP2 k z hz2).lt (fun hq => X.2.2.2.2.2.2.2.1 _ hq ((X.2.2.2.2.1 ρ).2 k z hz2)))) hS1 hl
theorem l_Ri (n : Nat) (X : XL p R s m args meth c D ks A1 A2 ad1 ad2 b L xs ce sl) {y : MethodName} {bytes : ByteArray} {maxL k idx : Nat} {ret : Option FieldType} {rm : Room} {As rest : List Value} {r : Int32 × Mem} (cd : CDV RX12 RL idx y bytes maxL ret k) (hrm : rm.cells = 0 ∧ rm.slots = 0) (hR : rm.frames + 1 ≤ R.frames ∧ 8 + (maxL + 11) + rm.locals ≤ R.locals) (hM : Met l y (Cond.code y bytes maxL ret :: wg) rm (PC D ks 24 ad2 (shR ks ad2) ρ (.ref (ad2 0) :: As)) (QI D 24 ad2 (shR ks ad2) A2 r) 0 0 A2) (hk : As.length = k) (hst : As.reverse ++ .ref (ad2 0) :: rest = st) (hW : (rest.map fun v => v.category).sum ≤ 8) (hd : decode cL_law pc = .ok (.invokevirtual idx, 3)) (hn : pc + 3 = n) (K : GL p l e R s m args below meth c D ks ad1 ad2 Q ce sl μ r.2 (n) lv (.int r.1 :: rest)) : GL p l e R s m args below meth c D ks ad1 ad2 Q ce sl μ ρ (pc) lv (st) := by
  subst hn
  subst hst
  intro H locs ls hP hP2 hS hl
  have ho : OB (shR ks ad2) 24 0 11 (Fs12 ad2 0) := (o12 rfl)
  have hat : (wsM 24 ad2 (shR ks ad2) ρ)[0]? = some (ad2 0, .inr (11, Fs12 ad2 0 (ρ.1 0) (ρ.2.1 0) (ρ.2.2 0))) := by rw [wsM_at ho.1, ho.2]
  have hrecv := va_recv (q := (RX12, TX12, 36)) X.2.2.1 hP2 rfl hat
  have hrun := va_runV (p := p) (e := e) (below := below) (meth := meth) (locs := locs) (cells := ce) (slots := sl) (b := ad2 0) (As := As) (rest := rest) (g := F0 m pc ls (As.reverse ++ .ref (ad2 0) :: rest)) X.1 hM ⟨callB_of k X.1.2.2.2.2 (gw_cons cd.1 gw_self) rfl hrm.1 hrm.2 (X.1.2.2.2.2 _ cd.2.1) (X.1.2.2.2.2 _ cd.2.2.1.1) cd.2.2.2 hR, X.1.2.2.2.2 _ cd.2.2.1.2.1, X.1.2.2.2.2 _ cd.2.2.1.2.2⟩ ⟨PC_blind, hrecv, fun U hU hw2 => ⟨rfl, by rw [hU]; exact hP2, X.2.2.1.moved hw2.alike, X.2.1.warm hw2⟩⟩ rfl hk hl.1 rfl (lv_room hW) hd X.2.2.2.2.2.2.2.2.2.1
  refine va_calli hrun hS (fun q _ h => X.2.2.2.2.2.2.1 q h) X.2.2.2.2.2.2.1 (fun x u t H1 locs1 ht hvm hw hB hz hk1 hS1 => ?_)
  have hx : x = r.1 := hw
  rw [hx]
  exact K H1 locs1 ls (hP.kept (fun k z hz2 => hk1 _ (hP k z hz2).lt (fun hq => X.2.2.2.2.2.2.2.1 _ ((X.2.2.2.1 μ).2 k z hz2) hq))) (ht ▸ hB) hS1 hl
theorem l_Rl (n : Nat) (X : XL p R s m args meth c D ks A1 A2 ad1 ad2 b L xs ce sl) {y : MethodName} {bytes : ByteArray} {maxL k idx : Nat} {ret : Option FieldType} {rm : Room} {As rest : List Value} {r : Int64 × Mem} (cd : CDV RX12 RL idx y bytes maxL ret k) (hrm : rm.cells = 0 ∧ rm.slots = 0) (hR : rm.frames + 1 ≤ R.frames ∧ 8 + (maxL + 11) + rm.locals ≤ R.locals) (hM : Met l y (Cond.code y bytes maxL ret :: wg) rm (PC D ks 24 ad2 (shR ks ad2) ρ (.ref (ad2 0) :: As)) (QL D 24 ad2 (shR ks ad2) A2 r) 0 0 A2) (hk : As.length = k) (hst : As.reverse ++ .ref (ad2 0) :: rest = st) (hW : (rest.map fun v => v.category).sum ≤ 8) (hd : decode cL_law pc = .ok (.invokevirtual idx, 3)) (hn : pc + 3 = n) (K : GL p l e R s m args below meth c D ks ad1 ad2 Q ce sl μ r.2 (n) lv (.long r.1 :: rest)) : GL p l e R s m args below meth c D ks ad1 ad2 Q ce sl μ ρ (pc) lv (st) := by
  subst hn
  subst hst
  intro H locs ls hP hP2 hS hl
  have ho : OB (shR ks ad2) 24 0 11 (Fs12 ad2 0) := (o12 rfl)
  have hat : (wsM 24 ad2 (shR ks ad2) ρ)[0]? = some (ad2 0, .inr (11, Fs12 ad2 0 (ρ.1 0) (ρ.2.1 0) (ρ.2.2 0))) := by rw [wsM_at ho.1, ho.2]
  have hrecv := va_recv (q := (RX12, TX12, 36)) X.2.2.1 hP2 rfl hat
  have hrun := va_runV (p := p) (e := e) (below := below) (meth := meth) (locs := locs) (cells := ce) (slots := sl) (b := ad2 0) (As := As) (rest := rest) (g := F0 m pc ls (As.reverse ++ .ref (ad2 0) :: rest)) X.1 hM ⟨callB_of k X.1.2.2.2.2 (gw_cons cd.1 gw_self) rfl hrm.1 hrm.2 (X.1.2.2.2.2 _ cd.2.1) (X.1.2.2.2.2 _ cd.2.2.1.1) cd.2.2.2 hR, X.1.2.2.2.2 _ cd.2.2.1.2.1, X.1.2.2.2.2 _ cd.2.2.1.2.2⟩ ⟨PC_blind, hrecv, fun U hU hw2 => ⟨rfl, by rw [hU]; exact hP2, X.2.2.1.moved hw2.alike, X.2.1.warm hw2⟩⟩ rfl hk hl.1 rfl (lv_room hW) hd X.2.2.2.2.2.2.2.2.2.1
  refine va_calll hrun hS (fun q _ h => X.2.2.2.2.2.2.1 q h) X.2.2.2.2.2.2.1 (fun x u t H1 locs1 ht hvm hw hB hz hk1 hS1 => ?_)
  have hx : x = r.1 := hw
  rw [hx]
  exact K H1 locs1 ls (hP.kept (fun k z hz2 => hk1 _ (hP k z hz2).lt (fun hq => X.2.2.2.2.2.2.2.1 _ ((X.2.2.2.1 μ).2 k z hz2) hq))) (ht ▸ hB) hS1 hl
end GL
