
theorem nb0 : narrow .boolean (.int 0) = .int 0 := by decide +kernel
theorem nb1 : narrow .boolean (.int 1) = .int 1 := by decide +kernel
theorem fb0 : fits .boolean (.int 0) = true := by decide +kernel
theorem fb1 : fits .boolean (.int 1) = true := by decide +kernel
def zk {α : Type} (x : Int32) (k : Option α) : Option α := if x = 0 ∨ x = 1 then k else none
theorem zk_some {α : Type} {x : Int32} {k : Option α} {r : α} (h : zk x k = some r) : narrow .boolean (.int x) = .int x ∧ k = some r := by
  unfold zk at h
  by_cases hc : x = 0 ∨ x = 1
  · rw [if_pos hc] at h
    rcases hc with hc | hc
    · subst hc; exact ⟨nb0, h⟩
    · subst hc; exact ⟨nb1, h⟩
  · rw [if_neg hc] at h; cases h
theorem aiP {ks : Nat → ClassId} {ad : Nat → Nat} {t : Nat} (h : 1000 ≤ kindC t ∧ kindC t < 2000) : AI (shC ks ad) ks 75 t (kindC t - 1000) := aiC (by omega) (by omega)
def mxi (x y : Int32) : Int32 := if x < y then y else x
def mni (x y : Int32) : Int32 := if y < x then y else x
def abi (x : Int32) : Int32 := if 0 ≤ x then x else 0 - x
def isW {α : Type} (y : Nat) (k : Option α) : Option α := vdis y k k k
theorem isW_some {α : Type} {y : Nat} {k : Option α} {r : α} (h : isW y k = some r) : (kindC y = 102 ∨ kindC y = 104 ∨ kindC y = 108) ∧ k = some r := by
  rcases vdis_some h with ⟨a, b⟩ | ⟨a, b⟩ | ⟨a, b⟩
  · exact ⟨Or.inl a, b⟩
  · exact ⟨Or.inr (Or.inl a), b⟩
  · exact ⟨Or.inr (Or.inr a), b⟩
def acp {α : Type} (sp dp n : Int32) (l0 l1 : Nat) (k : Unit → Option α) : Option α := if sp < 0 ∨ dp < 0 ∨ n < 0 ∨ l0 < sp.toNatClampNeg + n.toNatClampNeg ∨ l1 < dp.toNatClampNeg + n.toNatClampNeg then none else k ()
theorem acp_some {α : Type} {sp dp n : Int32} {l0 l1 : Nat} {k : Unit → Option α} {r : α} (h : acp sp dp n l0 l1 k = some r) : ¬ sp < 0 ∧ ¬ dp < 0 ∧ ¬ n < 0 ∧ sp.toNatClampNeg + n.toNatClampNeg ≤ l0 ∧ dp.toNatClampNeg + n.toNatClampNeg ≤ l1 ∧ k () = some r := by
  unfold acp at h
  by_cases hc : sp < 0 ∨ dp < 0 ∨ n < 0 ∨ l0 < sp.toNatClampNeg + n.toNatClampNeg ∨ l1 < dp.toNatClampNeg + n.toNatClampNeg
  · rw [if_pos hc] at h; cases h
  · rw [if_neg hc] at h
    simp only [not_or] at hc
    exact ⟨hc.1, hc.2.1, hc.2.2.1, Nat.not_lt.mp hc.2.2.2.1, Nat.not_lt.mp hc.2.2.2.2, h⟩
/-- a static method under a subclass's name -/
def CDSI (owner own : String) (idx : Nat) (x y : MethodName) (bytes : ByteArray) (maxL : Nat) (ret : Option FieldType) (k : Nat) : Prop := Cond.code y bytes maxL ret ∈ wg ∧ Cond.initialized y.cls ∈ wg ∧ Cond.methodLink own idx x ∈ wg ∧ Cond.sameMethod x.cls owner x.name x.desc ∈ wg ∧ Cond.static y ∈ wg ∧ y = ⟨owner, x.name, x.desc⟩ ∧ HD owner x.desc k
section GM
variable {p : Program} {l : Launch} {e : Env} {R : Room} {s : State} {m : MethodId} {args : Array Value} {below : List Frame} {meth : Method} {c : Code} {cc : ByteArray} {nL : Nat} {own : String} {D : va_G} {ks : Nat → ClassId} {A : Nat → Prop} {Q : State → Prop} {N : Nat} {ad : Nat → Nat} {sh : Sh} {μ : Mem} {pc : Nat} {lv : List (Nat × Value)} {st : List Value}
theorem g_topi {x : Int32} {α : Type} {F : Int32 → Option α} {r : α} (h : bnd x F = some r) (K : ∀ v : Int32, F v = some r → G p l e R s m args below meth c D A nL Q N ad sh μ (pc) lv (.int v :: st)) : G p l e R s m args below meth c D A nL Q N ad sh μ (pc) lv (.int x :: st) := K x h
theorem g_topl {x : Int64} {α : Type} {F : Int64 → Option α} {r : α} (h : bnd x F = some r) (K : ∀ v : Int64, F v = some r → G p l e R s m args below meth c D A nL Q N ad sh μ (pc) lv (.long v :: st)) : G p l e R s m args below meth c D A nL Q N ad sh μ (pc) lv (.long x :: st) := K x h
theorem g_putW (n : Nat) (X : Cx p s m args meth c cc nL own D ks A 75 ad (shC ks ad)) {idx y : Nat} {v : Int32} (f2 : FP own idx 2 2 .int) (f4 : FP own idx 4 2 .int) (f8 : FP own idx 8 2 .int) (hd : decode cc pc = .ok (.putfield idx, 3)) {α : Type} {F : Mem → Option α} {r : α} (h : isW y (bnd (ui μ y 2 v) F) = some r) (hn : pc + 3 = n) (K : ∀ μ2 : Mem, F μ2 = some r → G p l e R s m args below meth c D A nL Q 75 ad (shC ks ad) μ2 (n) lv (st)) : G p l e R s m args below meth c D A nL Q 75 ad (shC ks ad) μ (pc) lv (.int v :: .ref (ad y) :: st) := by
  obtain ⟨hk, h⟩ := isW_some h
  rcases hk with hk | hk | hk
  · exact g_puti n X f2 (o2 hk) rfl (Nat.le_of_ble_eq_true rfl) rfl rfl hd h hn K
  · exact g_puti n X f4 (o4 hk) rfl (Nat.le_of_ble_eq_true rfl) rfl rfl hd h hn K
  · exact g_puti n X f8 (o8 hk) rfl (Nat.le_of_ble_eq_true rfl) rfl rfl hd h hn K
theorem g_inst2 (n : Nat) (X : Cx p s m args meth c cc nL own D ks A 75 ad (shC ks ad)) {idx : Nat} {x : Option Nat} (hw : Cond.classLink own idx RX2 ∈ wg) (hd : decode cc pc = .ok (.instanceof idx, 3)) {α : Type} {F : Int32 → Option α} {r : α} (h : instk x 102 F = some r) (hn : pc + 3 = n) (K : ∀ v : Int32, F v = some r → G p l e R s m args below meth c D A nL Q 75 ad (shC ks ad) μ (n) lv (.int v :: st)) : G p l e R s m args below meth c D A nL Q 75 ad (shC ks ad) μ (pc) lv (va_rf (x.map ad) :: st) := by
  subst hn
  cases x with
  | none => exact fun H locs ls hP hS hl => lv_instN X.1.1 X.1.2.1 hd (K 0 h H locs ls hP hS hl)
  | some y =>
  rcases vdis_some h with ⟨kk, b⟩ | ⟨kk, b⟩ | ⟨kk, b⟩
  · have hat := (X.2.2.1.1 _ _ (show vwCl[2]? = some (RX2, TX2, _) from rfl)).2
    exact fun H locs ls hP hS hl => va_instS X.1.1 X.1.2.1 X.1.2.2.2.1 (X.1.2.2.2.2 _ hw) hat (g_recv X (o2 kk) rfl H hP) hd (K 1 b H locs ls hP hS hl)
  · exact fun H locs ls hP hS hl => va_instNo X.1.1 X.1.2.1 X.1.2.2.2.1 (X.1.2.2.2.2 _ hw) X.2.1.2.1 (g_recv X (o4 kk) rfl H hP) hd (K 0 b H locs ls hP hS hl)
  · exact fun H locs ls hP hS hl => va_instNo X.1.1 X.1.2.1 X.1.2.2.2.1 (X.1.2.2.2.2 _ hw) X.2.1.2.2.1 (g_recv X (o8 kk) rfl H hP) hd (K 0 b H locs ls hP hS hl)
theorem g_cast2 (n : Nat) (X : Cx p s m args meth c cc nL own D ks A 75 ad (shC ks ad)) {idx y : Nat} (hw : Cond.classLink own idx RX2 ∈ wg) (kk : kindC y = 102) (hd : decode cc pc = .ok (.checkcast idx, 3)) (hn : pc + 3 = n) (K : G p l e R s m args below meth c D A nL Q 75 ad (shC ks ad) μ (n) lv (.ref (ad y) :: st)) : G p l e R s m args below meth c D A nL Q 75 ad (shC ks ad) μ (pc) lv (.ref (ad y) :: st) := by
  subst hn
  have hat := (X.2.2.1.1 _ _ (show vwCl[2]? = some (RX2, TX2, _) from rfl)).2
  exact fun H locs ls hP hS hl => va_castS X.1.1 X.1.2.1 X.1.2.2.2.1 (X.1.2.2.2.2 _ hw) hat (g_recv X (o2 kk) rfl H hP) hd (K H locs ls hP hS hl)
theorem g_inst4 (n : Nat) (X : Cx p s m args meth c cc nL own D ks A 75 ad (shC ks ad)) {idx : Nat} {x : Option Nat} (hw : Cond.classLink own idx RX4 ∈ wg) (hd : decode cc pc = .ok (.instanceof idx, 3)) {α : Type} {F : Int32 → Option α} {r : α} (h : instk x 104 F = some r) (hn : pc + 3 = n) (K : ∀ v : Int32, F v = some r → G p l e R s m args below meth c D A nL Q 75 ad (shC ks ad) μ (n) lv (.int v :: st)) : G p l e R s m args below meth c D A nL Q 75 ad (shC ks ad) μ (pc) lv (va_rf (x.map ad) :: st) := by
  subst hn
  cases x with
  | none => exact fun H locs ls hP hS hl => lv_instN X.1.1 X.1.2.1 hd (K 0 h H locs ls hP hS hl)
  | some y =>
  rcases vdis_some h with ⟨kk, b⟩ | ⟨kk, b⟩ | ⟨kk, b⟩
  · exact fun H locs ls hP hS hl => va_instNo X.1.1 X.1.2.1 X.1.2.2.2.1 (X.1.2.2.2.2 _ hw) X.2.1.2.2.2.1 (g_recv X (o2 kk) rfl H hP) hd (K 0 b H locs ls hP hS hl)
  · have hat := (X.2.2.1.1 _ _ (show vwCl[4]? = some (RX4, TX4, _) from rfl)).2
    exact fun H locs ls hP hS hl => va_instS X.1.1 X.1.2.1 X.1.2.2.2.1 (X.1.2.2.2.2 _ hw) hat (g_recv X (o4 kk) rfl H hP) hd (K 1 b H locs ls hP hS hl)
  · exact fun H locs ls hP hS hl => va_instNo X.1.1 X.1.2.1 X.1.2.2.2.1 (X.1.2.2.2.2 _ hw) X.2.1.2.2.2.2 (g_recv X (o8 kk) rfl H hP) hd (K 0 b H locs ls hP hS hl)
theorem g_cast4 (n : Nat) (X : Cx p s m args meth c cc nL own D ks A 75 ad (shC ks ad)) {idx y : Nat} (hw : Cond.classLink own idx RX4 ∈ wg) (kk : kindC y = 104) (hd : decode cc pc = .ok (.checkcast idx, 3)) (hn : pc + 3 = n) (K : G p l e R s m args below meth c D A nL Q 75 ad (shC ks ad) μ (n) lv (.ref (ad y) :: st)) : G p l e R s m args below meth c D A nL Q 75 ad (shC ks ad) μ (pc) lv (.ref (ad y) :: st) := by
  subst hn
  have hat := (X.2.2.1.1 _ _ (show vwCl[4]? = some (RX4, TX4, _) from rfl)).2
  exact fun H locs ls hP hS hl => va_castS X.1.1 X.1.2.1 X.1.2.2.2.1 (X.1.2.2.2.2 _ hw) hat (g_recv X (o4 kk) rfl H hP) hd (K H locs ls hP hS hl)
theorem g_mmax (n : Nat) (X : Cx p s m args meth c cc nL own D ks A N ad sh) {idx : Nat} {x y : Int32} (hw : Cond.methodLink own idx Lib.Math.max.name ∈ wg) (hR : 1 ≤ R.frames ∧ (st.map fun v => v.category).sum + 13 ≤ R.locals) (hd : decode cc pc = .ok (.invokestatic idx, 3)) {α : Type} {F : Int32 → Option α} {r : α} (h : bnd (mxi x y) F = some r) (hn : pc + 3 = n) (K : ∀ v : Int32, F v = some r → G p l e R s m args below meth c D A nL Q N ad sh μ (n) lv (.int v :: st)) : G p l e R s m args below meth c D A nL Q N ad sh μ (pc) lv (.int y :: .int x :: st) := by
  subst hn
  exact fun H locs ls hP hS hl => va_mmax X.1.1 X.1.2.1 (X.1.2.2.1.trans hl.1.symm) X.1.2.2.2.1 (X.1.2.2.2.2 _ hw) (X.1.2.2.2.2 _ m670) (X.1.2.2.2.2 _ m80) (X.1.2.2.2.2 _ m671) hR.1 hR.2 (Nat.zero_le _) (Nat.zero_le _) hd (K _ h H locs ls hP hS hl)
theorem g_mmin (n : Nat) (X : Cx p s m args meth c cc nL own D ks A N ad sh) {idx : Nat} {x y : Int32} (hw : Cond.methodLink own idx Lib.Math.min.name ∈ wg) (hR : 1 ≤ R.frames ∧ (st.map fun v => v.category).sum + 13 ≤ R.locals) (hd : decode cc pc = .ok (.invokestatic idx, 3)) {α : Type} {F : Int32 → Option α} {r : α} (h : bnd (mni x y) F = some r) (hn : pc + 3 = n) (K : ∀ v : Int32, F v = some r → G p l e R s m args below meth c D A nL Q N ad sh μ (n) lv (.int v :: st)) : G p l e R s m args below meth c D A nL Q N ad sh μ (pc) lv (.int y :: .int x :: st) := by
  subst hn
  exact fun H locs ls hP hS hl => va_mmin X.1.1 X.1.2.1 (X.1.2.2.1.trans hl.1.symm) X.1.2.2.2.1 (X.1.2.2.2.2 _ hw) (X.1.2.2.2.2 _ m633) (X.1.2.2.2.2 _ m80) (X.1.2.2.2.2 _ m634) hR.1 hR.2 (Nat.zero_le _) (Nat.zero_le _) hd (K _ h H locs ls hP hS hl)
theorem g_mabs (n : Nat) (X : Cx p s m args meth c cc nL own D ks A N ad sh) {idx : Nat} {x : Int32} (hw : Cond.methodLink own idx Lib.Math.abs.name ∈ wg) (hR : 1 ≤ R.frames ∧ (st.map fun v => v.category).sum + 13 ≤ R.locals) (hd : decode cc pc = .ok (.invokestatic idx, 3)) {α : Type} {F : Int32 → Option α} {r : α} (h : bnd (abi x) F = some r) (hn : pc + 3 = n) (K : ∀ v : Int32, F v = some r → G p l e R s m args below meth c D A nL Q N ad sh μ (n) lv (.int v :: st)) : G p l e R s m args below meth c D A nL Q N ad sh μ (pc) lv (.int x :: st) := by
  subst hn
  exact fun H locs ls hP hS hl => va_mabs X.1.1 X.1.2.1 (X.1.2.2.1.trans hl.1.symm) X.1.2.2.2.1 (X.1.2.2.2.2 _ hw) (X.1.2.2.2.2 _ m923) (X.1.2.2.2.2 _ m80) (X.1.2.2.2.2 _ m924) hR.1 hR.2 (Nat.zero_le _) (Nat.zero_le _) hd (K _ h H locs ls hP hS hl)
theorem g_copy (n : Nat) (X : Cx p s m args meth c cc nL RX11 D ks A 75 ad (shC ks ad)) {src dst l0 l1 : Nat} {sp dp cnt : Int32} (a0 : AI (shC ks ad) ks 75 src l0) (a1 : AI (shC ks ad) ks 75 dst l1) (hR : 1 ≤ R.frames ∧ 18 ≤ R.locals) (hd : decode cc pc = .ok (.invokestatic 279, 3)) {α : Type} {F : Mem → Option α} {r : α} (h : acp sp dp cnt l0 l1 (fun _ => bnd (uc μ dst (va_cpy (μ.1 src) (μ.1 dst) sp.toNatClampNeg dp.toNatClampNeg cnt.toNatClampNeg)) F) = some r) (hn : pc + 3 = n) (K : ∀ μ2 : Mem, F μ2 = some r → G p l e R s m args below meth c D A nL Q 75 ad (shC ks ad) μ2 (n) lv ([])) : G p l e R s m args below meth c D A nL Q 75 ad (shC ks ad) μ (pc) lv ([.int cnt, .int dp, .ref (ad dst), .int sp, .ref (ad src)]) := by
  subst hn
  obtain ⟨h1, h2, h3, h4, h5, h6⟩ := acp_some h
  have e0 := wsM_at (ad := ad) (sh := shC ks ad) (μ := μ) a0.1
  have e1 := wsM_at (ad := ad) (sh := shC ks ad) (μ := μ) a1.1
  rw [a0.2] at e0
  rw [a1.2] at e1
  exact fun H locs ls hP hS hl => va_copyi X.1.1 X.1.2.1 (X.1.2.2.1.trans hl.1.symm) X.1.2.2.2.1 (X.1.2.2.2.2 _ m993) (X.1.2.2.2.2 _ m995) (X.1.2.2.2.2 _ m994) (X.1.2.2.2.2 _ m82) X.2.2.1 hP (X.2.2.2.2 μ) hS src dst 0 0 e0 e1 rfl rfl rfl h1 h2 h3 h4 h5 (fun _ _ => rfl) hR.1 hR.2 hd (fun H1 locs1 hP1 _ hS1 => K _ h6 H1 locs1 ls ((wsM_uc a1.1 (a1.2 _ _ _)) ▸ hP1) hS1 hl)
end GM
/-- a static method under a subclass's name: what the first call leaves in the tables changes nothing -/
theorem si_cold {Qw : Unit → Pre} {Ew : CtlPost} {e : Env} {dw : Bool} {acts : List Action} {s s0 : State} {f : JFrame} {index ci n kc : Nat} {mt : MethodId} {dk ck : Class} {cf : ClassFile} {name desc : String} (hs : s.topJava?.isSome) (hp : e.platform.polymorphicOnlyByInvokevirtual = true)
    (hW : s0.WarmedH s.vm) (hE : s0.MethodEntryUp e s.vm f.method.cls index kc mt ci) (h1 : s0.vm.classes[f.method.cls]? = some dk) (h2 : dk.cf = some cf)
    (h3 : cf.constantPool[index]? = some (if false then .interfaceMethodref ci n else .methodref ci n)) (h4 : cf.constantPool.nameAndType? n = some (name, desc))
    (hck : s0.vm.classes[kc]? = some ck) (hnone : (ck.methods.any fun x => x.name == name && !x.isStatic && signaturePolymorphic ck x) = false) :
    wp (invokestatic.sem index) Qw Ew e dw acts (s.setTop f) ↔ wp (invokestatic.sem index) Qw Ew e dw acts ((s.setVm (s.vm.calledUp f.method.cls ci index kc mt)).setTop f) := by
  obtain ⟨a1, -, a3, a4⟩ := hE.classFirst
  obtain ⟨d0, hd0, ed0⟩ := hW.alike.2.2 _ _ h1
  obtain ⟨d2, hd2, ed2⟩ := hE.warmed.alike.2.2 _ _ h1
  obtain ⟨c1, hc1, ec1⟩ := a3.alike.2.2 _ _ hck
  obtain ⟨c2, hc2, ec2⟩ := hE.warmed.alike.2.2 _ _ hck
  have r0 := memberRef_ask_via (e := e) hd0 (by rw [ed0]; exact h2) h3 h4
  have r2 := memberRef_ask_via (e := e) hd2 (by rw [ed2]; exact h2) h3 h4
  have n1 : (c1.methods.any fun x => x.name == name && !x.isStatic && signaturePolymorphic c1 x) = false := by rw [ec1]; exact hnone
  have n2 : (c2.methods.any fun x => x.name == name && !x.isStatic && signaturePolymorphic c2 x) = false := by rw [ec2]; exact hnone
  have s1 : (s.setVm (s.vm.noted f.method.cls ci (.cls kc))).topJava?.isSome := hs
  have s2 : (s.setVm (s.vm.calledUp f.method.cls ci index kc mt)).topJava?.isSome := hs
  have g1 : ∀ {Q2 : ClassId → Pre} {d2 : Bool} {acts2 : List Action}, wp (Jvm.resolveClassAt ci) Q2 Ew e d2 acts2 (s.setTop f) ↔ Q2 kc d2 acts2 ((s.setVm (s.vm.noted f.method.cls ci (.cls kc))).setTop f) :=
    Jvm.W.resolveClassAt_links (t := s.setTop f) (State.method?_setTop f hs) a1
  have g2 : ∀ {Q2 : MethodId → Pre} {d2 : Bool} {acts2 : List Action}, wp (Jvm.resolveMethodAt index) Q2 Ew e d2 acts2 ((s.setVm (s.vm.noted f.method.cls ci (.cls kc))).setTop f) ↔ Q2 mt d2 acts2 ((s.setVm (s.vm.calledUp f.method.cls ci index kc mt)).setTop f) :=
    Jvm.W.resolveMethodAt_links (t := (s.setVm (s.vm.noted f.method.cls ci (.cls kc))).setTop f) (State.method?_setTop f s1) a4
  simp [invokestatic.sem, hp, Seam.memberRefOf, State.method?_setTop f hs, State.method?_setTop f s2, r0, r2, g1, Jvm.W.resolveClassAt_ready (s := (s.setVm (s.vm.calledUp f.method.cls ci index kc mt)).setTop f) (State.method?_setTop f s2) hE.classReady, hc1, hc2, n1, n2, g2, Jvm.W.resolveMethodAt_ready (s := (s.setVm (s.vm.calledUp f.method.cls ci index kc mt)).setTop f) (State.method?_setTop f s2) hE.ready, -Array.any_eq_true]
section GI
variable {p : Program} {l : Launch} {e : Env} {R : Room} {s : State} {m : MethodId} {args : Array Value} {below : List Frame} {meth : Method} {c : Code} {cc : ByteArray} {nL : Nat} {own : String} {D : va_G} {ks : Nat → ClassId} {A : Nat → Prop} {Q : State → Prop} {N : Nat} {ad : Nat → Nat} {sh : Sh} {μ : Mem} {pc : Nat} {lv : List (Nat × Value)} {st : List Value}
theorem si_call {T : State} {locs : List Loc} {cells slots : Nat} (X : Stand p l e R s m args below meth c T locs cells slots) (hexec : p.tables.exec = Jvm.exec)
    {own owner : String} {index : Nat} {x : MethodName} (hown : s.vm.findClass own = some m.cls) (hlink : (Cond.methodLink own index x).before args s = true)
    (hsame : (Cond.sameMethod x.cls owner x.name x.desc).before args s = true) (howner : owner ≠ "java/lang/invoke/MethodHandle" ∧ owner ≠ "java/lang/invoke/VarHandle")
    {mt : MethodId} {tm : Method} {kt : Class} (hn : s.methodNamed? ⟨owner, x.name, x.desc⟩ = some mt) (hm : s.vm.method? mt = some tm) (hstatic : tm.isStatic = true)
    (hk : s.vm.classes[mt.cls]? = some kt) (hinit : kt.init = .initialized)
    {g : JFrame} (hg : g.method = m) {argsL rest : List Value} (hlen : argsL.length = tm.sig.parameters.length) (hstack : g.stack = argsL.reverse ++ rest)
    (hdg : decode c.code g.pc = .ok (.invokestatic index, 3)) :
    ∃ vm2, Stand p l e R s m args below meth c (T.setVm vm2) locs cells slots ∧
      ∀ target, (∀ acts, Steps p.tables e below (doInvoke e ((T.setVm vm2).setTop { g with stack := rest }) acts mt argsL.toArray).1 target) → Steps p.tables e below (T.setTop g) target := by
  have hpl : e.platform.magicAccessors = ({} : Platform).magicAccessors := by rw [X.admits.platform]
  have hpv : e.platform.polymorphicOnlyByInvokevirtual = true := by rw [X.admits.platform]
  obtain ⟨cn, ck, r1, hcn, hck, hni, hf, hn1⟩ := Cond.sameMethod_found hsame
  cases hn.symm.trans hn1
  obtain ⟨ci, hl, hright⟩ := Cond.methodLink_specUp hown hcn hck hni hf hlink e.platform hpl (by rw [X.admits.platform])
  have hE : s.MethodEntryUp e T.vm m.cls index cn mt ci := State.methodEntryUp X.warmed hl hright
  obtain ⟨kx, hkx, hnx⟩ := className_of_methodNamed hn
  cases hk.symm.trans hkx
  obtain ⟨dk, cfile, nt, mname, mdesc, ck3, -, -, hd, hcf, hcp, hnt, -, -, hck3, -, hnopoly, -⟩ := hl.here
  cases hck.symm.trans hck3
  have alike := hE.warmed.alike
  obtain ⟨dk2, hdk2, hed2⟩ := alike.2.2 _ _ hd
  obtain ⟨kt2, hkt2, het2⟩ := alike.2.2 _ _ hk
  obtain ⟨ck2, hck2, hec2⟩ := alike.2.2 _ _ hck
  have hnone : (ck.methods.any fun y => y.name == mname && !y.isStatic && signaturePolymorphic ck y) = false := by simp [hnopoly]
  have hnone2 : (ck2.methods.any fun y => y.name == mname && !y.isStatic && signaturePolymorphic ck2 y) = false := by rw [hec2]; exact hnone
  have hcp2 : cfile.constantPool[index]? = some (if false then .interfaceMethodref ci nt else .methodref ci nt) := hcp
  refine ⟨T.vm.calledUp m.cls ci index cn mt, X.noted hE.warmed, fun target hrest => ?_⟩
  subst hg
  jvm_step X.here [hexec, hdg, si_cold (e := e) (s := T) (s0 := s) (f := g) X.here.top hpv X.warmed hE hd hcf hcp2 hnt hck hnone,
    invokestatic.wp_ready (e := e) (s := T.setVm (T.vm.calledUp g.method.cls ci index cn mt)) (k := kt2) (meth := tm) (m := mt) (args := argsL) (rest := rest) (f := g)
      X.here.top ⟨ci, mname, mdesc, false, cn, ck2, memberRef_ask_via (e := e) hdk2 (by rw [hed2]; exact hcf) hcp2 hnt, hE.classReady, hck2, hnone2⟩ hE.ready hkt2
      (by show (T.vm.calledUp g.method.cls ci index cn mt).method? mt = some tm; rw [alike.method?]; exact hm)
      (by rw [het2]; show signaturePolymorphic kt tm = false; simp [signaturePolymorphic, hnx, howner.1, howner.2]) hstatic (by rw [het2]; exact hinit) hlen hstack]
  exact fun acts => hrest _
theorem r_SI (X : Cx p s m args meth c cc nL own D ks A N ad sh) {y x : MethodName} {owner : String} {bytes : ByteArray} {maxL k idx : Nat} {ret : Option FieldType} {rm : Room} {Pc : Array Value → State → Prop} {Qc : Array Value → State → Outcome → State → Prop} {Fr : Nat → Prop} {As rest : List Value} (cd : CDSI owner own idx x y bytes maxL ret k) (hrm : rm.cells = 0 ∧ rm.slots = 0) (hR : rm.frames + 1 ≤ R.frames ∧ 8 + (maxL + 11) + rm.locals ≤ R.locals) (hM : Met l y (Cond.code y bytes maxL ret :: wg) rm Pc Qc 0 0 Fr) (hbl : FrameBlind Pc) (hpre : ∀ (H : Heap) (U : State), va_P D vwCl (wsM N ad sh μ) H → U.heap = H → s.WarmedH U.vm → Pc As.toArray U) (hk : As.length = k) (hst : As.reverse ++ rest = st) (hW : (rest.map fun v => v.category).sum ≤ 8) (hd : decode cc pc = .ok (.invokestatic idx, 3)) : RunG p l e R s m args below meth c D A nL N ad sh μ pc lv st rest Qc Fr := by
  subst hst
  intro H locs ls hP hS hl
  refine ⟨As.toArray, ?_⟩
  obtain ⟨hcm, him, hlm, hsm, hstm, hyx, hhd⟩ := cd
  have hts := X.1.2.2.2.2
  have hcode := hts _ hcm
  have hK := back_of (R := R) (p := p) (e := e) (below := below) (s := s) (sargs := args) (len := 3) (W := 8) hM hbl hrm.1 hrm.2 hR.1 hR.2 (pay_in hts (gw_cons hcm gw_self)) List.mem_cons_self (fun a2 U hU => word_at hU (gw_self _ him).2 (hts _ him))
  intro T hT XT
  obtain ⟨mk, hnamed⟩ := Cond.code_named hcode
  obtain ⟨methM, cM, hmethM, -, -, -, -, -, -, hsigM⟩ := Cond.code_spec hnamed hcode
  have hstatic : methM.isStatic = true := Cond.static_spec hnamed hmethM (hts _ hstm)
  obtain ⟨kP, hkP, -⟩ := className_of_methodNamed hnamed
  have hinitP : kP.init = .initialized := Cond.initialized_spec (findClass_of_methodNamed hnamed) hkP (hts _ him)
  have hlen : As.length = methM.sig.parameters.length := by
    have h2 := hhd.2.2
    rw [hyx] at hsigM
    rw [show parseMethodDescriptor x.desc = some methM.sig from hsigM] at h2
    rw [hk]; exact (Option.some.inj h2).symm
  obtain ⟨vm1, X1, hstep1⟩ := si_call XT X.1.1 X.1.2.2.2.1 (hts _ hlm) (hts _ hsm) ⟨hhd.1, hhd.2.1⟩ (hyx ▸ hnamed) hmethM hstatic hkP hinitP (g := F0 m pc ls (As.reverse ++ rest)) rfl hlen rfl (by rw [X.1.2.1]; exact hd)
  obtain ⟨v, ⟨U2, l2, c2, s2⟩, X2, ⟨g2, mk2, t, L, e1, e2, hq, h1, hL, h2, h3⟩, hsteps⟩ := hK m meth c ⟨T.setVm vm1, locs, 0, 0⟩ { F0 m pc ls (As.reverse ++ rest) with stack := rest } (.invokestatic idx) mk As.toArray X1 rfl (hl.1.trans X.1.2.2.1.symm) (by rw [X.1.2.1]; exact hd) (lv_room hW) (X1.named hnamed) ⟨Nat.zero_le _, Nat.zero_le _, hpre H (T.setVm vm1) hP hT X1.warmed⟩
  dsimp only [Pt.U, Pt.locs, Pt.cells, Pt.slots] at X2 e1 e2 h1 h2 h3 hsteps
  subst h1; subst h2; subst h3
  exact ⟨v, (T.setVm vm1).calling g2 mk2 As.toArray, t, U2, L, hT, X2, hL, e1, e2, hq, fun target h => hstep1 _ fun acts => by rw [doInvoke_state]; exact hsteps.trans h⟩
end GI
