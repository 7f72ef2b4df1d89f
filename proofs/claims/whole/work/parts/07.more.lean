
theorem nb0 : narrow .boolean (.int 0) = .int 0 := by decide +kernel
theorem nb1 : narrow .boolean (.int 1) = .int 1 := by decide +kernel
theorem fb0 : fits .boolean (.int 0) = true := by decide +kernel
theorem fb1 : fits .boolean (.int 1) = true := by decide +kernel
def zk {α : Type} (x : Int32) (k : Option α) : Option α := if x = 0 ∨ x = 1 then k else none
theorem zk_some {α : Type} {x : Int32} {k : Option α} {r : α} (h : zk x k = some r) : narrow .boolean (.int x) = .int x ∧ k = some r := by
  unfold zk at h
  by_cases hc : x = 0 ∨ x = 1
  · rw [if_pos hc] at h
    rcases hc with hc | hc
    · subst hc; exact ⟨nb0, h⟩
    · subst hc; exact ⟨nb1, h⟩
  · rw [if_neg hc] at h; cases h
theorem aiP {ks : Nat → ClassId} {ad : Nat → Nat} {t : Nat} (h : 1000 ≤ kindC t ∧ kindC t < 2000) : AI (shC ks ad) ks 75 t (kindC t - 1000) := aiC (by omega) (by omega)
def mxi (x y : Int32) : Int32 := if x < y then y else x
def mni (x y : Int32) : Int32 := if y < x then y else x
def abi (x : Int32) : Int32 := if 0 ≤ x then x else 0 - x
def isW {α : Type} (y : Nat) (k : Option α) : Option α := vdis y k k k
theorem isW_some {α : Type} {y : Nat} {k : Option α} {r : α} (h : isW y k = some r) : (kindC y = 102 ∨ kindC y = 104 ∨ kindC y = 108) ∧ k = some r := by
  rcases vdis_some h with ⟨a, b⟩ | ⟨a, b⟩ | ⟨a, b⟩
  · exact ⟨Or.inl a, b⟩
  · exact ⟨Or.inr (Or.inl a), b⟩
  · exact ⟨Or.inr (Or.inr a), b⟩
def acp {α : Type} (sp dp n : Int32) (l0 l1 : Nat) (k : Unit → Option α) : Option α := if sp < 0 ∨ dp < 0 ∨ n < 0 ∨ l0 < sp.toNatClampNeg + n.toNatClampNeg ∨ l1 < dp.toNatClampNeg + n.toNatClampNeg then none else k ()
theorem acp_some {α : Type} {sp dp n : Int32} {l0 l1 : Nat} {k : Unit → Option α} {r : α} (h : acp sp dp n l0 l1 k = some r) : ¬ sp < 0 ∧ ¬ dp < 0 ∧ ¬ n < 0 ∧ sp.toNatClampNeg + n.toNatClampNeg ≤ l0 ∧ dp.toNatClampNeg + n.toNatClampNeg ≤ l1 ∧ k () = some r := by
  unfold acp at h
  by_cases hc : sp < 0 ∨ dp < 0 ∨ n < 0 ∨ l0 < sp.toNatClampNeg + n.toNatClampNeg ∨ l1 < dp.toNatClampNeg + n.toNatClampNeg
  · rw [if_pos hc] at h; cases h
  · rw [if_neg hc] at h
    simp only [not_or] at hc
    exact ⟨hc.1, hc.2.1, hc.2.2.1, Nat.not_lt.mp hc.2.2.2.1, Nat.not_lt.mp hc.2.2.2.2, h⟩
/-- a static method under a subclass's name -/
def CDSI (owner own : String) (idx : Nat) (x y : MethodName) (bytes : ByteArray) (maxL : Nat) (ret : Option FieldType) (k : Nat) : Prop := Cond.code y bytes maxL ret ∈ wg ∧ Cond.initialized y.cls ∈ wg ∧ Cond.methodLink own idx x ∈ wg ∧ Cond.sameMethod x.cls owner x.name x.desc ∈ wg ∧ Cond.static y ∈ wg ∧ y = ⟨owner, x.name, x.desc⟩ ∧ HD owner x.desc k
section GM
variable {p : Program} {l : Launch} {e : Env} {R : Room} {s : State} {m : MethodId} {args : Array Value} {below : List Frame} {meth : Method} {c : Code} {cc : ByteArray} {nL : Nat} {own : String} {D : va_G} {ks : Nat → ClassId} {A : Nat → Prop} {Q : State → Prop} {N : Nat} {ad : Nat → Nat} {sh : Sh} {μ : Mem} {pc : Nat} {lv : List (Nat × Value)} {st : List Value}
theorem g_topi {x : Int32} {α : Type} {F : Int32 → Option α} {r : α} (h : bnd x F = some r) (K : ∀ v : Int32, F v = some r → G p l e R s m args below meth c D A nL Q N ad sh μ (pc) lv (.int v :: st)) : G p l e R s m args below meth c D A nL Q N ad sh μ (pc) lv (.int x :: st) := K x h
theorem g_topl {x : Int64} {α : Type} {F : Int64 → Option α} {r : α} (h : bnd x F = some r) (K : ∀ v : Int64, F v = some r → G p l e R s m args below meth c D A nL Q N ad sh μ (pc) lv (.long v :: st)) : G p l e R s m args below meth c D A nL Q N ad sh μ (pc) lv (.long x :: st) := K x h
theorem g_putW (n : Nat) (X : Cx p s m args meth c cc nL own D ks A 75 ad (shC ks ad)) {idx y : Nat} {v : Int32} (f2 : FP own idx 2 2 .int) (f4 : FP own idx 4 2 .int) (f8 : FP own idx 8 2 .int) (hd : decode cc pc = .ok (.putfield idx, 3)) {α : Type} {F : Mem → Option α} {r : α} (h : isW y (bnd (ui μ y 2 v) F) = some r) (hn : pc + 3 = n) (K : ∀ μ2 : Mem, F μ2 = some r → G p l e R s m args below meth c D A nL Q 75 ad (shC ks ad) μ2 (n) lv (st)) : G p l e R s m args below meth c D A nL Q 75 ad (shC ks ad) μ (pc) lv (.int v :: .ref (ad y) :: st) := by
  obtain ⟨hk, h⟩ := isW_some h
  rcases hk with hk | hk | hk
  · exact g_puti n X f2 (o2 hk) rfl (Nat.le_of_ble_eq_true rfl) rfl rfl hd h hn K
  · exact g_puti n X f4 (o4 hk) rfl (Nat.le_of_ble_eq_true rfl) rfl rfl hd h hn K
  · exact g_puti n X f8 (o8 hk) rfl (Nat.le_of_ble_eq_true rfl) rfl rfl hd h hn K
theorem g_inst2 (n : Nat) (X : Cx p s m args meth c cc nL own D ks A 75 ad (shC ks ad)) {idx : Nat} {x : Option Nat} (hw : Cond.classLink own idx RX2 ∈ wg) (hd : decode cc pc = .ok (.instanceof idx, 3)) {α : Type} {F : Int32 → Option α} {r : α} (h : instk x 102 F = some r) (hn : pc + 3 = n) (K : ∀ v : Int32, F v = some r → G p l e R s m args below meth c D A nL Q 75 ad (shC ks ad) μ (n) lv (.int v :: st)) : G p l e R s m args below meth c D A nL Q 75 ad (shC ks ad) μ (pc) lv (va_rf (x.map ad) :: st) := by
  subst hn
  cases x with
  | none => exact fun H locs ls hP hS hl => lv_instN X.1.1 X.1.2.1 hd (K 0 h H locs ls hP hS hl)
  | some y =>
  rcases vdis_some h with ⟨kk, b⟩ | ⟨kk, b⟩ | ⟨kk, b⟩
  · have hat := (X.2.2.1.1 _ _ (show vwCl[2]? = some (RX2, TX2, _) from rfl)).2
    exact fun H locs ls hP hS hl => va_instS X.1.1 X.1.2.1 X.1.2.2.2.1 (X.1.2.2.2.2 _ hw) hat (g_recv X (o2 kk) rfl H hP) hd (K 1 b H locs ls hP hS hl)
  · exact fun H locs ls hP hS hl => va_instNo X.1.1 X.1.2.1 X.1.2.2.2.1 (X.1.2.2.2.2 _ hw) X.2.1.2.1 (g_recv X (o4 kk) rfl H hP) hd (K 0 b H locs ls hP hS hl)
  · exact fun H locs ls hP hS hl => va_instNo X.1.1 X.1.2.1 X.1.2.2.2.1 (X.1.2.2.2.2 _ hw) X.2.1.2.2.1 (g_recv X (o8 kk) rfl H hP) hd (K 0 b H locs ls hP hS hl)
theorem g_cast2 (n : Nat) (X : Cx p s m args meth c cc nL own D ks A 75 ad (shC ks ad)) {idx y : Nat} (hw : Cond.classLink own idx RX2 ∈ wg) (kk : kindC y = 102) (hd : decode cc pc = .ok (.checkcast idx, 3)) (hn : pc + 3 = n) (K : G p l e R s m args below meth c D A nL Q 75 ad (shC ks ad) μ (n) lv (.ref (ad y) :: st)) : G p l e R s m args below meth c D A nL Q 75 ad (shC ks ad) μ (pc) lv (.ref (ad y) :: st) := by
  subst hn
  have hat := (X.2.2.1.1 _ _ (show vwCl[2]? = some (RX2, TX2, _) from rfl)).2
  exact fun H locs ls hP hS hl => va_castS X.1.1 X.1.2.1 X.1.2.2.2.1 (X.1.2.2.2.2 _ hw) hat (g_recv X (o2 kk) rfl H hP) hd (K H locs ls hP hS hl)
theorem g_inst4 (n : Nat) (X : Cx p s m args meth c cc nL own D ks A 75 ad (shC ks ad)) {idx : Nat} {x : Option Nat} (hw : Cond.classLink own idx RX4 ∈ wg) (hd : decode cc pc = .ok (.instanceof idx, 3)) {α : Type} {F : Int32 → Option α} {r : α} (h : instk x 104 F = some r) (hn : pc + 3 = n) (K : ∀ v : Int32, F v = some r → G p l e R s m args below meth c D A nL Q 75 ad (shC ks ad) μ (n) lv (.int v :: st)) : G p l e R s m args below meth c D A nL Q 75 ad (shC ks ad) μ (pc) lv (va_rf (x.map ad) :: st) := by
  subst hn
  cases x with
  | none => exact fun H locs ls hP hS hl => lv_instN X.1.1 X.1.2.1 hd (K 0 h H locs ls hP hS hl)
  | some y =>
  rcases vdis_some h with ⟨kk, b⟩ | ⟨kk, b⟩ | ⟨kk, b⟩
  · exact fun H locs ls hP hS hl => va_instNo X.1.1 X.1.2.1 X.1.2.2.2.1 (X.1.2.2.2.2 _ hw) X.2.1.2.2.2.1 (g_recv X (o2 kk) rfl H hP) hd (K 0 b H locs ls hP hS hl)
  · have hat := (X.2.2.1.1 _ _ (show vwCl[4]? = some (RX4, TX4, _) from rfl)).2
    exact fun H locs ls hP hS hl => va_instS X.1.1 X.1.2.1 X.1.2.2.2.1 (X.1.2.2.2.2 _ hw) hat (g_recv X (o4 kk) rfl H hP) hd (K 1 b H locs ls hP hS hl)
  · exact fun H locs ls hP hS hl => va_instNo X.1.1 X.1.2.1 X.1.2.2.2.1 (X.1.2.2.2.2 _ hw) X.2.1.2.2.2.2 (g_recv X (o8 kk) rfl H hP) hd (K 0 b H locs ls hP hS hl)
theorem g_cast4 (n : Nat) (X : Cx p s m args meth c cc nL own D ks A 75 ad (shC ks ad)) {idx y : Nat} (hw : Cond.classLink own idx RX4 ∈ wg) (kk : kindC y = 104) (hd : decode cc pc = .ok (.checkcast idx, 3)) (hn : pc + 3 = n) (K : G p l e R s m args below meth c D A nL Q 75 ad (shC ks ad) μ (n) lv (.ref (ad y) :: st)) : G p l e R s m args below meth c D A nL Q 75 ad (shC ks ad) μ (pc) lv (.ref (ad y) :: st) := by
  subst hn
  have hat := (X.2.2.1.1 _ _ (show vwCl[4]? = some (RX4, TX4, _) from rfl)).2
  exact fun H locs ls hP hS hl => va_castS X.1.1 X.1.2.1 X.1.2.2.2.1 (X.1.2.2.2.2 _ hw) hat (g_recv X (o4 kk) rfl H hP) hd (K H locs ls hP hS hl)
theorem g_mmax (n : Nat) (X : Cx p s m args meth c cc nL own D ks A N ad sh) {idx : Nat} {x y : Int32} (hw : Cond.methodLink own idx Lib.Math.max.name ∈ wg) (hR : 1 ≤ R.frames ∧ (st.map fun v => v.category).sum + 13 ≤ R.locals) (hd : decode cc pc = .ok (.invokestatic idx, 3)) {α : Type} {F : Int32 → Option α} {r : α} (h : bnd (mxi x y) F = some r) (hn : pc + 3 = n) (K : ∀ v : Int32, F v = some r → G p l e R s m args below meth c D A nL Q N ad sh μ (n) lv (.int v :: st)) : G p l e R s m args below meth c D A nL Q N ad sh μ (pc) lv (.int y :: .int x :: st) := by
  subst hn
  exact fun H locs ls hP hS hl => va_mmax X.1.1 X.1.2.1 (X.1.2.2.1.trans hl.1.symm) X.1.2.2.2.1 (X.1.2.2.2.2 _ hw) (X.1.2.2.2.2 _ m670) (X.1.2.2.2.2 _ m80) (X.1.2.2.2.2 _ m671) hR.1 hR.2 (Nat.zero_le _) (Nat.zero_le _) hd (K _ h H locs ls hP hS hl)
theorem g_mmin (n : Nat) (X : Cx p s m args meth c cc nL own D ks A N ad sh) {idx : Nat} {x y : Int32} (hw : Cond.methodLink own idx Lib.Math.min.name ∈ wg) (hR : 1 ≤ R.frames ∧ (st.map fun v => v.category).sum + 13 ≤ R.locals) (hd : decode cc pc = .ok (.invokestatic idx, 3)) {α : Type} {F : Int32 → Option α} {r : α} (h : bnd (mni x y) F = some r) (hn : pc + 3 = n) (K : ∀ v : Int32, F v = some r → G p l e R s m args below meth c D A nL Q N ad sh μ (n) lv (.int v :: st)) : G p l e R s m args below meth c D A nL Q N ad sh μ (pc) lv (.int y :: .int x :: st) := by
  subst hn
  exact fun H locs ls hP hS hl => va_mmin X.1.1 X.1.2.1 (X.1.2.2.1.trans hl.1.symm) X.1.2.2.2.1 (X.1.2.2.2.2 _ hw) (X.1.2.2.2.2 _ m633) (X.1.2.2.2.2 _ m80) (X.1.2.2.2.2 _ m634) hR.1 hR.2 (Nat.zero_le _) (Nat.zero_le _) hd (K _ h H locs ls hP hS hl)
theorem g_mabs (n : Nat) (X : Cx p s m args meth c cc nL own D ks A N ad sh) {idx : Nat} {x : Int32} (hw : Cond.methodLink own idx Lib.Math.abs.name ∈ wg) (hR : 1 ≤ R.frames ∧ (st.map fun v => v.category).sum + 13 ≤ R.locals) (hd : decode cc pc = .ok (.invokestatic idx, 3)) {α : Type} {F : Int32 → Option α} {r : α} (h : bnd (abi x) F = some r) (hn : pc + 3 = n) (K : ∀ v : Int32, F v = some r → G p l e R s m args below meth c D A nL Q N ad sh μ (n) lv (.int v :: st)) : G p l e R s m args below meth c D A nL Q N ad sh μ (pc) lv (.int x :: st) := by
  subst hn
  exact fun H locs ls hP hS hl => va_mabs X.1.1 X.1.2.1 (X.1.2.2.1.trans hl.1.symm) X.1.2.2.2.1 (X.1.2.2.2.2 _ hw) (X.1.2.2.2.2 _ m923) (X.1.2.2.2.2 _ m80) (X.1.2.2.2.2 _ m924) hR.1 hR.2 (Nat.zero_le _) (Nat.zero_le _) hd (K _ h H locs ls hP hS hl)
theorem g_copy (n : Nat) (X : Cx p s m args meth c cc nL RX11 D ks A 75 ad (shC ks ad)) {src dst l0 l1 : Nat} {sp dp cnt : Int32} (a0 : AI (shC ks ad) ks 75 src l0) (a1 : AI (shC ks ad) ks 75 dst l1) (hR : 1 ≤ R.frames ∧ 18 ≤ R.locals) (hd : decode cc pc = .ok (.invokestatic 279, 3)) {α : Type} {F : Mem → Option α} {r : α} (h : acp sp dp cnt l0 l1 (fun _ => bnd (uc μ dst (va_cpy (μ.1 src) (μ.1 dst) sp.toNatClampNeg dp.toNatClampNeg cnt.toNatClampNeg)) F) = some r) (hn : pc + 3 = n) (K : ∀ μ2 : Mem, F μ2 = some r → G p l e R s m args below meth c D A nL Q 75 ad (shC ks ad) μ2 (n) lv ([])) : G p l e R s m args below meth c D A nL Q 75 ad (shC ks ad) μ (pc) lv ([.int cnt, .int dp, .ref (ad dst), .int sp, .ref (ad src)]) := by
  subst hn
  obtain ⟨h1, h2, h3, h4, h5, h6⟩ := acp_some h
  have e0 := wsM_at (ad := ad) (sh := shC ks ad) (μ := μ) a0.1
  have e1 := wsM_at (ad := ad) (sh := shC ks ad) (μ := μ) a1.1
  rw [a0.2] at e0
  rw [a1.2] at e1
  exact fun H locs ls hP hS hl => va_copyi X.1.1 X.1.2.1 (X.1.2.2.1.trans hl.1.symm) X.1.2.2.2.1 (X.1.2.2.2.2 _ m993) (X.1.2.2.2.2 _ m995) (X.1.2.2.2.2 _ m994) (X.1.2.2.2.2 _ m82) X.2.2.1 hP (X.2.2.2.2 μ) hS src dst 0 0 e0 e1 rfl rfl rfl h1 h2 h3 h4 h5 (fun _ _ => rfl) hR.1 hR.2 hd (fun H1 locs1 hP1 _ hS1 => K _ h6 H1 locs1 ls ((wsM_uc a1.1 (a1.2 _ _ _)) ▸ hP1) hS1 hl)
theorem r_SI (X : Cx p s m args meth c cc nL own D ks A N ad sh) {y x : MethodName} {owner : String} {bytes : ByteArray} {maxL k idx : Nat} {ret : Option FieldType} {rm : Room} {Pc : Array Value → State → Prop} {Qc : Array Value → State → Outcome → State → Prop} {Fr : Nat → Prop} {As rest : List Value} (cd : CDSI owner own idx x y bytes maxL ret k) (hrm : rm.cells = 0 ∧ rm.slots = 0) (hR : rm.frames + 1 ≤ R.frames ∧ 8 + (maxL + 11) + rm.locals ≤ R.locals) (hM : Met l y (Cond.code y bytes maxL ret :: wg) rm Pc Qc 0 0 Fr) (hbl : FrameBlind Pc) (hpre : ∀ (H : Heap) (U : State), va_P D vwCl (wsM N ad sh μ) H → U.heap = H → s.WarmedH U.vm → Pc As.toArray U) (hk : As.length = k) (hst : As.reverse ++ rest = st) (hW : (rest.map fun v => v.category).sum ≤ 8) (hd : decode cc pc = .ok (.invokestatic idx, 3)) : RunG p l e R s m args below meth c D A nL N ad sh μ pc lv st rest Qc Fr := by
  sorry
end GM
