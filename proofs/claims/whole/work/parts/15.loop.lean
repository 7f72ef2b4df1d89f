/-! THE CLAIM OUT OF ONE WALK OF THE LAW'S BODY. Your part is whole_start (and what it stands on); all else here is the same for every law, but numbers. -/
def R_law : String := "DrawnListLaw"
def lw_P (b : Addr) (xs : List Int32) (args : Array Value) (s : State) : Prop := args = #[.ref b] ∧ s.IntsAt b xs ∧ xs.length ≤ 3072 ∧ (Jvm.Cond.and given_1 narrow_1).before args s = true
def lw_Q (_ : Array Value) (s : State) (o : Outcome) (t : State) : Prop := o = .returned (some (.int 1)) ∧ Framed s o t [] 600000 7302250
def lw_Z (below : List Frame) (a : Array Value) (s : State) : State → Prop := fun t => ∃ o, t.status = .running ∧ Ended t below o ∧ lw_Q a s o t
/-- the law's own end, with 1 on the stack, nothing written that was there before, its room as the claim has it -/
theorem lw_ret {p : Program} {l : Launch} {e : Env} {s : State} {m : MethodId} {below : List Frame} {meth : Method} {c : Code} {b : Nat} (hx : p.tables.exec = Jvm.exec) (hb : c.code = code) (hr : meth.sig.returnType = ret) (hlocks : meth.locks = false) {pc : Nat} {H : Heap} {ls : Array Slot} (hdg : decode code pc = .ok (.ireturn, 1)) : W p l e room_1 s m #[Value.ref b] below meth c H [] 600000 7302250 (lw_Z below #[Value.ref b] s) (F0 m pc ls [.int 1]) := by
  intro T hT X
  obtain ⟨fs, hret, hrun, hended, hW, hframe⟩ := X.leave (v := some (.int 1)) (hlocks := hlocks) (fun h => by rw [hr] at h; cases h)
  have hmeth' : T.vm.method? m = some meth := X.method'
  refine ⟨T.setFrames fs, ?_, .returned (some (.int 1)), hrun, hended, rfl, ⟨_, rfl⟩, hW, hframe⟩
  jvm_step X.here [X.here.top, hx, hb, hdg, hmeth', hr, ret, narrow_b1]
  (try refine ⟨rfl, ?_⟩); (try refine ⟨rfl, ?_⟩)
  first | (intro acts; rw [hret _ acts rfl rfl rfl]) | rw [hret _ _ rfl rfl rfl]
  exact Steps.refl _
/-- what holds at the law's entry: the machine, the code, the tables' words (any of lw_tbl by 'hts w (by decide +kernel)'), the script of L ints xs at the cell b, what the Statement gives of the start (any of its parts by flat_of_before) -/
def lw_At (p : Program) (s : State) (m : MethodId) (meth : Method) (c : Code) (b L : Nat) (xs : Nat → Int32) : Prop :=
  p.tables.exec = Jvm.exec ∧ c.code = code ∧ meth.sig.returnType = ret ∧ c.maxLocals = 4 ∧ s.vm.findClass R_law = some m.cls ∧ (∀ w ∈ lw_tbl, w.before #[Value.ref b] s = true) ∧ va_X b L xs s s.heap ∧ b < s.heap.size ∧ meth.locks = false ∧ (Jvm.Cond.and given_1 narrow_1).before #[Value.ref b] s = true
theorem bp6 : (Int8.ofInt 6).toInt32 = (6 : Int32) := by decide +kernel
theorem ic6 : Int32.ofInt 6 = (6 : Int32) := by decide +kernel
theorem lj_in {j L : Nat} (hj : j ≤ L) (hL : L ≤ 3072) (h : ¬ nI L - 6 < nI j) : j + 6 ≤ L := by
  rcases Nat.lt_or_ge L (j + 6) with q | q
  · exfalso
    apply h
    rw [Int32.lt_iff_toInt_lt, show (6 : Int32) = nI 6 from rfl, pk_sub_toInt (by omega) (by omega), nI_toInt (by omega)]
    omega
  · exact q
set_option maxRecDepth 100000 in
set_option maxHeartbeats 8000000 in
theorem law_loop {p : Program} {l : Launch} {e : Env} {s : State} {m : MethodId} {below : List Frame} {meth : Method} {c : Code} {D : va_G} {ks : Nat → ClassId} {A1 A2 : Nat → Prop} {ad1 ad2 : Nat → Nat} {b L : Nat} {xs : Nat → Int32} {ce sl : Nat} (X : XL p room_1 s m #[Value.ref b] meth c D ks A1 A2 ad1 ad2 b L xs ce sl) (hr : meth.sig.returnType = ret) (hlk : meth.locks = false) {F : Nat} {Rel : Mem → Mem → Prop} (S : Sim F Rel) :
    ∀ (n j : Nat) (μ ρ : Mem), L + 1 ≤ j + n → j ≤ L → Rel μ ρ → GL p l e room_1 s m #[Value.ref b] below meth c D ks ad1 ad2 (lw_Z below #[Value.ref b] s) ce sl μ ρ 18 [(0, .ref b), (1, .ref (ad1 0)), (2, .ref (ad2 0)), (3, .int (nI j))] [] := by
  intro n
  induction n with
  | zero =>
    intro j μ ρ h1 h2
    exact absurd h1 (by omega)
  | succ n ih =>
    intro j μ ρ hn hj hR
    refine l_iload_n 19 X 3 dL_law_18 rfl rfl ?_
    refine l_aload_n 20 X 0 dL_law_19 rfl rfl ?_
    refine l_slen 21 X dL_law_20 rfl ?_
    refine l_bipush 23 X dL_law_21 bp6 rfl ?_
    refine l_isub 24 X dL_law_23 rfl ?_
    refine l_gt 1419 27 X dL_law_24 (by decide) rfl (fun _ => ?_) (fun cx => ?_)
    · refine l_iconst 1420 X dL_law_1419 ic1 rfl ?_
      intro H locs ls hP hP2 hS hl
      refine va_forget (fun q hq => hS.2.2 q hq) ?_
      refine W.widen (k := 600000) (n := 7302250) X.2.2.2.2.2.2.2.2.2.1.1 X.2.2.2.2.2.2.2.2.2.1.2 ?_
      exact lw_ret X.1.1 X.1.2.1 hr hlk dL_law_1420
    · have hj2 : j + 6 ≤ L := lj_in hj X.2.2.2.2.2.2.2.2.2.2 cx
      have K : ∀ μ ρ : Mem, Rel μ ρ → GL p l e room_1 s m #[Value.ref b] below meth c D ks ad1 ad2 (lw_Z below #[Value.ref b] s) ce sl μ ρ 1413 [(0, .ref b), (1, .ref (ad1 0)), (2, .ref (ad2 0)), (3, .int (nI j))] [] := by
        intro μ ρ hR
        refine l_iinc (v := nI (j + 6)) 1416 X 3 dL_law_1413 (by rw [ic6, show (6 : Int32) = nI 6 from rfl, nI_add]) rfl (by decide) rfl ?_
        refine l_goto 18 X dL_law_1416 (by decide) ?_
        exact GL.sub [1, 2, 3, 0] rfl (ih (j + 6) μ ρ (by omega) hj2 hR)
      refine l_aload_n 28 X 0 dL_law_27 rfl rfl ?_
      refine l_iload_n 29 X 3 dL_law_28 rfl rfl ?_
      refine l_sld 30 X (vj0 hj2 X.2.2.2.2.2.2.2.2.2.2) dL_law_29 rfl ?_
      refine l_bipush 32 X dL_law_30 bp63 rfl ?_
      refine l_iand 33 X dL_law_32 rfl ?_
      generalize xs (nI j).toNatClampNeg &&& 63 = x
      by_cases hc0 : x = 0
      · exact l_tin 184 X (off := 151) hc0 dL_law_33 (by decide) (by decide) (by decide +kernel) (by decide) (law_c0 X S hj2 hR K)
      by_cases hc1 : x = 1
      · exact l_tin 237 X (off := 204) hc1 dL_law_33 (by decide) (by decide) (by decide +kernel) (by decide) (law_c1 X S hj2 hR K)
      by_cases hc2 : x = 2
      · exact l_tin 260 X (off := 227) hc2 dL_law_33 (by decide) (by decide) (by decide +kernel) (by decide) (law_c2 X S hj2 hR K)
      by_cases hc3 : x = 3
      · exact l_tin 293 X (off := 260) hc3 dL_law_33 (by decide) (by decide) (by decide +kernel) (by decide) (law_c3 X S hj2 hR K)
      by_cases hc4 : x = 4
      · exact l_tin 336 X (off := 303) hc4 dL_law_33 (by decide) (by decide) (by decide +kernel) (by decide) (law_c4 X S hj2 hR K)
      by_cases hc5 : x = 5
      · exact l_tin 359 X (off := 326) hc5 dL_law_33 (by decide) (by decide) (by decide +kernel) (by decide) (law_c5 X S hj2 hR K)
      by_cases hc6 : x = 6
      · exact l_tin 392 X (off := 359) hc6 dL_law_33 (by decide) (by decide) (by decide +kernel) (by decide) (law_c6 X S hj2 hR K)
      by_cases hc7 : x = 7
      · exact l_tin 425 X (off := 392) hc7 dL_law_33 (by decide) (by decide) (by decide +kernel) (by decide) (law_c7 X S hj2 hR K)
      by_cases hc8 : x = 8
      · exact l_tin 448 X (off := 415) hc8 dL_law_33 (by decide) (by decide) (by decide +kernel) (by decide) (law_c8 X S hj2 hR K)
      by_cases hc9 : x = 9
      · exact l_tin 471 X (off := 438) hc9 dL_law_33 (by decide) (by decide) (by decide +kernel) (by decide) (law_c9 X S hj2 hR K)
      by_cases hc10 : x = 10
      · exact l_tin 494 X (off := 461) hc10 dL_law_33 (by decide) (by decide) (by decide +kernel) (by decide) (law_c10 X S hj2 hR K)
      by_cases hc11 : x = 11
      · exact l_tin 518 X (off := 485) hc11 dL_law_33 (by decide) (by decide) (by decide +kernel) (by decide) (law_c11 X S hj2 hR K)
      by_cases hc12 : x = 12
      · exact l_tin 562 X (off := 529) hc12 dL_law_33 (by decide) (by decide) (by decide +kernel) (by decide) (law_c12 X S hj2 hR K)
      by_cases hc13 : x = 13
      · exact l_tin 616 X (off := 583) hc13 dL_law_33 (by decide) (by decide) (by decide +kernel) (by decide) (law_c13 X S hj2 hR K)
      by_cases hc14 : x = 14
      · exact l_tin 649 X (off := 616) hc14 dL_law_33 (by decide) (by decide) (by decide +kernel) (by decide) (law_c14 X S hj2 hR K)
      by_cases hc15 : x = 15
      · exact l_tin 682 X (off := 649) hc15 dL_law_33 (by decide) (by decide) (by decide +kernel) (by decide) (law_c15 X S hj2 hR K)
      by_cases hc16 : x = 16
      · exact l_tin 715 X (off := 682) hc16 dL_law_33 (by decide) (by decide) (by decide +kernel) (by decide) (law_c16 X S hj2 hR K)
      by_cases hc17 : x = 17
      · exact l_tin 759 X (off := 726) hc17 dL_law_33 (by decide) (by decide) (by decide +kernel) (by decide) (law_c17 X S hj2 hR K)
      by_cases hc18 : x = 18
      · exact l_tin 782 X (off := 749) hc18 dL_law_33 (by decide) (by decide) (by decide +kernel) (by decide) (law_c18 X S hj2 hR K)
      by_cases hc19 : x = 19
      · exact l_tin 816 X (off := 783) hc19 dL_law_33 (by decide) (by decide) (by decide +kernel) (by decide) (law_c19 X S hj2 hR K)
      by_cases hc20 : x = 20
      · exact l_tin 849 X (off := 816) hc20 dL_law_33 (by decide) (by decide) (by decide +kernel) (by decide) (law_c20 X S hj2 hR K)
      by_cases hc21 : x = 21
      · exact l_tin 883 X (off := 850) hc21 dL_law_33 (by decide) (by decide) (by decide +kernel) (by decide) (law_c21 X S hj2 hR K)
      by_cases hc22 : x = 22
      · exact l_tin 926 X (off := 893) hc22 dL_law_33 (by decide) (by decide) (by decide +kernel) (by decide) (law_c22 X S hj2 hR K)
      by_cases hc23 : x = 23
      · exact l_tin 979 X (off := 946) hc23 dL_law_33 (by decide) (by decide) (by decide +kernel) (by decide) (law_c23 X S hj2 hR K)
      by_cases hc24 : x = 24
      · exact l_tin 1032 X (off := 999) hc24 dL_law_33 (by decide) (by decide) (by decide +kernel) (by decide) (law_c24 X S hj2 hR K)
      by_cases hc25 : x = 25
      · exact l_tin 1065 X (off := 1032) hc25 dL_law_33 (by decide) (by decide) (by decide +kernel) (by decide) (law_c25 X S hj2 hR K)
      by_cases hc26 : x = 26
      · exact l_tin 1118 X (off := 1085) hc26 dL_law_33 (by decide) (by decide) (by decide +kernel) (by decide) (law_c26 X S hj2 hR K)
      by_cases hc27 : x = 27
      · exact l_tin 1161 X (off := 1128) hc27 dL_law_33 (by decide) (by decide) (by decide +kernel) (by decide) (law_c27 X S hj2 hR K)
      by_cases hc28 : x = 28
      · exact l_tin 1184 X (off := 1151) hc28 dL_law_33 (by decide) (by decide) (by decide +kernel) (by decide) (law_c28 X S hj2 hR K)
      by_cases hc29 : x = 29
      · exact l_tin 1237 X (off := 1204) hc29 dL_law_33 (by decide) (by decide) (by decide +kernel) (by decide) (law_c29 X S hj2 hR K)
      by_cases hc30 : x = 30
      · exact l_tin 1280 X (off := 1247) hc30 dL_law_33 (by decide) (by decide) (by decide +kernel) (by decide) (law_c30 X S hj2 hR K)
      by_cases hc31 : x = 31
      · exact l_tin 1343 X (off := 1310) hc31 dL_law_33 (by decide) (by decide) (by decide +kernel) (by decide) (law_c31 X S hj2 hR K)
      by_cases hc32 : x = 32
      · exact l_tin 1376 X (off := 1343) hc32 dL_law_33 (by decide) (by decide) (by decide +kernel) (by decide) (law_c32 X S hj2 hR K)
      by_cases hc33 : x = 33
      · exact l_tin 1399 X (off := 1366) hc33 dL_law_33 (by decide) (by decide) (by decide +kernel) (by decide) (law_c33 X S hj2 hR K)
      have e0 := ne_ti hc0 (k := 0) (by decide)
      have e1 := ne_ti hc1 (k := 1) (by decide)
      have e2 := ne_ti hc2 (k := 2) (by decide)
      have e3 := ne_ti hc3 (k := 3) (by decide)
      have e4 := ne_ti hc4 (k := 4) (by decide)
      have e5 := ne_ti hc5 (k := 5) (by decide)
      have e6 := ne_ti hc6 (k := 6) (by decide)
      have e7 := ne_ti hc7 (k := 7) (by decide)
      have e8 := ne_ti hc8 (k := 8) (by decide)
      have e9 := ne_ti hc9 (k := 9) (by decide)
      have e10 := ne_ti hc10 (k := 10) (by decide)
      have e11 := ne_ti hc11 (k := 11) (by decide)
      have e12 := ne_ti hc12 (k := 12) (by decide)
      have e13 := ne_ti hc13 (k := 13) (by decide)
      have e14 := ne_ti hc14 (k := 14) (by decide)
      have e15 := ne_ti hc15 (k := 15) (by decide)
      have e16 := ne_ti hc16 (k := 16) (by decide)
      have e17 := ne_ti hc17 (k := 17) (by decide)
      have e18 := ne_ti hc18 (k := 18) (by decide)
      have e19 := ne_ti hc19 (k := 19) (by decide)
      have e20 := ne_ti hc20 (k := 20) (by decide)
      have e21 := ne_ti hc21 (k := 21) (by decide)
      have e22 := ne_ti hc22 (k := 22) (by decide)
      have e23 := ne_ti hc23 (k := 23) (by decide)
      have e24 := ne_ti hc24 (k := 24) (by decide)
      have e25 := ne_ti hc25 (k := 25) (by decide)
      have e26 := ne_ti hc26 (k := 26) (by decide)
      have e27 := ne_ti hc27 (k := 27) (by decide)
      have e28 := ne_ti hc28 (k := 28) (by decide)
      have e29 := ne_ti hc29 (k := 29) (by decide)
      have e30 := ne_ti hc30 (k := 30) (by decide)
      have e31 := ne_ti hc31 (k := 31) (by decide)
      have e32 := ne_ti hc32 (k := 32) (by decide)
      have e33 := ne_ti hc33 (k := 33) (by decide)
      exact l_tout 1413 X dL_law_33 (by omega) (by decide) (K μ ρ hR)

