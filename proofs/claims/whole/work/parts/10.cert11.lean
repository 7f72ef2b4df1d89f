abbrev rm_X12_takes : Room := { frames := 1, cells := 0, slots := 0, locals := 22 }
set_option maxRecDepth 100000 in
set_option maxHeartbeats 4000000 in
theorem b_X12_takes_56 {p : Program} {l : Launch} {e : Env} {s : State} {m : MethodId} {args : Array Value} {below : List Frame} {meth : Method} {c : Code} {D : va_G} {ks : Nat → ClassId} {A : Nat → Prop} {ad : Nat → Nat} (X : Cx p s m args meth c cX12_takes 7 RX12 D ks A 24 ad (shR ks ad)) (hr : meth.sig.returnType = (some .int)) {F : Nat} {r : Int32 × Mem} {k14 : Mem → Int32 → Int32 → Int32 → Int32 → Int32 → Option (Int32 × Mem)} (hk14 : ∀ (μ : Mem) (x1 : Int32) (x3 : Int32) (x4 : Int32) (x5 : Int32) (x6 : Int32), k14 μ x1 x3 x4 x5 x6 = some r → G p l e rm_X12_takes s m args below meth c D A 7 (MQ below (QI D 24 ad (shR ks ad) A r) args s 0 0 A) 24 ad (shR ks ad) μ 14 [(0, .ref (ad 0)), (1, .int x1), (3, .int x3), (4, .int x4), (5, .int x5), (6, .int x6)] []) (μ : Mem) (x1 : Int32) (x3 : Int32) (x4 : Int32) (x5 : Int32) (x6 : Int32)  (h : f_X12_takes_b56 F k14 μ x1 x3 x4 x5 x6 = some r) : G p l e rm_X12_takes s m args below meth c D A 7 (MQ below (QI D 24 ad (shR ks ad) A r) args s 0 0 A) 24 ad (shR ks ad) μ 56 [(0, .ref (ad 0)), (1, .int x1), (3, .int x3), (4, .int x4), (5, .int x5), (6, .int x6)] [] := by
  refine g_iinc 59 X 5 dX12_takes_56 ic1 rfl (by decide) rfl ?_
  refine g_goto 14 X dX12_takes_59 (by decide) ?_
  exact G.sub [1, 2, 3, 4, 5, 0] rfl (hk14 _ _ _ _ _ _ h)
set_option maxRecDepth 100000 in
set_option maxHeartbeats 4000000 in
theorem b_X12_takes_53 {p : Program} {l : Launch} {e : Env} {s : State} {m : MethodId} {args : Array Value} {below : List Frame} {meth : Method} {c : Code} {D : va_G} {ks : Nat → ClassId} {A : Nat → Prop} {ad : Nat → Nat} (X : Cx p s m args meth c cX12_takes 7 RX12 D ks A 24 ad (shR ks ad)) (hr : meth.sig.returnType = (some .int)) {F : Nat} {r : Int32 × Mem} {k14 : Mem → Int32 → Int32 → Int32 → Int32 → Int32 → Option (Int32 × Mem)} (hk14 : ∀ (μ : Mem) (x1 : Int32) (x3 : Int32) (x4 : Int32) (x5 : Int32) (x6 : Int32), k14 μ x1 x3 x4 x5 x6 = some r → G p l e rm_X12_takes s m args below meth c D A 7 (MQ below (QI D 24 ad (shR ks ad) A r) args s 0 0 A) 24 ad (shR ks ad) μ 14 [(0, .ref (ad 0)), (1, .int x1), (3, .int x3), (4, .int x4), (5, .int x5), (6, .int x6)] []) (μ : Mem) (x1 : Int32) (x3 : Int32) (x4 : Int32) (x5 : Int32) (x6 : Int32)  (h : f_X12_takes_b53 F k14 μ x1 x3 x4 x5 x6 = some r) : G p l e rm_X12_takes s m args below meth c D A 7 (MQ below (QI D 24 ad (shR ks ad) A r) args s 0 0 A) 24 ad (shR ks ad) μ 53 [(0, .ref (ad 0)), (1, .int x1), (3, .int x3), (4, .int x4), (5, .int x5), (6, .int x6)] [] := by
  refine g_iinc 56 X 2 dX12_takes_53 icm1 rfl (by decide) rfl ?_
  exact G.sub [1, 2, 0, 3, 4, 5] rfl (b_X12_takes_56 X hr hk14 _ _ _ _ _ _ h)
set_option maxRecDepth 100000 in
set_option maxHeartbeats 4000000 in
theorem b_X12_takes_14 {p : Program} {l : Launch} {e : Env} {s : State} {m : MethodId} {args : Array Value} {below : List Frame} {meth : Method} {c : Code} {D : va_G} {ks : Nat → ClassId} {A : Nat → Prop} {ad : Nat → Nat} (X : Cx p s m args meth c cX12_takes 7 RX12 D ks A 24 ad (shR ks ad)) (hr : meth.sig.returnType = (some .int)) {F : Nat} {r : Int32 × Mem} : ∀ n : Nat, ∀ (μ : Mem) (x1 : Int32) (x3 : Int32) (x4 : Int32) (x5 : Int32) (x6 : Int32), f_X12_takes_b14 F  n μ x1 x3 x4 x5 x6 = some r → G p l e rm_X12_takes s m args below meth c D A 7 (MQ below (QI D 24 ad (shR ks ad) A r) args s 0 0 A) 24 ad (shR ks ad) μ 14 [(0, .ref (ad 0)), (1, .int x1), (3, .int x3), (4, .int x4), (5, .int x5), (6, .int x6)] [] := by
  intro n
  induction n with
  | zero =>
    intro _ _ _ _ _ _ h
    cases h
  | succ n ih =>
    intro μ x1 x3 x4 x5 x6 h
    refine g_iload 16 X 5 dX12_takes_14 rfl rfl ?_
    refine g_bipush 18 X dX12_takes_16 bp30 rfl ?_
    refine g_icmp_ge 62 21 X dX12_takes_18 (by decide) rfl h (fun h => ?_) (fun h => ?_)
    · refine g_iload 64 X 4 dX12_takes_62 rfl rfl ?_
      exact g_iret X hr dX12_takes_64 h
    · refine g_iload_n 22 X 1 dX12_takes_21 rfl rfl ?_
      refine g_iload 24 X 5 dX12_takes_22 rfl rfl ?_
      refine g_ishr 25 X dX12_takes_24 rfl ?_
      refine g_iconst 26 X dX12_takes_25 ic1 rfl ?_
      refine g_iand 27 X dX12_takes_26 rfl ?_
      refine g_iconst 28 X dX12_takes_27 ic1 rfl ?_
      refine g_icmp_ne 56 31 X dX12_takes_28 (by decide) rfl h (fun h => ?_) (fun h => ?_)
      · exact G.sub [0, 1, 2, 3, 4, 5] rfl (b_X12_takes_56 X hr ih _ _ _ _ _ _ h)
      · refine g_aload_n 32 X 0 dX12_takes_31 rfl rfl ?_
        refine g_iload_n 33 X 2 dX12_takes_32 rfl rfl ?_
        refine g_ci 36 h (fun q e => r_V X cd_X12_251_X12_lot_X12 ⟨rfl, rfl⟩ ⟨Nat.le_of_ble_eq_true rfl, Nat.le_of_ble_eq_true rfl⟩ (c_X12_lot X.2.2.2.2  e) PC_blind (pc_pre X) (g_recv X (o12 rfl) rfl) rfl rfl (Nat.le_of_ble_eq_true rfl) dX12_takes_33) rfl (fun v1 μ2 h => ?_)
        refine g_iload 38 X 3 dX12_takes_36 rfl rfl ?_
        refine g_icmp_ge 53 41 X dX12_takes_38 (by decide) rfl h (fun h => ?_) (fun h => ?_)
        · exact G.sub [0, 1, 2, 3, 4, 5] rfl (b_X12_takes_53 X hr ih _ _ _ _ _ _ h)
        · refine g_iload 43 X 4 dX12_takes_41 rfl rfl ?_
          refine g_iconst 44 X dX12_takes_43 ic1 rfl ?_
          refine g_iload 46 X 5 dX12_takes_44 rfl rfl ?_
          refine g_ishl 47 X dX12_takes_46 rfl ?_
          refine g_ior 48 X dX12_takes_47 rfl ?_
          refine g_topi h (fun v3 h => ?_)
          refine g_istore 50 X dX12_takes_48 (by decide) rfl ?_
          refine g_iinc 53 X 4 dX12_takes_50 icm1 rfl (by decide) rfl ?_
          exact G.sub [2, 3, 4, 0, 1, 5] rfl (b_X12_takes_53 X hr ih _ _ _ _ _ _ h)
set_option maxRecDepth 100000 in
set_option maxHeartbeats 4000000 in
theorem b_X12_takes_0 {p : Program} {l : Launch} {e : Env} {s : State} {m : MethodId} {args : Array Value} {below : List Frame} {meth : Method} {c : Code} {D : va_G} {ks : Nat → ClassId} {A : Nat → Prop} {ad : Nat → Nat} (X : Cx p s m args meth c cX12_takes 7 RX12 D ks A 24 ad (shR ks ad)) (hr : meth.sig.returnType = (some .int)) {F : Nat} {r : Int32 × Mem} (μ : Mem) (x1 : Int32) (x2 : Int32)  (h : f_X12_takes F  μ x1 x2 = some r) : G p l e rm_X12_takes s m args below meth c D A 7 (MQ below (QI D 24 ad (shR ks ad) A r) args s 0 0 A) 24 ad (shR ks ad) μ 0 [(0, .ref (ad 0)), (1, .int x1), (2, .int x2)] [] := by
  refine g_iload_n 1 X 1 dX12_takes_0 rfl rfl ?_
  refine g_ni 4 h (fun q e => r_S X cd_X12_244_X12_ones ⟨rfl, rfl⟩ ⟨Nat.le_of_ble_eq_true rfl, Nat.le_of_ble_eq_true rfl⟩ (c_X12_ones e) PC_blind (pn_pre X) rfl rfl (Nat.le_of_ble_eq_true rfl) dX12_takes_1) rfl (fun v1 h => ?_)
  refine g_istore_n 5 X dX12_takes_4 (by decide) rfl ?_
  refine g_iload_n 6 X 3 dX12_takes_5 rfl rfl ?_
  refine g_istore 8 X dX12_takes_6 (by decide) rfl ?_
  refine g_iconst 9 X dX12_takes_8 ic0 rfl ?_
  refine g_istore 11 X dX12_takes_9 (by decide) rfl ?_
  refine g_iconst 12 X dX12_takes_11 ic0 rfl ?_
  refine g_istore 14 X dX12_takes_12 (by decide) rfl ?_
  exact G.sub [4, 5, 3, 2, 1, 0] rfl (b_X12_takes_14 X hr  F _ _ _ _ _ _ h)
set_option maxRecDepth 100000 in
theorem c_X12_takes {l : Launch} {D : va_G} {ks : Nat → ClassId} {A : Nat → Prop} {ad : Nat → Nat} (hD : ∀ μ : Mem, va_D A (wsM 24 ad (shR ks ad) μ)) {F : Nat} {μ : Mem} {x1 : Int32} {x2 : Int32} {r : Int32 × Mem}  (h : f_X12_takes F μ x1 x2 = some r) : Met l yX12_takes (Cond.code yX12_takes cX12_takes 7 (some .int) :: wg) rm_X12_takes (PC D ks 24 ad (shR ks ad) μ [.ref (ad 0), .int x1, .int x2]) (QI D 24 ad (shR ks ad) A r) 0 0 A := by
  refine met_of (by decide) (Nat.le_of_ble_eq_true rfl) hD ?_
  intro p e s m args below meth c X hr
  exact G.sub [0, 1, 2] rfl (b_X12_takes_0 X hr  _ _ _ h)
abbrev rm_X12_bitsOf : Room := { frames := 0, cells := 0, slots := 0, locals := 0 }
set_option maxRecDepth 100000 in
set_option maxHeartbeats 4000000 in
theorem b_X12_bitsOf_48 {p : Program} {l : Launch} {e : Env} {s : State} {m : MethodId} {args : Array Value} {below : List Frame} {meth : Method} {c : Code} {D : va_G} {ks : Nat → ClassId} {A : Nat → Prop} {ad : Nat → Nat} (X : Cx p s m args meth c cX12_bitsOf 5 RX12 D ks A 24 ad (shR ks ad)) (hr : meth.sig.returnType = (some .int)) {F : Nat} {r : Int32 × Mem} {k5 : Mem → Int32 → Int32 → Int32 → Int32 → Option (Int32 × Mem)} (hk5 : ∀ (μ : Mem) (x1 : Int32) (x2 : Int32) (x3 : Int32) (x4 : Int32), k5 μ x1 x2 x3 x4 = some r → G p l e rm_X12_bitsOf s m args below meth c D A 5 (MQ below (QI D 24 ad (shR ks ad) A r) args s 0 0 A) 24 ad (shR ks ad) μ 5 [(0, .ref (ad 0)), (1, .int x1), (2, .int x2), (3, .int x3), (4, .int x4)] []) (μ : Mem) (x1 : Int32) (x2 : Int32) (x4 : Int32) (z0 : Int32) (z1 : Int32)  (h : f_X12_bitsOf_b48 F k5 μ x1 x2 x4 z0 z1 = some r) : G p l e rm_X12_bitsOf s m args below meth c D A 5 (MQ below (QI D 24 ad (shR ks ad) A r) args s 0 0 A) 24 ad (shR ks ad) μ 48 [(0, .ref (ad 0)), (1, .int x1), (2, .int x2), (4, .int x4)] [.int z0, .int z1] := by
  refine g_ior 49 X dX12_bitsOf_48 rfl ?_
  refine g_topi h (fun v1 h => ?_)
  refine g_istore_n 50 X dX12_bitsOf_49 (by decide) rfl ?_
  refine g_iinc 53 X 4 dX12_bitsOf_50 ic1 rfl (by decide) rfl ?_
  refine g_goto 5 X dX12_bitsOf_53 (by decide) ?_
  exact G.sub [2, 3, 4, 1, 0] rfl (hk5 _ _ _ _ _ h)
set_option maxRecDepth 100000 in
set_option maxHeartbeats 4000000 in
theorem b_X12_bitsOf_36 {p : Program} {l : Launch} {e : Env} {s : State} {m : MethodId} {args : Array Value} {below : List Frame} {meth : Method} {c : Code} {D : va_G} {ks : Nat → ClassId} {A : Nat → Prop} {ad : Nat → Nat} (X : Cx p s m args meth c cX12_bitsOf 5 RX12 D ks A 24 ad (shR ks ad)) (hr : meth.sig.returnType = (some .int)) {F : Nat} {r : Int32 × Mem} {k5 : Mem → Int32 → Int32 → Int32 → Int32 → Option (Int32 × Mem)} (hk5 : ∀ (μ : Mem) (x1 : Int32) (x2 : Int32) (x3 : Int32) (x4 : Int32), k5 μ x1 x2 x3 x4 = some r → G p l e rm_X12_bitsOf s m args below meth c D A 5 (MQ below (QI D 24 ad (shR ks ad) A r) args s 0 0 A) 24 ad (shR ks ad) μ 5 [(0, .ref (ad 0)), (1, .int x1), (2, .int x2), (3, .int x3), (4, .int x4)] []) (μ : Mem) (x1 : Int32) (x2 : Int32) (x4 : Int32) (z0 : Int32) (z1 : Int32)  (h : f_X12_bitsOf_b36 F k5 μ x1 x2 x4 z0 z1 = some r) : G p l e rm_X12_bitsOf s m args below meth c D A 5 (MQ below (QI D 24 ad (shR ks ad) A r) args s 0 0 A) 24 ad (shR ks ad) μ 36 [(0, .ref (ad 0)), (1, .int x1), (2, .int x2), (4, .int x4)] [.int z0, .int z1] := by
  refine g_iload_n 37 X 2 dX12_bitsOf_36 rfl rfl ?_
  refine g_icmp_ne 47 40 X dX12_bitsOf_37 (by decide) rfl h (fun h => ?_) (fun h => ?_)
  · refine g_iconst 48 X dX12_bitsOf_47 ic0 rfl ?_
    exact G.sub [0, 1, 2, 3] rfl (b_X12_bitsOf_48 X hr hk5 _ _ _ _ _ _ h)
  · refine g_iconst 41 X dX12_bitsOf_40 ic1 rfl ?_
    refine g_iload 43 X 3 dX12_bitsOf_41 rfl rfl ?_
    refine g_ishl 44 X dX12_bitsOf_43 rfl ?_
    refine g_goto 48 X dX12_bitsOf_44 (by decide) ?_
    exact G.sub [0, 1, 2, 3] rfl (b_X12_bitsOf_48 X hr hk5 _ _ _ _ _ _ h)
set_option maxRecDepth 100000 in
set_option maxHeartbeats 4000000 in
theorem b_X12_bitsOf_5 {p : Program} {l : Launch} {e : Env} {s : State} {m : MethodId} {args : Array Value} {below : List Frame} {meth : Method} {c : Code} {D : va_G} {ks : Nat → ClassId} {A : Nat → Prop} {ad : Nat → Nat} (X : Cx p s m args meth c cX12_bitsOf 5 RX12 D ks A 24 ad (shR ks ad)) (hr : meth.sig.returnType = (some .int)) {F : Nat} {r : Int32 × Mem} : ∀ n : Nat, ∀ (μ : Mem) (x1 : Int32) (x2 : Int32) (x3 : Int32) (x4 : Int32), f_X12_bitsOf_b5 F  n μ x1 x2 x3 x4 = some r → G p l e rm_X12_bitsOf s m args below meth c D A 5 (MQ below (QI D 24 ad (shR ks ad) A r) args s 0 0 A) 24 ad (shR ks ad) μ 5 [(0, .ref (ad 0)), (1, .int x1), (2, .int x2), (3, .int x3), (4, .int x4)] [] := by
  intro n
  induction n with
  | zero =>
    intro _ _ _ _ _ h
    cases h
  | succ n ih =>
    intro μ x1 x2 x3 x4 h
    refine g_iload 7 X 4 dX12_bitsOf_5 rfl rfl ?_
    refine g_aload_n 8 X 0 dX12_bitsOf_7 rfl rfl ?_
    refine g_geti 11 X fl_X12_115_12 (o12 rfl) rfl dX12_bitsOf_8 h rfl (fun v1 h => ?_)
    refine g_icmp_ge 56 14 X dX12_bitsOf_11 (by decide) rfl h (fun h => ?_) (fun h => ?_)
    · refine g_iload_n 57 X 3 dX12_bitsOf_56 rfl rfl ?_
      exact g_iret X hr dX12_bitsOf_57 h
    · refine g_iload_n 15 X 3 dX12_bitsOf_14 rfl rfl ?_
      refine g_iload_n 16 X 1 dX12_bitsOf_15 rfl rfl ?_
      refine g_if_ne 29 19 X dX12_bitsOf_16 (by decide) rfl h (fun h => ?_) (fun h => ?_)
      · refine g_aload_n 30 X 0 dX12_bitsOf_29 rfl rfl ?_
        refine g_getr 33 X fl_X12_25_12 (o12 rfl) rfl dX12_bitsOf_30 rfl ?_
        refine g_iload 35 X 4 dX12_bitsOf_33 rfl rfl ?_
        refine g_iald 36 X (aiR (n := 30) (by decide) rfl) dX12_bitsOf_35 h rfl (fun v2 h => ?_)
        exact G.sub [0, 1, 2, 4] rfl (b_X12_bitsOf_36 X hr ih _ _ _ _ _ _ h)
      · refine g_aload_n 20 X 0 dX12_bitsOf_19 rfl rfl ?_
        refine g_getr 23 X fl_X12_22_12 (o12 rfl) rfl dX12_bitsOf_20 rfl ?_
        refine g_iload 25 X 4 dX12_bitsOf_23 rfl rfl ?_
        refine g_iald 26 X (aiR (n := 30) (by decide) rfl) dX12_bitsOf_25 h rfl (fun v3 h => ?_)
        refine g_goto 36 X dX12_bitsOf_26 (by decide) ?_
        exact G.sub [0, 1, 2, 4] rfl (b_X12_bitsOf_36 X hr ih _ _ _ _ _ _ h)
set_option maxRecDepth 100000 in
set_option maxHeartbeats 4000000 in
theorem b_X12_bitsOf_0 {p : Program} {l : Launch} {e : Env} {s : State} {m : MethodId} {args : Array Value} {below : List Frame} {meth : Method} {c : Code} {D : va_G} {ks : Nat → ClassId} {A : Nat → Prop} {ad : Nat → Nat} (X : Cx p s m args meth c cX12_bitsOf 5 RX12 D ks A 24 ad (shR ks ad)) (hr : meth.sig.returnType = (some .int)) {F : Nat} {r : Int32 × Mem} (μ : Mem) (x1 : Int32) (x2 : Int32)  (h : f_X12_bitsOf F  μ x1 x2 = some r) : G p l e rm_X12_bitsOf s m args below meth c D A 5 (MQ below (QI D 24 ad (shR ks ad) A r) args s 0 0 A) 24 ad (shR ks ad) μ 0 [(0, .ref (ad 0)), (1, .int x1), (2, .int x2)] [] := by
  refine g_iconst 1 X dX12_bitsOf_0 ic0 rfl ?_
  refine g_istore_n 2 X dX12_bitsOf_1 (by decide) rfl ?_
  refine g_iconst 3 X dX12_bitsOf_2 ic0 rfl ?_
  refine g_istore 5 X dX12_bitsOf_3 (by decide) rfl ?_
  exact G.sub [2, 3, 4, 1, 0] rfl (b_X12_bitsOf_5 X hr  F _ _ _ _ _ h)
set_option maxRecDepth 100000 in
theorem c_X12_bitsOf {l : Launch} {D : va_G} {ks : Nat → ClassId} {A : Nat → Prop} {ad : Nat → Nat} (hD : ∀ μ : Mem, va_D A (wsM 24 ad (shR ks ad) μ)) {F : Nat} {μ : Mem} {x1 : Int32} {x2 : Int32} {r : Int32 × Mem}  (h : f_X12_bitsOf F μ x1 x2 = some r) : Met l yX12_bitsOf (Cond.code yX12_bitsOf cX12_bitsOf 5 (some .int) :: wg) rm_X12_bitsOf (PC D ks 24 ad (shR ks ad) μ [.ref (ad 0), .int x1, .int x2]) (QI D 24 ad (shR ks ad) A r) 0 0 A := by
  refine met_of (by decide) (Nat.le_of_ble_eq_true rfl) hD ?_
  intro p e s m args below meth c X hr
  exact G.sub [0, 1, 2] rfl (b_X12_bitsOf_0 X hr  _ _ _ h)
abbrev rm_X12_allBits : Room := { frames := 0, cells := 0, slots := 0, locals := 0 }
set_option maxRecDepth 100000 in
set_option maxHeartbeats 4000000 in
theorem b_X12_allBits_4 {p : Program} {l : Launch} {e : Env} {s : State} {m : MethodId} {args : Array Value} {below : List Frame} {meth : Method} {c : Code} {D : va_G} {ks : Nat → ClassId} {A : Nat → Prop} {ad : Nat → Nat} (X : Cx p s m args meth c cX12_allBits 3 RX12 D ks A 24 ad (shR ks ad)) (hr : meth.sig.returnType = (some .int)) {F : Nat} {r : Int32 × Mem} : ∀ n : Nat, ∀ (μ : Mem) (x1 : Int32) (x2 : Int32), f_X12_allBits_b4 F  n μ x1 x2 = some r → G p l e rm_X12_allBits s m args below meth c D A 3 (MQ below (QI D 24 ad (shR ks ad) A r) args s 0 0 A) 24 ad (shR ks ad) μ 4 [(0, .ref (ad 0)), (1, .int x1), (2, .int x2)] [] := by
  intro n
  induction n with
  | zero =>
    intro _ _ _ h
    cases h
  | succ n ih =>
    intro μ x1 x2 h
    refine g_iload_n 5 X 2 dX12_allBits_4 rfl rfl ?_
    refine g_aload_n 6 X 0 dX12_allBits_5 rfl rfl ?_
    refine g_geti 9 X fl_X12_115_12 (o12 rfl) rfl dX12_allBits_6 h rfl (fun v1 h => ?_)
    refine g_icmp_ge 24 12 X dX12_allBits_9 (by decide) rfl h (fun h => ?_) (fun h => ?_)
    · refine g_iload_n 25 X 1 dX12_allBits_24 rfl rfl ?_
      exact g_iret X hr dX12_allBits_25 h
    · refine g_iload_n 13 X 1 dX12_allBits_12 rfl rfl ?_
      refine g_iconst 14 X dX12_allBits_13 ic1 rfl ?_
      refine g_iload_n 15 X 2 dX12_allBits_14 rfl rfl ?_
      refine g_ishl 16 X dX12_allBits_15 rfl ?_
      refine g_ior 17 X dX12_allBits_16 rfl ?_
      refine g_topi h (fun v2 h => ?_)
      refine g_istore_n 18 X dX12_allBits_17 (by decide) rfl ?_
      refine g_iinc 21 X 2 dX12_allBits_18 ic1 rfl (by decide) rfl ?_
      refine g_goto 4 X dX12_allBits_21 (by decide) ?_
      exact G.sub [2, 1, 0] rfl (ih _ _ _ h)
set_option maxRecDepth 100000 in
set_option maxHeartbeats 4000000 in
theorem b_X12_allBits_0 {p : Program} {l : Launch} {e : Env} {s : State} {m : MethodId} {args : Array Value} {below : List Frame} {meth : Method} {c : Code} {D : va_G} {ks : Nat → ClassId} {A : Nat → Prop} {ad : Nat → Nat} (X : Cx p s m args meth c cX12_allBits 3 RX12 D ks A 24 ad (shR ks ad)) (hr : meth.sig.returnType = (some .int)) {F : Nat} {r : Int32 × Mem} (μ : Mem)  (h : f_X12_allBits F  μ = some r) : G p l e rm_X12_allBits s m args below meth c D A 3 (MQ below (QI D 24 ad (shR ks ad) A r) args s 0 0 A) 24 ad (shR ks ad) μ 0 [(0, .ref (ad 0))] [] := by
  refine g_iconst 1 X dX12_allBits_0 ic0 rfl ?_
  refine g_istore_n 2 X dX12_allBits_1 (by decide) rfl ?_
  refine g_iconst 3 X dX12_allBits_2 ic0 rfl ?_
  refine g_istore_n 4 X dX12_allBits_3 (by decide) rfl ?_
  exact G.sub [2, 1, 0] rfl (b_X12_allBits_4 X hr  F _ _ _ h)
set_option maxRecDepth 100000 in
theorem c_X12_allBits {l : Launch} {D : va_G} {ks : Nat → ClassId} {A : Nat → Prop} {ad : Nat → Nat} (hD : ∀ μ : Mem, va_D A (wsM 24 ad (shR ks ad) μ)) {F : Nat} {μ : Mem} {r : Int32 × Mem}  (h : f_X12_allBits F μ = some r) : Met l yX12_allBits (Cond.code yX12_allBits cX12_allBits 3 (some .int) :: wg) rm_X12_allBits (PC D ks 24 ad (shR ks ad) μ [.ref (ad 0)]) (QI D 24 ad (shR ks ad) A r) 0 0 A := by
  refine met_of (by decide) (Nat.le_of_ble_eq_true rfl) hD ?_
  intro p e s m args below meth c X hr
  exact G.sub [0] rfl (b_X12_allBits_0 X hr  _ h)
abbrev rm_X12_lotsNow : Room := { frames := 3, cells := 0, slots := 0, locals := 69 }
set_option maxRecDepth 100000 in
set_option maxHeartbeats 4000000 in
theorem b_X12_lotsNow_190 {p : Program} {l : Launch} {e : Env} {s : State} {m : MethodId} {args : Array Value} {below : List Frame} {meth : Method} {c : Code} {D : va_G} {ks : Nat → ClassId} {A : Nat → Prop} {ad : Nat → Nat} (X : Cx p s m args meth c cX12_lotsNow 6 RX12 D ks A 24 ad (shR ks ad)) (hr : meth.sig.returnType = (some .int)) {F : Nat} {r : Int32 × Mem} {k150 : Mem → Int32 → Int32 → Int32 → Option (Int32 × Mem)} (hk150 : ∀ (μ : Mem) (x2 : Int32) (x4 : Int32) (x5 : Int32), k150 μ x2 x4 x5 = some r → G p l e rm_X12_lotsNow s m args below meth c D A 6 (MQ below (QI D 24 ad (shR ks ad) A r) args s 0 0 A) 24 ad (shR ks ad) μ 150 [(0, .ref (ad 0)), (2, .int x2), (4, .int x4), (5, .int x5)] []) (μ : Mem) (x4 : Int32) (x5 : Int32) (z0 : Int32) (z1 : Int32)  (h : f_X12_lotsNow_b190 F k150 μ x4 x5 z0 z1 = some r) : G p l e rm_X12_lotsNow s m args below meth c D A 6 (MQ below (QI D 24 ad (shR ks ad) A r) args s 0 0 A) 24 ad (shR ks ad) μ 190 [(0, .ref (ad 0)), (4, .int x4), (5, .int x5)] [.int z0, .int z1] := by
  refine g_ior 191 X dX12_lotsNow_190 rfl ?_
  refine g_topi h (fun v1 h => ?_)
  refine g_istore_n 192 X dX12_lotsNow_191 (by decide) rfl ?_
  refine g_iinc 195 X 3 dX12_lotsNow_192 ic1 rfl (by decide) rfl ?_
  refine g_goto 150 X dX12_lotsNow_195 (by decide) ?_
  exact G.sub [2, 1, 3, 0] rfl (hk150 _ _ _ _ h)
set_option maxRecDepth 100000 in
set_option maxHeartbeats 4000000 in
theorem b_X12_lotsNow_150 {p : Program} {l : Launch} {e : Env} {s : State} {m : MethodId} {args : Array Value} {below : List Frame} {meth : Method} {c : Code} {D : va_G} {ks : Nat → ClassId} {A : Nat → Prop} {ad : Nat → Nat} (X : Cx p s m args meth c cX12_lotsNow 6 RX12 D ks A 24 ad (shR ks ad)) (hr : meth.sig.returnType = (some .int)) {F : Nat} {r : Int32 × Mem} : ∀ n : Nat, ∀ (μ : Mem) (x2 : Int32) (x4 : Int32) (x5 : Int32), f_X12_lotsNow_b150 F  n μ x2 x4 x5 = some r → G p l e rm_X12_lotsNow s m args below meth c D A 6 (MQ below (QI D 24 ad (shR ks ad) A r) args s 0 0 A) 24 ad (shR ks ad) μ 150 [(0, .ref (ad 0)), (2, .int x2), (4, .int x4), (5, .int x5)] [] := by
  intro n
  induction n with
  | zero =>
    intro _ _ _ _ h
    cases h
  | succ n ih =>
    intro μ x2 x4 x5 h
    refine g_iload 152 X 3 dX12_lotsNow_150 rfl rfl ?_
    refine g_bipush 154 X dX12_lotsNow_152 bp8 rfl ?_
    refine g_icmp_ge 198 157 X dX12_lotsNow_154 (by decide) rfl h (fun h => ?_) (fun h => ?_)
    · refine g_iload_n 199 X 1 dX12_lotsNow_198 rfl rfl ?_
      exact g_iret X hr dX12_lotsNow_199 h
    · refine g_iload_n 158 X 1 dX12_lotsNow_157 rfl rfl ?_
      refine g_iload 160 X 2 dX12_lotsNow_158 rfl rfl ?_
      refine g_iload 162 X 3 dX12_lotsNow_160 rfl rfl ?_
      refine g_ishr 163 X dX12_lotsNow_162 rfl ?_
      refine g_iconst 164 X dX12_lotsNow_163 ic1 rfl ?_
      refine g_iand 165 X dX12_lotsNow_164 rfl ?_
      refine g_iconst 166 X dX12_lotsNow_165 ic1 rfl ?_
      refine g_icmp_ne 189 169 X dX12_lotsNow_166 (by decide) rfl h (fun h => ?_) (fun h => ?_)
      · refine g_iconst 190 X dX12_lotsNow_189 ic0 rfl ?_
        exact G.sub [0, 2, 3] rfl (b_X12_lotsNow_190 X hr ih _ _ _ _ _ h)
      · refine g_aload_n 170 X 0 dX12_lotsNow_169 rfl rfl ?_
        refine g_aload_n 171 X 0 dX12_lotsNow_170 rfl rfl ?_
        refine g_iconst 172 X dX12_lotsNow_171 ic1 rfl ?_
        refine g_iload 174 X 3 dX12_lotsNow_172 rfl rfl ?_
        refine g_ci 177 h (fun q e => r_V X cd_X12_260_X12_bitsOf_X12 ⟨rfl, rfl⟩ ⟨Nat.le_of_ble_eq_true rfl, Nat.le_of_ble_eq_true rfl⟩ (c_X12_bitsOf X.2.2.2.2  e) PC_blind (pc_pre X) (g_recv X (o12 rfl) rfl) rfl rfl (Nat.le_of_ble_eq_true rfl) dX12_lotsNow_174) rfl (fun v1 μ2 h => ?_)
        refine g_aload_n 178 X 0 dX12_lotsNow_177 rfl rfl ?_
        refine g_iload 180 X 3 dX12_lotsNow_178 rfl rfl ?_
        refine g_ci 183 h (fun q e => r_V X cd_X12_195_X12_ofCluster_X12 ⟨rfl, rfl⟩ ⟨Nat.le_of_ble_eq_true rfl, Nat.le_of_ble_eq_true rfl⟩ (c_X12_ofCluster X.2.2.2.2  e) PC_blind (pc_pre X) (g_recv X (o12 rfl) rfl) rfl rfl (Nat.le_of_ble_eq_true rfl) dX12_lotsNow_180) rfl (fun v3 μ4 h => ?_)
        refine g_ci 186 h (fun q e => r_V X cd_X12_257_X12_takes_X12 ⟨rfl, rfl⟩ ⟨Nat.le_of_ble_eq_true rfl, Nat.le_of_ble_eq_true rfl⟩ (c_X12_takes X.2.2.2.2  e) PC_blind (pc_pre X) (g_recv X (o12 rfl) rfl) rfl rfl (Nat.le_of_ble_eq_true rfl) dX12_lotsNow_183) rfl (fun v5 μ6 h => ?_)
        refine g_goto 190 X dX12_lotsNow_186 (by decide) ?_
        exact G.sub [0, 2, 3] rfl (b_X12_lotsNow_190 X hr ih _ _ _ _ _ h)
set_option maxRecDepth 100000 in
set_option maxHeartbeats 4000000 in
theorem b_X12_lotsNow_126 {p : Program} {l : Launch} {e : Env} {s : State} {m : MethodId} {args : Array Value} {below : List Frame} {meth : Method} {c : Code} {D : va_G} {ks : Nat → ClassId} {A : Nat → Prop} {ad : Nat → Nat} (X : Cx p s m args meth c cX12_lotsNow 6 RX12 D ks A 24 ad (shR ks ad)) (hr : meth.sig.returnType = (some .int)) {F : Nat} {r : Int32 × Mem} {k100 : Mem → Int32 → Int32 → Int32 → Option (Int32 × Mem)} (hk100 : ∀ (μ : Mem) (x2 : Int32) (x3 : Int32) (x4 : Int32), k100 μ x2 x3 x4 = some r → G p l e rm_X12_lotsNow s m args below meth c D A 6 (MQ below (QI D 24 ad (shR ks ad) A r) args s 0 0 A) 24 ad (shR ks ad) μ 100 [(0, .ref (ad 0)), (2, .int x2), (3, .int x3), (4, .int x4)] []) (μ : Mem) (x2 : Int32) (x4 : Int32) (z0 : Int32) (z1 : Int32)  (h : f_X12_lotsNow_b126 F k100 μ x2 x4 z0 z1 = some r) : G p l e rm_X12_lotsNow s m args below meth c D A 6 (MQ below (QI D 24 ad (shR ks ad) A r) args s 0 0 A) 24 ad (shR ks ad) μ 126 [(0, .ref (ad 0)), (2, .int x2), (4, .int x4)] [.int z0, .int z1] := by
  refine g_ior 127 X dX12_lotsNow_126 rfl ?_
  refine g_topi h (fun v1 h => ?_)
  refine g_istore_n 128 X dX12_lotsNow_127 (by decide) rfl ?_
  refine g_iinc 131 X 3 dX12_lotsNow_128 ic1 rfl (by decide) rfl ?_
  refine g_goto 100 X dX12_lotsNow_131 (by decide) ?_
  exact G.sub [2, 3, 1, 0] rfl (hk100 _ _ _ _ h)
set_option maxRecDepth 100000 in
set_option maxHeartbeats 4000000 in
theorem b_X12_lotsNow_100 {p : Program} {l : Launch} {e : Env} {s : State} {m : MethodId} {args : Array Value} {below : List Frame} {meth : Method} {c : Code} {D : va_G} {ks : Nat → ClassId} {A : Nat → Prop} {ad : Nat → Nat} (X : Cx p s m args meth c cX12_lotsNow 6 RX12 D ks A 24 ad (shR ks ad)) (hr : meth.sig.returnType = (some .int)) {F : Nat} {r : Int32 × Mem} : ∀ n : Nat, ∀ (μ : Mem) (x2 : Int32) (x3 : Int32) (x4 : Int32), f_X12_lotsNow_b100 F  n μ x2 x3 x4 = some r → G p l e rm_X12_lotsNow s m args below meth c D A 6 (MQ below (QI D 24 ad (shR ks ad) A r) args s 0 0 A) 24 ad (shR ks ad) μ 100 [(0, .ref (ad 0)), (2, .int x2), (3, .int x3), (4, .int x4)] [] := by
  intro n
  induction n with
  | zero =>
    intro _ _ _ _ h
    cases h
  | succ n ih =>
    intro μ x2 x3 x4 h
    refine g_iload 102 X 3 dX12_lotsNow_100 rfl rfl ?_
    refine g_bipush 104 X dX12_lotsNow_102 bp8 rfl ?_
    refine g_icmp_ge 134 107 X dX12_lotsNow_104 (by decide) rfl h (fun h => ?_) (fun h => ?_)
    · refine g_aload_n 135 X 0 dX12_lotsNow_134 rfl rfl ?_
      refine g_iload_n 136 X 2 dX12_lotsNow_135 rfl rfl ?_
      refine g_aload_n 137 X 0 dX12_lotsNow_136 rfl rfl ?_
      refine g_getr 140 X fl_X12_53_12 (o12 rfl) rfl dX12_lotsNow_137 rfl ?_
      refine g_iconst 141 X dX12_lotsNow_140 ic0 rfl ?_
      refine g_iald 142 X (aiR (n := 4) (by decide) rfl) dX12_lotsNow_141 h rfl (fun v1 h => ?_)
      refine g_ci 145 h (fun q e => r_V X cd_X12_257_X12_takes_X12 ⟨rfl, rfl⟩ ⟨Nat.le_of_ble_eq_true rfl, Nat.le_of_ble_eq_true rfl⟩ (c_X12_takes X.2.2.2.2  e) PC_blind (pc_pre X) (g_recv X (o12 rfl) rfl) rfl rfl (Nat.le_of_ble_eq_true rfl) dX12_lotsNow_142) rfl (fun v2 μ3 h => ?_)
      refine g_istore 147 X dX12_lotsNow_145 (by decide) rfl ?_
      refine g_iconst 148 X dX12_lotsNow_147 ic0 rfl ?_
      refine g_istore 150 X dX12_lotsNow_148 (by decide) rfl ?_
      exact G.sub [2, 3, 1, 0] rfl (b_X12_lotsNow_150 X hr  F _ _ _ _ h)
    · refine g_iload_n 108 X 2 dX12_lotsNow_107 rfl rfl ?_
      refine g_aload_n 109 X 0 dX12_lotsNow_108 rfl rfl ?_
      refine g_iconst 110 X dX12_lotsNow_109 ic1 rfl ?_
      refine g_iload 112 X 3 dX12_lotsNow_110 rfl rfl ?_
      refine g_ci 115 h (fun q e => r_V X cd_X12_144_X12_manyOf_X12 ⟨rfl, rfl⟩ ⟨Nat.le_of_ble_eq_true rfl, Nat.le_of_ble_eq_true rfl⟩ (c_X12_manyOf X.2.2.2.2  e) PC_blind (pc_pre X) (g_recv X (o12 rfl) rfl) rfl rfl (Nat.le_of_ble_eq_true rfl) dX12_lotsNow_112) rfl (fun v4 μ5 h => ?_)
      refine g_if_le 125 118 X dX12_lotsNow_115 (by decide) rfl h (fun h => ?_) (fun h => ?_)
      · refine g_iconst 126 X dX12_lotsNow_125 ic0 rfl ?_
        exact G.sub [0, 1, 3] rfl (b_X12_lotsNow_126 X hr ih _ _ _ _ _ h)
      · refine g_iconst 119 X dX12_lotsNow_118 ic1 rfl ?_
        refine g_iload 121 X 3 dX12_lotsNow_119 rfl rfl ?_
        refine g_ishl 122 X dX12_lotsNow_121 rfl ?_
        refine g_goto 126 X dX12_lotsNow_122 (by decide) ?_
        exact G.sub [0, 1, 3] rfl (b_X12_lotsNow_126 X hr ih _ _ _ _ _ h)
set_option maxRecDepth 100000 in
set_option maxHeartbeats 4000000 in
theorem b_X12_lotsNow_63 {p : Program} {l : Launch} {e : Env} {s : State} {m : MethodId} {args : Array Value} {below : List Frame} {meth : Method} {c : Code} {D : va_G} {ks : Nat → ClassId} {A : Nat → Prop} {ad : Nat → Nat} (X : Cx p s m args meth c cX12_lotsNow 6 RX12 D ks A 24 ad (shR ks ad)) (hr : meth.sig.returnType = (some .int)) {F : Nat} {r : Int32 × Mem} : ∀ n : Nat, ∀ (μ : Mem) (x2 : Int32) (x3 : Int32), f_X12_lotsNow_b63 F  n μ x2 x3 = some r → G p l e rm_X12_lotsNow s m args below meth c D A 6 (MQ below (QI D 24 ad (shR ks ad) A r) args s 0 0 A) 24 ad (shR ks ad) μ 63 [(0, .ref (ad 0)), (2, .int x2), (3, .int x3)] [] := by
  intro n
  induction n with
  | zero =>
    intro _ _ _ h
    cases h
  | succ n ih =>
    intro μ x2 x3 h
    refine g_iload_n 64 X 2 dX12_lotsNow_63 rfl rfl ?_
    refine g_iconst 65 X dX12_lotsNow_64 ic4 rfl ?_
    refine g_icmp_ge 93 68 X dX12_lotsNow_65 (by decide) rfl h (fun h => ?_) (fun h => ?_)
    · refine g_iload_n 94 X 1 dX12_lotsNow_93 rfl rfl ?_
      exact g_iret X hr dX12_lotsNow_94 h
    · refine g_iload_n 69 X 1 dX12_lotsNow_68 rfl rfl ?_
      refine g_aload_n 70 X 0 dX12_lotsNow_69 rfl rfl ?_
      refine g_aload_n 71 X 0 dX12_lotsNow_70 rfl rfl ?_
      refine g_iconst 72 X dX12_lotsNow_71 ic0 rfl ?_
      refine g_iload_n 73 X 2 dX12_lotsNow_72 rfl rfl ?_
      refine g_ci 76 h (fun q e => r_V X cd_X12_260_X12_bitsOf_X12 ⟨rfl, rfl⟩ ⟨Nat.le_of_ble_eq_true rfl, Nat.le_of_ble_eq_true rfl⟩ (c_X12_bitsOf X.2.2.2.2  e) PC_blind (pc_pre X) (g_recv X (o12 rfl) rfl) rfl rfl (Nat.le_of_ble_eq_true rfl) dX12_lotsNow_73) rfl (fun v1 μ2 h => ?_)
      refine g_aload_n 77 X 0 dX12_lotsNow_76 rfl rfl ?_
      refine g_getr 80 X fl_X12_53_12 (o12 rfl) rfl dX12_lotsNow_77 rfl ?_
      refine g_iload_n 81 X 2 dX12_lotsNow_80 rfl rfl ?_
      refine g_iald 82 X (aiR (n := 4) (by decide) rfl) dX12_lotsNow_81 h rfl (fun v3 h => ?_)
      refine g_ci 85 h (fun q e => r_V X cd_X12_257_X12_takes_X12 ⟨rfl, rfl⟩ ⟨Nat.le_of_ble_eq_true rfl, Nat.le_of_ble_eq_true rfl⟩ (c_X12_takes X.2.2.2.2  e) PC_blind (pc_pre X) (g_recv X (o12 rfl) rfl) rfl rfl (Nat.le_of_ble_eq_true rfl) dX12_lotsNow_82) rfl (fun v4 μ5 h => ?_)
      refine g_ior 86 X dX12_lotsNow_85 rfl ?_
      refine g_topi h (fun v6 h => ?_)
      refine g_istore_n 87 X dX12_lotsNow_86 (by decide) rfl ?_
      refine g_iinc 90 X 2 dX12_lotsNow_87 ic1 rfl (by decide) rfl ?_
      refine g_goto 63 X dX12_lotsNow_90 (by decide) ?_
      exact G.sub [2, 1, 0] rfl (ih _ _ _ h)
set_option maxRecDepth 100000 in
set_option maxHeartbeats 4000000 in
theorem b_X12_lotsNow_0 {p : Program} {l : Launch} {e : Env} {s : State} {m : MethodId} {args : Array Value} {below : List Frame} {meth : Method} {c : Code} {D : va_G} {ks : Nat → ClassId} {A : Nat → Prop} {ad : Nat → Nat} (X : Cx p s m args meth c cX12_lotsNow 6 RX12 D ks A 24 ad (shR ks ad)) (hr : meth.sig.returnType = (some .int)) {F : Nat} {r : Int32 × Mem} (μ : Mem) (x1 : Int32)  (h : f_X12_lotsNow F  μ x1 = some r) : G p l e rm_X12_lotsNow s m args below meth c D A 6 (MQ below (QI D 24 ad (shR ks ad) A r) args s 0 0 A) 24 ad (shR ks ad) μ 0 [(0, .ref (ad 0)), (1, .int x1)] [] := by
  refine g_aload_n 1 X 0 dX12_lotsNow_0 rfl rfl ?_
  refine g_iload_n 2 X 1 dX12_lotsNow_1 rfl rfl ?_
  refine g_puti 5 X fp_X12_248_12 (o12 rfl) rfl (Nat.le_of_ble_eq_true rfl) rfl rfl dX12_lotsNow_2 h rfl (fun μ1 h => ?_)
  refine g_aload_n 6 X 0 dX12_lotsNow_5 rfl rfl ?_
  refine g_ci 9 h (fun q e => r_V X cd_X12_220_X12_goesRound_X12 ⟨rfl, rfl⟩ ⟨Nat.le_of_ble_eq_true rfl, Nat.le_of_ble_eq_true rfl⟩ (c_X12_goesRound X.2.2.2.2  e) PC_blind (pc_pre X) (g_recv X (o12 rfl) rfl) rfl rfl (Nat.le_of_ble_eq_true rfl) dX12_lotsNow_6) rfl (fun v2 μ3 h => ?_)
  refine g_if_eq 26 12 X dX12_lotsNow_9 (by decide) rfl h (fun h => ?_) (fun h => ?_)
  · refine g_aload_n 27 X 0 dX12_lotsNow_26 rfl rfl ?_
    refine g_geti 30 X fl_X12_166_12 (o12 rfl) rfl dX12_lotsNow_27 h rfl (fun v4 h => ?_)
    refine g_bipush 32 X dX12_lotsNow_30 bp97 rfl ?_
    refine g_icmp_ne 50 35 X dX12_lotsNow_32 (by decide) rfl h (fun h => ?_) (fun h => ?_)
    · refine g_iconst 51 X dX12_lotsNow_50 ic0 rfl ?_
      refine g_istore_n 52 X dX12_lotsNow_51 (by decide) rfl ?_
      refine g_aload_n 53 X 1 dX12_lotsNow_52 rfl rfl ?_
      refine g_geti 56 X fl_X12_166_12 (o12 rfl) rfl dX12_lotsNow_53 h rfl (fun v5 h => ?_)
      refine g_bipush 58 X dX12_lotsNow_56 bp108 rfl ?_
      refine g_icmp_ne 95 61 X dX12_lotsNow_58 (by decide) rfl h (fun h => ?_) (fun h => ?_)
      · refine g_iconst 96 X dX12_lotsNow_95 ic0 rfl ?_
        refine g_istore_n 97 X dX12_lotsNow_96 (by decide) rfl ?_
        refine g_iconst 98 X dX12_lotsNow_97 ic0 rfl ?_
        refine g_istore 100 X dX12_lotsNow_98 (by decide) rfl ?_
        exact G.sub [3, 2, 1, 0] rfl (b_X12_lotsNow_100 X hr  F _ _ _ _ h)
      · refine g_iconst 62 X dX12_lotsNow_61 ic0 rfl ?_
        refine g_istore_n 63 X dX12_lotsNow_62 (by decide) rfl ?_
        exact G.sub [2, 1, 0] rfl (b_X12_lotsNow_63 X hr  F _ _ _ h)
    · refine g_aload_n 36 X 0 dX12_lotsNow_35 rfl rfl ?_
      refine g_aload_n 37 X 0 dX12_lotsNow_36 rfl rfl ?_
      refine g_ci 40 h (fun q e => r_V X cd_X12_254_X12_allBits_X12 ⟨rfl, rfl⟩ ⟨Nat.le_of_ble_eq_true rfl, Nat.le_of_ble_eq_true rfl⟩ (c_X12_allBits X.2.2.2.2  e) PC_blind (pc_pre X) (g_recv X (o12 rfl) rfl) rfl rfl (Nat.le_of_ble_eq_true rfl) dX12_lotsNow_37) rfl (fun v6 μ7 h => ?_)
      refine g_aload_n 41 X 0 dX12_lotsNow_40 rfl rfl ?_
      refine g_getr 44 X fl_X12_53_12 (o12 rfl) rfl dX12_lotsNow_41 rfl ?_
      refine g_iconst 45 X dX12_lotsNow_44 ic0 rfl ?_
      refine g_iald 46 X (aiR (n := 4) (by decide) rfl) dX12_lotsNow_45 h rfl (fun v8 h => ?_)
      refine g_ci 49 h (fun q e => r_V X cd_X12_257_X12_takes_X12 ⟨rfl, rfl⟩ ⟨Nat.le_of_ble_eq_true rfl, Nat.le_of_ble_eq_true rfl⟩ (c_X12_takes X.2.2.2.2  e) PC_blind (pc_pre X) (g_recv X (o12 rfl) rfl) rfl rfl (Nat.le_of_ble_eq_true rfl) dX12_lotsNow_46) rfl (fun v9 μ10 h => ?_)
      exact g_iret X hr dX12_lotsNow_49 h
  · refine g_aload_n 13 X 0 dX12_lotsNow_12 rfl rfl ?_
    refine g_aload_n 14 X 0 dX12_lotsNow_13 rfl rfl ?_
    refine g_aload_n 15 X 0 dX12_lotsNow_14 rfl rfl ?_
    refine g_cl 18 h (fun q e => r_V X cd_X12_202_X12_drawsNow_X12 ⟨rfl, rfl⟩ ⟨Nat.le_of_ble_eq_true rfl, Nat.le_of_ble_eq_true rfl⟩ (c_X12_drawsNow X.2.2.2.2  e) PC_blind (pc_pre X) (g_recv X (o12 rfl) rfl) rfl rfl (Nat.le_of_ble_eq_true rfl) dX12_lotsNow_15) rfl (fun v11 μ12 h => ?_)
    refine g_l2i 19 X dX12_lotsNow_18 rfl ?_
    refine g_ci 22 h (fun q e => r_V X cd_X12_251_X12_lot_X12 ⟨rfl, rfl⟩ ⟨Nat.le_of_ble_eq_true rfl, Nat.le_of_ble_eq_true rfl⟩ (c_X12_lot X.2.2.2.2  e) PC_blind (pc_pre X) (g_recv X (o12 rfl) rfl) rfl rfl (Nat.le_of_ble_eq_true rfl) dX12_lotsNow_19) rfl (fun v13 μ14 h => ?_)
    refine g_ci 25 h (fun q e => r_V X cd_X12_217_X12_drawOf_X12 ⟨rfl, rfl⟩ ⟨Nat.le_of_ble_eq_true rfl, Nat.le_of_ble_eq_true rfl⟩ (c_X12_drawOf X.2.2.2.2  e) PC_blind (pc_pre X) (g_recv X (o12 rfl) rfl) rfl rfl (Nat.le_of_ble_eq_true rfl) dX12_lotsNow_22) rfl (fun v15 μ16 h => ?_)
    exact g_iret X hr dX12_lotsNow_25 h
set_option maxRecDepth 100000 in
theorem c_X12_lotsNow {l : Launch} {D : va_G} {ks : Nat → ClassId} {A : Nat → Prop} {ad : Nat → Nat} (hD : ∀ μ : Mem, va_D A (wsM 24 ad (shR ks ad) μ)) {F : Nat} {μ : Mem} {x1 : Int32} {r : Int32 × Mem}  (h : f_X12_lotsNow F μ x1 = some r) : Met l yX12_lotsNow (Cond.code yX12_lotsNow cX12_lotsNow 6 (some .int) :: wg) rm_X12_lotsNow (PC D ks 24 ad (shR ks ad) μ [.ref (ad 0), .int x1]) (QI D 24 ad (shR ks ad) A r) 0 0 A := by
  refine met_of (by decide) (Nat.le_of_ble_eq_true rfl) hD ?_
  intro p e s m args below meth c X hr
  exact G.sub [0, 1] rfl (b_X12_lotsNow_0 X hr  _ _ h)
abbrev rm_X12_lots : Room := { frames := 4, cells := 0, slots := 0, locals := 96 }
set_option maxRecDepth 100000 in
set_option maxHeartbeats 4000000 in
theorem b_X12_lots_0 {p : Program} {l : Launch} {e : Env} {s : State} {m : MethodId} {args : Array Value} {below : List Frame} {meth : Method} {c : Code} {D : va_G} {ks : Nat → ClassId} {A : Nat → Prop} {ad : Nat → Nat} (X : Cx p s m args meth c cX12_lots 3 RX12 D ks A 24 ad (shR ks ad)) (hr : meth.sig.returnType = (some .int)) {F : Nat} {r : Int32 × Mem} (μ : Mem) (x1 : Int32) (x2 : Int32)  (h : f_X12_lots F  μ x1 x2 = some r) : G p l e rm_X12_lots s m args below meth c D A 3 (MQ below (QI D 24 ad (shR ks ad) A r) args s 0 0 A) 24 ad (shR ks ad) μ 0 [(0, .ref (ad 0)), (1, .int x1), (2, .int x2)] [] := by
  refine g_iload_n 1 X 1 dX12_lots_0 rfl rfl ?_
  refine g_ni 4 h (fun q e => r_S X cd_X12_147_X12_isPlan ⟨rfl, rfl⟩ ⟨Nat.le_of_ble_eq_true rfl, Nat.le_of_ble_eq_true rfl⟩ (c_X12_isPlan e) PC_blind (pn_pre X) rfl rfl (Nat.le_of_ble_eq_true rfl) dX12_lots_1) rfl (fun v1 h => ?_)
  refine g_if_ne 10 7 X dX12_lots_4 (by decide) rfl h (fun h => ?_) (fun h => ?_)
  · refine g_aload_n 11 X 0 dX12_lots_10 rfl rfl ?_
    refine g_iload_n 12 X 1 dX12_lots_11 rfl rfl ?_
    refine g_ci 15 h (fun q e => r_V X cd_X12_188_X12_canBe_X12 ⟨rfl, rfl⟩ ⟨Nat.le_of_ble_eq_true rfl, Nat.le_of_ble_eq_true rfl⟩ (c_X12_canBe X.2.2.2.2  e) PC_blind (pc_pre X) (g_recv X (o12 rfl) rfl) rfl rfl (Nat.le_of_ble_eq_true rfl) dX12_lots_12) rfl (fun v2 μ3 h => ?_)
    refine g_if_eq 26 18 X dX12_lots_15 (by decide) rfl h (fun h => ?_) (fun h => ?_)
    · refine g_bipush 28 X dX12_lots_26 bpm3 rfl ?_
      exact g_iret X hr dX12_lots_28 h
    · refine g_aload_n 19 X 0 dX12_lots_18 rfl rfl ?_
      refine g_iload_n 20 X 2 dX12_lots_19 rfl rfl ?_
      refine g_ci 23 h (fun q e => r_V X cd_X12_263_X12_lotsNow_X12 ⟨rfl, rfl⟩ ⟨Nat.le_of_ble_eq_true rfl, Nat.le_of_ble_eq_true rfl⟩ (c_X12_lotsNow X.2.2.2.2  e) PC_blind (pc_pre X) (g_recv X (o12 rfl) rfl) rfl rfl (Nat.le_of_ble_eq_true rfl) dX12_lots_20) rfl (fun v4 μ5 h => ?_)
      refine g_goto 28 X dX12_lots_23 (by decide) ?_
      exact g_iret X hr dX12_lots_28 h
  · refine g_bipush 9 X dX12_lots_7 bpm2 rfl ?_
    exact g_iret X hr dX12_lots_9 h
set_option maxRecDepth 100000 in
theorem c_X12_lots {l : Launch} {D : va_G} {ks : Nat → ClassId} {A : Nat → Prop} {ad : Nat → Nat} (hD : ∀ μ : Mem, va_D A (wsM 24 ad (shR ks ad) μ)) {F : Nat} {μ : Mem} {x1 : Int32} {x2 : Int32} {r : Int32 × Mem}  (h : f_X12_lots F μ x1 x2 = some r) : Met l yX12_lots (Cond.code yX12_lots cX12_lots 3 (some .int) :: wg) rm_X12_lots (PC D ks 24 ad (shR ks ad) μ [.ref (ad 0), .int x1, .int x2]) (QI D 24 ad (shR ks ad) A r) 0 0 A := by
  refine met_of (by decide) (Nat.le_of_ble_eq_true rfl) hD ?_
  intro p e s m args below meth c X hr
  exact G.sub [0, 1, 2] rfl (b_X12_lots_0 X hr  _ _ _ h)
abbrev rm_X12_isDraw : Room := { frames := 1, cells := 0, slots := 0, locals := 25 }
set_option maxRecDepth 100000 in
set_option maxHeartbeats 4000000 in
theorem b_X12_isDraw_0 {p : Program} {l : Launch} {e : Env} {s : State} {m : MethodId} {args : Array Value} {below : List Frame} {meth : Method} {c : Code} {D : va_G} {ks : Nat → ClassId} {A : Nat → Prop} {ad : Nat → Nat} (X : Cx p s m args meth c cX12_isDraw 2 RX12 D ks A 24 ad (shR ks ad)) (hr : meth.sig.returnType = (some .boolean)) {F : Nat} {r : Int32 × Mem} (μ : Mem) (x1 : Int32)  (h : f_X12_isDraw F  μ x1 = some r) : G p l e rm_X12_isDraw s m args below meth c D A 2 (MQ below (QI D 24 ad (shR ks ad) A r) args s 0 0 A) 24 ad (shR ks ad) μ 0 [(0, .ref (ad 0)), (1, .int x1)] [] := by
  refine g_iload_n 1 X 1 dX12_isDraw_0 rfl rfl ?_
  refine g_i2l 2 X dX12_isDraw_1 rfl ?_
  refine g_lconst 3 X dX12_isDraw_2 lc0 rfl ?_
  refine g_aload_n 4 X 0 dX12_isDraw_3 rfl rfl ?_
  refine g_ci 7 h (fun q e => r_V X cd_X12_254_X12_allBits_X12 ⟨rfl, rfl⟩ ⟨Nat.le_of_ble_eq_true rfl, Nat.le_of_ble_eq_true rfl⟩ (c_X12_allBits X.2.2.2.2  e) PC_blind (pc_pre X) (g_recv X (o12 rfl) rfl) rfl rfl (Nat.le_of_ble_eq_true rfl) dX12_isDraw_4) rfl (fun v1 μ2 h => ?_)
  refine g_i2l 8 X dX12_isDraw_7 rfl ?_
  refine g_ni 11 h (fun q e => r_S X cd_X12_92_X12_in ⟨rfl, rfl⟩ ⟨Nat.le_of_ble_eq_true rfl, Nat.le_of_ble_eq_true rfl⟩ (c_X12_in e) PC_blind (pn_pre X) rfl rfl (Nat.le_of_ble_eq_true rfl) dX12_isDraw_8) rfl (fun v3 h => ?_)
  obtain ⟨hz, h⟩ := zk_some h
  exact g_zret X hr hz dX12_isDraw_11 h
set_option maxRecDepth 100000 in
theorem c_X12_isDraw {l : Launch} {D : va_G} {ks : Nat → ClassId} {A : Nat → Prop} {ad : Nat → Nat} (hD : ∀ μ : Mem, va_D A (wsM 24 ad (shR ks ad) μ)) {F : Nat} {μ : Mem} {x1 : Int32} {r : Int32 × Mem}  (h : f_X12_isDraw F μ x1 = some r) : Met l yX12_isDraw (Cond.code yX12_isDraw cX12_isDraw 2 (some .boolean) :: wg) rm_X12_isDraw (PC D ks 24 ad (shR ks ad) μ [.ref (ad 0), .int x1]) (QI D 24 ad (shR ks ad) A r) 0 0 A := by
  refine met_of (by decide) (Nat.le_of_ble_eq_true rfl) hD ?_
  intro p e s m args below meth c X hr
  exact G.sub [0, 1] rfl (b_X12_isDraw_0 X hr  _ _ h)
abbrev rm_X12_makesIt : Room := { frames := 3, cells := 0, slots := 0, locals := 69 }
set_option maxRecDepth 100000 in
set_option maxHeartbeats 4000000 in
theorem b_X12_makesIt_226 {p : Program} {l : Launch} {e : Env} {s : State} {m : MethodId} {args : Array Value} {below : List Frame} {meth : Method} {c : Code} {D : va_G} {ks : Nat → ClassId} {A : Nat → Prop} {ad : Nat → Nat} (X : Cx p s m args meth c cX12_makesIt 6 RX12 D ks A 24 ad (shR ks ad)) (hr : meth.sig.returnType = (some .boolean)) {F : Nat} {r : Int32 × Mem} (μ : Mem)  (h : f_X12_makesIt_b226 F  μ = some r) : G p l e rm_X12_makesIt s m args below meth c D A 6 (MQ below (QI D 24 ad (shR ks ad) A r) args s 0 0 A) 24 ad (shR ks ad) μ 226 [] [] := by
  refine g_iconst 227 X dX12_makesIt_226 ic1 rfl ?_
  refine g_goto 231 X dX12_makesIt_227 (by decide) ?_
  exact g_zret X hr nb1 dX12_makesIt_231 h
set_option maxRecDepth 100000 in
set_option maxHeartbeats 4000000 in
theorem b_X12_makesIt_197 {p : Program} {l : Launch} {e : Env} {s : State} {m : MethodId} {args : Array Value} {below : List Frame} {meth : Method} {c : Code} {D : va_G} {ks : Nat → ClassId} {A : Nat → Prop} {ad : Nat → Nat} (X : Cx p s m args meth c cX12_makesIt 6 RX12 D ks A 24 ad (shR ks ad)) (hr : meth.sig.returnType = (some .boolean)) {F : Nat} {r : Int32 × Mem} {k87 : Mem → Int32 → Int32 → Int32 → Int32 → Option (Int32 × Mem)} (hk87 : ∀ (μ : Mem) (x1 : Int32) (x2 : Int32) (x3 : Int32) (x4 : Int32), k87 μ x1 x2 x3 x4 = some r → G p l e rm_X12_makesIt s m args below meth c D A 6 (MQ below (QI D 24 ad (shR ks ad) A r) args s 0 0 A) 24 ad (shR ks ad) μ 87 [(0, .ref (ad 0)), (1, .int x1), (2, .int x2), (3, .int x3), (4, .int x4)] []) (μ : Mem) (x1 : Int32) (x2 : Int32) (x3 : Int32) (x4 : Int32)  (h : f_X12_makesIt_b197 F k87 μ x1 x2 x3 x4 = some r) : G p l e rm_X12_makesIt s m args below meth c D A 6 (MQ below (QI D 24 ad (shR ks ad) A r) args s 0 0 A) 24 ad (shR ks ad) μ 197 [(0, .ref (ad 0)), (1, .int x1), (2, .int x2), (3, .int x3), (4, .int x4)] [] := by
  refine g_iinc 200 X 4 dX12_makesIt_197 ic1 rfl (by decide) rfl ?_
  refine g_goto 87 X dX12_makesIt_200 (by decide) ?_
  exact G.sub [1, 2, 3, 4, 0] rfl (hk87 _ _ _ _ _ h)
set_option maxRecDepth 100000 in
set_option maxHeartbeats 4000000 in
theorem b_X12_makesIt_193 {p : Program} {l : Launch} {e : Env} {s : State} {m : MethodId} {args : Array Value} {below : List Frame} {meth : Method} {c : Code} {D : va_G} {ks : Nat → ClassId} {A : Nat → Prop} {ad : Nat → Nat} (X : Cx p s m args meth c cX12_makesIt 6 RX12 D ks A 24 ad (shR ks ad)) (hr : meth.sig.returnType = (some .boolean)) {F : Nat} {r : Int32 × Mem} {k87 : Mem → Int32 → Int32 → Int32 → Int32 → Option (Int32 × Mem)} (hk87 : ∀ (μ : Mem) (x1 : Int32) (x2 : Int32) (x3 : Int32) (x4 : Int32), k87 μ x1 x2 x3 x4 = some r → G p l e rm_X12_makesIt s m args below meth c D A 6 (MQ below (QI D 24 ad (shR ks ad) A r) args s 0 0 A) 24 ad (shR ks ad) μ 87 [(0, .ref (ad 0)), (1, .int x1), (2, .int x2), (3, .int x3), (4, .int x4)] []) (μ : Mem) (x1 : Int32) (x3 : Int32) (x4 : Int32) (z0 : Int32)  (h : f_X12_makesIt_b193 F k87 μ x1 x3 x4 z0 = some r) : G p l e rm_X12_makesIt s m args below meth c D A 6 (MQ below (QI D 24 ad (shR ks ad) A r) args s 0 0 A) 24 ad (shR ks ad) μ 193 [(0, .ref (ad 0)), (1, .int x1), (3, .int x3), (4, .int x4)] [.int z0] := by
  refine g_istore_n 194 X dX12_makesIt_193 (by decide) rfl ?_
  refine g_iinc 197 X 3 dX12_makesIt_194 ic1 rfl (by decide) rfl ?_
  exact G.sub [2, 3, 1, 0, 4] rfl (b_X12_makesIt_197 X hr hk87 _ _ _ _ _ h)
set_option maxRecDepth 100000 in
set_option maxHeartbeats 4000000 in
theorem b_X12_makesIt_192 {p : Program} {l : Launch} {e : Env} {s : State} {m : MethodId} {args : Array Value} {below : List Frame} {meth : Method} {c : Code} {D : va_G} {ks : Nat → ClassId} {A : Nat → Prop} {ad : Nat → Nat} (X : Cx p s m args meth c cX12_makesIt 6 RX12 D ks A 24 ad (shR ks ad)) (hr : meth.sig.returnType = (some .boolean)) {F : Nat} {r : Int32 × Mem} {k87 : Mem → Int32 → Int32 → Int32 → Int32 → Option (Int32 × Mem)} (hk87 : ∀ (μ : Mem) (x1 : Int32) (x2 : Int32) (x3 : Int32) (x4 : Int32), k87 μ x1 x2 x3 x4 = some r → G p l e rm_X12_makesIt s m args below meth c D A 6 (MQ below (QI D 24 ad (shR ks ad) A r) args s 0 0 A) 24 ad (shR ks ad) μ 87 [(0, .ref (ad 0)), (1, .int x1), (2, .int x2), (3, .int x3), (4, .int x4)] []) (μ : Mem) (x1 : Int32) (x3 : Int32) (x4 : Int32)  (h : f_X12_makesIt_b192 F k87 μ x1 x3 x4 = some r) : G p l e rm_X12_makesIt s m args below meth c D A 6 (MQ below (QI D 24 ad (shR ks ad) A r) args s 0 0 A) 24 ad (shR ks ad) μ 192 [(0, .ref (ad 0)), (1, .int x1), (3, .int x3), (4, .int x4)] [] := by
  refine g_iconst 193 X dX12_makesIt_192 ic0 rfl ?_
  exact G.sub [0, 1, 2, 3] rfl (b_X12_makesIt_193 X hr hk87 _ _ _ _ _ h)
set_option maxRecDepth 100000 in
set_option maxHeartbeats 4000000 in
theorem b_X12_makesIt_164 {p : Program} {l : Launch} {e : Env} {s : State} {m : MethodId} {args : Array Value} {below : List Frame} {meth : Method} {c : Code} {D : va_G} {ks : Nat → ClassId} {A : Nat → Prop} {ad : Nat → Nat} (X : Cx p s m args meth c cX12_makesIt 6 RX12 D ks A 24 ad (shR ks ad)) (hr : meth.sig.returnType = (some .boolean)) {F : Nat} {r : Int32 × Mem} {k87 : Mem → Int32 → Int32 → Int32 → Int32 → Option (Int32 × Mem)} (hk87 : ∀ (μ : Mem) (x1 : Int32) (x2 : Int32) (x3 : Int32) (x4 : Int32), k87 μ x1 x2 x3 x4 = some r → G p l e rm_X12_makesIt s m args below meth c D A 6 (MQ below (QI D 24 ad (shR ks ad) A r) args s 0 0 A) 24 ad (shR ks ad) μ 87 [(0, .ref (ad 0)), (1, .int x1), (2, .int x2), (3, .int x3), (4, .int x4)] []) (μ : Mem) (x1 : Int32) (x3 : Int32) (x4 : Int32) (z0 : Int32)  (h : f_X12_makesIt_b164 F k87 μ x1 x3 x4 z0 = some r) : G p l e rm_X12_makesIt s m args below meth c D A 6 (MQ below (QI D 24 ad (shR ks ad) A r) args s 0 0 A) 24 ad (shR ks ad) μ 164 [(0, .ref (ad 0)), (1, .int x1), (3, .int x3), (4, .int x4)] [.int z0] := by
  refine g_istore_n 165 X dX12_makesIt_164 (by decide) rfl ?_
  refine g_goto 197 X dX12_makesIt_165 (by decide) ?_
  exact G.sub [1, 2, 0, 3, 4] rfl (b_X12_makesIt_197 X hr hk87 _ _ _ _ _ h)
set_option maxRecDepth 100000 in
set_option maxHeartbeats 4000000 in
theorem b_X12_makesIt_163 {p : Program} {l : Launch} {e : Env} {s : State} {m : MethodId} {args : Array Value} {below : List Frame} {meth : Method} {c : Code} {D : va_G} {ks : Nat → ClassId} {A : Nat → Prop} {ad : Nat → Nat} (X : Cx p s m args meth c cX12_makesIt 6 RX12 D ks A 24 ad (shR ks ad)) (hr : meth.sig.returnType = (some .boolean)) {F : Nat} {r : Int32 × Mem} {k87 : Mem → Int32 → Int32 → Int32 → Int32 → Option (Int32 × Mem)} (hk87 : ∀ (μ : Mem) (x1 : Int32) (x2 : Int32) (x3 : Int32) (x4 : Int32), k87 μ x1 x2 x3 x4 = some r → G p l e rm_X12_makesIt s m args below meth c D A 6 (MQ below (QI D 24 ad (shR ks ad) A r) args s 0 0 A) 24 ad (shR ks ad) μ 87 [(0, .ref (ad 0)), (1, .int x1), (2, .int x2), (3, .int x3), (4, .int x4)] []) (μ : Mem) (x1 : Int32) (x3 : Int32) (x4 : Int32)  (h : f_X12_makesIt_b163 F k87 μ x1 x3 x4 = some r) : G p l e rm_X12_makesIt s m args below meth c D A 6 (MQ below (QI D 24 ad (shR ks ad) A r) args s 0 0 A) 24 ad (shR ks ad) μ 163 [(0, .ref (ad 0)), (1, .int x1), (3, .int x3), (4, .int x4)] [] := by
  refine g_iconst 164 X dX12_makesIt_163 ic0 rfl ?_
  exact G.sub [0, 1, 2, 3] rfl (b_X12_makesIt_164 X hr hk87 _ _ _ _ _ h)
set_option maxRecDepth 100000 in
set_option maxHeartbeats 4000000 in
theorem b_X12_makesIt_123 {p : Program} {l : Launch} {e : Env} {s : State} {m : MethodId} {args : Array Value} {below : List Frame} {meth : Method} {c : Code} {D : va_G} {ks : Nat → ClassId} {A : Nat → Prop} {ad : Nat → Nat} (X : Cx p s m args meth c cX12_makesIt 6 RX12 D ks A 24 ad (shR ks ad)) (hr : meth.sig.returnType = (some .boolean)) {F : Nat} {r : Int32 × Mem} {k87 : Mem → Int32 → Int32 → Int32 → Int32 → Option (Int32 × Mem)} (hk87 : ∀ (μ : Mem) (x1 : Int32) (x2 : Int32) (x3 : Int32) (x4 : Int32), k87 μ x1 x2 x3 x4 = some r → G p l e rm_X12_makesIt s m args below meth c D A 6 (MQ below (QI D 24 ad (shR ks ad) A r) args s 0 0 A) 24 ad (shR ks ad) μ 87 [(0, .ref (ad 0)), (1, .int x1), (2, .int x2), (3, .int x3), (4, .int x4)] []) (μ : Mem) (x1 : Int32) (x2 : Int32) (x3 : Int32) (x4 : Int32) (z0 : Int32) (z2 : Int32)  (h : f_X12_makesIt_b123 F k87 μ x1 x2 x3 x4 z0 z2 = some r) : G p l e rm_X12_makesIt s m args below meth c D A 6 (MQ below (QI D 24 ad (shR ks ad) A r) args s 0 0 A) 24 ad (shR ks ad) μ 123 [(0, .ref (ad 0)), (1, .int x1), (2, .int x2), (3, .int x3), (4, .int x4)] [.int z0, .ref (ad 0), .int z2] := by
  refine g_iload 125 X 4 dX12_makesIt_123 rfl rfl ?_
  refine g_ci 128 h (fun q e => r_V X cd_X12_260_X12_bitsOf_X12 ⟨rfl, rfl⟩ ⟨Nat.le_of_ble_eq_true rfl, Nat.le_of_ble_eq_true rfl⟩ (c_X12_bitsOf X.2.2.2.2  e) PC_blind (pc_pre X) (g_recv X (o12 rfl) rfl) rfl rfl (Nat.le_of_ble_eq_true rfl) dX12_makesIt_125) rfl (fun v1 μ2 h => ?_)
  refine g_iand 129 X dX12_makesIt_128 rfl ?_
  refine g_ni 132 h (fun q e => r_S X cd_X12_244_X12_ones ⟨rfl, rfl⟩ ⟨Nat.le_of_ble_eq_true rfl, Nat.le_of_ble_eq_true rfl⟩ (c_X12_ones e) PC_blind (pn_pre X) rfl rfl (Nat.le_of_ble_eq_true rfl) dX12_makesIt_129) rfl (fun v3 h => ?_)
  refine g_istore 134 X dX12_makesIt_132 (by decide) rfl ?_
  refine g_aload_n 135 X 1 dX12_makesIt_134 rfl rfl ?_
  refine g_geti 138 X fl_X12_166_12 (o12 rfl) rfl dX12_makesIt_135 h rfl (fun v4 h => ?_)
  refine g_bipush 140 X dX12_makesIt_138 bp108 rfl ?_
  refine g_icmp_ne 168 143 X dX12_makesIt_140 (by decide) rfl h (fun h => ?_) (fun h => ?_)
  · refine g_iload 170 X 0 dX12_makesIt_168 rfl rfl ?_
    refine g_if_le 197 173 X dX12_makesIt_170 (by decide) rfl h (fun h => ?_) (fun h => ?_)
    · exact G.sub [1, 2, 3, 4, 5] rfl (b_X12_makesIt_197 X hr hk87 _ _ _ _ _ h)
    · refine g_iload_n 174 X 3 dX12_makesIt_173 rfl rfl ?_
      refine g_if_eq 192 177 X dX12_makesIt_174 (by decide) rfl h (fun h => ?_) (fun h => ?_)
      · exact G.sub [1, 2, 4, 5] rfl (b_X12_makesIt_192 X hr hk87 _ _ _ _ h)
      · refine g_iload 179 X 0 dX12_makesIt_177 rfl rfl ?_
        refine g_aload_n 180 X 1 dX12_makesIt_179 rfl rfl ?_
        refine g_iload 182 X 5 dX12_makesIt_180 rfl rfl ?_
        refine g_ci 185 h (fun q e => r_V X cd_X12_195_X12_ofCluster_X12 ⟨rfl, rfl⟩ ⟨Nat.le_of_ble_eq_true rfl, Nat.le_of_ble_eq_true rfl⟩ (c_X12_ofCluster X.2.2.2.2  e) PC_blind (pc_pre X) (g_recv X (o12 rfl) rfl) rfl rfl (Nat.le_of_ble_eq_true rfl) dX12_makesIt_182) rfl (fun v5 μ6 h => ?_)
        refine g_icmp_ne 192 188 X dX12_makesIt_185 (by decide) rfl h (fun h => ?_) (fun h => ?_)
        · exact G.sub [1, 2, 4, 5] rfl (b_X12_makesIt_192 X hr hk87 _ _ _ _ h)
        · refine g_iconst 189 X dX12_makesIt_188 ic1 rfl ?_
          refine g_goto 193 X dX12_makesIt_189 (by decide) ?_
          exact G.sub [1, 2, 4, 5] rfl (b_X12_makesIt_193 X hr hk87 _ _ _ _ _ h)
  · refine g_iload_n 144 X 3 dX12_makesIt_143 rfl rfl ?_
    refine g_if_eq 163 147 X dX12_makesIt_144 (by decide) rfl h (fun h => ?_) (fun h => ?_)
    · exact G.sub [1, 2, 4, 5] rfl (b_X12_makesIt_163 X hr hk87 _ _ _ _ h)
    · refine g_iload 149 X 0 dX12_makesIt_147 rfl rfl ?_
      refine g_aload_n 150 X 1 dX12_makesIt_149 rfl rfl ?_
      refine g_getr 153 X fl_X12_53_12 (o12 rfl) rfl dX12_makesIt_150 rfl ?_
      refine g_iload 155 X 5 dX12_makesIt_153 rfl rfl ?_
      refine g_iald 156 X (aiR (n := 4) (by decide) rfl) dX12_makesIt_155 h rfl (fun v7 h => ?_)
      refine g_icmp_ne 163 159 X dX12_makesIt_156 (by decide) rfl h (fun h => ?_) (fun h => ?_)
      · exact G.sub [1, 2, 4, 5] rfl (b_X12_makesIt_163 X hr hk87 _ _ _ _ h)
      · refine g_iconst 160 X dX12_makesIt_159 ic1 rfl ?_
        refine g_goto 164 X dX12_makesIt_160 (by decide) ?_
        exact G.sub [1, 2, 4, 5] rfl (b_X12_makesIt_164 X hr hk87 _ _ _ _ _ h)
set_option maxRecDepth 100000 in
set_option maxHeartbeats 4000000 in
theorem b_X12_makesIt_104 {p : Program} {l : Launch} {e : Env} {s : State} {m : MethodId} {args : Array Value} {below : List Frame} {meth : Method} {c : Code} {D : va_G} {ks : Nat → ClassId} {A : Nat → Prop} {ad : Nat → Nat} (X : Cx p s m args meth c cX12_makesIt 6 RX12 D ks A 24 ad (shR ks ad)) (hr : meth.sig.returnType = (some .boolean)) {F : Nat} {r : Int32 × Mem} {k87 : Mem → Int32 → Int32 → Int32 → Int32 → Option (Int32 × Mem)} (hk87 : ∀ (μ : Mem) (x1 : Int32) (x2 : Int32) (x3 : Int32) (x4 : Int32), k87 μ x1 x2 x3 x4 = some r → G p l e rm_X12_makesIt s m args below meth c D A 6 (MQ below (QI D 24 ad (shR ks ad) A r) args s 0 0 A) 24 ad (shR ks ad) μ 87 [(0, .ref (ad 0)), (1, .int x1), (2, .int x2), (3, .int x3), (4, .int x4)] []) (μ : Mem) (x1 : Int32) (x2 : Int32) (x3 : Int32) (x4 : Int32) (z0 : Int32) (z1 : Int32)  (h : f_X12_makesIt_b104 F k87 μ x1 x2 x3 x4 z0 z1 = some r) : G p l e rm_X12_makesIt s m args below meth c D A 6 (MQ below (QI D 24 ad (shR ks ad) A r) args s 0 0 A) 24 ad (shR ks ad) μ 104 [(0, .ref (ad 0)), (1, .int x1), (2, .int x2), (3, .int x3), (4, .int x4)] [.int z0, .int z1] := by
  refine g_icmp_ge 203 107 X dX12_makesIt_104 (by decide) rfl h (fun h => ?_) (fun h => ?_)
  · refine g_iload_n 204 X 2 dX12_makesIt_203 rfl rfl ?_
    refine g_if_eq 230 207 X dX12_makesIt_204 (by decide) rfl h (fun h => ?_) (fun h => ?_)
    · refine g_iconst 231 X dX12_makesIt_230 ic0 rfl ?_
      exact g_zret X hr nb0 dX12_makesIt_231 h
    · refine g_aload_n 208 X 0 dX12_makesIt_207 rfl rfl ?_
      refine g_geti 211 X fl_X12_166_12 (o12 rfl) rfl dX12_makesIt_208 h rfl (fun v1 h => ?_)
      refine g_bipush 213 X dX12_makesIt_211 bp108 rfl ?_
      refine g_icmp_eq 226 216 X dX12_makesIt_213 (by decide) rfl h (fun h => ?_) (fun h => ?_)
      · exact G.sub [] rfl (b_X12_makesIt_226 X hr  _ h)
      · refine g_iload_n 217 X 3 dX12_makesIt_216 rfl rfl ?_
        refine g_aload_n 218 X 0 dX12_makesIt_217 rfl rfl ?_
        refine g_getr 221 X fl_X12_53_12 (o12 rfl) rfl dX12_makesIt_218 rfl ?_
        refine g_iconst 222 X dX12_makesIt_221 ic0 rfl ?_
        refine g_iald 223 X (aiR (n := 4) (by decide) rfl) dX12_makesIt_222 h rfl (fun v2 h => ?_)
        refine g_icmp_ne 230 226 X dX12_makesIt_223 (by decide) rfl h (fun h => ?_) (fun h => ?_)
        · refine g_iconst 231 X dX12_makesIt_230 ic0 rfl ?_
          exact g_zret X hr nb0 dX12_makesIt_231 h
        · exact G.sub [] rfl (b_X12_makesIt_226 X hr  _ h)
  · refine g_iload_n 108 X 1 dX12_makesIt_107 rfl rfl ?_
    refine g_aload_n 109 X 0 dX12_makesIt_108 rfl rfl ?_
    refine g_aload_n 110 X 0 dX12_makesIt_109 rfl rfl ?_
    refine g_geti 113 X fl_X12_166_12 (o12 rfl) rfl dX12_makesIt_110 h rfl (fun v3 h => ?_)
    refine g_bipush 115 X dX12_makesIt_113 bp108 rfl ?_
    refine g_icmp_ne 122 118 X dX12_makesIt_115 (by decide) rfl h (fun h => ?_) (fun h => ?_)
    · refine g_iconst 123 X dX12_makesIt_122 ic1 rfl ?_
      exact G.sub [0, 1, 2, 3, 4] rfl (b_X12_makesIt_123 X hr hk87 _ _ _ _ _ _ _ h)
    · refine g_iconst 119 X dX12_makesIt_118 ic0 rfl ?_
      refine g_goto 123 X dX12_makesIt_119 (by decide) ?_
      exact G.sub [0, 1, 2, 3, 4] rfl (b_X12_makesIt_123 X hr hk87 _ _ _ _ _ _ _ h)
set_option maxRecDepth 100000 in
set_option maxHeartbeats 4000000 in
theorem b_X12_makesIt_87 {p : Program} {l : Launch} {e : Env} {s : State} {m : MethodId} {args : Array Value} {below : List Frame} {meth : Method} {c : Code} {D : va_G} {ks : Nat → ClassId} {A : Nat → Prop} {ad : Nat → Nat} (X : Cx p s m args meth c cX12_makesIt 6 RX12 D ks A 24 ad (shR ks ad)) (hr : meth.sig.returnType = (some .boolean)) {F : Nat} {r : Int32 × Mem} : ∀ n : Nat, ∀ (μ : Mem) (x1 : Int32) (x2 : Int32) (x3 : Int32) (x4 : Int32), f_X12_makesIt_b87 F  n μ x1 x2 x3 x4 = some r → G p l e rm_X12_makesIt s m args below meth c D A 6 (MQ below (QI D 24 ad (shR ks ad) A r) args s 0 0 A) 24 ad (shR ks ad) μ 87 [(0, .ref (ad 0)), (1, .int x1), (2, .int x2), (3, .int x3), (4, .int x4)] [] := by
  intro n
  induction n with
  | zero =>
    intro _ _ _ _ _ h
    cases h
  | succ n ih =>
    intro μ x1 x2 x3 x4 h
    refine g_iload 89 X 4 dX12_makesIt_87 rfl rfl ?_
    refine g_aload_n 90 X 0 dX12_makesIt_89 rfl rfl ?_
    refine g_geti 93 X fl_X12_166_12 (o12 rfl) rfl dX12_makesIt_90 h rfl (fun v1 h => ?_)
    refine g_bipush 95 X dX12_makesIt_93 bp108 rfl ?_
    refine g_icmp_ne 102 98 X dX12_makesIt_95 (by decide) rfl h (fun h => ?_) (fun h => ?_)
    · refine g_bipush 104 X dX12_makesIt_102 bp8 rfl ?_
      exact G.sub [0, 1, 2, 3, 4] rfl (b_X12_makesIt_104 X hr ih _ _ _ _ _ _ _ h)
    · refine g_iconst 99 X dX12_makesIt_98 ic4 rfl ?_
      refine g_goto 104 X dX12_makesIt_99 (by decide) ?_
      exact G.sub [0, 1, 2, 3, 4] rfl (b_X12_makesIt_104 X hr ih _ _ _ _ _ _ _ h)
set_option maxRecDepth 100000 in
set_option maxHeartbeats 4000000 in
theorem b_X12_makesIt_71 {p : Program} {l : Launch} {e : Env} {s : State} {m : MethodId} {args : Array Value} {below : List Frame} {meth : Method} {c : Code} {D : va_G} {ks : Nat → ClassId} {A : Nat → Prop} {ad : Nat → Nat} (X : Cx p s m args meth c cX12_makesIt 6 RX12 D ks A 24 ad (shR ks ad)) (hr : meth.sig.returnType = (some .boolean)) {F : Nat} {r : Int32 × Mem} {k46 : Mem → Int32 → Int32 → Int32 → Int32 → Option (Int32 × Mem)} (hk46 : ∀ (μ : Mem) (x1 : Int32) (x2 : Int32) (x3 : Int32) (x4 : Int32), k46 μ x1 x2 x3 x4 = some r → G p l e rm_X12_makesIt s m args below meth c D A 6 (MQ below (QI D 24 ad (shR ks ad) A r) args s 0 0 A) 24 ad (shR ks ad) μ 46 [(0, .ref (ad 0)), (1, .int x1), (2, .int x2), (3, .int x3), (4, .int x4)] []) (μ : Mem) (x1 : Int32) (x3 : Int32) (x4 : Int32) (z0 : Int32)  (h : f_X12_makesIt_b71 F k46 μ x1 x3 x4 z0 = some r) : G p l e rm_X12_makesIt s m args below meth c D A 6 (MQ below (QI D 24 ad (shR ks ad) A r) args s 0 0 A) 24 ad (shR ks ad) μ 71 [(0, .ref (ad 0)), (1, .int x1), (3, .int x3), (4, .int x4)] [.int z0] := by
  refine g_istore_n 72 X dX12_makesIt_71 (by decide) rfl ?_
  refine g_iinc 75 X 4 dX12_makesIt_72 ic1 rfl (by decide) rfl ?_
  refine g_goto 46 X dX12_makesIt_75 (by decide) ?_
  exact G.sub [2, 3, 1, 4, 0] rfl (hk46 _ _ _ _ _ h)
set_option maxRecDepth 100000 in
set_option maxHeartbeats 4000000 in
theorem b_X12_makesIt_46 {p : Program} {l : Launch} {e : Env} {s : State} {m : MethodId} {args : Array Value} {below : List Frame} {meth : Method} {c : Code} {D : va_G} {ks : Nat → ClassId} {A : Nat → Prop} {ad : Nat → Nat} (X : Cx p s m args meth c cX12_makesIt 6 RX12 D ks A 24 ad (shR ks ad)) (hr : meth.sig.returnType = (some .boolean)) {F : Nat} {r : Int32 × Mem} : ∀ n : Nat, ∀ (μ : Mem) (x1 : Int32) (x2 : Int32) (x3 : Int32) (x4 : Int32), f_X12_makesIt_b46 F  n μ x1 x2 x3 x4 = some r → G p l e rm_X12_makesIt s m args below meth c D A 6 (MQ below (QI D 24 ad (shR ks ad) A r) args s 0 0 A) 24 ad (shR ks ad) μ 46 [(0, .ref (ad 0)), (1, .int x1), (2, .int x2), (3, .int x3), (4, .int x4)] [] := by
  intro n
  induction n with
  | zero =>
    intro _ _ _ _ _ h
    cases h
  | succ n ih =>
    intro μ x1 x2 x3 x4 h
    refine g_iload 48 X 4 dX12_makesIt_46 rfl rfl ?_
    refine g_iload_n 49 X 3 dX12_makesIt_48 rfl rfl ?_
    refine g_icmp_ge 78 52 X dX12_makesIt_49 (by decide) rfl h (fun h => ?_) (fun h => ?_)
    · refine g_iload_n 79 X 2 dX12_makesIt_78 rfl rfl ?_
      obtain ⟨hz, h⟩ := zk_some h
      exact g_zret X hr hz dX12_makesIt_79 h
    · refine g_iload_n 53 X 2 dX12_makesIt_52 rfl rfl ?_
      refine g_if_ne 78 56 X dX12_makesIt_53 (by decide) rfl h (fun h => ?_) (fun h => ?_)
      · refine g_iload_n 79 X 2 dX12_makesIt_78 rfl rfl ?_
        obtain ⟨hz, h⟩ := zk_some h
        exact g_zret X hr hz dX12_makesIt_79 h
      · refine g_aload_n 57 X 0 dX12_makesIt_56 rfl rfl ?_
        refine g_iload 59 X 4 dX12_makesIt_57 rfl rfl ?_
        refine g_ci 62 h (fun q e => r_V X cd_X12_217_X12_drawOf_X12 ⟨rfl, rfl⟩ ⟨Nat.le_of_ble_eq_true rfl, Nat.le_of_ble_eq_true rfl⟩ (c_X12_drawOf X.2.2.2.2  e) PC_blind (pc_pre X) (g_recv X (o12 rfl) rfl) rfl rfl (Nat.le_of_ble_eq_true rfl) dX12_makesIt_59) rfl (fun v1 μ2 h => ?_)
        refine g_iload_n 63 X 1 dX12_makesIt_62 rfl rfl ?_
        refine g_icmp_ne 70 66 X dX12_makesIt_63 (by decide) rfl h (fun h => ?_) (fun h => ?_)
        · refine g_iconst 71 X dX12_makesIt_70 ic0 rfl ?_
          exact G.sub [0, 1, 3, 4] rfl (b_X12_makesIt_71 X hr ih _ _ _ _ _ h)
        · refine g_iconst 67 X dX12_makesIt_66 ic1 rfl ?_
          refine g_goto 71 X dX12_makesIt_67 (by decide) ?_
          exact G.sub [0, 1, 3, 4] rfl (b_X12_makesIt_71 X hr ih _ _ _ _ _ h)
set_option maxRecDepth 100000 in
set_option maxHeartbeats 4000000 in
theorem b_X12_makesIt_0 {p : Program} {l : Launch} {e : Env} {s : State} {m : MethodId} {args : Array Value} {below : List Frame} {meth : Method} {c : Code} {D : va_G} {ks : Nat → ClassId} {A : Nat → Prop} {ad : Nat → Nat} (X : Cx p s m args meth c cX12_makesIt 6 RX12 D ks A 24 ad (shR ks ad)) (hr : meth.sig.returnType = (some .boolean)) {F : Nat} {r : Int32 × Mem} (μ : Mem) (x1 : Int32)  (h : f_X12_makesIt F  μ x1 = some r) : G p l e rm_X12_makesIt s m args below meth c D A 6 (MQ below (QI D 24 ad (shR ks ad) A r) args s 0 0 A) 24 ad (shR ks ad) μ 0 [(0, .ref (ad 0)), (1, .int x1)] [] := by
  refine g_aload_n 1 X 0 dX12_makesIt_0 rfl rfl ?_
  refine g_geti 4 X fl_X12_166_12 (o12 rfl) rfl dX12_makesIt_1 h rfl (fun v1 h => ?_)
  refine g_bipush 6 X dX12_makesIt_4 bp97 rfl ?_
  refine g_icmp_ne 28 9 X dX12_makesIt_6 (by decide) rfl h (fun h => ?_) (fun h => ?_)
  · refine g_iconst 29 X dX12_makesIt_28 ic0 rfl ?_
    refine g_istore_n 30 X dX12_makesIt_29 (by decide) rfl ?_
    refine g_aload_n 31 X 1 dX12_makesIt_30 rfl rfl ?_
    refine g_ci 34 h (fun q e => r_V X cd_X12_220_X12_goesRound_X12 ⟨rfl, rfl⟩ ⟨Nat.le_of_ble_eq_true rfl, Nat.le_of_ble_eq_true rfl⟩ (c_X12_goesRound X.2.2.2.2  e) PC_blind (pc_pre X) (g_recv X (o12 rfl) rfl) rfl rfl (Nat.le_of_ble_eq_true rfl) dX12_makesIt_31) rfl (fun v2 μ3 h => ?_)
    refine g_if_eq 80 37 X dX12_makesIt_34 (by decide) rfl h (fun h => ?_) (fun h => ?_)
    · refine g_iconst 81 X dX12_makesIt_80 ic1 rfl ?_
      refine g_istore_n 82 X dX12_makesIt_81 (by decide) rfl ?_
      refine g_iconst 83 X dX12_makesIt_82 ic0 rfl ?_
      refine g_istore_n 84 X dX12_makesIt_83 (by decide) rfl ?_
      refine g_iconst 85 X dX12_makesIt_84 ic0 rfl ?_
      refine g_istore 87 X dX12_makesIt_85 (by decide) rfl ?_
      exact G.sub [3, 4, 2, 1, 0] rfl (b_X12_makesIt_87 X hr  F _ _ _ _ _ h)
    · refine g_aload_n 38 X 1 dX12_makesIt_37 rfl rfl ?_
      refine g_cl 41 h (fun q e => r_V X cd_X12_202_X12_drawsNow_X12 ⟨rfl, rfl⟩ ⟨Nat.le_of_ble_eq_true rfl, Nat.le_of_ble_eq_true rfl⟩ (c_X12_drawsNow X.2.2.2.2  e) PC_blind (pc_pre X) (g_recv X (o12 rfl) rfl) rfl rfl (Nat.le_of_ble_eq_true rfl) dX12_makesIt_38) rfl (fun v4 μ5 h => ?_)
      refine g_l2i 42 X dX12_makesIt_41 rfl ?_
      refine g_topi h (fun v6 h => ?_)
      refine g_istore_n 43 X dX12_makesIt_42 (by decide) rfl ?_
      refine g_iconst 44 X dX12_makesIt_43 ic0 rfl ?_
      refine g_istore 46 X dX12_makesIt_44 (by decide) rfl ?_
      exact G.sub [3, 4, 2, 1, 0] rfl (b_X12_makesIt_46 X hr  F _ _ _ _ _ h)
  · refine g_iload_n 10 X 1 dX12_makesIt_9 rfl rfl ?_
    refine g_ni 13 h (fun q e => r_S X cd_X12_244_X12_ones ⟨rfl, rfl⟩ ⟨Nat.le_of_ble_eq_true rfl, Nat.le_of_ble_eq_true rfl⟩ (c_X12_ones e) PC_blind (pn_pre X) rfl rfl (Nat.le_of_ble_eq_true rfl) dX12_makesIt_10) rfl (fun v7 h => ?_)
    refine g_aload_n 14 X 0 dX12_makesIt_13 rfl rfl ?_
    refine g_getr 17 X fl_X12_53_12 (o12 rfl) rfl dX12_makesIt_14 rfl ?_
    refine g_iconst 18 X dX12_makesIt_17 ic0 rfl ?_
    refine g_iald 19 X (aiR (n := 4) (by decide) rfl) dX12_makesIt_18 h rfl (fun v8 h => ?_)
    refine g_icmp_ne 26 22 X dX12_makesIt_19 (by decide) rfl h (fun h => ?_) (fun h => ?_)
    · refine g_iconst 27 X dX12_makesIt_26 ic0 rfl ?_
      exact g_zret X hr nb0 dX12_makesIt_27 h
    · refine g_iconst 23 X dX12_makesIt_22 ic1 rfl ?_
      refine g_goto 27 X dX12_makesIt_23 (by decide) ?_
      exact g_zret X hr nb1 dX12_makesIt_27 h
set_option maxRecDepth 100000 in
theorem c_X12_makesIt {l : Launch} {D : va_G} {ks : Nat → ClassId} {A : Nat → Prop} {ad : Nat → Nat} (hD : ∀ μ : Mem, va_D A (wsM 24 ad (shR ks ad) μ)) {F : Nat} {μ : Mem} {x1 : Int32} {r : Int32 × Mem}  (h : f_X12_makesIt F μ x1 = some r) : Met l yX12_makesIt (Cond.code yX12_makesIt cX12_makesIt 6 (some .boolean) :: wg) rm_X12_makesIt (PC D ks 24 ad (shR ks ad) μ [.ref (ad 0), .int x1]) (QI D 24 ad (shR ks ad) A r) 0 0 A := by
  refine met_of (by decide) (Nat.le_of_ble_eq_true rfl) hD ?_
  intro p e s m args below meth c X hr
  exact G.sub [0, 1] rfl (b_X12_makesIt_0 X hr  _ _ h)
abbrev rm_X12_makes : Room := { frames := 4, cells := 0, slots := 0, locals := 96 }
set_option maxRecDepth 100000 in
set_option maxHeartbeats 4000000 in
theorem b_X12_makes_0 {p : Program} {l : Launch} {e : Env} {s : State} {m : MethodId} {args : Array Value} {below : List Frame} {meth : Method} {c : Code} {D : va_G} {ks : Nat → ClassId} {A : Nat → Prop} {ad : Nat → Nat} (X : Cx p s m args meth c cX12_makes 3 RX12 D ks A 24 ad (shR ks ad)) (hr : meth.sig.returnType = (some .int)) {F : Nat} {r : Int32 × Mem} (μ : Mem) (x1 : Int32) (x2 : Int32)  (h : f_X12_makes F  μ x1 x2 = some r) : G p l e rm_X12_makes s m args below meth c D A 3 (MQ below (QI D 24 ad (shR ks ad) A r) args s 0 0 A) 24 ad (shR ks ad) μ 0 [(0, .ref (ad 0)), (1, .int x1), (2, .int x2)] [] := by
  refine g_iload_n 1 X 1 dX12_makes_0 rfl rfl ?_
  refine g_ni 4 h (fun q e => r_S X cd_X12_147_X12_isPlan ⟨rfl, rfl⟩ ⟨Nat.le_of_ble_eq_true rfl, Nat.le_of_ble_eq_true rfl⟩ (c_X12_isPlan e) PC_blind (pn_pre X) rfl rfl (Nat.le_of_ble_eq_true rfl) dX12_makes_1) rfl (fun v1 h => ?_)
  refine g_if_eq 15 7 X dX12_makes_4 (by decide) rfl h (fun h => ?_) (fun h => ?_)
  · refine g_bipush 17 X dX12_makes_15 bpm2 rfl ?_
    exact g_iret X hr dX12_makes_17 h
  · refine g_aload_n 8 X 0 dX12_makes_7 rfl rfl ?_
    refine g_iload_n 9 X 2 dX12_makes_8 rfl rfl ?_
    refine g_ci 12 h (fun q e => r_V X cd_X12_266_X12_isDraw_X12 ⟨rfl, rfl⟩ ⟨Nat.le_of_ble_eq_true rfl, Nat.le_of_ble_eq_true rfl⟩ (c_X12_isDraw X.2.2.2.2  e) PC_blind (pc_pre X) (g_recv X (o12 rfl) rfl) rfl rfl (Nat.le_of_ble_eq_true rfl) dX12_makes_9) rfl (fun v2 μ3 h => ?_)
    refine g_if_ne 18 15 X dX12_makes_12 (by decide) rfl h (fun h => ?_) (fun h => ?_)
    · refine g_aload_n 19 X 0 dX12_makes_18 rfl rfl ?_
      refine g_iload_n 20 X 1 dX12_makes_19 rfl rfl ?_
      refine g_ci 23 h (fun q e => r_V X cd_X12_188_X12_canBe_X12 ⟨rfl, rfl⟩ ⟨Nat.le_of_ble_eq_true rfl, Nat.le_of_ble_eq_true rfl⟩ (c_X12_canBe X.2.2.2.2  e) PC_blind (pc_pre X) (g_recv X (o12 rfl) rfl) rfl rfl (Nat.le_of_ble_eq_true rfl) dX12_makes_20) rfl (fun v4 μ5 h => ?_)
      refine g_if_eq 42 26 X dX12_makes_23 (by decide) rfl h (fun h => ?_) (fun h => ?_)
      · refine g_bipush 44 X dX12_makes_42 bpm3 rfl ?_
        exact g_iret X hr dX12_makes_44 h
      · refine g_aload_n 27 X 0 dX12_makes_26 rfl rfl ?_
        refine g_iload_n 28 X 2 dX12_makes_27 rfl rfl ?_
        refine g_ci 31 h (fun q e => r_V X cd_X12_269_X12_makesIt_X12 ⟨rfl, rfl⟩ ⟨Nat.le_of_ble_eq_true rfl, Nat.le_of_ble_eq_true rfl⟩ (c_X12_makesIt X.2.2.2.2  e) PC_blind (pc_pre X) (g_recv X (o12 rfl) rfl) rfl rfl (Nat.le_of_ble_eq_true rfl) dX12_makes_28) rfl (fun v6 μ7 h => ?_)
        refine g_if_eq 38 34 X dX12_makes_31 (by decide) rfl h (fun h => ?_) (fun h => ?_)
        · refine g_iconst 39 X dX12_makes_38 ic0 rfl ?_
          refine g_goto 44 X dX12_makes_39 (by decide) ?_
          exact g_iret X hr dX12_makes_44 h
        · refine g_iconst 35 X dX12_makes_34 ic1 rfl ?_
          refine g_goto 44 X dX12_makes_35 (by decide) ?_
          exact g_iret X hr dX12_makes_44 h
    · refine g_bipush 17 X dX12_makes_15 bpm2 rfl ?_
      exact g_iret X hr dX12_makes_17 h
set_option maxRecDepth 100000 in
theorem c_X12_makes {l : Launch} {D : va_G} {ks : Nat → ClassId} {A : Nat → Prop} {ad : Nat → Nat} (hD : ∀ μ : Mem, va_D A (wsM 24 ad (shR ks ad) μ)) {F : Nat} {μ : Mem} {x1 : Int32} {x2 : Int32} {r : Int32 × Mem}  (h : f_X12_makes F μ x1 x2 = some r) : Met l yX12_makes (Cond.code yX12_makes cX12_makes 3 (some .int) :: wg) rm_X12_makes (PC D ks 24 ad (shR ks ad) μ [.ref (ad 0), .int x1, .int x2]) (QI D 24 ad (shR ks ad) A r) 0 0 A := by
  refine met_of (by decide) (Nat.le_of_ble_eq_true rfl) hD ?_
  intro p e s m args below meth c X hr
  exact G.sub [0, 1, 2] rfl (b_X12_makes_0 X hr  _ _ _ h)
abbrev rm_X12_findSum : Room := { frames := 5, cells := 0, slots := 0, locals := 116 }
set_option maxRecDepth 100000 in
set_option maxHeartbeats 4000000 in
theorem b_X12_findSum_108 {p : Program} {l : Launch} {e : Env} {s : State} {m : MethodId} {args : Array Value} {below : List Frame} {meth : Method} {c : Code} {D : va_G} {ks : Nat → ClassId} {A : Nat → Prop} {ad : Nat → Nat} (X : Cx p s m args meth c cX12_findSum 4 RX12 D ks A 24 ad (shR ks ad)) (hr : meth.sig.returnType = none) {F : Nat} {r : Unit × Mem} {k12 : Mem → Int32 → Int32 → Option (Unit × Mem)} (hk12 : ∀ (μ : Mem) (x1 : Int32) (x2 : Int32), k12 μ x1 x2 = some r → G p l e rm_X12_findSum s m args below meth c D A 4 (MQ below (QV D 24 ad (shR ks ad) A r) args s 0 0 A) 24 ad (shR ks ad) μ 12 [(0, .ref (ad 0)), (1, .int x1), (2, .int x2)] []) (μ : Mem) (x1 : Int32) (x2 : Int32)  (h : f_X12_findSum_b108 F k12 μ x1 x2 = some r) : G p l e rm_X12_findSum s m args below meth c D A 4 (MQ below (QV D 24 ad (shR ks ad) A r) args s 0 0 A) 24 ad (shR ks ad) μ 108 [(0, .ref (ad 0)), (1, .int x1), (2, .int x2)] [] := by
  refine g_iinc 111 X 2 dX12_findSum_108 ic1 rfl (by decide) rfl ?_
  refine g_goto 12 X dX12_findSum_111 (by decide) ?_
  exact G.sub [1, 2, 0] rfl (hk12 _ _ _ h)
set_option maxRecDepth 100000 in
set_option maxHeartbeats 4000000 in
theorem b_X12_findSum_12 {p : Program} {l : Launch} {e : Env} {s : State} {m : MethodId} {args : Array Value} {below : List Frame} {meth : Method} {c : Code} {D : va_G} {ks : Nat → ClassId} {A : Nat → Prop} {ad : Nat → Nat} (X : Cx p s m args meth c cX12_findSum 4 RX12 D ks A 24 ad (shR ks ad)) (hr : meth.sig.returnType = none) {F : Nat} {r : Unit × Mem} : ∀ n : Nat, ∀ (μ : Mem) (x1 : Int32) (x2 : Int32), f_X12_findSum_b12 F  n μ x1 x2 = some r → G p l e rm_X12_findSum s m args below meth c D A 4 (MQ below (QV D 24 ad (shR ks ad) A r) args s 0 0 A) 24 ad (shR ks ad) μ 12 [(0, .ref (ad 0)), (1, .int x1), (2, .int x2)] [] := by
  intro n
  induction n with
  | zero =>
    intro _ _ _ h
    cases h
  | succ n ih =>
    intro μ x1 x2 h
    refine g_iload_n 13 X 2 dX12_findSum_12 rfl rfl ?_
    refine g_aload_n 14 X 0 dX12_findSum_13 rfl rfl ?_
    refine g_geti 17 X fl_X12_115_12 (o12 rfl) rfl dX12_findSum_14 h rfl (fun v1 h => ?_)
    refine g_icmp_ge 114 20 X dX12_findSum_17 (by decide) rfl h (fun h => ?_) (fun h => ?_)
    · exact g_vret X hr dX12_findSum_114 h
    · refine g_aload_n 21 X 0 dX12_findSum_20 rfl rfl ?_
      refine g_iload_n 22 X 2 dX12_findSum_21 rfl rfl ?_
      refine g_ci 25 h (fun q e => r_V X cd_X12_134_X12_valueOf_X12 ⟨rfl, rfl⟩ ⟨Nat.le_of_ble_eq_true rfl, Nat.le_of_ble_eq_true rfl⟩ (c_X12_valueOf X.2.2.2.2  e) PC_blind (pc_pre X) (g_recv X (o12 rfl) rfl) rfl rfl (Nat.le_of_ble_eq_true rfl) dX12_findSum_22) rfl (fun v2 μ3 h => ?_)
      refine g_istore_n 26 X dX12_findSum_25 (by decide) rfl ?_
      refine g_iload_n 27 X 2 dX12_findSum_26 rfl rfl ?_
      refine g_iload_n 28 X 3 dX12_findSum_27 rfl rfl ?_
      refine g_ishr 29 X dX12_findSum_28 rfl ?_
      refine g_iconst 30 X dX12_findSum_29 ic1 rfl ?_
      refine g_iand 31 X dX12_findSum_30 rfl ?_
      refine g_iconst 32 X dX12_findSum_31 ic1 rfl ?_
      refine g_icmp_ne 108 35 X dX12_findSum_32 (by decide) rfl h (fun h => ?_) (fun h => ?_)
      · exact G.sub [1, 2, 3] rfl (b_X12_findSum_108 X hr ih _ _ _ h)
      · refine g_iload_n 36 X 0 dX12_findSum_35 rfl rfl ?_
        refine g_iconst 37 X dX12_findSum_36 icm1 rfl ?_
        refine g_icmp_eq 108 40 X dX12_findSum_37 (by decide) rfl h (fun h => ?_) (fun h => ?_)
        · exact G.sub [1, 2, 3] rfl (b_X12_findSum_108 X hr ih _ _ _ h)
        · refine g_aload_n 41 X 1 dX12_findSum_40 rfl rfl ?_
          refine g_iload_n 42 X 3 dX12_findSum_41 rfl rfl ?_
          refine g_cv 45 h (fun q e => r_V X cd_X12_230_X12_findShare_X12 ⟨rfl, rfl⟩ ⟨Nat.le_of_ble_eq_true rfl, Nat.le_of_ble_eq_true rfl⟩ (c_X12_findShare X.2.2.2.2  e) PC_blind (pc_pre X) (g_recv X (o12 rfl) rfl) rfl rfl (Nat.le_of_ble_eq_true rfl) dX12_findSum_42) rfl (fun _ μ4 h => ?_)
          refine g_aload_n 46 X 1 dX12_findSum_45 rfl rfl ?_
          refine g_iload_n 47 X 0 dX12_findSum_46 rfl rfl ?_
          refine g_i2l 48 X dX12_findSum_47 rfl ?_
          refine g_aload_n 49 X 1 dX12_findSum_48 rfl rfl ?_
          refine g_getl 52 X fl_X12_214_12 (o12 rfl) rfl dX12_findSum_49 h rfl (fun v5 h => ?_)
          refine g_lmul 53 X dX12_findSum_52 rfl ?_
          refine g_aload_n 54 X 1 dX12_findSum_53 rfl rfl ?_
          refine g_getl 57 X fl_X12_210_12 (o12 rfl) rfl dX12_findSum_54 h rfl (fun v6 h => ?_)
          refine g_cv 60 h (fun q e => r_V X cd_X12_226_X12_becomes_X12 ⟨rfl, rfl⟩ ⟨Nat.le_of_ble_eq_true rfl, Nat.le_of_ble_eq_true rfl⟩ (c_X12_becomes X.2.2.2.2  e) PC_blind (pc_pre X) (g_recv X (o12 rfl) rfl) rfl rfl (Nat.le_of_ble_eq_true rfl) dX12_findSum_57) rfl (fun _ μ7 h => ?_)
          refine g_aload_n 61 X 1 dX12_findSum_60 rfl rfl ?_
          refine g_aload_n 62 X 1 dX12_findSum_61 rfl rfl ?_
          refine g_getl 65 X fl_X12_272_12 (o12 rfl) rfl dX12_findSum_62 h rfl (fun v8 h => ?_)
          refine g_aload_n 66 X 1 dX12_findSum_65 rfl rfl ?_
          refine g_getl 69 X fl_X12_214_12 (o12 rfl) rfl dX12_findSum_66 h rfl (fun v9 h => ?_)
          refine g_lmul 70 X dX12_findSum_69 rfl ?_
          refine g_aload_n 71 X 1 dX12_findSum_70 rfl rfl ?_
          refine g_getl 74 X fl_X12_210_12 (o12 rfl) rfl dX12_findSum_71 h rfl (fun v10 h => ?_)
          refine g_aload_n 75 X 1 dX12_findSum_74 rfl rfl ?_
          refine g_getl 78 X fl_X12_275_12 (o12 rfl) rfl dX12_findSum_75 h rfl (fun v11 h => ?_)
          refine g_lmul 79 X dX12_findSum_78 rfl ?_
          refine g_ladd 80 X dX12_findSum_79 rfl ?_
          refine g_aload_n 81 X 1 dX12_findSum_80 rfl rfl ?_
          refine g_getl 84 X fl_X12_275_12 (o12 rfl) rfl dX12_findSum_81 h rfl (fun v12 h => ?_)
          refine g_aload_n 85 X 1 dX12_findSum_84 rfl rfl ?_
          refine g_getl 88 X fl_X12_214_12 (o12 rfl) rfl dX12_findSum_85 h rfl (fun v13 h => ?_)
          refine g_lmul 89 X dX12_findSum_88 rfl ?_
          refine g_cv 92 h (fun q e => r_V X cd_X12_226_X12_becomes_X12 ⟨rfl, rfl⟩ ⟨Nat.le_of_ble_eq_true rfl, Nat.le_of_ble_eq_true rfl⟩ (c_X12_becomes X.2.2.2.2  e) PC_blind (pc_pre X) (g_recv X (o12 rfl) rfl) rfl rfl (Nat.le_of_ble_eq_true rfl) dX12_findSum_89) rfl (fun _ μ14 h => ?_)
          refine g_aload_n 93 X 1 dX12_findSum_92 rfl rfl ?_
          refine g_aload_n 94 X 1 dX12_findSum_93 rfl rfl ?_
          refine g_getl 97 X fl_X12_210_12 (o12 rfl) rfl dX12_findSum_94 h rfl (fun v15 h => ?_)
          refine g_putl 100 X fp_X12_272_12 (o12 rfl) rfl (Nat.le_of_ble_eq_true rfl) rfl rfl dX12_findSum_97 h rfl (fun μ16 h => ?_)
          refine g_aload_n 101 X 1 dX12_findSum_100 rfl rfl ?_
          refine g_aload_n 102 X 1 dX12_findSum_101 rfl rfl ?_
          refine g_getl 105 X fl_X12_214_12 (o12 rfl) rfl dX12_findSum_102 h rfl (fun v17 h => ?_)
          refine g_putl 108 X fp_X12_275_12 (o12 rfl) rfl (Nat.le_of_ble_eq_true rfl) rfl rfl dX12_findSum_105 h rfl (fun μ18 h => ?_)
          exact G.sub [1, 2, 3] rfl (b_X12_findSum_108 X hr ih _ _ _ h)
set_option maxRecDepth 100000 in
set_option maxHeartbeats 4000000 in
theorem b_X12_findSum_0 {p : Program} {l : Launch} {e : Env} {s : State} {m : MethodId} {args : Array Value} {below : List Frame} {meth : Method} {c : Code} {D : va_G} {ks : Nat → ClassId} {A : Nat → Prop} {ad : Nat → Nat} (X : Cx p s m args meth c cX12_findSum 4 RX12 D ks A 24 ad (shR ks ad)) (hr : meth.sig.returnType = none) {F : Nat} {r : Unit × Mem} (μ : Mem) (x1 : Int32)  (h : f_X12_findSum F  μ x1 = some r) : G p l e rm_X12_findSum s m args below meth c D A 4 (MQ below (QV D 24 ad (shR ks ad) A r) args s 0 0 A) 24 ad (shR ks ad) μ 0 [(0, .ref (ad 0)), (1, .int x1)] [] := by
  refine g_aload_n 1 X 0 dX12_findSum_0 rfl rfl ?_
  refine g_lconst 2 X dX12_findSum_1 lc0 rfl ?_
  refine g_putl 5 X fp_X12_272_12 (o12 rfl) rfl (Nat.le_of_ble_eq_true rfl) rfl rfl dX12_findSum_2 h rfl (fun μ1 h => ?_)
  refine g_aload_n 6 X 0 dX12_findSum_5 rfl rfl ?_
  refine g_lconst 7 X dX12_findSum_6 lc1 rfl ?_
  refine g_putl 10 X fp_X12_275_12 (o12 rfl) rfl (Nat.le_of_ble_eq_true rfl) rfl rfl dX12_findSum_7 h rfl (fun μ2 h => ?_)
  refine g_iconst 11 X dX12_findSum_10 ic0 rfl ?_
  refine g_istore_n 12 X dX12_findSum_11 (by decide) rfl ?_
  exact G.sub [1, 2, 0] rfl (b_X12_findSum_12 X hr  F _ _ _ h)
set_option maxRecDepth 100000 in
theorem c_X12_findSum {l : Launch} {D : va_G} {ks : Nat → ClassId} {A : Nat → Prop} {ad : Nat → Nat} (hD : ∀ μ : Mem, va_D A (wsM 24 ad (shR ks ad) μ)) {F : Nat} {μ : Mem} {x1 : Int32} {r : Unit × Mem}  (h : f_X12_findSum F μ x1 = some r) : Met l yX12_findSum (Cond.code yX12_findSum cX12_findSum 4 none :: wg) rm_X12_findSum (PC D ks 24 ad (shR ks ad) μ [.ref (ad 0), .int x1]) (QV D 24 ad (shR ks ad) A r) 0 0 A := by
  refine met_of (by decide) (Nat.le_of_ble_eq_true rfl) hD ?_
  intro p e s m args below meth c X hr
  exact G.sub [0, 1] rfl (b_X12_findSum_0 X hr  _ _ h)
abbrev rm_X12_without : Room := { frames := 4, cells := 0, slots := 0, locals := 96 }
set_option maxRecDepth 100000 in
set_option maxHeartbeats 4000000 in
theorem b_X12_without_0 {p : Program} {l : Launch} {e : Env} {s : State} {m : MethodId} {args : Array Value} {below : List Frame} {meth : Method} {c : Code} {D : va_G} {ks : Nat → ClassId} {A : Nat → Prop} {ad : Nat → Nat} (X : Cx p s m args meth c cX12_without 3 RX12 D ks A 24 ad (shR ks ad)) (hr : meth.sig.returnType = (some .int)) {F : Nat} {r : Int32 × Mem} (μ : Mem) (x1 : Int32) (x2 : Int32)  (h : f_X12_without F  μ x1 x2 = some r) : G p l e rm_X12_without s m args below meth c D A 3 (MQ below (QI D 24 ad (shR ks ad) A r) args s 0 0 A) 24 ad (shR ks ad) μ 0 [(0, .ref (ad 0)), (1, .int x1), (2, .int x2)] [] := by
  refine g_iload_n 1 X 1 dX12_without_0 rfl rfl ?_
  refine g_ni 4 h (fun q e => r_S X cd_X12_147_X12_isPlan ⟨rfl, rfl⟩ ⟨Nat.le_of_ble_eq_true rfl, Nat.le_of_ble_eq_true rfl⟩ (c_X12_isPlan e) PC_blind (pn_pre X) rfl rfl (Nat.le_of_ble_eq_true rfl) dX12_without_1) rfl (fun v1 h => ?_)
  refine g_if_eq 15 7 X dX12_without_4 (by decide) rfl h (fun h => ?_) (fun h => ?_)
  · refine g_bipush 17 X dX12_without_15 bpm2 rfl ?_
    exact g_iret X hr dX12_without_17 h
  · refine g_aload_n 8 X 0 dX12_without_7 rfl rfl ?_
    refine g_iload_n 9 X 2 dX12_without_8 rfl rfl ?_
    refine g_ci 12 h (fun q e => r_V X cd_X12_266_X12_isDraw_X12 ⟨rfl, rfl⟩ ⟨Nat.le_of_ble_eq_true rfl, Nat.le_of_ble_eq_true rfl⟩ (c_X12_isDraw X.2.2.2.2  e) PC_blind (pc_pre X) (g_recv X (o12 rfl) rfl) rfl rfl (Nat.le_of_ble_eq_true rfl) dX12_without_9) rfl (fun v2 μ3 h => ?_)
    refine g_if_ne 18 15 X dX12_without_12 (by decide) rfl h (fun h => ?_) (fun h => ?_)
    · refine g_aload_n 19 X 0 dX12_without_18 rfl rfl ?_
      refine g_iload_n 20 X 1 dX12_without_19 rfl rfl ?_
      refine g_ci 23 h (fun q e => r_V X cd_X12_188_X12_canBe_X12 ⟨rfl, rfl⟩ ⟨Nat.le_of_ble_eq_true rfl, Nat.le_of_ble_eq_true rfl⟩ (c_X12_canBe X.2.2.2.2  e) PC_blind (pc_pre X) (g_recv X (o12 rfl) rfl) rfl rfl (Nat.le_of_ble_eq_true rfl) dX12_without_20) rfl (fun v4 μ5 h => ?_)
      refine g_if_ne 29 26 X dX12_without_23 (by decide) rfl h (fun h => ?_) (fun h => ?_)
      · refine g_aload_n 30 X 0 dX12_without_29 rfl rfl ?_
        refine g_iload_n 31 X 2 dX12_without_30 rfl rfl ?_
        refine g_ci 34 h (fun q e => r_V X cd_X12_269_X12_makesIt_X12 ⟨rfl, rfl⟩ ⟨Nat.le_of_ble_eq_true rfl, Nat.le_of_ble_eq_true rfl⟩ (c_X12_makesIt X.2.2.2.2  e) PC_blind (pc_pre X) (g_recv X (o12 rfl) rfl) rfl rfl (Nat.le_of_ble_eq_true rfl) dX12_without_31) rfl (fun v6 μ7 h => ?_)
        refine g_if_eq 41 37 X dX12_without_34 (by decide) rfl h (fun h => ?_) (fun h => ?_)
        · refine g_bipush 43 X dX12_without_41 bpm2 rfl ?_
          exact g_iret X hr dX12_without_43 h
        · refine g_iconst 38 X dX12_without_37 ic0 rfl ?_
          refine g_goto 43 X dX12_without_38 (by decide) ?_
          exact g_iret X hr dX12_without_43 h
      · refine g_bipush 28 X dX12_without_26 bpm3 rfl ?_
        exact g_iret X hr dX12_without_28 h
    · refine g_bipush 17 X dX12_without_15 bpm2 rfl ?_
      exact g_iret X hr dX12_without_17 h
set_option maxRecDepth 100000 in
theorem c_X12_without {l : Launch} {D : va_G} {ks : Nat → ClassId} {A : Nat → Prop} {ad : Nat → Nat} (hD : ∀ μ : Mem, va_D A (wsM 24 ad (shR ks ad) μ)) {F : Nat} {μ : Mem} {x1 : Int32} {x2 : Int32} {r : Int32 × Mem}  (h : f_X12_without F μ x1 x2 = some r) : Met l yX12_without (Cond.code yX12_without cX12_without 3 (some .int) :: wg) rm_X12_without (PC D ks 24 ad (shR ks ad) μ [.ref (ad 0), .int x1, .int x2]) (QI D 24 ad (shR ks ad) A r) 0 0 A := by
  refine met_of (by decide) (Nat.le_of_ble_eq_true rfl) hD ?_
  intro p e s m args below meth c X hr
  exact G.sub [0, 1, 2] rfl (b_X12_without_0 X hr  _ _ _ h)
abbrev rm_X12_sum : Room := { frames := 6, cells := 0, slots := 0, locals := 139 }
set_option maxRecDepth 100000 in
set_option maxHeartbeats 4000000 in
theorem b_X12_sum_0 {p : Program} {l : Launch} {e : Env} {s : State} {m : MethodId} {args : Array Value} {below : List Frame} {meth : Method} {c : Code} {D : va_G} {ks : Nat → ClassId} {A : Nat → Prop} {ad : Nat → Nat} (X : Cx p s m args meth c cX12_sum 5 RX12 D ks A 24 ad (shR ks ad)) (hr : meth.sig.returnType = (some .long)) {F : Nat} {r : Int64 × Mem} (μ : Mem) (x1 : Int32) (x2 : Int32) (x3 : Int32)  (h : f_X12_sum F  μ x1 x2 x3 = some r) : G p l e rm_X12_sum s m args below meth c D A 5 (MQ below (QL D 24 ad (shR ks ad) A r) args s 0 0 A) 24 ad (shR ks ad) μ 0 [(0, .ref (ad 0)), (1, .int x1), (2, .int x2), (3, .int x3)] [] := by
  refine g_iload_n 1 X 3 dX12_sum_0 rfl rfl ?_
  refine g_i2l 2 X dX12_sum_1 rfl ?_
  refine g_lconst 3 X dX12_sum_2 lc0 rfl ?_
  refine g_lconst 4 X dX12_sum_3 lc1 rfl ?_
  refine g_ni 7 h (fun q e => r_S X cd_X12_92_X12_in ⟨rfl, rfl⟩ ⟨Nat.le_of_ble_eq_true rfl, Nat.le_of_ble_eq_true rfl⟩ (c_X12_in e) PC_blind (pn_pre X) rfl rfl (Nat.le_of_ble_eq_true rfl) dX12_sum_4) rfl (fun v1 h => ?_)
  refine g_if_ne 16 10 X dX12_sum_7 (by decide) rfl h (fun h => ?_) (fun h => ?_)
  · refine g_aload_n 17 X 0 dX12_sum_16 rfl rfl ?_
    refine g_iload_n 18 X 1 dX12_sum_17 rfl rfl ?_
    refine g_iload_n 19 X 2 dX12_sum_18 rfl rfl ?_
    refine g_ci 22 h (fun q e => r_V X cd_X12_278_X12_without_X12 ⟨rfl, rfl⟩ ⟨Nat.le_of_ble_eq_true rfl, Nat.le_of_ble_eq_true rfl⟩ (c_X12_without X.2.2.2.2  e) PC_blind (pc_pre X) (g_recv X (o12 rfl) rfl) rfl rfl (Nat.le_of_ble_eq_true rfl) dX12_sum_19) rfl (fun v2 μ3 h => ?_)
    refine g_istore 24 X dX12_sum_22 (by decide) rfl ?_
    refine g_iload 26 X 0 dX12_sum_24 rfl rfl ?_
    refine g_if_eq 35 29 X dX12_sum_26 (by decide) rfl h (fun h => ?_) (fun h => ?_)
    · refine g_aload_n 36 X 1 dX12_sum_35 rfl rfl ?_
      refine g_iload_n 37 X 3 dX12_sum_36 rfl rfl ?_
      refine g_cv 40 h (fun q e => r_V X cd_X12_281_X12_findSum_X12 ⟨rfl, rfl⟩ ⟨Nat.le_of_ble_eq_true rfl, Nat.le_of_ble_eq_true rfl⟩ (c_X12_findSum X.2.2.2.2  e) PC_blind (pc_pre X) (g_recv X (o12 rfl) rfl) rfl rfl (Nat.le_of_ble_eq_true rfl) dX12_sum_37) rfl (fun _ μ4 h => ?_)
      refine g_iload_n 41 X 4 dX12_sum_40 rfl rfl ?_
      refine g_if_ne 51 44 X dX12_sum_41 (by decide) rfl h (fun h => ?_) (fun h => ?_)
      · refine g_aload_n 52 X 1 dX12_sum_51 rfl rfl ?_
        refine g_getl 55 X fl_X12_275_12 (o12 rfl) rfl dX12_sum_52 h rfl (fun v5 h => ?_)
        exact g_lret X hr dX12_sum_55 h
      · refine g_aload_n 45 X 1 dX12_sum_44 rfl rfl ?_
        refine g_getl 48 X fl_X12_272_12 (o12 rfl) rfl dX12_sum_45 h rfl (fun v6 h => ?_)
        refine g_goto 55 X dX12_sum_48 (by decide) ?_
        exact g_lret X hr dX12_sum_55 h
    · refine g_iload 31 X 0 dX12_sum_29 rfl rfl ?_
      refine g_nl 34 h (fun q e => r_S X cd_X12_198_X12_no ⟨rfl, rfl⟩ ⟨Nat.le_of_ble_eq_true rfl, Nat.le_of_ble_eq_true rfl⟩ (c_X12_no e) PC_blind (pn_pre X) rfl rfl (Nat.le_of_ble_eq_true rfl) dX12_sum_31) rfl (fun v7 h => ?_)
      exact g_lret X hr dX12_sum_34 h
  · refine g_bipush 12 X dX12_sum_10 bpm2 rfl ?_
    refine g_nl 15 h (fun q e => r_S X cd_X12_198_X12_no ⟨rfl, rfl⟩ ⟨Nat.le_of_ble_eq_true rfl, Nat.le_of_ble_eq_true rfl⟩ (c_X12_no e) PC_blind (pn_pre X) rfl rfl (Nat.le_of_ble_eq_true rfl) dX12_sum_12) rfl (fun v8 h => ?_)
    exact g_lret X hr dX12_sum_15 h
set_option maxRecDepth 100000 in
theorem c_X12_sum {l : Launch} {D : va_G} {ks : Nat → ClassId} {A : Nat → Prop} {ad : Nat → Nat} (hD : ∀ μ : Mem, va_D A (wsM 24 ad (shR ks ad) μ)) {F : Nat} {μ : Mem} {x1 : Int32} {x2 : Int32} {x3 : Int32} {r : Int64 × Mem}  (h : f_X12_sum F μ x1 x2 x3 = some r) : Met l yX12_sum (Cond.code yX12_sum cX12_sum 5 (some .long) :: wg) rm_X12_sum (PC D ks 24 ad (shR ks ad) μ [.ref (ad 0), .int x1, .int x2, .int x3]) (QL D 24 ad (shR ks ad) A r) 0 0 A := by
  refine met_of (by decide) (Nat.le_of_ble_eq_true rfl) hD ?_
  intro p e s m args below meth c X hr
  exact G.sub [0, 1, 2, 3] rfl (b_X12_sum_0 X hr  _ _ _ _ h)
