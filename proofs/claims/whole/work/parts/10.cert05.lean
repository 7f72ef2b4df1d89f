abbrev rm_X11_edgeOf : Room := { frames := 5, cells := 0, slots := 0, locals := 109 }
set_option maxRecDepth 100000 in
set_option maxHeartbeats 4000000 in
theorem b_X11_edgeOf_86 {p : Program} {l : Launch} {e : Env} {s : State} {m : MethodId} {args : Array Value} {below : List Frame} {meth : Method} {c : Code} {D : va_G} {ks : Nat → ClassId} {A : Nat → Prop} {ad : Nat → Nat} (X : Cx p s m args meth c cX11_edgeOf 10 RX11 D ks A 75 ad (shC ks ad)) (hr : meth.sig.returnType = (some .long)) {F : Nat} {r : Int64 × Mem} {k11 : Mem → Nat → Int32 → Int32 → Int64 → Int32 → Option (Int64 × Mem)} (hk11 : ∀ (μ : Mem) (x1 : Nat) (x2 : Int32) (x3 : Int32) (x4 : Int64) (x6 : Int32), (kindC x1 = 104) → k11 μ x1 x2 x3 x4 x6 = some r → G p l e rm_X11_edgeOf s m args below meth c D A 10 (MQ below (QL D 75 ad (shC ks ad) A r) args s 0 0 A) 75 ad (shC ks ad) μ 11 [(0, .ref (ad 0)), (1, .ref (ad x1)), (2, .int x2), (3, .int x3), (4, .long x4), (6, .int x6)] []) (μ : Mem) (x1 : Nat) (x2 : Int32) (x3 : Int32) (x4 : Int64) (x6 : Int32) (kx1 : kindC x1 = 104) (h : f_X11_edgeOf_b86 F k11 μ x1 x2 x3 x4 x6 = some r) : G p l e rm_X11_edgeOf s m args below meth c D A 10 (MQ below (QL D 75 ad (shC ks ad) A r) args s 0 0 A) 75 ad (shC ks ad) μ 86 [(0, .ref (ad 0)), (1, .ref (ad x1)), (2, .int x2), (3, .int x3), (4, .long x4), (6, .int x6)] [] := by
  refine g_iinc 89 X 5 dX11_edgeOf_86 ic1 rfl (by decide) rfl ?_
  refine g_goto 11 X dX11_edgeOf_89 (by decide) ?_
  exact G.sub [1, 2, 3, 4, 5, 0] rfl (hk11 _ _ _ _ _ _ kx1 h)
set_option maxRecDepth 100000 in
set_option maxHeartbeats 4000000 in
theorem b_X11_edgeOf_82 {p : Program} {l : Launch} {e : Env} {s : State} {m : MethodId} {args : Array Value} {below : List Frame} {meth : Method} {c : Code} {D : va_G} {ks : Nat → ClassId} {A : Nat → Prop} {ad : Nat → Nat} (X : Cx p s m args meth c cX11_edgeOf 10 RX11 D ks A 75 ad (shC ks ad)) (hr : meth.sig.returnType = (some .long)) {F : Nat} {r : Int64 × Mem} {k11 : Mem → Nat → Int32 → Int32 → Int64 → Int32 → Option (Int64 × Mem)} (hk11 : ∀ (μ : Mem) (x1 : Nat) (x2 : Int32) (x3 : Int32) (x4 : Int64) (x6 : Int32), (kindC x1 = 104) → k11 μ x1 x2 x3 x4 x6 = some r → G p l e rm_X11_edgeOf s m args below meth c D A 10 (MQ below (QL D 75 ad (shC ks ad) A r) args s 0 0 A) 75 ad (shC ks ad) μ 11 [(0, .ref (ad 0)), (1, .ref (ad x1)), (2, .int x2), (3, .int x3), (4, .long x4), (6, .int x6)] []) (μ : Mem) (x1 : Nat) (x2 : Int32) (x3 : Int32) (x6 : Int32) (x7 : Int64) (kx1 : kindC x1 = 104) (h : f_X11_edgeOf_b82 F k11 μ x1 x2 x3 x6 x7 = some r) : G p l e rm_X11_edgeOf s m args below meth c D A 10 (MQ below (QL D 75 ad (shC ks ad) A r) args s 0 0 A) 75 ad (shC ks ad) μ 82 [(0, .ref (ad 0)), (1, .ref (ad x1)), (2, .int x2), (3, .int x3), (6, .int x6), (7, .long x7)] [] := by
  refine g_lload 84 X 5 dX11_edgeOf_82 rfl rfl ?_
  refine g_lstore 86 X dX11_edgeOf_84 (by decide) rfl ?_
  exact G.sub [1, 2, 3, 4, 0, 5] rfl (b_X11_edgeOf_86 X hr hk11 _ _ _ _ _ _ kx1 h)
set_option maxRecDepth 100000 in
set_option maxHeartbeats 4000000 in
theorem b_X11_edgeOf_70 {p : Program} {l : Launch} {e : Env} {s : State} {m : MethodId} {args : Array Value} {below : List Frame} {meth : Method} {c : Code} {D : va_G} {ks : Nat → ClassId} {A : Nat → Prop} {ad : Nat → Nat} (X : Cx p s m args meth c cX11_edgeOf 10 RX11 D ks A 75 ad (shC ks ad)) (hr : meth.sig.returnType = (some .long)) {F : Nat} {r : Int64 × Mem} {k11 : Mem → Nat → Int32 → Int32 → Int64 → Int32 → Option (Int64 × Mem)} (hk11 : ∀ (μ : Mem) (x1 : Nat) (x2 : Int32) (x3 : Int32) (x4 : Int64) (x6 : Int32), (kindC x1 = 104) → k11 μ x1 x2 x3 x4 x6 = some r → G p l e rm_X11_edgeOf s m args below meth c D A 10 (MQ below (QL D 75 ad (shC ks ad) A r) args s 0 0 A) 75 ad (shC ks ad) μ 11 [(0, .ref (ad 0)), (1, .ref (ad x1)), (2, .int x2), (3, .int x3), (4, .long x4), (6, .int x6)] []) (μ : Mem) (x1 : Nat) (x2 : Int32) (x3 : Int32) (x4 : Int64) (x6 : Int32) (x7 : Int64) (z0 : Int32) (kx1 : kindC x1 = 104) (h : f_X11_edgeOf_b70 F k11 μ x1 x2 x3 x4 x6 x7 z0 = some r) : G p l e rm_X11_edgeOf s m args below meth c D A 10 (MQ below (QL D 75 ad (shC ks ad) A r) args s 0 0 A) 75 ad (shC ks ad) μ 70 [(0, .ref (ad 0)), (1, .ref (ad x1)), (2, .int x2), (3, .int x3), (4, .long x4), (6, .int x6), (7, .long x7)] [.int z0] := by
  refine g_istore 72 X dX11_edgeOf_70 (by decide) rfl ?_
  refine g_iload 74 X 6 dX11_edgeOf_72 rfl rfl ?_
  refine g_if_eq 82 77 X dX11_edgeOf_74 (by decide) rfl h (fun h => ?_) (fun h => ?_)
  · exact G.sub [1, 2, 3, 4, 6, 7] rfl (b_X11_edgeOf_82 X hr hk11 _ _ _ _ _ _ kx1 h)
  · refine g_iload 79 X 0 dX11_edgeOf_77 rfl rfl ?_
    refine g_if_eq 86 82 X dX11_edgeOf_79 (by decide) rfl h (fun h => ?_) (fun h => ?_)
    · exact G.sub [1, 2, 3, 4, 5, 6] rfl (b_X11_edgeOf_86 X hr hk11 _ _ _ _ _ _ kx1 h)
    · exact G.sub [1, 2, 3, 4, 6, 7] rfl (b_X11_edgeOf_82 X hr hk11 _ _ _ _ _ _ kx1 h)
set_option maxRecDepth 100000 in
set_option maxHeartbeats 4000000 in
theorem b_X11_edgeOf_11 {p : Program} {l : Launch} {e : Env} {s : State} {m : MethodId} {args : Array Value} {below : List Frame} {meth : Method} {c : Code} {D : va_G} {ks : Nat → ClassId} {A : Nat → Prop} {ad : Nat → Nat} (X : Cx p s m args meth c cX11_edgeOf 10 RX11 D ks A 75 ad (shC ks ad)) (hr : meth.sig.returnType = (some .long)) {F : Nat} {r : Int64 × Mem} : ∀ n : Nat, ∀ (μ : Mem) (x1 : Nat) (x2 : Int32) (x3 : Int32) (x4 : Int64) (x6 : Int32), (kindC x1 = 104) → f_X11_edgeOf_b11 F  n μ x1 x2 x3 x4 x6 = some r → G p l e rm_X11_edgeOf s m args below meth c D A 10 (MQ below (QL D 75 ad (shC ks ad) A r) args s 0 0 A) 75 ad (shC ks ad) μ 11 [(0, .ref (ad 0)), (1, .ref (ad x1)), (2, .int x2), (3, .int x3), (4, .long x4), (6, .int x6)] [] := by
  intro n
  induction n with
  | zero =>
    intro _ _ _ _ _ _ _ h
    cases h
  | succ n ih =>
    intro μ x1 x2 x3 x4 x6 kx1 h
    refine g_iload 13 X 5 dX11_edgeOf_11 rfl rfl ?_
    refine g_iload_n 14 X 3 dX11_edgeOf_13 rfl rfl ?_
    refine g_icmp_ge 92 17 X dX11_edgeOf_14 (by decide) rfl h (fun h => ?_) (fun h => ?_)
    · refine g_lload 94 X 4 dX11_edgeOf_92 rfl rfl ?_
      exact g_lret X hr dX11_edgeOf_94 h
    · refine g_aload_n 18 X 0 dX11_edgeOf_17 rfl rfl ?_
      refine g_aload_n 19 X 1 dX11_edgeOf_18 rfl rfl ?_
      refine g_aload_n 20 X 1 dX11_edgeOf_19 rfl rfl ?_
      refine g_iload 22 X 5 dX11_edgeOf_20 rfl rfl ?_
      refine g_ci 25 h (fun q e => r_V X cd_X11_351_X4_drawAt_X4 ⟨rfl, rfl⟩ ⟨Nat.le_of_ble_eq_true rfl, Nat.le_of_ble_eq_true rfl⟩ (c_X4_drawAt X.2.2.2.2 kx1 e) PC_blind (pc_pre X) (g_recv X (o4 kx1) rfl) rfl rfl (Nat.le_of_ble_eq_true rfl) dX11_edgeOf_22) rfl (fun v1 μ2 h => ?_)
      refine g_cv 28 h (fun q e => r_V X cd_X11_196_X11_addUp_X11 ⟨rfl, rfl⟩ ⟨Nat.le_of_ble_eq_true rfl, Nat.le_of_ble_eq_true rfl⟩ (c_X11_addUp X.2.2.2.2  e) PC_blind (pc_pre X) (g_recv X (o11 rfl) rfl) rfl rfl (Nat.le_of_ble_eq_true rfl) dX11_edgeOf_25) rfl (fun _ μ3 h => ?_)
      refine g_aload_n 29 X 0 dX11_edgeOf_28 rfl rfl ?_
      refine g_getr 32 X fl_X11_54_11 (o11 rfl) rfl dX11_edgeOf_29 rfl ?_
      refine g_cl 35 h (fun q e => r_V X cd_X11_354_X1_roundedDown_X1 ⟨rfl, rfl⟩ ⟨Nat.le_of_ble_eq_true rfl, Nat.le_of_ble_eq_true rfl⟩ (c_X1_roundedDown X.2.2.2.2 rfl e) PC_blind (pc_pre X) (g_recv X (o1 rfl) rfl) rfl rfl (Nat.le_of_ble_eq_true rfl) dX11_edgeOf_32) rfl (fun v4 μ5 h => ?_)
      refine g_lstore 37 X dX11_edgeOf_35 (by decide) rfl ?_
      refine g_iload_n 38 X 3 dX11_edgeOf_37 rfl rfl ?_
      refine g_if_ne 57 41 X dX11_edgeOf_38 (by decide) rfl h (fun h => ?_) (fun h => ?_)
      · refine g_lload 59 X 0 dX11_edgeOf_57 rfl rfl ?_
        refine g_lload 61 X 5 dX11_edgeOf_59 rfl rfl ?_
        refine g_lcmp 62 X dX11_edgeOf_61 rfl ?_
        refine g_if_le 69 65 X dX11_edgeOf_62 (by decide) rfl h (fun h => ?_) (fun h => ?_)
        · refine g_iconst 70 X dX11_edgeOf_69 ic0 rfl ?_
          exact G.sub [1, 2, 3, 4, 5, 6, 0] rfl (b_X11_edgeOf_70 X hr ih _ _ _ _ _ _ _ _ kx1 h)
        · refine g_iconst 66 X dX11_edgeOf_65 ic1 rfl ?_
          refine g_goto 70 X dX11_edgeOf_66 (by decide) ?_
          exact G.sub [1, 2, 3, 4, 5, 6, 0] rfl (b_X11_edgeOf_70 X hr ih _ _ _ _ _ _ _ _ kx1 h)
      · refine g_lload 43 X 0 dX11_edgeOf_41 rfl rfl ?_
        refine g_lload 45 X 5 dX11_edgeOf_43 rfl rfl ?_
        refine g_lcmp 46 X dX11_edgeOf_45 rfl ?_
        refine g_if_ge 53 49 X dX11_edgeOf_46 (by decide) rfl h (fun h => ?_) (fun h => ?_)
        · refine g_iconst 54 X dX11_edgeOf_53 ic0 rfl ?_
          refine g_goto 70 X dX11_edgeOf_54 (by decide) ?_
          exact G.sub [1, 2, 3, 4, 5, 6, 0] rfl (b_X11_edgeOf_70 X hr ih _ _ _ _ _ _ _ _ kx1 h)
        · refine g_iconst 50 X dX11_edgeOf_49 ic1 rfl ?_
          refine g_goto 70 X dX11_edgeOf_50 (by decide) ?_
          exact G.sub [1, 2, 3, 4, 5, 6, 0] rfl (b_X11_edgeOf_70 X hr ih _ _ _ _ _ _ _ _ kx1 h)
set_option maxRecDepth 100000 in
set_option maxHeartbeats 4000000 in
theorem b_X11_edgeOf_0 {p : Program} {l : Launch} {e : Env} {s : State} {m : MethodId} {args : Array Value} {below : List Frame} {meth : Method} {c : Code} {D : va_G} {ks : Nat → ClassId} {A : Nat → Prop} {ad : Nat → Nat} (X : Cx p s m args meth c cX11_edgeOf 10 RX11 D ks A 75 ad (shC ks ad)) (hr : meth.sig.returnType = (some .long)) {F : Nat} {r : Int64 × Mem} (μ : Mem) (x1 : Nat) (x2 : Int32) (kx1 : kindC x1 = 104) (h : f_X11_edgeOf F  μ x1 x2 = some r) : G p l e rm_X11_edgeOf s m args below meth c D A 10 (MQ below (QL D 75 ad (shC ks ad) A r) args s 0 0 A) 75 ad (shC ks ad) μ 0 [(0, .ref (ad 0)), (1, .ref (ad x1)), (2, .int x2)] [] := by
  refine g_aload_n 1 X 1 dX11_edgeOf_0 rfl rfl ?_
  refine g_ci 4 h (fun q e => r_V X cd_X11_348_X4_pointCount_X4 ⟨rfl, rfl⟩ ⟨Nat.le_of_ble_eq_true rfl, Nat.le_of_ble_eq_true rfl⟩ (c_X4_pointCount X.2.2.2.2 kx1 e) PC_blind (pc_pre X) (g_recv X (o4 kx1) rfl) rfl rfl (Nat.le_of_ble_eq_true rfl) dX11_edgeOf_1) rfl (fun v1 μ2 h => ?_)
  refine g_istore_n 5 X dX11_edgeOf_4 (by decide) rfl ?_
  refine g_lconst 6 X dX11_edgeOf_5 lc0 rfl ?_
  refine g_lstore 8 X dX11_edgeOf_6 (by decide) rfl ?_
  refine g_iconst 9 X dX11_edgeOf_8 ic0 rfl ?_
  refine g_istore 11 X dX11_edgeOf_9 (by decide) rfl ?_
  exact G.sub [3, 4, 5, 2, 1, 0] rfl (b_X11_edgeOf_11 X hr  F _ _ _ _ _ _ kx1 h)
set_option maxRecDepth 100000 in
theorem c_X11_edgeOf {l : Launch} {D : va_G} {ks : Nat → ClassId} {A : Nat → Prop} {ad : Nat → Nat} (hD : ∀ μ : Mem, va_D A (wsM 75 ad (shC ks ad) μ)) {F : Nat} {μ : Mem} {x1 : Nat} {x2 : Int32} {r : Int64 × Mem} (kx1 : kindC x1 = 104) (h : f_X11_edgeOf F μ x1 x2 = some r) : Met l yX11_edgeOf (Cond.code yX11_edgeOf cX11_edgeOf 10 (some .long) :: wg) rm_X11_edgeOf (PC D ks 75 ad (shC ks ad) μ [.ref (ad 0), .ref (ad x1), .int x2]) (QL D 75 ad (shC ks ad) A r) 0 0 A := by
  refine met_of (by decide) (Nat.le_of_ble_eq_true rfl) hD ?_
  intro p e s m args below meth c X hr
  exact G.sub [0, 1, 2] rfl (b_X11_edgeOf_0 X hr  _ _ _ kx1 h)
abbrev rm_X11_edge : Room := { frames := 6, cells := 0, slots := 0, locals := 138 }
set_option maxRecDepth 100000 in
set_option maxHeartbeats 4000000 in
theorem b_X11_edge_16 {p : Program} {l : Launch} {e : Env} {s : State} {m : MethodId} {args : Array Value} {below : List Frame} {meth : Method} {c : Code} {D : va_G} {ks : Nat → ClassId} {A : Nat → Prop} {ad : Nat → Nat} (X : Cx p s m args meth c cX11_edge 5 RX11 D ks A 75 ad (shC ks ad)) (hr : meth.sig.returnType = (some .long)) {F : Nat} {r : Int64 × Mem} (μ : Mem)  (h : f_X11_edge_b16 F  μ = some r) : G p l e rm_X11_edge s m args below meth c D A 5 (MQ below (QL D 75 ad (shC ks ad) A r) args s 0 0 A) 75 ad (shC ks ad) μ 16 [] [] := by
  refine g_bipush 18 X dX11_edge_16 bpm2 rfl ?_
  refine g_nl 21 h (fun q e => r_S X cd_X11_150_X11_asLong ⟨rfl, rfl⟩ ⟨Nat.le_of_ble_eq_true rfl, Nat.le_of_ble_eq_true rfl⟩ (c_X11_asLong e) PC_blind (pn_pre X) rfl rfl (Nat.le_of_ble_eq_true rfl) dX11_edge_18) rfl (fun v1 h => ?_)
  exact g_lret X hr dX11_edge_21 h
set_option maxRecDepth 100000 in
set_option maxHeartbeats 4000000 in
theorem b_X11_edge_0 {p : Program} {l : Launch} {e : Env} {s : State} {m : MethodId} {args : Array Value} {below : List Frame} {meth : Method} {c : Code} {D : va_G} {ks : Nat → ClassId} {A : Nat → Prop} {ad : Nat → Nat} (X : Cx p s m args meth c cX11_edge 5 RX11 D ks A 75 ad (shC ks ad)) (hr : meth.sig.returnType = (some .long)) {F : Nat} {r : Int64 × Mem} (μ : Mem) (x1 : Int32) (x2 : Int32)  (h : f_X11_edge F  μ x1 x2 = some r) : G p l e rm_X11_edge s m args below meth c D A 5 (MQ below (QL D 75 ad (shC ks ad) A r) args s 0 0 A) 75 ad (shC ks ad) μ 0 [(0, .ref (ad 0)), (1, .int x1), (2, .int x2)] [] := by
  refine g_iload_n 1 X 1 dX11_edge_0 rfl rfl ?_
  refine g_ni 4 h (fun q e => r_S X cd_X11_133_X11_isPlan ⟨rfl, rfl⟩ ⟨Nat.le_of_ble_eq_true rfl, Nat.le_of_ble_eq_true rfl⟩ (c_X11_isPlan e) PC_blind (pn_pre X) rfl rfl (Nat.le_of_ble_eq_true rfl) dX11_edge_1) rfl (fun v1 h => ?_)
  refine g_if_eq 16 7 X dX11_edge_4 (by decide) rfl h (fun h => ?_) (fun h => ?_)
  · exact G.sub [] rfl (b_X11_edge_16 X hr  _ h)
  · refine g_iload_n 8 X 2 dX11_edge_7 rfl rfl ?_
    refine g_iconst 9 X dX11_edge_8 ic0 rfl ?_
    refine g_iconst 10 X dX11_edge_9 ic1 rfl ?_
    refine g_ni 13 h (fun q e => r_S X cd_X11_105_X11_within ⟨rfl, rfl⟩ ⟨Nat.le_of_ble_eq_true rfl, Nat.le_of_ble_eq_true rfl⟩ (c_X11_within e) PC_blind (pn_pre X) rfl rfl (Nat.le_of_ble_eq_true rfl) dX11_edge_10) rfl (fun v2 h => ?_)
    refine g_if_ne 22 16 X dX11_edge_13 (by decide) rfl h (fun h => ?_) (fun h => ?_)
    · refine g_aload_n 23 X 0 dX11_edge_22 rfl rfl ?_
      refine g_getr 26 X fl_X11_27_11 (o11 rfl) rfl dX11_edge_23 rfl ?_
      refine g_iload_n 27 X 1 dX11_edge_26 rfl rfl ?_
      refine g_aald (fn := fun p => 18 + 9 * p) 28 X arP rfl dX11_edge_27 h rfl (fun hv3 h => ?_)
      refine g_cr 31 h (fun q e => r_V X cd_X11_146_X5_possibleWay_X5 ⟨rfl, rfl⟩ ⟨Nat.le_of_ble_eq_true rfl, Nat.le_of_ble_eq_true rfl⟩ (c_X5_possibleWay X.2.2.2.2 (kPl hv3) e) PC_blind (pc_pre X) (g_recv X (o5 (kPl hv3)) rfl) rfl rfl (Nat.le_of_ble_eq_true rfl) dX11_edge_28) rfl (fun v4 μ5 h => ?_)
      refine g_astoreq 33 X dX11_edge_31 (by decide) rfl ?_
      refine g_aloadq 35 X 0 dX11_edge_33 rfl rfl ?_
      refine g_inst4 38 X m867 dX11_edge_35 h rfl (fun v6 h => ?_)
      refine g_if_eq 54 41 X dX11_edge_38 (by decide) rfl h (fun h => ?_) (fun h => ?_)
      · refine g_bipush 56 X dX11_edge_54 bpm3 rfl ?_
        refine g_nl 59 h (fun q e => r_S X cd_X11_150_X11_asLong ⟨rfl, rfl⟩ ⟨Nat.le_of_ble_eq_true rfl, Nat.le_of_ble_eq_true rfl⟩ (c_X11_asLong e) PC_blind (pn_pre X) rfl rfl (Nat.le_of_ble_eq_true rfl) dX11_edge_56) rfl (fun v7 h => ?_)
        exact g_lret X hr dX11_edge_59 h
      · refine g_aloadq 43 X 0 dX11_edge_41 rfl rfl ?_
        obtain ⟨y8, hy, hk9, h2⟩ := castk_some h
        subst hy
        have h := h2
        refine g_cast4 46 X m867 hk9 dX11_edge_43 rfl ?_
        refine g_astore_n 47 X dX11_edge_46 (by decide) rfl ?_
        refine g_aload_n 48 X 2 dX11_edge_47 rfl rfl ?_
        refine g_aload_n 49 X 0 dX11_edge_48 rfl rfl ?_
        refine g_iload_n 50 X 4 dX11_edge_49 rfl rfl ?_
        refine g_cl 53 h (fun q e => r_V X cd_X11_213_X11_edgeOf_X11 ⟨rfl, rfl⟩ ⟨Nat.le_of_ble_eq_true rfl, Nat.le_of_ble_eq_true rfl⟩ (c_X11_edgeOf X.2.2.2.2 hk9 e) PC_blind (pc_pre X) (g_recv X (o11 rfl) rfl) rfl rfl (Nat.le_of_ble_eq_true rfl) dX11_edge_50) rfl (fun v10 μ11 h => ?_)
        exact g_lret X hr dX11_edge_53 h
    · exact G.sub [] rfl (b_X11_edge_16 X hr  _ h)
set_option maxRecDepth 100000 in
theorem c_X11_edge {l : Launch} {D : va_G} {ks : Nat → ClassId} {A : Nat → Prop} {ad : Nat → Nat} (hD : ∀ μ : Mem, va_D A (wsM 75 ad (shC ks ad) μ)) {F : Nat} {μ : Mem} {x1 : Int32} {x2 : Int32} {r : Int64 × Mem}  (h : f_X11_edge F μ x1 x2 = some r) : Met l yX11_edge (Cond.code yX11_edge cX11_edge 5 (some .long) :: wg) rm_X11_edge (PC D ks 75 ad (shC ks ad) μ [.ref (ad 0), .int x1, .int x2]) (QL D 75 ad (shC ks ad) A r) 0 0 A := by
  refine met_of (by decide) (Nat.le_of_ble_eq_true rfl) hD ?_
  intro p e s m args below meth c X hr
  exact G.sub [0, 1, 2] rfl (b_X11_edge_0 X hr  _ _ _ h)
abbrev rm_X11_swap : Room := { frames := 0, cells := 0, slots := 0, locals := 0 }
set_option maxRecDepth 100000 in
set_option maxHeartbeats 4000000 in
theorem b_X11_swap_0 {p : Program} {l : Launch} {e : Env} {s : State} {m : MethodId} {args : Array Value} {below : List Frame} {meth : Method} {c : Code} {D : va_G} {ks : Nat → ClassId} {A : Nat → Prop} {ad : Nat → Nat} (X : Cx p s m args meth c cX11_swap 4 RX11 D ks A 75 ad (shC ks ad)) (hr : meth.sig.returnType = (some .int)) {F : Nat} {r : Int32 × Mem} (μ : Mem) (x0 : Nat) (x1 : Int32) (x2 : Int32) (kx0 : (1000 ≤ kindC x0 ∧ kindC x0 < 2000)) (h : f_X11_swap F  μ x0 x1 x2 = some r) : G p l e rm_X11_swap s m args below meth c D A 4 (MQ below (QI D 75 ad (shC ks ad) A r) args s 0 0 A) 75 ad (shC ks ad) μ 0 [(0, .ref (ad x0)), (1, .int x1), (2, .int x2)] [] := by
  refine g_aload_n 1 X 0 dX11_swap_0 rfl rfl ?_
  refine g_iload_n 2 X 1 dX11_swap_1 rfl rfl ?_
  refine g_iald 3 X (aiP kx0) dX11_swap_2 h rfl (fun v1 h => ?_)
  refine g_istore_n 4 X dX11_swap_3 (by decide) rfl ?_
  refine g_aload_n 5 X 1 dX11_swap_4 rfl rfl ?_
  refine g_iload_n 6 X 2 dX11_swap_5 rfl rfl ?_
  refine g_iload_n 7 X 3 dX11_swap_6 rfl rfl ?_
  refine g_iast 8 X (aiP kx0) dX11_swap_7 h rfl (fun μ2 h => ?_)
  refine g_iload_n 9 X 0 dX11_swap_8 rfl rfl ?_
  exact g_iret X hr dX11_swap_9 h
set_option maxRecDepth 100000 in
theorem c_X11_swap {l : Launch} {D : va_G} {ks : Nat → ClassId} {A : Nat → Prop} {ad : Nat → Nat} (hD : ∀ μ : Mem, va_D A (wsM 75 ad (shC ks ad) μ)) {F : Nat} {μ : Mem} {x0 : Nat} {x1 : Int32} {x2 : Int32} {r : Int32 × Mem} (kx0 : (1000 ≤ kindC x0 ∧ kindC x0 < 2000)) (h : f_X11_swap F μ x0 x1 x2 = some r) : Met l yX11_swap (Cond.code yX11_swap cX11_swap 4 (some .int) :: wg) rm_X11_swap (PC D ks 75 ad (shC ks ad) μ [.ref (ad x0), .int x1, .int x2]) (QI D 75 ad (shC ks ad) A r) 0 0 A := by
  refine met_of (by decide) (Nat.le_of_ble_eq_true rfl) hD ?_
  intro p e s m args below meth c X hr
  exact G.sub [0, 1, 2] rfl (b_X11_swap_0 X hr  _ _ _ _ kx0 h)
abbrev rm_X11_known : Room := { frames := 1, cells := 0, slots := 0, locals := 23 }
set_option maxRecDepth 100000 in
set_option maxHeartbeats 4000000 in
theorem b_X11_known_40 {p : Program} {l : Launch} {e : Env} {s : State} {m : MethodId} {args : Array Value} {below : List Frame} {meth : Method} {c : Code} {D : va_G} {ks : Nat → ClassId} {A : Nat → Prop} {ad : Nat → Nat} (X : Cx p s m args meth c cX11_known 4 RX11 D ks A 75 ad (shC ks ad)) (hr : meth.sig.returnType = (some .int)) {F : Nat} {r : Int32 × Mem} (μ : Mem) (x1 : Int32) (x2 : Int32) (x3 : Int32)  (h : f_X11_known_b40 F  μ x1 x2 x3 = some r) : G p l e rm_X11_known s m args below meth c D A 4 (MQ below (QI D 75 ad (shC ks ad) A r) args s 0 0 A) 75 ad (shC ks ad) μ 40 [(0, .ref (ad 0)), (1, .int x1), (2, .int x2), (3, .int x3)] [] := by
  refine g_iload_n 41 X 1 dX11_known_40 rfl rfl ?_
  refine g_iconst 42 X dX11_known_41 ic1 rfl ?_
  refine g_icmp_ne 67 45 X dX11_known_42 (by decide) rfl h (fun h => ?_) (fun h => ?_)
  · refine g_bipush 69 X dX11_known_67 bpm2 rfl ?_
    exact g_iret X hr dX11_known_69 h
  · refine g_iload_n 46 X 2 dX11_known_45 rfl rfl ?_
    refine g_iconst 47 X dX11_known_46 ic0 rfl ?_
    refine g_iconst 48 X dX11_known_47 ic2 rfl ?_
    refine g_ni 51 h (fun q e => r_S X cd_X11_105_X11_within ⟨rfl, rfl⟩ ⟨Nat.le_of_ble_eq_true rfl, Nat.le_of_ble_eq_true rfl⟩ (c_X11_within e) PC_blind (pn_pre X) rfl rfl (Nat.le_of_ble_eq_true rfl) dX11_known_48) rfl (fun v1 h => ?_)
    refine g_if_eq 67 54 X dX11_known_51 (by decide) rfl h (fun h => ?_) (fun h => ?_)
    · refine g_bipush 69 X dX11_known_67 bpm2 rfl ?_
      exact g_iret X hr dX11_known_69 h
    · refine g_aload_n 55 X 0 dX11_known_54 rfl rfl ?_
      refine g_getr 58 X fl_X11_40_11 (o11 rfl) rfl dX11_known_55 rfl ?_
      refine g_getr 61 X fl_X11_224_10 (o10 rfl) rfl dX11_known_58 rfl ?_
      refine g_iload_n 62 X 2 dX11_known_61 rfl rfl ?_
      refine g_iload_n 63 X 3 dX11_known_62 rfl rfl ?_
      refine g_ci 66 h (fun q e => r_S X cd_X11_220_X11_swap ⟨rfl, rfl⟩ ⟨Nat.le_of_ble_eq_true rfl, Nat.le_of_ble_eq_true rfl⟩ (c_X11_swap X.2.2.2.2 ⟨by decide, by decide⟩ e) PC_blind (pc_pre X) rfl rfl (Nat.le_of_ble_eq_true rfl) dX11_known_63) rfl (fun v2 μ3 h => ?_)
      exact g_iret X hr dX11_known_66 h
set_option maxRecDepth 100000 in
set_option maxHeartbeats 4000000 in
theorem b_X11_known_0 {p : Program} {l : Launch} {e : Env} {s : State} {m : MethodId} {args : Array Value} {below : List Frame} {meth : Method} {c : Code} {D : va_G} {ks : Nat → ClassId} {A : Nat → Prop} {ad : Nat → Nat} (X : Cx p s m args meth c cX11_known 4 RX11 D ks A 75 ad (shC ks ad)) (hr : meth.sig.returnType = (some .int)) {F : Nat} {r : Int32 × Mem} (μ : Mem) (x1 : Int32) (x2 : Int32) (x3 : Int32)  (h : f_X11_known F  μ x1 x2 x3 = some r) : G p l e rm_X11_known s m args below meth c D A 4 (MQ below (QI D 75 ad (shC ks ad) A r) args s 0 0 A) 75 ad (shC ks ad) μ 0 [(0, .ref (ad 0)), (1, .int x1), (2, .int x2), (3, .int x3)] [] := by
  refine g_iload_n 1 X 3 dX11_known_0 rfl rfl ?_
  refine g_iconst 2 X dX11_known_1 ic0 rfl ?_
  refine g_sipush 5 X dX11_known_2 sp30000 rfl ?_
  refine g_ni 8 h (fun q e => r_S X cd_X11_105_X11_within ⟨rfl, rfl⟩ ⟨Nat.le_of_ble_eq_true rfl, Nat.le_of_ble_eq_true rfl⟩ (c_X11_within e) PC_blind (pn_pre X) rfl rfl (Nat.le_of_ble_eq_true rfl) dX11_known_5) rfl (fun v1 h => ?_)
  refine g_if_ne 14 11 X dX11_known_8 (by decide) rfl h (fun h => ?_) (fun h => ?_)
  · refine g_iload_n 15 X 1 dX11_known_14 rfl rfl ?_
    refine g_if_ne 40 18 X dX11_known_15 (by decide) rfl h (fun h => ?_) (fun h => ?_)
    · exact G.sub [0, 1, 2, 3] rfl (b_X11_known_40 X hr  _ _ _ _ h)
    · refine g_iload_n 19 X 2 dX11_known_18 rfl rfl ?_
      refine g_iconst 20 X dX11_known_19 ic0 rfl ?_
      refine g_iconst 21 X dX11_known_20 ic3 rfl ?_
      refine g_ni 24 h (fun q e => r_S X cd_X11_105_X11_within ⟨rfl, rfl⟩ ⟨Nat.le_of_ble_eq_true rfl, Nat.le_of_ble_eq_true rfl⟩ (c_X11_within e) PC_blind (pn_pre X) rfl rfl (Nat.le_of_ble_eq_true rfl) dX11_known_21) rfl (fun v2 h => ?_)
      refine g_if_eq 40 27 X dX11_known_24 (by decide) rfl h (fun h => ?_) (fun h => ?_)
      · exact G.sub [0, 1, 2, 3] rfl (b_X11_known_40 X hr  _ _ _ _ h)
      · refine g_aload_n 28 X 0 dX11_known_27 rfl rfl ?_
        refine g_getr 31 X fl_X11_40_11 (o11 rfl) rfl dX11_known_28 rfl ?_
        refine g_getr 34 X fl_X11_217_10 (o10 rfl) rfl dX11_known_31 rfl ?_
        refine g_iload_n 35 X 2 dX11_known_34 rfl rfl ?_
        refine g_iload_n 36 X 3 dX11_known_35 rfl rfl ?_
        refine g_ci 39 h (fun q e => r_S X cd_X11_220_X11_swap ⟨rfl, rfl⟩ ⟨Nat.le_of_ble_eq_true rfl, Nat.le_of_ble_eq_true rfl⟩ (c_X11_swap X.2.2.2.2 ⟨by decide, by decide⟩ e) PC_blind (pc_pre X) rfl rfl (Nat.le_of_ble_eq_true rfl) dX11_known_36) rfl (fun v3 μ4 h => ?_)
        exact g_iret X hr dX11_known_39 h
  · refine g_bipush 13 X dX11_known_11 bpm2 rfl ?_
    exact g_iret X hr dX11_known_13 h
set_option maxRecDepth 100000 in
theorem c_X11_known {l : Launch} {D : va_G} {ks : Nat → ClassId} {A : Nat → Prop} {ad : Nat → Nat} (hD : ∀ μ : Mem, va_D A (wsM 75 ad (shC ks ad) μ)) {F : Nat} {μ : Mem} {x1 : Int32} {x2 : Int32} {x3 : Int32} {r : Int32 × Mem}  (h : f_X11_known F μ x1 x2 x3 = some r) : Met l yX11_known (Cond.code yX11_known cX11_known 4 (some .int) :: wg) rm_X11_known (PC D ks 75 ad (shC ks ad) μ [.ref (ad 0), .int x1, .int x2, .int x3]) (QI D 75 ad (shC ks ad) A r) 0 0 A := by
  refine met_of (by decide) (Nat.le_of_ble_eq_true rfl) hD ?_
  intro p e s m args below meth c X hr
  exact G.sub [0, 1, 2, 3] rfl (b_X11_known_0 X hr  _ _ _ _ h)
abbrev rm_X1_thousandBy : Room := { frames := 0, cells := 0, slots := 0, locals := 0 }
set_option maxRecDepth 100000 in
set_option maxHeartbeats 4000000 in
theorem b_X1_thousandBy_0 {p : Program} {l : Launch} {e : Env} {s : State} {m : MethodId} {args : Array Value} {below : List Frame} {meth : Method} {c : Code} {D : va_G} {ks : Nat → ClassId} {A : Nat → Prop} {ad : Nat → Nat} (X : Cx p s m args meth c cX1_thousandBy 1 RX1 D ks A 75 ad (shC ks ad)) (hr : meth.sig.returnType = (some .int)) {F : Nat} {r : Int32 × Mem} (μ : Mem) (t : Nat) (kt : kindC t = 101) (h : f_X1_thousandBy F  μ t = some r) : G p l e rm_X1_thousandBy s m args below meth c D A 1 (MQ below (QI D 75 ad (shC ks ad) A r) args s 0 0 A) 75 ad (shC ks ad) μ 0 [(0, .ref (ad t))] [] := by
  refine g_aload_n 1 X 0 dX1_thousandBy_0 rfl rfl ?_
  refine g_getl 4 X fl_X1_7_1 (o1 kt) rfl dX1_thousandBy_1 h rfl (fun v1 h => ?_)
  refine g_lconst 5 X dX1_thousandBy_4 lc0 rfl ?_
  refine g_lcmp 6 X dX1_thousandBy_5 rfl ?_
  refine g_if_gt 13 9 X dX1_thousandBy_6 (by decide) rfl h (fun h => ?_) (fun h => ?_)
  · refine g_ldc2 16 X m900 dX1_thousandBy_13 rfl ?_
    refine g_aload_n 17 X 0 dX1_thousandBy_16 rfl rfl ?_
    refine g_getl 20 X fl_X1_13_1 (o1 kt) rfl dX1_thousandBy_17 h rfl (fun v2 h => ?_)
    refine g_lmul 21 X dX1_thousandBy_20 rfl ?_
    refine g_aload_n 22 X 0 dX1_thousandBy_21 rfl rfl ?_
    refine g_getl 25 X fl_X1_7_1 (o1 kt) rfl dX1_thousandBy_22 h rfl (fun v3 h => ?_)
    refine g_ldiv 26 X dX1_thousandBy_25 h rfl (fun h => ?_)
    refine g_topl h (fun v4 h => ?_)
    refine g_l2i 27 X dX1_thousandBy_26 rfl ?_
    exact g_iret X hr dX1_thousandBy_27 h
  · refine g_iconst 10 X dX1_thousandBy_9 ic0 rfl ?_
    refine g_goto 27 X dX1_thousandBy_10 (by decide) ?_
    exact g_iret X hr dX1_thousandBy_27 h
set_option maxRecDepth 100000 in
theorem c_X1_thousandBy {l : Launch} {D : va_G} {ks : Nat → ClassId} {A : Nat → Prop} {ad : Nat → Nat} (hD : ∀ μ : Mem, va_D A (wsM 75 ad (shC ks ad) μ)) {F : Nat} {μ : Mem} {t : Nat} {r : Int32 × Mem} (kt : kindC t = 101) (h : f_X1_thousandBy F μ t = some r) : Met l yX1_thousandBy (Cond.code yX1_thousandBy cX1_thousandBy 1 (some .int) :: wg) rm_X1_thousandBy (PC D ks 75 ad (shC ks ad) μ [.ref (ad t)]) (QI D 75 ad (shC ks ad) A r) 0 0 A := by
  refine met_of (by decide) (Nat.le_of_ble_eq_true rfl) hD ?_
  intro p e s m args below meth c X hr
  exact G.sub [0] rfl (b_X1_thousandBy_0 X hr  _ _ kt h)
abbrev rm_X10_start : Room := { frames := 4, cells := 0, slots := 0, locals := 85 }
set_option maxRecDepth 100000 in
set_option maxHeartbeats 4000000 in
theorem b_X10_start_49 {p : Program} {l : Launch} {e : Env} {s : State} {m : MethodId} {args : Array Value} {below : List Frame} {meth : Method} {c : Code} {D : va_G} {ks : Nat → ClassId} {A : Nat → Prop} {ad : Nat → Nat} (X : Cx p s m args meth c cX10_start 4 RX10 D ks A 75 ad (shC ks ad)) (hr : meth.sig.returnType = none) {F : Nat} {r : Unit × Mem} {k2 : Mem → (Option Nat) → Int32 → Int32 → Option (Unit × Mem)} (hk2 : ∀ (μ : Mem) (x1 : Option Nat) (x2 : Int32) (x3 : Int32), k2 μ x1 x2 x3 = some r → G p l e rm_X10_start s m args below meth c D A 4 (MQ below (QV D 75 ad (shC ks ad) A r) args s 0 0 A) 75 ad (shC ks ad) μ 2 [(0, .ref (ad 63)), (1, va_rf (x1.map ad)), (2, .int x2), (3, .int x3)] []) (μ : Mem) (x1 : Option Nat) (x2 : Int32) (x3 : Int32)  (h : f_X10_start_b49 F k2 μ x1 x2 x3 = some r) : G p l e rm_X10_start s m args below meth c D A 4 (MQ below (QV D 75 ad (shC ks ad) A r) args s 0 0 A) 75 ad (shC ks ad) μ 49 [(0, .ref (ad 63)), (1, va_rf (x1.map ad)), (2, .int x2), (3, .int x3)] [] := by
  refine g_iinc 52 X 3 dX10_start_49 ic1 rfl (by decide) rfl ?_
  refine g_goto 2 X dX10_start_52 (by decide) ?_
  exact G.sub [1, 2, 3, 0] rfl (hk2 _ _ _ _ h)
set_option maxRecDepth 100000 in
set_option maxHeartbeats 4000000 in
theorem b_X10_start_2 {p : Program} {l : Launch} {e : Env} {s : State} {m : MethodId} {args : Array Value} {below : List Frame} {meth : Method} {c : Code} {D : va_G} {ks : Nat → ClassId} {A : Nat → Prop} {ad : Nat → Nat} (X : Cx p s m args meth c cX10_start 4 RX10 D ks A 75 ad (shC ks ad)) (hr : meth.sig.returnType = none) {F : Nat} {r : Unit × Mem} : ∀ n : Nat, ∀ (μ : Mem) (x1 : Option Nat) (x2 : Int32) (x3 : Int32), f_X10_start_b2 F  n μ x1 x2 x3 = some r → G p l e rm_X10_start s m args below meth c D A 4 (MQ below (QV D 75 ad (shC ks ad) A r) args s 0 0 A) 75 ad (shC ks ad) μ 2 [(0, .ref (ad 63)), (1, va_rf (x1.map ad)), (2, .int x2), (3, .int x3)] [] := by
  intro n
  induction n with
  | zero =>
    intro _ _ _ _ h
    cases h
  | succ n ih =>
    intro μ x1 x2 x3 h
    refine g_iload_n 3 X 3 dX10_start_2 rfl rfl ?_
    refine g_bipush 5 X dX10_start_3 bp30 rfl ?_
    refine g_icmp_ge 55 8 X dX10_start_5 (by decide) rfl h (fun h => ?_) (fun h => ?_)
    · exact g_vret X hr dX10_start_55 h
    · refine g_aload_n 9 X 0 dX10_start_8 rfl rfl ?_
      refine g_getr 12 X fl_X10_18_10 (o10 rfl) rfl dX10_start_9 rfl ?_
      refine g_iload_n 13 X 3 dX10_start_12 rfl rfl ?_
      refine g_iconst 14 X dX10_start_13 ic0 rfl ?_
      refine g_iast 15 X (aiC (n := 30) (by decide) rfl) dX10_start_14 h rfl (fun μ1 h => ?_)
      refine g_aloadq_n 16 X 1 dX10_start_15 rfl rfl ?_
      refine g_ifnull 49 19 X dX10_start_16 (by decide) rfl h (fun hy h2 => ?_) (fun y2 hy h2 => ?_)
      · subst hy
        have h := h2
        exact G.sub [0, 1, 2, 3] rfl (b_X10_start_49 X hr ih _ _ _ _ h)
      · subst hy
        have h := h2
        refine g_iload_n 20 X 2 dX10_start_19 rfl rfl ?_
        refine g_iload_n 21 X 3 dX10_start_20 rfl rfl ?_
        refine g_ni 24 h (fun q e => r_SN X cd_X10_56_X11_isIn ⟨rfl, rfl⟩ ⟨Nat.le_of_ble_eq_true rfl, Nat.le_of_ble_eq_true rfl⟩ (c_X11_isIn e) PC_blind (pn_pre X) rfl rfl (Nat.le_of_ble_eq_true rfl) dX10_start_21) rfl (fun v3 h => ?_)
        refine g_if_eq 49 27 X dX10_start_24 (by decide) rfl h (fun h => ?_) (fun h => ?_)
        · exact G.sub [0, 1, 2, 3] rfl (b_X10_start_49 X hr ih _ _ _ _ h)
        · refine g_aload_n 28 X 1 dX10_start_27 rfl rfl ?_
          refine g_iload_n 29 X 3 dX10_start_28 rfl rfl ?_
          refine g_aload_n 30 X 0 dX10_start_29 rfl rfl ?_
          refine g_getr 33 X fl_X10_28_10 (o10 rfl) rfl dX10_start_30 rfl ?_
          refine g_cv (rest := []) 36 h (fun q e => ?_) rfl (fun _ μ4 h => ?_)
          · rcases vdis_some e with ⟨kk, e⟩ | ⟨kk, e⟩ | ⟨kk, e⟩
            · exact r_A X cd_X10_60_X2_shareOfOne_X2 ⟨rfl, rfl⟩ ⟨Nat.le_of_ble_eq_true rfl, Nat.le_of_ble_eq_true rfl⟩ (c_X2_shareOfOne X.2.2.2.2 kk rfl e) PC_blind (pc_pre X) (g_recv X (o2 kk) rfl) rfl rfl (Nat.le_of_ble_eq_true rfl) dX10_start_33
            · exact r_A X cd_X10_60_X4_shareOfOne_X4 ⟨rfl, rfl⟩ ⟨Nat.le_of_ble_eq_true rfl, Nat.le_of_ble_eq_true rfl⟩ (c_X4_shareOfOne X.2.2.2.2 kk rfl e) PC_blind (pc_pre X) (g_recv X (o4 kk) rfl) rfl rfl (Nat.le_of_ble_eq_true rfl) dX10_start_33
            · exact r_A X cd_X10_60_X8_shareOfOne_X8 ⟨rfl, rfl⟩ ⟨Nat.le_of_ble_eq_true rfl, Nat.le_of_ble_eq_true rfl⟩ (c_X8_shareOfOne X.2.2.2.2 kk rfl e) PC_blind (pc_pre X) (g_recv X (o8 kk) rfl) rfl rfl (Nat.le_of_ble_eq_true rfl) dX10_start_33
          · refine g_aload_n 37 X 0 dX10_start_36 rfl rfl ?_
            refine g_getr 40 X fl_X10_18_10 (o10 rfl) rfl dX10_start_37 rfl ?_
            refine g_iload_n 41 X 3 dX10_start_40 rfl rfl ?_
            refine g_aload_n 42 X 0 dX10_start_41 rfl rfl ?_
            refine g_getr 45 X fl_X10_28_10 (o10 rfl) rfl dX10_start_42 rfl ?_
            refine g_ci 48 h (fun q e => r_V X cd_X10_66_X1_thousandBy_X1 ⟨rfl, rfl⟩ ⟨Nat.le_of_ble_eq_true rfl, Nat.le_of_ble_eq_true rfl⟩ (c_X1_thousandBy X.2.2.2.2 rfl e) PC_blind (pc_pre X) (g_recv X (o1 rfl) rfl) rfl rfl (Nat.le_of_ble_eq_true rfl) dX10_start_45) rfl (fun v5 μ6 h => ?_)
            refine g_iast 49 X (aiC (n := 30) (by decide) rfl) dX10_start_48 h rfl (fun μ7 h => ?_)
            exact G.sub [0, 1, 2, 3] rfl (b_X10_start_49 X hr ih _ _ _ _ h)
set_option maxRecDepth 100000 in
set_option maxHeartbeats 4000000 in
theorem b_X10_start_0 {p : Program} {l : Launch} {e : Env} {s : State} {m : MethodId} {args : Array Value} {below : List Frame} {meth : Method} {c : Code} {D : va_G} {ks : Nat → ClassId} {A : Nat → Prop} {ad : Nat → Nat} (X : Cx p s m args meth c cX10_start 4 RX10 D ks A 75 ad (shC ks ad)) (hr : meth.sig.returnType = none) {F : Nat} {r : Unit × Mem} (μ : Mem) (x1 : Option Nat) (x2 : Int32)  (h : f_X10_start F  μ x1 x2 = some r) : G p l e rm_X10_start s m args below meth c D A 4 (MQ below (QV D 75 ad (shC ks ad) A r) args s 0 0 A) 75 ad (shC ks ad) μ 0 [(0, .ref (ad 63)), (1, va_rf (x1.map ad)), (2, .int x2)] [] := by
  refine g_iconst 1 X dX10_start_0 ic0 rfl ?_
  refine g_istore_n 2 X dX10_start_1 (by decide) rfl ?_
  exact G.sub [1, 2, 3, 0] rfl (b_X10_start_2 X hr  F _ _ _ _ h)
set_option maxRecDepth 100000 in
theorem c_X10_start {l : Launch} {D : va_G} {ks : Nat → ClassId} {A : Nat → Prop} {ad : Nat → Nat} (hD : ∀ μ : Mem, va_D A (wsM 75 ad (shC ks ad) μ)) {F : Nat} {μ : Mem} {x1 : Option Nat} {x2 : Int32} {r : Unit × Mem}  (h : f_X10_start F μ x1 x2 = some r) : Met l yX10_start (Cond.code yX10_start cX10_start 4 none :: wg) rm_X10_start (PC D ks 75 ad (shC ks ad) μ [.ref (ad 63), va_rf (x1.map ad), .int x2]) (QV D 75 ad (shC ks ad) A r) 0 0 A := by
  cases x1 with
  | none =>
    refine met_of (by decide) (Nat.le_of_ble_eq_true rfl) hD ?_
    intro p e s m args below meth c X hr
    exact G.sub [0, 1, 2] rfl (b_X10_start_0 X hr  _ _ _ h)
  | some y =>
    refine met_of (by decide) (Nat.le_of_ble_eq_true rfl) hD ?_
    intro p e s m args below meth c X hr
    exact G.sub [0, 1, 2] rfl (b_X10_start_0 X hr  _ _ _ h)
abbrev rm_X10_sumOf : Room := { frames := 1, cells := 0, slots := 0, locals := 21 }
set_option maxRecDepth 100000 in
set_option maxHeartbeats 4000000 in
theorem b_X10_sumOf_32 {p : Program} {l : Launch} {e : Env} {s : State} {m : MethodId} {args : Array Value} {below : List Frame} {meth : Method} {c : Code} {D : va_G} {ks : Nat → ClassId} {A : Nat → Prop} {ad : Nat → Nat} (X : Cx p s m args meth c cX10_sumOf 4 RX10 D ks A 75 ad (shC ks ad)) (hr : meth.sig.returnType = (some .int)) {F : Nat} {r : Int32 × Mem} {k4 : Mem → Int32 → Int32 → Int32 → Option (Int32 × Mem)} (hk4 : ∀ (μ : Mem) (x1 : Int32) (x2 : Int32) (x3 : Int32), k4 μ x1 x2 x3 = some r → G p l e rm_X10_sumOf s m args below meth c D A 4 (MQ below (QI D 75 ad (shC ks ad) A r) args s 0 0 A) 75 ad (shC ks ad) μ 4 [(0, .ref (ad 63)), (1, .int x1), (2, .int x2), (3, .int x3)] []) (μ : Mem) (x1 : Int32) (x2 : Int32) (x3 : Int32)  (h : f_X10_sumOf_b32 F k4 μ x1 x2 x3 = some r) : G p l e rm_X10_sumOf s m args below meth c D A 4 (MQ below (QI D 75 ad (shC ks ad) A r) args s 0 0 A) 75 ad (shC ks ad) μ 32 [(0, .ref (ad 63)), (1, .int x1), (2, .int x2), (3, .int x3)] [] := by
  refine g_iinc 35 X 3 dX10_sumOf_32 ic1 rfl (by decide) rfl ?_
  refine g_goto 4 X dX10_sumOf_35 (by decide) ?_
  exact G.sub [1, 2, 3, 0] rfl (hk4 _ _ _ _ h)
set_option maxRecDepth 100000 in
set_option maxHeartbeats 4000000 in
theorem b_X10_sumOf_4 {p : Program} {l : Launch} {e : Env} {s : State} {m : MethodId} {args : Array Value} {below : List Frame} {meth : Method} {c : Code} {D : va_G} {ks : Nat → ClassId} {A : Nat → Prop} {ad : Nat → Nat} (X : Cx p s m args meth c cX10_sumOf 4 RX10 D ks A 75 ad (shC ks ad)) (hr : meth.sig.returnType = (some .int)) {F : Nat} {r : Int32 × Mem} : ∀ n : Nat, ∀ (μ : Mem) (x1 : Int32) (x2 : Int32) (x3 : Int32), f_X10_sumOf_b4 F  n μ x1 x2 x3 = some r → G p l e rm_X10_sumOf s m args below meth c D A 4 (MQ below (QI D 75 ad (shC ks ad) A r) args s 0 0 A) 75 ad (shC ks ad) μ 4 [(0, .ref (ad 63)), (1, .int x1), (2, .int x2), (3, .int x3)] [] := by
  intro n
  induction n with
  | zero =>
    intro _ _ _ _ h
    cases h
  | succ n ih =>
    intro μ x1 x2 x3 h
    refine g_iload_n 5 X 3 dX10_sumOf_4 rfl rfl ?_
    refine g_aload_n 6 X 0 dX10_sumOf_5 rfl rfl ?_
    refine g_getr 9 X fl_X10_32_10 (o10 rfl) rfl dX10_sumOf_6 rfl ?_
    refine g_geti 12 X fl_X10_74_6 (o6 rfl) rfl dX10_sumOf_9 h rfl (fun v1 h => ?_)
    refine g_icmp_ge 38 15 X dX10_sumOf_12 (by decide) rfl h (fun h => ?_) (fun h => ?_)
    · refine g_iload_n 39 X 2 dX10_sumOf_38 rfl rfl ?_
      exact g_iret X hr dX10_sumOf_39 h
    · refine g_iload_n 16 X 1 dX10_sumOf_15 rfl rfl ?_
      refine g_iload_n 17 X 3 dX10_sumOf_16 rfl rfl ?_
      refine g_ni 20 h (fun q e => r_SN X cd_X10_56_X11_isIn ⟨rfl, rfl⟩ ⟨Nat.le_of_ble_eq_true rfl, Nat.le_of_ble_eq_true rfl⟩ (c_X11_isIn e) PC_blind (pn_pre X) rfl rfl (Nat.le_of_ble_eq_true rfl) dX10_sumOf_17) rfl (fun v2 h => ?_)
      refine g_if_eq 32 23 X dX10_sumOf_20 (by decide) rfl h (fun h => ?_) (fun h => ?_)
      · exact G.sub [0, 1, 2, 3] rfl (b_X10_sumOf_32 X hr ih _ _ _ _ h)
      · refine g_iload_n 24 X 2 dX10_sumOf_23 rfl rfl ?_
        refine g_aload_n 25 X 0 dX10_sumOf_24 rfl rfl ?_
        refine g_getr 28 X fl_X10_18_10 (o10 rfl) rfl dX10_sumOf_25 rfl ?_
        refine g_iload_n 29 X 3 dX10_sumOf_28 rfl rfl ?_
        refine g_iald 30 X (aiC (n := 30) (by decide) rfl) dX10_sumOf_29 h rfl (fun v3 h => ?_)
        refine g_iadd 31 X dX10_sumOf_30 rfl ?_
        refine g_topi h (fun v4 h => ?_)
        refine g_istore_n 32 X dX10_sumOf_31 (by decide) rfl ?_
        exact G.sub [1, 2, 0, 3] rfl (b_X10_sumOf_32 X hr ih _ _ _ _ h)
set_option maxRecDepth 100000 in
set_option maxHeartbeats 4000000 in
theorem b_X10_sumOf_0 {p : Program} {l : Launch} {e : Env} {s : State} {m : MethodId} {args : Array Value} {below : List Frame} {meth : Method} {c : Code} {D : va_G} {ks : Nat → ClassId} {A : Nat → Prop} {ad : Nat → Nat} (X : Cx p s m args meth c cX10_sumOf 4 RX10 D ks A 75 ad (shC ks ad)) (hr : meth.sig.returnType = (some .int)) {F : Nat} {r : Int32 × Mem} (μ : Mem) (x1 : Int32)  (h : f_X10_sumOf F  μ x1 = some r) : G p l e rm_X10_sumOf s m args below meth c D A 4 (MQ below (QI D 75 ad (shC ks ad) A r) args s 0 0 A) 75 ad (shC ks ad) μ 0 [(0, .ref (ad 63)), (1, .int x1)] [] := by
  refine g_iconst 1 X dX10_sumOf_0 ic0 rfl ?_
  refine g_istore_n 2 X dX10_sumOf_1 (by decide) rfl ?_
  refine g_iconst 3 X dX10_sumOf_2 ic0 rfl ?_
  refine g_istore_n 4 X dX10_sumOf_3 (by decide) rfl ?_
  exact G.sub [2, 3, 1, 0] rfl (b_X10_sumOf_4 X hr  F _ _ _ _ h)
set_option maxRecDepth 100000 in
theorem c_X10_sumOf {l : Launch} {D : va_G} {ks : Nat → ClassId} {A : Nat → Prop} {ad : Nat → Nat} (hD : ∀ μ : Mem, va_D A (wsM 75 ad (shC ks ad) μ)) {F : Nat} {μ : Mem} {x1 : Int32} {r : Int32 × Mem}  (h : f_X10_sumOf F μ x1 = some r) : Met l yX10_sumOf (Cond.code yX10_sumOf cX10_sumOf 4 (some .int) :: wg) rm_X10_sumOf (PC D ks 75 ad (shC ks ad) μ [.ref (ad 63), .int x1]) (QI D 75 ad (shC ks ad) A r) 0 0 A := by
  refine met_of (by decide) (Nat.le_of_ble_eq_true rfl) hD ?_
  intro p e s m args below meth c X hr
  exact G.sub [0, 1] rfl (b_X10_sumOf_0 X hr  _ _ h)
abbrev rm_X10_raiseGreatestRest : Room := { frames := 1, cells := 0, slots := 0, locals := 21 }
set_option maxRecDepth 100000 in
set_option maxHeartbeats 4000000 in
theorem b_X10_raiseGreatestRest_46 {p : Program} {l : Launch} {e : Env} {s : State} {m : MethodId} {args : Array Value} {below : List Frame} {meth : Method} {c : Code} {D : va_G} {ks : Nat → ClassId} {A : Nat → Prop} {ad : Nat → Nat} (X : Cx p s m args meth c cX10_raiseGreatestRest 4 RX10 D ks A 75 ad (shC ks ad)) (hr : meth.sig.returnType = none) {F : Nat} {r : Unit × Mem} {k4 : Mem → Int32 → Int32 → Int32 → Option (Unit × Mem)} (hk4 : ∀ (μ : Mem) (x1 : Int32) (x2 : Int32) (x3 : Int32), k4 μ x1 x2 x3 = some r → G p l e rm_X10_raiseGreatestRest s m args below meth c D A 4 (MQ below (QV D 75 ad (shC ks ad) A r) args s 0 0 A) 75 ad (shC ks ad) μ 4 [(0, .ref (ad 63)), (1, .int x1), (2, .int x2), (3, .int x3)] []) (μ : Mem) (x1 : Int32) (x2 : Int32) (x3 : Int32)  (h : f_X10_raiseGreatestRest_b46 F k4 μ x1 x2 x3 = some r) : G p l e rm_X10_raiseGreatestRest s m args below meth c D A 4 (MQ below (QV D 75 ad (shC ks ad) A r) args s 0 0 A) 75 ad (shC ks ad) μ 46 [(0, .ref (ad 63)), (1, .int x1), (2, .int x2), (3, .int x3)] [] := by
  refine g_iinc 49 X 3 dX10_raiseGreatestRest_46 ic1 rfl (by decide) rfl ?_
  refine g_goto 4 X dX10_raiseGreatestRest_49 (by decide) ?_
  exact G.sub [1, 2, 3, 0] rfl (hk4 _ _ _ _ h)
set_option maxRecDepth 100000 in
set_option maxHeartbeats 4000000 in
theorem b_X10_raiseGreatestRest_44 {p : Program} {l : Launch} {e : Env} {s : State} {m : MethodId} {args : Array Value} {below : List Frame} {meth : Method} {c : Code} {D : va_G} {ks : Nat → ClassId} {A : Nat → Prop} {ad : Nat → Nat} (X : Cx p s m args meth c cX10_raiseGreatestRest 4 RX10 D ks A 75 ad (shC ks ad)) (hr : meth.sig.returnType = none) {F : Nat} {r : Unit × Mem} {k4 : Mem → Int32 → Int32 → Int32 → Option (Unit × Mem)} (hk4 : ∀ (μ : Mem) (x1 : Int32) (x2 : Int32) (x3 : Int32), k4 μ x1 x2 x3 = some r → G p l e rm_X10_raiseGreatestRest s m args below meth c D A 4 (MQ below (QV D 75 ad (shC ks ad) A r) args s 0 0 A) 75 ad (shC ks ad) μ 4 [(0, .ref (ad 63)), (1, .int x1), (2, .int x2), (3, .int x3)] []) (μ : Mem) (x1 : Int32) (x3 : Int32)  (h : f_X10_raiseGreatestRest_b44 F k4 μ x1 x3 = some r) : G p l e rm_X10_raiseGreatestRest s m args below meth c D A 4 (MQ below (QV D 75 ad (shC ks ad) A r) args s 0 0 A) 75 ad (shC ks ad) μ 44 [(0, .ref (ad 63)), (1, .int x1), (3, .int x3)] [] := by
  refine g_iload_n 45 X 2 dX10_raiseGreatestRest_44 rfl rfl ?_
  refine g_istore_n 46 X dX10_raiseGreatestRest_45 (by decide) rfl ?_
  exact G.sub [1, 2, 0, 3] rfl (b_X10_raiseGreatestRest_46 X hr hk4 _ _ _ _ h)
set_option maxRecDepth 100000 in
set_option maxHeartbeats 4000000 in
theorem b_X10_raiseGreatestRest_4 {p : Program} {l : Launch} {e : Env} {s : State} {m : MethodId} {args : Array Value} {below : List Frame} {meth : Method} {c : Code} {D : va_G} {ks : Nat → ClassId} {A : Nat → Prop} {ad : Nat → Nat} (X : Cx p s m args meth c cX10_raiseGreatestRest 4 RX10 D ks A 75 ad (shC ks ad)) (hr : meth.sig.returnType = none) {F : Nat} {r : Unit × Mem} : ∀ n : Nat, ∀ (μ : Mem) (x1 : Int32) (x2 : Int32) (x3 : Int32), f_X10_raiseGreatestRest_b4 F  n μ x1 x2 x3 = some r → G p l e rm_X10_raiseGreatestRest s m args below meth c D A 4 (MQ below (QV D 75 ad (shC ks ad) A r) args s 0 0 A) 75 ad (shC ks ad) μ 4 [(0, .ref (ad 63)), (1, .int x1), (2, .int x2), (3, .int x3)] [] := by
  intro n
  induction n with
  | zero =>
    intro _ _ _ _ h
    cases h
  | succ n ih =>
    intro μ x1 x2 x3 h
    refine g_iload_n 5 X 3 dX10_raiseGreatestRest_4 rfl rfl ?_
    refine g_aload_n 6 X 0 dX10_raiseGreatestRest_5 rfl rfl ?_
    refine g_getr 9 X fl_X10_32_10 (o10 rfl) rfl dX10_raiseGreatestRest_6 rfl ?_
    refine g_geti 12 X fl_X10_74_6 (o6 rfl) rfl dX10_raiseGreatestRest_9 h rfl (fun v1 h => ?_)
    refine g_icmp_ge 52 15 X dX10_raiseGreatestRest_12 (by decide) rfl h (fun h => ?_) (fun h => ?_)
    · refine g_iload_n 53 X 2 dX10_raiseGreatestRest_52 rfl rfl ?_
      refine g_iconst 54 X dX10_raiseGreatestRest_53 icm1 rfl ?_
      refine g_icmp_eq 76 57 X dX10_raiseGreatestRest_54 (by decide) rfl h (fun h => ?_) (fun h => ?_)
      · exact g_vret X hr dX10_raiseGreatestRest_76 h
      · refine g_aload_n 58 X 0 dX10_raiseGreatestRest_57 rfl rfl ?_
        refine g_getr 61 X fl_X10_18_10 (o10 rfl) rfl dX10_raiseGreatestRest_58 rfl ?_
        refine g_iload_n 62 X 2 dX10_raiseGreatestRest_61 rfl rfl ?_
        refine g_dup2 63 X dX10_raiseGreatestRest_62 rfl rfl rfl ?_
        refine g_iald 64 X (aiC (n := 30) (by decide) rfl) dX10_raiseGreatestRest_63 h rfl (fun v2 h => ?_)
        refine g_iconst 65 X dX10_raiseGreatestRest_64 ic1 rfl ?_
        refine g_iadd 66 X dX10_raiseGreatestRest_65 rfl ?_
        refine g_iast 67 X (aiC (n := 30) (by decide) rfl) dX10_raiseGreatestRest_66 h rfl (fun μ3 h => ?_)
        refine g_aload_n 68 X 0 dX10_raiseGreatestRest_67 rfl rfl ?_
        refine g_getr 71 X fl_X10_21_10 (o10 rfl) rfl dX10_raiseGreatestRest_68 rfl ?_
        refine g_iload_n 72 X 2 dX10_raiseGreatestRest_71 rfl rfl ?_
        refine g_ldc2 75 X m913 dX10_raiseGreatestRest_72 rfl ?_
        refine g_last 76 X (ajC (n := 30) (by decide) rfl) dX10_raiseGreatestRest_75 h rfl (fun μ4 h => ?_)
        exact g_vret X hr dX10_raiseGreatestRest_76 h
    · refine g_iload_n 16 X 1 dX10_raiseGreatestRest_15 rfl rfl ?_
      refine g_iload_n 17 X 3 dX10_raiseGreatestRest_16 rfl rfl ?_
      refine g_ni 20 h (fun q e => r_SN X cd_X10_56_X11_isIn ⟨rfl, rfl⟩ ⟨Nat.le_of_ble_eq_true rfl, Nat.le_of_ble_eq_true rfl⟩ (c_X11_isIn e) PC_blind (pn_pre X) rfl rfl (Nat.le_of_ble_eq_true rfl) dX10_raiseGreatestRest_17) rfl (fun v5 h => ?_)
      refine g_if_eq 46 23 X dX10_raiseGreatestRest_20 (by decide) rfl h (fun h => ?_) (fun h => ?_)
      · exact G.sub [0, 1, 2, 3] rfl (b_X10_raiseGreatestRest_46 X hr ih _ _ _ _ h)
      · refine g_iload_n 24 X 2 dX10_raiseGreatestRest_23 rfl rfl ?_
        refine g_iconst 25 X dX10_raiseGreatestRest_24 icm1 rfl ?_
        refine g_icmp_eq 44 28 X dX10_raiseGreatestRest_25 (by decide) rfl h (fun h => ?_) (fun h => ?_)
        · exact G.sub [0, 1, 3] rfl (b_X10_raiseGreatestRest_44 X hr ih _ _ _ h)
        · refine g_aload_n 29 X 0 dX10_raiseGreatestRest_28 rfl rfl ?_
          refine g_getr 32 X fl_X10_21_10 (o10 rfl) rfl dX10_raiseGreatestRest_29 rfl ?_
          refine g_iload_n 33 X 3 dX10_raiseGreatestRest_32 rfl rfl ?_
          refine g_lald 34 X (ajC (n := 30) (by decide) rfl) dX10_raiseGreatestRest_33 h rfl (fun v6 h => ?_)
          refine g_aload_n 35 X 0 dX10_raiseGreatestRest_34 rfl rfl ?_
          refine g_getr 38 X fl_X10_21_10 (o10 rfl) rfl dX10_raiseGreatestRest_35 rfl ?_
          refine g_iload_n 39 X 2 dX10_raiseGreatestRest_38 rfl rfl ?_
          refine g_lald 40 X (ajC (n := 30) (by decide) rfl) dX10_raiseGreatestRest_39 h rfl (fun v7 h => ?_)
          refine g_lcmp 41 X dX10_raiseGreatestRest_40 rfl ?_
          refine g_if_le 46 44 X dX10_raiseGreatestRest_41 (by decide) rfl h (fun h => ?_) (fun h => ?_)
          · exact G.sub [0, 1, 2, 3] rfl (b_X10_raiseGreatestRest_46 X hr ih _ _ _ _ h)
          · exact G.sub [0, 1, 3] rfl (b_X10_raiseGreatestRest_44 X hr ih _ _ _ h)
set_option maxRecDepth 100000 in
set_option maxHeartbeats 4000000 in
theorem b_X10_raiseGreatestRest_0 {p : Program} {l : Launch} {e : Env} {s : State} {m : MethodId} {args : Array Value} {below : List Frame} {meth : Method} {c : Code} {D : va_G} {ks : Nat → ClassId} {A : Nat → Prop} {ad : Nat → Nat} (X : Cx p s m args meth c cX10_raiseGreatestRest 4 RX10 D ks A 75 ad (shC ks ad)) (hr : meth.sig.returnType = none) {F : Nat} {r : Unit × Mem} (μ : Mem) (x1 : Int32)  (h : f_X10_raiseGreatestRest F  μ x1 = some r) : G p l e rm_X10_raiseGreatestRest s m args below meth c D A 4 (MQ below (QV D 75 ad (shC ks ad) A r) args s 0 0 A) 75 ad (shC ks ad) μ 0 [(0, .ref (ad 63)), (1, .int x1)] [] := by
  refine g_iconst 1 X dX10_raiseGreatestRest_0 icm1 rfl ?_
  refine g_istore_n 2 X dX10_raiseGreatestRest_1 (by decide) rfl ?_
  refine g_iconst 3 X dX10_raiseGreatestRest_2 ic0 rfl ?_
  refine g_istore_n 4 X dX10_raiseGreatestRest_3 (by decide) rfl ?_
  exact G.sub [2, 3, 1, 0] rfl (b_X10_raiseGreatestRest_4 X hr  F _ _ _ _ h)
set_option maxRecDepth 100000 in
theorem c_X10_raiseGreatestRest {l : Launch} {D : va_G} {ks : Nat → ClassId} {A : Nat → Prop} {ad : Nat → Nat} (hD : ∀ μ : Mem, va_D A (wsM 75 ad (shC ks ad) μ)) {F : Nat} {μ : Mem} {x1 : Int32} {r : Unit × Mem}  (h : f_X10_raiseGreatestRest F μ x1 = some r) : Met l yX10_raiseGreatestRest (Cond.code yX10_raiseGreatestRest cX10_raiseGreatestRest 4 none :: wg) rm_X10_raiseGreatestRest (PC D ks 75 ad (shC ks ad) μ [.ref (ad 63), .int x1]) (QV D 75 ad (shC ks ad) A r) 0 0 A := by
  refine met_of (by decide) (Nat.le_of_ble_eq_true rfl) hD ?_
  intro p e s m args below meth c X hr
  exact G.sub [0, 1] rfl (b_X10_raiseGreatestRest_0 X hr  _ _ h)
abbrev rm_X10_divide : Room := { frames := 2, cells := 0, slots := 0, locals := 44 }
set_option maxRecDepth 100000 in
set_option maxHeartbeats 4000000 in
theorem b_X10_divide_98 {p : Program} {l : Launch} {e : Env} {s : State} {m : MethodId} {args : Array Value} {below : List Frame} {meth : Method} {c : Code} {D : va_G} {ks : Nat → ClassId} {A : Nat → Prop} {ad : Nat → Nat} (X : Cx p s m args meth c cX10_divide 9 RX10 D ks A 75 ad (shC ks ad)) (hr : meth.sig.returnType = none) {F : Nat} {r : Unit × Mem} : ∀ n : Nat, ∀ (μ : Mem) (x2 : Int32) (x5 : Int32) (x6 : Int32), f_X10_divide_b98 F  n μ x2 x5 x6 = some r → G p l e rm_X10_divide s m args below meth c D A 9 (MQ below (QV D 75 ad (shC ks ad) A r) args s 0 0 A) 75 ad (shC ks ad) μ 98 [(0, .ref (ad 63)), (2, .int x2), (5, .int x5), (6, .int x6)] [] := by
  intro n
  induction n with
  | zero =>
    intro _ _ _ _ h
    cases h
  | succ n ih =>
    intro μ x2 x5 x6 h
    refine g_iload 100 X 3 dX10_divide_98 rfl rfl ?_
    refine g_iload 102 X 2 dX10_divide_100 rfl rfl ?_
    refine g_icmp_ge 123 105 X dX10_divide_102 (by decide) rfl h (fun h => ?_) (fun h => ?_)
    · exact g_vret X hr dX10_divide_123 h
    · refine g_iload 107 X 3 dX10_divide_105 rfl rfl ?_
      refine g_bipush 109 X dX10_divide_107 bp30 rfl ?_
      refine g_icmp_ge 123 112 X dX10_divide_109 (by decide) rfl h (fun h => ?_) (fun h => ?_)
      · exact g_vret X hr dX10_divide_123 h
      · refine g_aload_n 113 X 0 dX10_divide_112 rfl rfl ?_
        refine g_iload_n 114 X 1 dX10_divide_113 rfl rfl ?_
        refine g_cv 117 h (fun q e => r_V X cd_X10_77_X10_raiseGreatestRest_X10 ⟨rfl, rfl⟩ ⟨Nat.le_of_ble_eq_true rfl, Nat.le_of_ble_eq_true rfl⟩ (c_X10_raiseGreatestRest X.2.2.2.2  e) PC_blind (pc_pre X) (g_recv X (o10 rfl) rfl) rfl rfl (Nat.le_of_ble_eq_true rfl) dX10_divide_114) rfl (fun _ μ1 h => ?_)
        refine g_iinc 120 X 3 dX10_divide_117 ic1 rfl (by decide) rfl ?_
        refine g_goto 98 X dX10_divide_120 (by decide) ?_
        exact G.sub [1, 2, 3, 0] rfl (ih _ _ _ _ h)
set_option maxRecDepth 100000 in
set_option maxHeartbeats 4000000 in
theorem b_X10_divide_89 {p : Program} {l : Launch} {e : Env} {s : State} {m : MethodId} {args : Array Value} {below : List Frame} {meth : Method} {c : Code} {D : va_G} {ks : Nat → ClassId} {A : Nat → Prop} {ad : Nat → Nat} (X : Cx p s m args meth c cX10_divide 9 RX10 D ks A 75 ad (shC ks ad)) (hr : meth.sig.returnType = none) {F : Nat} {r : Unit × Mem} {k20 : Mem → Int32 → Int32 → Int64 → Int32 → Int32 → Option (Unit × Mem)} (hk20 : ∀ (μ : Mem) (x1 : Int32) (x2 : Int32) (x3 : Int64) (x5 : Int32) (x6 : Int32), k20 μ x1 x2 x3 x5 x6 = some r → G p l e rm_X10_divide s m args below meth c D A 9 (MQ below (QV D 75 ad (shC ks ad) A r) args s 0 0 A) 75 ad (shC ks ad) μ 20 [(0, .ref (ad 63)), (1, .int x1), (2, .int x2), (3, .long x3), (5, .int x5), (6, .int x6)] []) (μ : Mem) (x1 : Int32) (x2 : Int32) (x3 : Int64) (x5 : Int32) (x6 : Int32)  (h : f_X10_divide_b89 F k20 μ x1 x2 x3 x5 x6 = some r) : G p l e rm_X10_divide s m args below meth c D A 9 (MQ below (QV D 75 ad (shC ks ad) A r) args s 0 0 A) 75 ad (shC ks ad) μ 89 [(0, .ref (ad 63)), (1, .int x1), (2, .int x2), (3, .long x3), (5, .int x5), (6, .int x6)] [] := by
  refine g_iinc 92 X 5 dX10_divide_89 ic1 rfl (by decide) rfl ?_
  refine g_goto 20 X dX10_divide_92 (by decide) ?_
  exact G.sub [1, 2, 3, 4, 5, 0] rfl (hk20 _ _ _ _ _ _ h)
set_option maxRecDepth 100000 in
set_option maxHeartbeats 4000000 in
theorem b_X10_divide_20 {p : Program} {l : Launch} {e : Env} {s : State} {m : MethodId} {args : Array Value} {below : List Frame} {meth : Method} {c : Code} {D : va_G} {ks : Nat → ClassId} {A : Nat → Prop} {ad : Nat → Nat} (X : Cx p s m args meth c cX10_divide 9 RX10 D ks A 75 ad (shC ks ad)) (hr : meth.sig.returnType = none) {F : Nat} {r : Unit × Mem} : ∀ n : Nat, ∀ (μ : Mem) (x1 : Int32) (x2 : Int32) (x3 : Int64) (x5 : Int32) (x6 : Int32), f_X10_divide_b20 F  n μ x1 x2 x3 x5 x6 = some r → G p l e rm_X10_divide s m args below meth c D A 9 (MQ below (QV D 75 ad (shC ks ad) A r) args s 0 0 A) 75 ad (shC ks ad) μ 20 [(0, .ref (ad 63)), (1, .int x1), (2, .int x2), (3, .long x3), (5, .int x5), (6, .int x6)] [] := by
  intro n
  induction n with
  | zero =>
    intro _ _ _ _ _ _ h
    cases h
  | succ n ih =>
    intro μ x1 x2 x3 x5 x6 h
    refine g_iload 22 X 5 dX10_divide_20 rfl rfl ?_
    refine g_aload_n 23 X 0 dX10_divide_22 rfl rfl ?_
    refine g_getr 26 X fl_X10_32_10 (o10 rfl) rfl dX10_divide_23 rfl ?_
    refine g_geti 29 X fl_X10_74_6 (o6 rfl) rfl dX10_divide_26 h rfl (fun v1 h => ?_)
    refine g_icmp_ge 95 32 X dX10_divide_29 (by decide) rfl h (fun h => ?_) (fun h => ?_)
    · refine g_iconst 96 X dX10_divide_95 ic0 rfl ?_
      refine g_istore 98 X dX10_divide_96 (by decide) rfl ?_
      exact G.sub [1, 3, 5, 0] rfl (b_X10_divide_98 X hr  F _ _ _ _ h)
    · refine g_iload_n 33 X 2 dX10_divide_32 rfl rfl ?_
      refine g_iload 35 X 5 dX10_divide_33 rfl rfl ?_
      refine g_ni 38 h (fun q e => r_SN X cd_X10_56_X11_isIn ⟨rfl, rfl⟩ ⟨Nat.le_of_ble_eq_true rfl, Nat.le_of_ble_eq_true rfl⟩ (c_X11_isIn e) PC_blind (pn_pre X) rfl rfl (Nat.le_of_ble_eq_true rfl) dX10_divide_35) rfl (fun v2 h => ?_)
      refine g_if_eq 89 41 X dX10_divide_38 (by decide) rfl h (fun h => ?_) (fun h => ?_)
      · exact G.sub [0, 1, 2, 3, 4, 5] rfl (b_X10_divide_89 X hr ih _ _ _ _ _ _ h)
      · refine g_iload_n 42 X 1 dX10_divide_41 rfl rfl ?_
        refine g_i2l 43 X dX10_divide_42 rfl ?_
        refine g_aload_n 44 X 0 dX10_divide_43 rfl rfl ?_
        refine g_getr 47 X fl_X10_18_10 (o10 rfl) rfl dX10_divide_44 rfl ?_
        refine g_iload 49 X 5 dX10_divide_47 rfl rfl ?_
        refine g_iald 50 X (aiC (n := 30) (by decide) rfl) dX10_divide_49 h rfl (fun v3 h => ?_)
        refine g_i2l 51 X dX10_divide_50 rfl ?_
        refine g_lmul 52 X dX10_divide_51 rfl ?_
        refine g_topl h (fun v4 h => ?_)
        refine g_lstore 54 X dX10_divide_52 (by decide) rfl ?_
        refine g_aload_n 55 X 1 dX10_divide_54 rfl rfl ?_
        refine g_getr 58 X fl_X10_18_10 (o10 rfl) rfl dX10_divide_55 rfl ?_
        refine g_iload 60 X 6 dX10_divide_58 rfl rfl ?_
        refine g_lload 62 X 0 dX10_divide_60 rfl rfl ?_
        refine g_lload_n 63 X 4 dX10_divide_62 rfl rfl ?_
        refine g_ldiv 64 X dX10_divide_63 h rfl (fun h => ?_)
        refine g_topl h (fun v5 h => ?_)
        refine g_l2i 65 X dX10_divide_64 rfl ?_
        refine g_iast 66 X (aiC (n := 30) (by decide) rfl) dX10_divide_65 h rfl (fun μ6 h => ?_)
        refine g_aload_n 67 X 1 dX10_divide_66 rfl rfl ?_
        refine g_getr 70 X fl_X10_21_10 (o10 rfl) rfl dX10_divide_67 rfl ?_
        refine g_iload 72 X 6 dX10_divide_70 rfl rfl ?_
        refine g_lload 74 X 0 dX10_divide_72 rfl rfl ?_
        refine g_lload_n 75 X 4 dX10_divide_74 rfl rfl ?_
        refine g_lrem 76 X dX10_divide_75 h rfl (fun h => ?_)
        refine g_topl h (fun v7 h => ?_)
        refine g_last 77 X (ajC (n := 30) (by decide) rfl) dX10_divide_76 h rfl (fun μ8 h => ?_)
        refine g_iload 79 X 5 dX10_divide_77 rfl rfl ?_
        refine g_aload_n 80 X 1 dX10_divide_79 rfl rfl ?_
        refine g_getr 83 X fl_X10_18_10 (o10 rfl) rfl dX10_divide_80 rfl ?_
        refine g_iload 85 X 6 dX10_divide_83 rfl rfl ?_
        refine g_iald 86 X (aiC (n := 30) (by decide) rfl) dX10_divide_85 h rfl (fun v9 h => ?_)
        refine g_isub 87 X dX10_divide_86 rfl ?_
        refine g_topi h (fun v10 h => ?_)
        refine g_istore 89 X dX10_divide_87 (by decide) rfl ?_
        exact G.sub [2, 3, 4, 5, 0, 6] rfl (b_X10_divide_89 X hr ih _ _ _ _ _ _ h)
set_option maxRecDepth 100000 in
set_option maxHeartbeats 4000000 in
theorem b_X10_divide_0 {p : Program} {l : Launch} {e : Env} {s : State} {m : MethodId} {args : Array Value} {below : List Frame} {meth : Method} {c : Code} {D : va_G} {ks : Nat → ClassId} {A : Nat → Prop} {ad : Nat → Nat} (X : Cx p s m args meth c cX10_divide 9 RX10 D ks A 75 ad (shC ks ad)) (hr : meth.sig.returnType = none) {F : Nat} {r : Unit × Mem} (μ : Mem) (x1 : Int32) (x2 : Int32)  (h : f_X10_divide F  μ x1 x2 = some r) : G p l e rm_X10_divide s m args below meth c D A 9 (MQ below (QV D 75 ad (shC ks ad) A r) args s 0 0 A) 75 ad (shC ks ad) μ 0 [(0, .ref (ad 63)), (1, .int x1), (2, .int x2)] [] := by
  refine g_aload_n 1 X 0 dX10_divide_0 rfl rfl ?_
  refine g_iload_n 2 X 2 dX10_divide_1 rfl rfl ?_
  refine g_ci 5 h (fun q e => r_V X cd_X10_70_X10_sumOf_X10 ⟨rfl, rfl⟩ ⟨Nat.le_of_ble_eq_true rfl, Nat.le_of_ble_eq_true rfl⟩ (c_X10_sumOf X.2.2.2.2  e) PC_blind (pc_pre X) (g_recv X (o10 rfl) rfl) rfl rfl (Nat.le_of_ble_eq_true rfl) dX10_divide_2) rfl (fun v1 μ2 h => ?_)
  refine g_i2l 6 X dX10_divide_5 rfl ?_
  refine g_topl h (fun v3 h => ?_)
  refine g_lstore_n 7 X dX10_divide_6 (by decide) rfl ?_
  refine g_lload_n 8 X 0 dX10_divide_7 rfl rfl ?_
  refine g_lconst 9 X dX10_divide_8 lc0 rfl ?_
  refine g_lcmp 10 X dX10_divide_9 rfl ?_
  refine g_if_gt 14 13 X dX10_divide_10 (by decide) rfl h (fun h => ?_) (fun h => ?_)
  · refine g_iload_n 15 X 2 dX10_divide_14 rfl rfl ?_
    refine g_istore 17 X dX10_divide_15 (by decide) rfl ?_
    refine g_iconst 18 X dX10_divide_17 ic0 rfl ?_
    refine g_istore 20 X dX10_divide_18 (by decide) rfl ?_
    exact G.sub [3, 4, 5, 2, 1, 0] rfl (b_X10_divide_20 X hr  F _ _ _ _ _ _ h)
  · exact g_vret X hr dX10_divide_13 h
set_option maxRecDepth 100000 in
theorem c_X10_divide {l : Launch} {D : va_G} {ks : Nat → ClassId} {A : Nat → Prop} {ad : Nat → Nat} (hD : ∀ μ : Mem, va_D A (wsM 75 ad (shC ks ad) μ)) {F : Nat} {μ : Mem} {x1 : Int32} {x2 : Int32} {r : Unit × Mem}  (h : f_X10_divide F μ x1 x2 = some r) : Met l yX10_divide (Cond.code yX10_divide cX10_divide 9 none :: wg) rm_X10_divide (PC D ks 75 ad (shC ks ad) μ [.ref (ad 63), .int x1, .int x2]) (QV D 75 ad (shC ks ad) A r) 0 0 A := by
  refine met_of (by decide) (Nat.le_of_ble_eq_true rfl) hD ?_
  intro p e s m args below meth c X hr
  exact G.sub [0, 1, 2] rfl (b_X10_divide_0 X hr  _ _ _ h)
abbrev rm_X10_lead : Room := { frames := 5, cells := 0, slots := 0, locals := 108 }
set_option maxRecDepth 100000 in
set_option maxHeartbeats 4000000 in
theorem b_X10_lead_62 {p : Program} {l : Launch} {e : Env} {s : State} {m : MethodId} {args : Array Value} {below : List Frame} {meth : Method} {c : Code} {D : va_G} {ks : Nat → ClassId} {A : Nat → Prop} {ad : Nat → Nat} (X : Cx p s m args meth c cX10_lead 6 RX10 D ks A 75 ad (shC ks ad)) (hr : meth.sig.returnType = none) {F : Nat} {r : Unit × Mem} {k17 : Mem → Int32 → Int32 → Option (Unit × Mem)} (hk17 : ∀ (μ : Mem) (x3 : Int32) (x4 : Int32), k17 μ x3 x4 = some r → G p l e rm_X10_lead s m args below meth c D A 6 (MQ below (QV D 75 ad (shC ks ad) A r) args s 0 0 A) 75 ad (shC ks ad) μ 17 [(0, .ref (ad 63)), (3, .int x3), (4, .int x4)] []) : ∀ n : Nat, ∀ (μ : Mem) (x3 : Int32) (x4 : Int32) (x5 : Int32), f_X10_lead_b62 F k17 n μ x3 x4 x5 = some r → G p l e rm_X10_lead s m args below meth c D A 6 (MQ below (QV D 75 ad (shC ks ad) A r) args s 0 0 A) 75 ad (shC ks ad) μ 62 [(0, .ref (ad 63)), (3, .int x3), (4, .int x4), (5, .int x5)] [] := by
  intro n
  induction n with
  | zero =>
    intro _ _ _ _ h
    cases h
  | succ n ih =>
    intro μ x3 x4 x5 h
    refine g_iload 64 X 3 dX10_lead_62 rfl rfl ?_
    refine g_iconst 65 X dX10_lead_64 ic3 rfl ?_
    refine g_icmp_ge 95 68 X dX10_lead_65 (by decide) rfl h (fun h => ?_) (fun h => ?_)
    · refine g_iinc 98 X 2 dX10_lead_95 ic1 rfl (by decide) rfl ?_
      refine g_goto 17 X dX10_lead_98 (by decide) ?_
      exact G.sub [1, 2, 0] rfl (hk17 _ _ _ h)
    · refine g_aload_n 69 X 0 dX10_lead_68 rfl rfl ?_
      refine g_aload_n 70 X 0 dX10_lead_69 rfl rfl ?_
      refine g_getr 73 X fl_X10_15_10 (o10 rfl) rfl dX10_lead_70 rfl ?_
      refine g_iload 75 X 3 dX10_lead_73 rfl rfl ?_
      refine g_iald 76 X (aiC (n := 3) (by decide) rfl) dX10_lead_75 h rfl (fun v1 h => ?_)
      refine g_aload_n 77 X 0 dX10_lead_76 rfl rfl ?_
      refine g_getr 80 X fl_X10_32_10 (o10 rfl) rfl dX10_lead_77 rfl ?_
      refine g_getr 83 X fl_X10_53_6 (o6 rfl) rfl dX10_lead_80 rfl ?_
      refine g_iload 85 X 3 dX10_lead_83 rfl rfl ?_
      refine g_iald 86 X (aiC (n := 3) (by decide) rfl) dX10_lead_85 h rfl (fun v2 h => ?_)
      refine g_cv 89 h (fun q e => r_V X cd_X10_49_X10_divide_X10 ⟨rfl, rfl⟩ ⟨Nat.le_of_ble_eq_true rfl, Nat.le_of_ble_eq_true rfl⟩ (c_X10_divide X.2.2.2.2  e) PC_blind (pc_pre X) (g_recv X (o10 rfl) rfl) rfl rfl (Nat.le_of_ble_eq_true rfl) dX10_lead_86) rfl (fun _ μ3 h => ?_)
      refine g_iinc 92 X 3 dX10_lead_89 ic1 rfl (by decide) rfl ?_
      refine g_goto 62 X dX10_lead_92 (by decide) ?_
      exact G.sub [1, 2, 3, 0] rfl (ih _ _ _ _ h)
set_option maxRecDepth 100000 in
set_option maxHeartbeats 4000000 in
theorem b_X10_lead_26 {p : Program} {l : Launch} {e : Env} {s : State} {m : MethodId} {args : Array Value} {below : List Frame} {meth : Method} {c : Code} {D : va_G} {ks : Nat → ClassId} {A : Nat → Prop} {ad : Nat → Nat} (X : Cx p s m args meth c cX10_lead 6 RX10 D ks A 75 ad (shC ks ad)) (hr : meth.sig.returnType = none) {F : Nat} {r : Unit × Mem} {k17 : Mem → Int32 → Int32 → Option (Unit × Mem)} (hk17 : ∀ (μ : Mem) (x3 : Int32) (x4 : Int32), k17 μ x3 x4 = some r → G p l e rm_X10_lead s m args below meth c D A 6 (MQ below (QV D 75 ad (shC ks ad) A r) args s 0 0 A) 75 ad (shC ks ad) μ 17 [(0, .ref (ad 63)), (3, .int x3), (4, .int x4)] []) : ∀ n : Nat, ∀ (μ : Mem) (x3 : Int32) (x4 : Int32) (x5 : Int32), f_X10_lead_b26 F k17 n μ x3 x4 x5 = some r → G p l e rm_X10_lead s m args below meth c D A 6 (MQ below (QV D 75 ad (shC ks ad) A r) args s 0 0 A) 75 ad (shC ks ad) μ 26 [(0, .ref (ad 63)), (3, .int x3), (4, .int x4), (5, .int x5)] [] := by
  intro n
  induction n with
  | zero =>
    intro _ _ _ _ h
    cases h
  | succ n ih =>
    intro μ x3 x4 x5 h
    refine g_iload 28 X 3 dX10_lead_26 rfl rfl ?_
    refine g_iconst 29 X dX10_lead_28 ic4 rfl ?_
    refine g_icmp_ge 59 32 X dX10_lead_29 (by decide) rfl h (fun h => ?_) (fun h => ?_)
    · refine g_iconst 60 X dX10_lead_59 ic0 rfl ?_
      refine g_istore 62 X dX10_lead_60 (by decide) rfl ?_
      exact G.sub [1, 2, 3, 0] rfl (b_X10_lead_62 X hr hk17 F _ _ _ _ h)
    · refine g_aload_n 33 X 0 dX10_lead_32 rfl rfl ?_
      refine g_aload_n 34 X 0 dX10_lead_33 rfl rfl ?_
      refine g_getr 37 X fl_X10_9_10 (o10 rfl) rfl dX10_lead_34 rfl ?_
      refine g_iload 39 X 3 dX10_lead_37 rfl rfl ?_
      refine g_iald 40 X (aiC (n := 4) (by decide) rfl) dX10_lead_39 h rfl (fun v1 h => ?_)
      refine g_aload_n 41 X 0 dX10_lead_40 rfl rfl ?_
      refine g_getr 44 X fl_X10_32_10 (o10 rfl) rfl dX10_lead_41 rfl ?_
      refine g_getr 47 X fl_X10_46_6 (o6 rfl) rfl dX10_lead_44 rfl ?_
      refine g_iload 49 X 3 dX10_lead_47 rfl rfl ?_
      refine g_iald 50 X (aiC (n := 4) (by decide) rfl) dX10_lead_49 h rfl (fun v2 h => ?_)
      refine g_cv 53 h (fun q e => r_V X cd_X10_49_X10_divide_X10 ⟨rfl, rfl⟩ ⟨Nat.le_of_ble_eq_true rfl, Nat.le_of_ble_eq_true rfl⟩ (c_X10_divide X.2.2.2.2  e) PC_blind (pc_pre X) (g_recv X (o10 rfl) rfl) rfl rfl (Nat.le_of_ble_eq_true rfl) dX10_lead_50) rfl (fun _ μ3 h => ?_)
      refine g_iinc 56 X 3 dX10_lead_53 ic1 rfl (by decide) rfl ?_
      refine g_goto 26 X dX10_lead_56 (by decide) ?_
      exact G.sub [1, 2, 3, 0] rfl (ih _ _ _ _ h)
set_option maxRecDepth 100000 in
set_option maxHeartbeats 4000000 in
theorem b_X10_lead_17 {p : Program} {l : Launch} {e : Env} {s : State} {m : MethodId} {args : Array Value} {below : List Frame} {meth : Method} {c : Code} {D : va_G} {ks : Nat → ClassId} {A : Nat → Prop} {ad : Nat → Nat} (X : Cx p s m args meth c cX10_lead 6 RX10 D ks A 75 ad (shC ks ad)) (hr : meth.sig.returnType = none) {F : Nat} {r : Unit × Mem} : ∀ n : Nat, ∀ (μ : Mem) (x3 : Int32) (x4 : Int32), f_X10_lead_b17 F  n μ x3 x4 = some r → G p l e rm_X10_lead s m args below meth c D A 6 (MQ below (QV D 75 ad (shC ks ad) A r) args s 0 0 A) 75 ad (shC ks ad) μ 17 [(0, .ref (ad 63)), (3, .int x3), (4, .int x4)] [] := by
  intro n
  induction n with
  | zero =>
    intro _ _ _ h
    cases h
  | succ n ih =>
    intro μ x3 x4 h
    refine g_iload 19 X 2 dX10_lead_17 rfl rfl ?_
    refine g_iload_n 20 X 1 dX10_lead_19 rfl rfl ?_
    refine g_icmp_ge 101 23 X dX10_lead_20 (by decide) rfl h (fun h => ?_) (fun h => ?_)
    · exact g_vret X hr dX10_lead_101 h
    · refine g_iconst 24 X dX10_lead_23 ic0 rfl ?_
      refine g_istore 26 X dX10_lead_24 (by decide) rfl ?_
      exact G.sub [1, 2, 3, 0] rfl (b_X10_lead_26 X hr ih F _ _ _ _ h)
set_option maxRecDepth 100000 in
set_option maxHeartbeats 4000000 in
theorem b_X10_lead_0 {p : Program} {l : Launch} {e : Env} {s : State} {m : MethodId} {args : Array Value} {below : List Frame} {meth : Method} {c : Code} {D : va_G} {ks : Nat → ClassId} {A : Nat → Prop} {ad : Nat → Nat} (X : Cx p s m args meth c cX10_lead 6 RX10 D ks A 75 ad (shC ks ad)) (hr : meth.sig.returnType = none) {F : Nat} {r : Unit × Mem} (μ : Mem) (x1 : Option Nat) (x2 : Int32) (x3 : Int32)  (h : f_X10_lead F  μ x1 x2 x3 = some r) : G p l e rm_X10_lead s m args below meth c D A 6 (MQ below (QV D 75 ad (shC ks ad) A r) args s 0 0 A) 75 ad (shC ks ad) μ 0 [(0, .ref (ad 63)), (1, va_rf (x1.map ad)), (2, .int x2), (3, .int x3)] [] := by
  refine g_aload_n 1 X 0 dX10_lead_0 rfl rfl ?_
  refine g_aloadq_n 2 X 1 dX10_lead_1 rfl rfl ?_
  refine g_iload_n 3 X 2 dX10_lead_2 rfl rfl ?_
  refine g_aload_n 4 X 0 dX10_lead_3 rfl rfl ?_
  refine g_getr 7 X fl_X10_32_10 (o10 rfl) rfl dX10_lead_4 rfl ?_
  refine g_geti 10 X fl_X10_36_6 (o6 rfl) rfl dX10_lead_7 h rfl (fun v1 h => ?_)
  refine g_iand 11 X dX10_lead_10 rfl ?_
  refine g_cv 14 h (fun q e => r_V X cd_X10_42_X10_start_X10 ⟨rfl, rfl⟩ ⟨Nat.le_of_ble_eq_true rfl, Nat.le_of_ble_eq_true rfl⟩ (c_X10_start X.2.2.2.2  e) PC_blind (pc_pre X) (g_recv X (o10 rfl) rfl) rfl rfl (Nat.le_of_ble_eq_true rfl) dX10_lead_11) rfl (fun _ μ2 h => ?_)
  refine g_iconst 15 X dX10_lead_14 ic0 rfl ?_
  refine g_istore 17 X dX10_lead_15 (by decide) rfl ?_
  exact G.sub [1, 4, 0] rfl (b_X10_lead_17 X hr  F _ _ _ h)
set_option maxRecDepth 100000 in
theorem c_X10_lead {l : Launch} {D : va_G} {ks : Nat → ClassId} {A : Nat → Prop} {ad : Nat → Nat} (hD : ∀ μ : Mem, va_D A (wsM 75 ad (shC ks ad) μ)) {F : Nat} {μ : Mem} {x1 : Option Nat} {x2 : Int32} {x3 : Int32} {r : Unit × Mem}  (h : f_X10_lead F μ x1 x2 x3 = some r) : Met l yX10_lead (Cond.code yX10_lead cX10_lead 6 none :: wg) rm_X10_lead (PC D ks 75 ad (shC ks ad) μ [.ref (ad 63), va_rf (x1.map ad), .int x2, .int x3]) (QV D 75 ad (shC ks ad) A r) 0 0 A := by
  cases x1 with
  | none =>
    refine met_of (by decide) (Nat.le_of_ble_eq_true rfl) hD ?_
    intro p e s m args below meth c X hr
    exact G.sub [0, 1, 2, 3] rfl (b_X10_lead_0 X hr  _ _ _ _ h)
  | some y =>
    refine met_of (by decide) (Nat.le_of_ble_eq_true rfl) hD ?_
    intro p e s m args below meth c X hr
    exact G.sub [0, 1, 2, 3] rfl (b_X10_lead_0 X hr  _ _ _ _ h)
abbrev rm_X11_weight : Room := { frames := 6, cells := 0, slots := 0, locals := 133 }
set_option maxRecDepth 100000 in
set_option maxHeartbeats 4000000 in
theorem b_X11_weight_0 {p : Program} {l : Launch} {e : Env} {s : State} {m : MethodId} {args : Array Value} {below : List Frame} {meth : Method} {c : Code} {D : va_G} {ks : Nat → ClassId} {A : Nat → Prop} {ad : Nat → Nat} (X : Cx p s m args meth c cX11_weight 6 RX11 D ks A 75 ad (shC ks ad)) (hr : meth.sig.returnType = (some .int)) {F : Nat} {r : Int32 × Mem} (μ : Mem) (x1 : Int32) (x2 : Int32) (x3 : Int32) (x4 : Int32)  (h : f_X11_weight F  μ x1 x2 x3 x4 = some r) : G p l e rm_X11_weight s m args below meth c D A 6 (MQ below (QI D 75 ad (shC ks ad) A r) args s 0 0 A) 75 ad (shC ks ad) μ 0 [(0, .ref (ad 0)), (1, .int x1), (2, .int x2), (3, .int x3), (4, .int x4)] [] := by
  refine g_iload_n 1 X 3 dX11_weight_0 rfl rfl ?_
  refine g_iconst 2 X dX11_weight_1 ic0 rfl ?_
  refine g_bipush 4 X dX11_weight_2 bp30 rfl ?_
  refine g_ni 7 h (fun q e => r_S X cd_X11_105_X11_within ⟨rfl, rfl⟩ ⟨Nat.le_of_ble_eq_true rfl, Nat.le_of_ble_eq_true rfl⟩ (c_X11_within e) PC_blind (pn_pre X) rfl rfl (Nat.le_of_ble_eq_true rfl) dX11_weight_4) rfl (fun v1 h => ?_)
  refine g_if_eq 22 10 X dX11_weight_7 (by decide) rfl h (fun h => ?_) (fun h => ?_)
  · refine g_bipush 24 X dX11_weight_22 bpm2 rfl ?_
    exact g_iret X hr dX11_weight_24 h
  · refine g_aload_n 11 X 0 dX11_weight_10 rfl rfl ?_
    refine g_getr 14 X fl_X11_10_11 (o11 rfl) rfl dX11_weight_11 rfl ?_
    refine g_iload 16 X 4 dX11_weight_14 rfl rfl ?_
    refine g_ci 19 h (fun q e => r_V X cd_X11_87_X6_has_X6 ⟨rfl, rfl⟩ ⟨Nat.le_of_ble_eq_true rfl, Nat.le_of_ble_eq_true rfl⟩ (c_X6_has X.2.2.2.2  e) PC_blind (pc_pre X) (g_recv X (o6 rfl) rfl) rfl rfl (Nat.le_of_ble_eq_true rfl) dX11_weight_16) rfl (fun v2 μ3 h => ?_)
    refine g_if_ne 25 22 X dX11_weight_19 (by decide) rfl h (fun h => ?_) (fun h => ?_)
    · refine g_aload_n 26 X 0 dX11_weight_25 rfl rfl ?_
      refine g_iload_n 27 X 1 dX11_weight_26 rfl rfl ?_
      refine g_iload_n 28 X 2 dX11_weight_27 rfl rfl ?_
      refine g_ci 31 h (fun q e => r_V X cd_X11_192_X11_refusalOfDraw_X11 ⟨rfl, rfl⟩ ⟨Nat.le_of_ble_eq_true rfl, Nat.le_of_ble_eq_true rfl⟩ (c_X11_refusalOfDraw X.2.2.2.2  e) PC_blind (pc_pre X) (g_recv X (o11 rfl) rfl) rfl rfl (Nat.le_of_ble_eq_true rfl) dX11_weight_28) rfl (fun v4 μ5 h => ?_)
      refine g_istore 33 X dX11_weight_31 (by decide) rfl ?_
      refine g_iload 35 X 0 dX11_weight_33 rfl rfl ?_
      refine g_if_ge 41 38 X dX11_weight_35 (by decide) rfl h (fun h => ?_) (fun h => ?_)
      · refine g_aload_n 42 X 1 dX11_weight_41 rfl rfl ?_
        refine g_getr 45 X fl_X11_40_11 (o11 rfl) rfl dX11_weight_42 rfl ?_
        refine g_aload_n 46 X 1 dX11_weight_45 rfl rfl ?_
        refine g_getr 49 X fl_X11_27_11 (o11 rfl) rfl dX11_weight_46 rfl ?_
        refine g_iload_n 50 X 2 dX11_weight_49 rfl rfl ?_
        refine g_aald (fn := fun p => 18 + 9 * p) 51 X arP rfl dX11_weight_50 h rfl (fun hv6 h => ?_)
        refine g_cr 54 h (fun q e => r_V X cd_X11_146_X5_possibleWay_X5 ⟨rfl, rfl⟩ ⟨Nat.le_of_ble_eq_true rfl, Nat.le_of_ble_eq_true rfl⟩ (c_X5_possibleWay X.2.2.2.2 (kPl hv6) e) PC_blind (pc_pre X) (g_recv X (o5 (kPl hv6)) rfl) rfl rfl (Nat.le_of_ble_eq_true rfl) dX11_weight_51) rfl (fun v7 μ8 h => ?_)
        refine g_iload_n 55 X 3 dX11_weight_54 rfl rfl ?_
        refine g_iload_n 56 X 4 dX11_weight_55 rfl rfl ?_
        refine g_cv 59 h (fun q e => r_V X cd_X11_227_X10_lead_X10 ⟨rfl, rfl⟩ ⟨Nat.le_of_ble_eq_true rfl, Nat.le_of_ble_eq_true rfl⟩ (c_X10_lead X.2.2.2.2  e) PC_blind (pc_pre X) (g_recv X (o10 rfl) rfl) rfl rfl (Nat.le_of_ble_eq_true rfl) dX11_weight_56) rfl (fun _ μ9 h => ?_)
        refine g_aload_n 60 X 1 dX11_weight_59 rfl rfl ?_
        refine g_getr 63 X fl_X11_40_11 (o11 rfl) rfl dX11_weight_60 rfl ?_
        refine g_getr 66 X fl_X11_231_10 (o10 rfl) rfl dX11_weight_63 rfl ?_
        refine g_iload 68 X 5 dX11_weight_66 rfl rfl ?_
        refine g_iald 69 X (aiC (n := 30) (by decide) rfl) dX11_weight_68 h rfl (fun v10 h => ?_)
        exact g_iret X hr dX11_weight_69 h
      · refine g_iload 40 X 0 dX11_weight_38 rfl rfl ?_
        exact g_iret X hr dX11_weight_40 h
    · refine g_bipush 24 X dX11_weight_22 bpm2 rfl ?_
      exact g_iret X hr dX11_weight_24 h
set_option maxRecDepth 100000 in
theorem c_X11_weight {l : Launch} {D : va_G} {ks : Nat → ClassId} {A : Nat → Prop} {ad : Nat → Nat} (hD : ∀ μ : Mem, va_D A (wsM 75 ad (shC ks ad) μ)) {F : Nat} {μ : Mem} {x1 : Int32} {x2 : Int32} {x3 : Int32} {x4 : Int32} {r : Int32 × Mem}  (h : f_X11_weight F μ x1 x2 x3 x4 = some r) : Met l yX11_weight (Cond.code yX11_weight cX11_weight 6 (some .int) :: wg) rm_X11_weight (PC D ks 75 ad (shC ks ad) μ [.ref (ad 0), .int x1, .int x2, .int x3, .int x4]) (QI D 75 ad (shC ks ad) A r) 0 0 A := by
  refine met_of (by decide) (Nat.le_of_ble_eq_true rfl) hD ?_
  intro p e s m args below meth c X hr
  exact G.sub [0, 1, 2, 3, 4] rfl (b_X11_weight_0 X hr  _ _ _ _ _ h)
abbrev rm_X10_miss : Room := { frames := 2, cells := 0, slots := 0, locals := 44 }
set_option maxRecDepth 100000 in
set_option maxHeartbeats 4000000 in
theorem b_X10_miss_43 {p : Program} {l : Launch} {e : Env} {s : State} {m : MethodId} {args : Array Value} {below : List Frame} {meth : Method} {c : Code} {D : va_G} {ks : Nat → ClassId} {A : Nat → Prop} {ad : Nat → Nat} (X : Cx p s m args meth c cX10_miss 3 RX10 D ks A 75 ad (shC ks ad)) (hr : meth.sig.returnType = (some .int)) {F : Nat} {r : Int32 × Mem} : ∀ n : Nat, ∀ (μ : Mem) (x1 : Int32) (x2 : Int32), f_X10_miss_b43 F  n μ x1 x2 = some r → G p l e rm_X10_miss s m args below meth c D A 3 (MQ below (QI D 75 ad (shC ks ad) A r) args s 0 0 A) 75 ad (shC ks ad) μ 43 [(0, .ref (ad 63)), (1, .int x1), (2, .int x2)] [] := by
  intro n
  induction n with
  | zero =>
    intro _ _ _ h
    cases h
  | succ n ih =>
    intro μ x1 x2 h
    refine g_iload_n 44 X 2 dX10_miss_43 rfl rfl ?_
    refine g_iconst 45 X dX10_miss_44 ic3 rfl ?_
    refine g_icmp_ge 80 48 X dX10_miss_45 (by decide) rfl h (fun h => ?_) (fun h => ?_)
    · refine g_iload_n 81 X 1 dX10_miss_80 rfl rfl ?_
      exact g_iret X hr dX10_miss_81 h
    · refine g_iload_n 49 X 1 dX10_miss_48 rfl rfl ?_
      refine g_aload_n 50 X 0 dX10_miss_49 rfl rfl ?_
      refine g_aload_n 51 X 0 dX10_miss_50 rfl rfl ?_
      refine g_getr 54 X fl_X10_32_10 (o10 rfl) rfl dX10_miss_51 rfl ?_
      refine g_getr 57 X fl_X10_53_6 (o6 rfl) rfl dX10_miss_54 rfl ?_
      refine g_iload_n 58 X 2 dX10_miss_57 rfl rfl ?_
      refine g_iald 59 X (aiC (n := 3) (by decide) rfl) dX10_miss_58 h rfl (fun v1 h => ?_)
      refine g_ci 62 h (fun q e => r_V X cd_X10_70_X10_sumOf_X10 ⟨rfl, rfl⟩ ⟨Nat.le_of_ble_eq_true rfl, Nat.le_of_ble_eq_true rfl⟩ (c_X10_sumOf X.2.2.2.2  e) PC_blind (pc_pre X) (g_recv X (o10 rfl) rfl) rfl rfl (Nat.le_of_ble_eq_true rfl) dX10_miss_59) rfl (fun v2 μ3 h => ?_)
      refine g_aload_n 63 X 0 dX10_miss_62 rfl rfl ?_
      refine g_getr 66 X fl_X10_15_10 (o10 rfl) rfl dX10_miss_63 rfl ?_
      refine g_iload_n 67 X 2 dX10_miss_66 rfl rfl ?_
      refine g_iald 68 X (aiC (n := 3) (by decide) rfl) dX10_miss_67 h rfl (fun v4 h => ?_)
      refine g_isub 69 X dX10_miss_68 rfl ?_
      refine g_mabs 72 X m922 ⟨Nat.le_of_ble_eq_true rfl, Nat.le_of_ble_eq_true rfl⟩ dX10_miss_69 h rfl (fun v5 h => ?_)
      refine g_iadd 73 X dX10_miss_72 rfl ?_
      refine g_topi h (fun v6 h => ?_)
      refine g_istore_n 74 X dX10_miss_73 (by decide) rfl ?_
      refine g_iinc 77 X 2 dX10_miss_74 ic1 rfl (by decide) rfl ?_
      refine g_goto 43 X dX10_miss_77 (by decide) ?_
      exact G.sub [2, 1, 0] rfl (ih _ _ _ h)
set_option maxRecDepth 100000 in
set_option maxHeartbeats 4000000 in
theorem b_X10_miss_4 {p : Program} {l : Launch} {e : Env} {s : State} {m : MethodId} {args : Array Value} {below : List Frame} {meth : Method} {c : Code} {D : va_G} {ks : Nat → ClassId} {A : Nat → Prop} {ad : Nat → Nat} (X : Cx p s m args meth c cX10_miss 3 RX10 D ks A 75 ad (shC ks ad)) (hr : meth.sig.returnType = (some .int)) {F : Nat} {r : Int32 × Mem} : ∀ n : Nat, ∀ (μ : Mem) (x1 : Int32) (x2 : Int32), f_X10_miss_b4 F  n μ x1 x2 = some r → G p l e rm_X10_miss s m args below meth c D A 3 (MQ below (QI D 75 ad (shC ks ad) A r) args s 0 0 A) 75 ad (shC ks ad) μ 4 [(0, .ref (ad 63)), (1, .int x1), (2, .int x2)] [] := by
  intro n
  induction n with
  | zero =>
    intro _ _ _ h
    cases h
  | succ n ih =>
    intro μ x1 x2 h
    refine g_iload_n 5 X 2 dX10_miss_4 rfl rfl ?_
    refine g_iconst 6 X dX10_miss_5 ic4 rfl ?_
    refine g_icmp_ge 41 9 X dX10_miss_6 (by decide) rfl h (fun h => ?_) (fun h => ?_)
    · refine g_iconst 42 X dX10_miss_41 ic0 rfl ?_
      refine g_istore_n 43 X dX10_miss_42 (by decide) rfl ?_
      exact G.sub [1, 2, 0] rfl (b_X10_miss_43 X hr  F _ _ _ h)
    · refine g_iload_n 10 X 1 dX10_miss_9 rfl rfl ?_
      refine g_aload_n 11 X 0 dX10_miss_10 rfl rfl ?_
      refine g_aload_n 12 X 0 dX10_miss_11 rfl rfl ?_
      refine g_getr 15 X fl_X10_32_10 (o10 rfl) rfl dX10_miss_12 rfl ?_
      refine g_getr 18 X fl_X10_46_6 (o6 rfl) rfl dX10_miss_15 rfl ?_
      refine g_iload_n 19 X 2 dX10_miss_18 rfl rfl ?_
      refine g_iald 20 X (aiC (n := 4) (by decide) rfl) dX10_miss_19 h rfl (fun v1 h => ?_)
      refine g_ci 23 h (fun q e => r_V X cd_X10_70_X10_sumOf_X10 ⟨rfl, rfl⟩ ⟨Nat.le_of_ble_eq_true rfl, Nat.le_of_ble_eq_true rfl⟩ (c_X10_sumOf X.2.2.2.2  e) PC_blind (pc_pre X) (g_recv X (o10 rfl) rfl) rfl rfl (Nat.le_of_ble_eq_true rfl) dX10_miss_20) rfl (fun v2 μ3 h => ?_)
      refine g_aload_n 24 X 0 dX10_miss_23 rfl rfl ?_
      refine g_getr 27 X fl_X10_9_10 (o10 rfl) rfl dX10_miss_24 rfl ?_
      refine g_iload_n 28 X 2 dX10_miss_27 rfl rfl ?_
      refine g_iald 29 X (aiC (n := 4) (by decide) rfl) dX10_miss_28 h rfl (fun v4 h => ?_)
      refine g_isub 30 X dX10_miss_29 rfl ?_
      refine g_mabs 33 X m922 ⟨Nat.le_of_ble_eq_true rfl, Nat.le_of_ble_eq_true rfl⟩ dX10_miss_30 h rfl (fun v5 h => ?_)
      refine g_iadd 34 X dX10_miss_33 rfl ?_
      refine g_topi h (fun v6 h => ?_)
      refine g_istore_n 35 X dX10_miss_34 (by decide) rfl ?_
      refine g_iinc 38 X 2 dX10_miss_35 ic1 rfl (by decide) rfl ?_
      refine g_goto 4 X dX10_miss_38 (by decide) ?_
      exact G.sub [2, 1, 0] rfl (ih _ _ _ h)
set_option maxRecDepth 100000 in
set_option maxHeartbeats 4000000 in
theorem b_X10_miss_0 {p : Program} {l : Launch} {e : Env} {s : State} {m : MethodId} {args : Array Value} {below : List Frame} {meth : Method} {c : Code} {D : va_G} {ks : Nat → ClassId} {A : Nat → Prop} {ad : Nat → Nat} (X : Cx p s m args meth c cX10_miss 3 RX10 D ks A 75 ad (shC ks ad)) (hr : meth.sig.returnType = (some .int)) {F : Nat} {r : Int32 × Mem} (μ : Mem)  (h : f_X10_miss F  μ = some r) : G p l e rm_X10_miss s m args below meth c D A 3 (MQ below (QI D 75 ad (shC ks ad) A r) args s 0 0 A) 75 ad (shC ks ad) μ 0 [(0, .ref (ad 63))] [] := by
  refine g_iconst 1 X dX10_miss_0 ic0 rfl ?_
  refine g_istore_n 2 X dX10_miss_1 (by decide) rfl ?_
  refine g_iconst 3 X dX10_miss_2 ic0 rfl ?_
  refine g_istore_n 4 X dX10_miss_3 (by decide) rfl ?_
  exact G.sub [2, 1, 0] rfl (b_X10_miss_4 X hr  F _ _ _ h)
set_option maxRecDepth 100000 in
theorem c_X10_miss {l : Launch} {D : va_G} {ks : Nat → ClassId} {A : Nat → Prop} {ad : Nat → Nat} (hD : ∀ μ : Mem, va_D A (wsM 75 ad (shC ks ad) μ)) {F : Nat} {μ : Mem} {r : Int32 × Mem}  (h : f_X10_miss F μ = some r) : Met l yX10_miss (Cond.code yX10_miss cX10_miss 3 (some .int) :: wg) rm_X10_miss (PC D ks 75 ad (shC ks ad) μ [.ref (ad 63)]) (QI D 75 ad (shC ks ad) A r) 0 0 A := by
  refine met_of (by decide) (Nat.le_of_ble_eq_true rfl) hD ?_
  intro p e s m args below meth c X hr
  exact G.sub [0] rfl (b_X10_miss_0 X hr  _ h)
abbrev rm_X10_ledSum : Room := { frames := 0, cells := 0, slots := 0, locals := 0 }
set_option maxRecDepth 100000 in
set_option maxHeartbeats 4000000 in
theorem b_X10_ledSum_45 {p : Program} {l : Launch} {e : Env} {s : State} {m : MethodId} {args : Array Value} {below : List Frame} {meth : Method} {c : Code} {D : va_G} {ks : Nat → ClassId} {A : Nat → Prop} {ad : Nat → Nat} (X : Cx p s m args meth c cX10_ledSum 4 RX10 D ks A 75 ad (shC ks ad)) (hr : meth.sig.returnType = (some .int)) {F : Nat} {r : Int32 × Mem} {k4 : Mem → Int64 → Int32 → Option (Int32 × Mem)} (hk4 : ∀ (μ : Mem) (x1 : Int64) (x3 : Int32), k4 μ x1 x3 = some r → G p l e rm_X10_ledSum s m args below meth c D A 4 (MQ below (QI D 75 ad (shC ks ad) A r) args s 0 0 A) 75 ad (shC ks ad) μ 4 [(0, .ref (ad 63)), (1, .long x1), (3, .int x3)] []) (μ : Mem) (x1 : Int64) (x3 : Int32)  (h : f_X10_ledSum_b45 F k4 μ x1 x3 = some r) : G p l e rm_X10_ledSum s m args below meth c D A 4 (MQ below (QI D 75 ad (shC ks ad) A r) args s 0 0 A) 75 ad (shC ks ad) μ 45 [(0, .ref (ad 63)), (1, .long x1), (3, .int x3)] [] := by
  refine g_iinc 48 X 2 dX10_ledSum_45 ic1 rfl (by decide) rfl ?_
  refine g_goto 4 X dX10_ledSum_48 (by decide) ?_
  exact G.sub [1, 2, 0] rfl (hk4 _ _ _ h)
set_option maxRecDepth 100000 in
set_option maxHeartbeats 4000000 in
theorem b_X10_ledSum_4 {p : Program} {l : Launch} {e : Env} {s : State} {m : MethodId} {args : Array Value} {below : List Frame} {meth : Method} {c : Code} {D : va_G} {ks : Nat → ClassId} {A : Nat → Prop} {ad : Nat → Nat} (X : Cx p s m args meth c cX10_ledSum 4 RX10 D ks A 75 ad (shC ks ad)) (hr : meth.sig.returnType = (some .int)) {F : Nat} {r : Int32 × Mem} : ∀ n : Nat, ∀ (μ : Mem) (x1 : Int64) (x3 : Int32), f_X10_ledSum_b4 F  n μ x1 x3 = some r → G p l e rm_X10_ledSum s m args below meth c D A 4 (MQ below (QI D 75 ad (shC ks ad) A r) args s 0 0 A) 75 ad (shC ks ad) μ 4 [(0, .ref (ad 63)), (1, .long x1), (3, .int x3)] [] := by
  intro n
  induction n with
  | zero =>
    intro _ _ _ h
    cases h
  | succ n ih =>
    intro μ x1 x3 h
    refine g_iload_n 5 X 2 dX10_ledSum_4 rfl rfl ?_
    refine g_aload_n 6 X 0 dX10_ledSum_5 rfl rfl ?_
    refine g_getr 9 X fl_X10_32_10 (o10 rfl) rfl dX10_ledSum_6 rfl ?_
    refine g_geti 12 X fl_X10_74_6 (o6 rfl) rfl dX10_ledSum_9 h rfl (fun v1 h => ?_)
    refine g_icmp_ge 51 15 X dX10_ledSum_12 (by decide) rfl h (fun h => ?_) (fun h => ?_)
    · refine g_lload_n 52 X 1 dX10_ledSum_51 rfl rfl ?_
      refine g_ldc2 55 X m929 dX10_ledSum_52 rfl ?_
      refine g_ldiv 56 X dX10_ledSum_55 h rfl (fun h => ?_)
      refine g_topl h (fun v2 h => ?_)
      refine g_l2i 57 X dX10_ledSum_56 rfl ?_
      exact g_iret X hr dX10_ledSum_57 h
    · refine g_aload_n 16 X 0 dX10_ledSum_15 rfl rfl ?_
      refine g_getr 19 X fl_X10_18_10 (o10 rfl) rfl dX10_ledSum_16 rfl ?_
      refine g_iload_n 20 X 2 dX10_ledSum_19 rfl rfl ?_
      refine g_iald 21 X (aiC (n := 30) (by decide) rfl) dX10_ledSum_20 h rfl (fun v3 h => ?_)
      refine g_if_le 45 24 X dX10_ledSum_21 (by decide) rfl h (fun h => ?_) (fun h => ?_)
      · exact G.sub [0, 1, 2] rfl (b_X10_ledSum_45 X hr ih _ _ _ h)
      · refine g_lload_n 25 X 1 dX10_ledSum_24 rfl rfl ?_
        refine g_aload_n 26 X 0 dX10_ledSum_25 rfl rfl ?_
        refine g_getr 29 X fl_X10_18_10 (o10 rfl) rfl dX10_ledSum_26 rfl ?_
        refine g_iload_n 30 X 2 dX10_ledSum_29 rfl rfl ?_
        refine g_iald 31 X (aiC (n := 30) (by decide) rfl) dX10_ledSum_30 h rfl (fun v4 h => ?_)
        refine g_i2l 32 X dX10_ledSum_31 rfl ?_
        refine g_aload_n 33 X 0 dX10_ledSum_32 rfl rfl ?_
        refine g_getr 36 X fl_X10_32_10 (o10 rfl) rfl dX10_ledSum_33 rfl ?_
        refine g_getr 39 X fl_X10_88_6 (o6 rfl) rfl dX10_ledSum_36 rfl ?_
        refine g_iload_n 40 X 2 dX10_ledSum_39 rfl rfl ?_
        refine g_iald 41 X (aiC (n := 30) (by decide) rfl) dX10_ledSum_40 h rfl (fun v5 h => ?_)
        refine g_i2l 42 X dX10_ledSum_41 rfl ?_
        refine g_lmul 43 X dX10_ledSum_42 rfl ?_
        refine g_ladd 44 X dX10_ledSum_43 rfl ?_
        refine g_topl h (fun v6 h => ?_)
        refine g_lstore_n 45 X dX10_ledSum_44 (by decide) rfl ?_
        exact G.sub [1, 0, 2] rfl (b_X10_ledSum_45 X hr ih _ _ _ h)
set_option maxRecDepth 100000 in
set_option maxHeartbeats 4000000 in
theorem b_X10_ledSum_0 {p : Program} {l : Launch} {e : Env} {s : State} {m : MethodId} {args : Array Value} {below : List Frame} {meth : Method} {c : Code} {D : va_G} {ks : Nat → ClassId} {A : Nat → Prop} {ad : Nat → Nat} (X : Cx p s m args meth c cX10_ledSum 4 RX10 D ks A 75 ad (shC ks ad)) (hr : meth.sig.returnType = (some .int)) {F : Nat} {r : Int32 × Mem} (μ : Mem)  (h : f_X10_ledSum F  μ = some r) : G p l e rm_X10_ledSum s m args below meth c D A 4 (MQ below (QI D 75 ad (shC ks ad) A r) args s 0 0 A) 75 ad (shC ks ad) μ 0 [(0, .ref (ad 63))] [] := by
  refine g_lconst 1 X dX10_ledSum_0 lc0 rfl ?_
  refine g_lstore_n 2 X dX10_ledSum_1 (by decide) rfl ?_
  refine g_iconst 3 X dX10_ledSum_2 ic0 rfl ?_
  refine g_istore_n 4 X dX10_ledSum_3 (by decide) rfl ?_
  exact G.sub [2, 1, 0] rfl (b_X10_ledSum_4 X hr  F _ _ _ h)
set_option maxRecDepth 100000 in
theorem c_X10_ledSum {l : Launch} {D : va_G} {ks : Nat → ClassId} {A : Nat → Prop} {ad : Nat → Nat} (hD : ∀ μ : Mem, va_D A (wsM 75 ad (shC ks ad) μ)) {F : Nat} {μ : Mem} {r : Int32 × Mem}  (h : f_X10_ledSum F μ = some r) : Met l yX10_ledSum (Cond.code yX10_ledSum cX10_ledSum 4 (some .int) :: wg) rm_X10_ledSum (PC D ks 75 ad (shC ks ad) μ [.ref (ad 63)]) (QI D 75 ad (shC ks ad) A r) 0 0 A := by
  refine met_of (by decide) (Nat.le_of_ble_eq_true rfl) hD ?_
  intro p e s m args below meth c X hr
  exact G.sub [0] rfl (b_X10_ledSum_0 X hr  _ h)
abbrev rm_X11_led : Room := { frames := 6, cells := 0, slots := 0, locals := 133 }
set_option maxRecDepth 100000 in
set_option maxHeartbeats 4000000 in
theorem b_X11_led_0 {p : Program} {l : Launch} {e : Env} {s : State} {m : MethodId} {args : Array Value} {below : List Frame} {meth : Method} {c : Code} {D : va_G} {ks : Nat → ClassId} {A : Nat → Prop} {ad : Nat → Nat} (X : Cx p s m args meth c cX11_led 6 RX11 D ks A 75 ad (shC ks ad)) (hr : meth.sig.returnType = (some .int)) {F : Nat} {r : Int32 × Mem} (μ : Mem) (x1 : Int32) (x2 : Int32) (x3 : Int32) (x4 : Int32)  (h : f_X11_led F  μ x1 x2 x3 x4 = some r) : G p l e rm_X11_led s m args below meth c D A 6 (MQ below (QI D 75 ad (shC ks ad) A r) args s 0 0 A) 75 ad (shC ks ad) μ 0 [(0, .ref (ad 0)), (1, .int x1), (2, .int x2), (3, .int x3), (4, .int x4)] [] := by
  refine g_iload_n 1 X 3 dX11_led_0 rfl rfl ?_
  refine g_iconst 2 X dX11_led_1 ic0 rfl ?_
  refine g_bipush 4 X dX11_led_2 bp30 rfl ?_
  refine g_ni 7 h (fun q e => r_S X cd_X11_105_X11_within ⟨rfl, rfl⟩ ⟨Nat.le_of_ble_eq_true rfl, Nat.le_of_ble_eq_true rfl⟩ (c_X11_within e) PC_blind (pn_pre X) rfl rfl (Nat.le_of_ble_eq_true rfl) dX11_led_4) rfl (fun v1 h => ?_)
  refine g_if_eq 20 10 X dX11_led_7 (by decide) rfl h (fun h => ?_) (fun h => ?_)
  · refine g_bipush 22 X dX11_led_20 bpm2 rfl ?_
    exact g_iret X hr dX11_led_22 h
  · refine g_iload 12 X 4 dX11_led_10 rfl rfl ?_
    refine g_iconst 13 X dX11_led_12 ic0 rfl ?_
    refine g_iconst 14 X dX11_led_13 ic1 rfl ?_
    refine g_ni 17 h (fun q e => r_S X cd_X11_105_X11_within ⟨rfl, rfl⟩ ⟨Nat.le_of_ble_eq_true rfl, Nat.le_of_ble_eq_true rfl⟩ (c_X11_within e) PC_blind (pn_pre X) rfl rfl (Nat.le_of_ble_eq_true rfl) dX11_led_14) rfl (fun v2 h => ?_)
    refine g_if_ne 23 20 X dX11_led_17 (by decide) rfl h (fun h => ?_) (fun h => ?_)
    · refine g_aload_n 24 X 0 dX11_led_23 rfl rfl ?_
      refine g_iload_n 25 X 1 dX11_led_24 rfl rfl ?_
      refine g_iload_n 26 X 2 dX11_led_25 rfl rfl ?_
      refine g_ci 29 h (fun q e => r_V X cd_X11_192_X11_refusalOfDraw_X11 ⟨rfl, rfl⟩ ⟨Nat.le_of_ble_eq_true rfl, Nat.le_of_ble_eq_true rfl⟩ (c_X11_refusalOfDraw X.2.2.2.2  e) PC_blind (pc_pre X) (g_recv X (o11 rfl) rfl) rfl rfl (Nat.le_of_ble_eq_true rfl) dX11_led_26) rfl (fun v3 μ4 h => ?_)
      refine g_istore 31 X dX11_led_29 (by decide) rfl ?_
      refine g_iload 33 X 0 dX11_led_31 rfl rfl ?_
      refine g_if_ge 39 36 X dX11_led_33 (by decide) rfl h (fun h => ?_) (fun h => ?_)
      · refine g_aload_n 40 X 1 dX11_led_39 rfl rfl ?_
        refine g_getr 43 X fl_X11_40_11 (o11 rfl) rfl dX11_led_40 rfl ?_
        refine g_aload_n 44 X 1 dX11_led_43 rfl rfl ?_
        refine g_getr 47 X fl_X11_27_11 (o11 rfl) rfl dX11_led_44 rfl ?_
        refine g_iload_n 48 X 2 dX11_led_47 rfl rfl ?_
        refine g_aald (fn := fun p => 18 + 9 * p) 49 X arP rfl dX11_led_48 h rfl (fun hv5 h => ?_)
        refine g_cr 52 h (fun q e => r_V X cd_X11_146_X5_possibleWay_X5 ⟨rfl, rfl⟩ ⟨Nat.le_of_ble_eq_true rfl, Nat.le_of_ble_eq_true rfl⟩ (c_X5_possibleWay X.2.2.2.2 (kPl hv5) e) PC_blind (pc_pre X) (g_recv X (o5 (kPl hv5)) rfl) rfl rfl (Nat.le_of_ble_eq_true rfl) dX11_led_49) rfl (fun v6 μ7 h => ?_)
        refine g_iload_n 53 X 3 dX11_led_52 rfl rfl ?_
        refine g_iload_n 54 X 4 dX11_led_53 rfl rfl ?_
        refine g_cv 57 h (fun q e => r_V X cd_X11_227_X10_lead_X10 ⟨rfl, rfl⟩ ⟨Nat.le_of_ble_eq_true rfl, Nat.le_of_ble_eq_true rfl⟩ (c_X10_lead X.2.2.2.2  e) PC_blind (pc_pre X) (g_recv X (o10 rfl) rfl) rfl rfl (Nat.le_of_ble_eq_true rfl) dX11_led_54) rfl (fun _ μ8 h => ?_)
        refine g_iload 59 X 5 dX11_led_57 rfl rfl ?_
        refine g_if_ne 72 62 X dX11_led_59 (by decide) rfl h (fun h => ?_) (fun h => ?_)
        · refine g_aload_n 73 X 1 dX11_led_72 rfl rfl ?_
          refine g_getr 76 X fl_X11_40_11 (o11 rfl) rfl dX11_led_73 rfl ?_
          refine g_ci 79 h (fun q e => r_V X cd_X11_237_X10_ledSum_X10 ⟨rfl, rfl⟩ ⟨Nat.le_of_ble_eq_true rfl, Nat.le_of_ble_eq_true rfl⟩ (c_X10_ledSum X.2.2.2.2  e) PC_blind (pc_pre X) (g_recv X (o10 rfl) rfl) rfl rfl (Nat.le_of_ble_eq_true rfl) dX11_led_76) rfl (fun v9 μ10 h => ?_)
          exact g_iret X hr dX11_led_79 h
        · refine g_aload_n 63 X 1 dX11_led_62 rfl rfl ?_
          refine g_getr 66 X fl_X11_40_11 (o11 rfl) rfl dX11_led_63 rfl ?_
          refine g_ci 69 h (fun q e => r_V X cd_X11_234_X10_miss_X10 ⟨rfl, rfl⟩ ⟨Nat.le_of_ble_eq_true rfl, Nat.le_of_ble_eq_true rfl⟩ (c_X10_miss X.2.2.2.2  e) PC_blind (pc_pre X) (g_recv X (o10 rfl) rfl) rfl rfl (Nat.le_of_ble_eq_true rfl) dX11_led_66) rfl (fun v11 μ12 h => ?_)
          refine g_goto 79 X dX11_led_69 (by decide) ?_
          exact g_iret X hr dX11_led_79 h
      · refine g_iload 38 X 0 dX11_led_36 rfl rfl ?_
        exact g_iret X hr dX11_led_38 h
    · refine g_bipush 22 X dX11_led_20 bpm2 rfl ?_
      exact g_iret X hr dX11_led_22 h
set_option maxRecDepth 100000 in
theorem c_X11_led {l : Launch} {D : va_G} {ks : Nat → ClassId} {A : Nat → Prop} {ad : Nat → Nat} (hD : ∀ μ : Mem, va_D A (wsM 75 ad (shC ks ad) μ)) {F : Nat} {μ : Mem} {x1 : Int32} {x2 : Int32} {x3 : Int32} {x4 : Int32} {r : Int32 × Mem}  (h : f_X11_led F μ x1 x2 x3 x4 = some r) : Met l yX11_led (Cond.code yX11_led cX11_led 6 (some .int) :: wg) rm_X11_led (PC D ks 75 ad (shC ks ad) μ [.ref (ad 0), .int x1, .int x2, .int x3, .int x4]) (QI D 75 ad (shC ks ad) A r) 0 0 A := by
  refine met_of (by decide) (Nat.le_of_ble_eq_true rfl) hD ?_
  intro p e s m args below meth c X hr
  exact G.sub [0, 1, 2, 3, 4] rfl (b_X11_led_0 X hr  _ _ _ _ _ h)
