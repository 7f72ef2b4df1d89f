abbrev rm_X12_read : Room := { frames := 2, cells := 0, slots := 0, locals := 49 }
set_option maxRecDepth 100000 in
set_option maxHeartbeats 4000000 in
theorem b_X12_read_114 {p : Program} {l : Launch} {e : Env} {s : State} {m : MethodId} {args : Array Value} {below : List Frame} {meth : Method} {c : Code} {D : va_G} {ks : Nat → ClassId} {A : Nat → Prop} {ad : Nat → Nat} (X : Cx p s m args meth c cX12_read 5 RX12 D ks A 24 ad (shR ks ad)) (hr : meth.sig.returnType = (some .int)) {F : Nat} {r : Int32 × Mem} {k29 : Mem → Int32 → Int32 → Int32 → Option (Int32 × Mem)} (hk29 : ∀ (μ : Mem) (x1 : Int32) (x2 : Int32) (x3 : Int32), k29 μ x1 x2 x3 = some r → G p l e rm_X12_read s m args below meth c D A 5 (MQ below (QI D 24 ad (shR ks ad) A r) args s 0 0 A) 24 ad (shR ks ad) μ 29 [(0, .ref (ad 0)), (1, .int x1), (2, .int x2), (3, .int x3)] []) (μ : Mem) (x1 : Int32) (x3 : Int32) (z0 : Int32) (z1 : Int32)  (h : f_X12_read_b114 F k29 μ x1 x3 z0 z1 = some r) : G p l e rm_X12_read s m args below meth c D A 5 (MQ below (QI D 24 ad (shR ks ad) A r) args s 0 0 A) 24 ad (shR ks ad) μ 114 [(0, .ref (ad 0)), (1, .int x1), (3, .int x3)] [.int z0, .int z1] := by
  refine g_iadd 115 X dX12_read_114 rfl ?_
  refine g_topi h (fun v1 h => ?_)
  refine g_istore_n 116 X dX12_read_115 (by decide) rfl ?_
  refine g_goto 29 X dX12_read_116 (by decide) ?_
  exact G.sub [1, 2, 0, 3] rfl (hk29 _ _ _ _ h)
set_option maxRecDepth 100000 in
set_option maxHeartbeats 4000000 in
theorem b_X12_read_103 {p : Program} {l : Launch} {e : Env} {s : State} {m : MethodId} {args : Array Value} {below : List Frame} {meth : Method} {c : Code} {D : va_G} {ks : Nat → ClassId} {A : Nat → Prop} {ad : Nat → Nat} (X : Cx p s m args meth c cX12_read 5 RX12 D ks A 24 ad (shR ks ad)) (hr : meth.sig.returnType = (some .int)) {F : Nat} {r : Int32 × Mem} {k29 : Mem → Int32 → Int32 → Int32 → Option (Int32 × Mem)} (hk29 : ∀ (μ : Mem) (x1 : Int32) (x2 : Int32) (x3 : Int32), k29 μ x1 x2 x3 = some r → G p l e rm_X12_read s m args below meth c D A 5 (MQ below (QI D 24 ad (shR ks ad) A r) args s 0 0 A) 24 ad (shR ks ad) μ 29 [(0, .ref (ad 0)), (1, .int x1), (2, .int x2), (3, .int x3)] []) (μ : Mem) (x1 : Int32) (x2 : Int32) (z0 : Int32)  (h : f_X12_read_b103 F k29 μ x1 x2 z0 = some r) : G p l e rm_X12_read s m args below meth c D A 5 (MQ below (QI D 24 ad (shR ks ad) A r) args s 0 0 A) 24 ad (shR ks ad) μ 103 [(0, .ref (ad 0)), (1, .int x1), (2, .int x2)] [.int z0] := by
  refine g_istore_n 104 X dX12_read_103 (by decide) rfl ?_
  refine g_iload_n 105 X 3 dX12_read_104 rfl rfl ?_
  refine g_iload_n 106 X 0 dX12_read_105 rfl rfl ?_
  refine g_if_eq 113 109 X dX12_read_106 (by decide) rfl h (fun h => ?_) (fun h => ?_)
  · refine g_iconst 114 X dX12_read_113 ic0 rfl ?_
    exact G.sub [1, 2, 0] rfl (b_X12_read_114 X hr hk29 _ _ _ _ _ h)
  · refine g_iconst 110 X dX12_read_109 ic1 rfl ?_
    refine g_goto 114 X dX12_read_110 (by decide) ?_
    exact G.sub [1, 2, 0] rfl (b_X12_read_114 X hr hk29 _ _ _ _ _ h)
set_option maxRecDepth 100000 in
set_option maxHeartbeats 4000000 in
theorem b_X12_read_29 {p : Program} {l : Launch} {e : Env} {s : State} {m : MethodId} {args : Array Value} {below : List Frame} {meth : Method} {c : Code} {D : va_G} {ks : Nat → ClassId} {A : Nat → Prop} {ad : Nat → Nat} (X : Cx p s m args meth c cX12_read 5 RX12 D ks A 24 ad (shR ks ad)) (hr : meth.sig.returnType = (some .int)) {F : Nat} {r : Int32 × Mem} : ∀ n : Nat, ∀ (μ : Mem) (x1 : Int32) (x2 : Int32) (x3 : Int32), f_X12_read_b29 F  n μ x1 x2 x3 = some r → G p l e rm_X12_read s m args below meth c D A 5 (MQ below (QI D 24 ad (shR ks ad) A r) args s 0 0 A) 24 ad (shR ks ad) μ 29 [(0, .ref (ad 0)), (1, .int x1), (2, .int x2), (3, .int x3)] [] := by
  intro n
  induction n with
  | zero =>
    intro _ _ _ _ h
    cases h
  | succ n ih =>
    intro μ x1 x2 x3 h
    refine g_iload_n 30 X 3 dX12_read_29 rfl rfl ?_
    refine g_if_eq 119 33 X dX12_read_30 (by decide) rfl h (fun h => ?_) (fun h => ?_)
    · refine g_iload_n 120 X 2 dX12_read_119 rfl rfl ?_
      exact g_iret X hr dX12_read_120 h
    · refine g_iconst 34 X dX12_read_33 ic4 rfl ?_
      refine g_iload_n 35 X 2 dX12_read_34 rfl rfl ?_
      refine g_imul 36 X dX12_read_35 rfl ?_
      refine g_iconst 37 X dX12_read_36 ic4 rfl ?_
      refine g_iadd 38 X dX12_read_37 rfl ?_
      refine g_aload_n 39 X 0 dX12_read_38 rfl rfl ?_
      refine g_getr 42 X fl_X12_13_12 (o12 rfl) rfl dX12_read_39 rfl ?_
      refine g_iload_n 43 X 1 dX12_read_42 rfl rfl ?_
      refine g_iald 44 X (aiR (n := 4) (by decide) rfl) dX12_read_43 h rfl (fun v1 h => ?_)
      refine g_icmp_gt 119 47 X dX12_read_44 (by decide) rfl h (fun h => ?_) (fun h => ?_)
      · refine g_iload_n 120 X 2 dX12_read_119 rfl rfl ?_
        exact g_iret X hr dX12_read_120 h
      · refine g_bipush 49 X dX12_read_47 bp90 rfl ?_
        refine g_iload_n 50 X 1 dX12_read_49 rfl rfl ?_
        refine g_imul 51 X dX12_read_50 rfl ?_
        refine g_iconst 52 X dX12_read_51 ic4 rfl ?_
        refine g_iload_n 53 X 2 dX12_read_52 rfl rfl ?_
        refine g_imul 54 X dX12_read_53 rfl ?_
        refine g_iadd 55 X dX12_read_54 rfl ?_
        refine g_topi h (fun v2 h => ?_)
        refine g_istore 57 X dX12_read_55 (by decide) rfl ?_
        refine g_aload_n 58 X 1 dX12_read_57 rfl rfl ?_
        refine g_aload_n 59 X 1 dX12_read_58 rfl rfl ?_
        refine g_getr 62 X fl_X12_16_12 (o12 rfl) rfl dX12_read_59 rfl ?_
        refine g_iload 64 X 0 dX12_read_62 rfl rfl ?_
        refine g_iald 65 X (aiR (n := 360) (by decide) rfl) dX12_read_64 h rfl (fun v3 h => ?_)
        refine g_aload_n 66 X 1 dX12_read_65 rfl rfl ?_
        refine g_getr 69 X fl_X12_16_12 (o12 rfl) rfl dX12_read_66 rfl ?_
        refine g_iload 71 X 0 dX12_read_69 rfl rfl ?_
        refine g_iconst 72 X dX12_read_71 ic1 rfl ?_
        refine g_iadd 73 X dX12_read_72 rfl ?_
        refine g_iald 74 X (aiR (n := 360) (by decide) rfl) dX12_read_73 h rfl (fun v4 h => ?_)
        refine g_aload_n 75 X 1 dX12_read_74 rfl rfl ?_
        refine g_getr 78 X fl_X12_16_12 (o12 rfl) rfl dX12_read_75 rfl ?_
        refine g_iload 80 X 0 dX12_read_78 rfl rfl ?_
        refine g_iconst 81 X dX12_read_80 ic2 rfl ?_
        refine g_iadd 82 X dX12_read_81 rfl ?_
        refine g_iald 83 X (aiR (n := 360) (by decide) rfl) dX12_read_82 h rfl (fun v5 h => ?_)
        refine g_aload_n 84 X 1 dX12_read_83 rfl rfl ?_
        refine g_getr 87 X fl_X12_16_12 (o12 rfl) rfl dX12_read_84 rfl ?_
        refine g_iload 89 X 0 dX12_read_87 rfl rfl ?_
        refine g_iconst 90 X dX12_read_89 ic3 rfl ?_
        refine g_iadd 91 X dX12_read_90 rfl ?_
        refine g_iald 92 X (aiR (n := 360) (by decide) rfl) dX12_read_91 h rfl (fun v6 h => ?_)
        refine g_ci 95 h (fun q e => r_V X cd_X12_124_X12_name_X12 ⟨rfl, rfl⟩ ⟨Nat.le_of_ble_eq_true rfl, Nat.le_of_ble_eq_true rfl⟩ (c_X12_name X.2.2.2.2  e) PC_blind (pc_pre X) (g_recv X (o12 rfl) rfl) rfl rfl (Nat.le_of_ble_eq_true rfl) dX12_read_92) rfl (fun v7 μ8 h => ?_)
        refine g_if_lt 102 98 X dX12_read_95 (by decide) rfl h (fun h => ?_) (fun h => ?_)
        · refine g_iconst 103 X dX12_read_102 ic0 rfl ?_
          exact G.sub [1, 2, 3] rfl (b_X12_read_103 X hr ih _ _ _ _ h)
        · refine g_iconst 99 X dX12_read_98 ic1 rfl ?_
          refine g_goto 103 X dX12_read_99 (by decide) ?_
          exact G.sub [1, 2, 3] rfl (b_X12_read_103 X hr ih _ _ _ _ h)
set_option maxRecDepth 100000 in
set_option maxHeartbeats 4000000 in
theorem b_X12_read_0 {p : Program} {l : Launch} {e : Env} {s : State} {m : MethodId} {args : Array Value} {below : List Frame} {meth : Method} {c : Code} {D : va_G} {ks : Nat → ClassId} {A : Nat → Prop} {ad : Nat → Nat} (X : Cx p s m args meth c cX12_read 5 RX12 D ks A 24 ad (shR ks ad)) (hr : meth.sig.returnType = (some .int)) {F : Nat} {r : Int32 × Mem} (μ : Mem) (x1 : Int32)  (h : f_X12_read F  μ x1 = some r) : G p l e rm_X12_read s m args below meth c D A 5 (MQ below (QI D 24 ad (shR ks ad) A r) args s 0 0 A) 24 ad (shR ks ad) μ 0 [(0, .ref (ad 0)), (1, .int x1)] [] := by
  refine g_iload_n 1 X 1 dX12_read_0 rfl rfl ?_
  refine g_ni 4 h (fun q e => r_S X cd_X12_96_X12_isSheet ⟨rfl, rfl⟩ ⟨Nat.le_of_ble_eq_true rfl, Nat.le_of_ble_eq_true rfl⟩ (c_X12_isSheet e) PC_blind (pn_pre X) rfl rfl (Nat.le_of_ble_eq_true rfl) dX12_read_1) rfl (fun v1 h => ?_)
  refine g_if_ne 10 7 X dX12_read_4 (by decide) rfl h (fun h => ?_) (fun h => ?_)
  · refine g_aload_n 11 X 0 dX12_read_10 rfl rfl ?_
    refine g_getr 14 X fl_X12_7_12 (o12 rfl) rfl dX12_read_11 rfl ?_
    refine g_iload_n 15 X 1 dX12_read_14 rfl rfl ?_
    refine g_iald 16 X (aiR (n := 4) (by decide) rfl) dX12_read_15 h rfl (fun v2 h => ?_)
    refine g_if_ge 25 19 X dX12_read_16 (by decide) rfl h (fun h => ?_) (fun h => ?_)
    · refine g_iconst 26 X dX12_read_25 ic0 rfl ?_
      refine g_istore_n 27 X dX12_read_26 (by decide) rfl ?_
      refine g_iconst 28 X dX12_read_27 ic1 rfl ?_
      refine g_istore_n 29 X dX12_read_28 (by decide) rfl ?_
      exact G.sub [2, 3, 1, 0] rfl (b_X12_read_29 X hr  F _ _ _ _ h)
    · refine g_aload_n 20 X 0 dX12_read_19 rfl rfl ?_
      refine g_iconst 21 X dX12_read_20 ic1 rfl ?_
      refine g_ci 24 h (fun q e => r_V X cd_X12_102_X12_met_X12 ⟨rfl, rfl⟩ ⟨Nat.le_of_ble_eq_true rfl, Nat.le_of_ble_eq_true rfl⟩ (c_X12_met X.2.2.2.2  e) PC_blind (pc_pre X) (g_recv X (o12 rfl) rfl) rfl rfl (Nat.le_of_ble_eq_true rfl) dX12_read_21) rfl (fun v3 μ4 h => ?_)
      exact g_iret X hr dX12_read_24 h
  · refine g_bipush 9 X dX12_read_7 bpm2 rfl ?_
    exact g_iret X hr dX12_read_9 h
set_option maxRecDepth 100000 in
theorem c_X12_read {l : Launch} {D : va_G} {ks : Nat → ClassId} {A : Nat → Prop} {ad : Nat → Nat} (hD : ∀ μ : Mem, va_D A (wsM 24 ad (shR ks ad) μ)) {F : Nat} {μ : Mem} {x1 : Int32} {r : Int32 × Mem}  (h : f_X12_read F μ x1 = some r) : Met l yX12_read (Cond.code yX12_read cX12_read 5 (some .int) :: wg) rm_X12_read (PC D ks 24 ad (shR ks ad) μ [.ref (ad 0), .int x1]) (QI D 24 ad (shR ks ad) A r) 0 0 A := by
  refine met_of (by decide) (Nat.le_of_ble_eq_true rfl) hD ?_
  intro p e s m args below meth c X hr
  exact G.sub [0, 1] rfl (b_X12_read_0 X hr  _ _ h)
abbrev rm_X12_valueOf : Room := { frames := 0, cells := 0, slots := 0, locals := 0 }
set_option maxRecDepth 100000 in
set_option maxHeartbeats 4000000 in
theorem b_X12_valueOf_57 {p : Program} {l : Launch} {e : Env} {s : State} {m : MethodId} {args : Array Value} {below : List Frame} {meth : Method} {c : Code} {D : va_G} {ks : Nat → ClassId} {A : Nat → Prop} {ad : Nat → Nat} (X : Cx p s m args meth c cX12_valueOf 4 RX12 D ks A 24 ad (shR ks ad)) (hr : meth.sig.returnType = (some .int)) {F : Nat} {r : Int32 × Mem} {k4 : Mem → Int32 → Int32 → Int32 → Option (Int32 × Mem)} (hk4 : ∀ (μ : Mem) (x1 : Int32) (x2 : Int32) (x3 : Int32), k4 μ x1 x2 x3 = some r → G p l e rm_X12_valueOf s m args below meth c D A 4 (MQ below (QI D 24 ad (shR ks ad) A r) args s 0 0 A) 24 ad (shR ks ad) μ 4 [(0, .ref (ad 0)), (1, .int x1), (2, .int x2), (3, .int x3)] []) (μ : Mem) (x1 : Int32) (x2 : Int32) (x3 : Int32)  (h : f_X12_valueOf_b57 F k4 μ x1 x2 x3 = some r) : G p l e rm_X12_valueOf s m args below meth c D A 4 (MQ below (QI D 24 ad (shR ks ad) A r) args s 0 0 A) 24 ad (shR ks ad) μ 57 [(0, .ref (ad 0)), (1, .int x1), (2, .int x2), (3, .int x3)] [] := by
  refine g_iinc 60 X 3 dX12_valueOf_57 ic1 rfl (by decide) rfl ?_
  refine g_goto 4 X dX12_valueOf_60 (by decide) ?_
  exact G.sub [1, 2, 3, 0] rfl (hk4 _ _ _ _ h)
set_option maxRecDepth 100000 in
set_option maxHeartbeats 4000000 in
theorem b_X12_valueOf_55 {p : Program} {l : Launch} {e : Env} {s : State} {m : MethodId} {args : Array Value} {below : List Frame} {meth : Method} {c : Code} {D : va_G} {ks : Nat → ClassId} {A : Nat → Prop} {ad : Nat → Nat} (X : Cx p s m args meth c cX12_valueOf 4 RX12 D ks A 24 ad (shR ks ad)) (hr : meth.sig.returnType = (some .int)) {F : Nat} {r : Int32 × Mem} {k4 : Mem → Int32 → Int32 → Int32 → Option (Int32 × Mem)} (hk4 : ∀ (μ : Mem) (x1 : Int32) (x2 : Int32) (x3 : Int32), k4 μ x1 x2 x3 = some r → G p l e rm_X12_valueOf s m args below meth c D A 4 (MQ below (QI D 24 ad (shR ks ad) A r) args s 0 0 A) 24 ad (shR ks ad) μ 4 [(0, .ref (ad 0)), (1, .int x1), (2, .int x2), (3, .int x3)] []) (μ : Mem) (x1 : Int32) (x3 : Int32)  (h : f_X12_valueOf_b55 F k4 μ x1 x3 = some r) : G p l e rm_X12_valueOf s m args below meth c D A 4 (MQ below (QI D 24 ad (shR ks ad) A r) args s 0 0 A) 24 ad (shR ks ad) μ 55 [(0, .ref (ad 0)), (1, .int x1), (3, .int x3)] [] := by
  refine g_iload_n 56 X 2 dX12_valueOf_55 rfl rfl ?_
  refine g_istore_n 57 X dX12_valueOf_56 (by decide) rfl ?_
  exact G.sub [1, 2, 0, 3] rfl (b_X12_valueOf_57 X hr hk4 _ _ _ _ h)
set_option maxRecDepth 100000 in
set_option maxHeartbeats 4000000 in
theorem b_X12_valueOf_4 {p : Program} {l : Launch} {e : Env} {s : State} {m : MethodId} {args : Array Value} {below : List Frame} {meth : Method} {c : Code} {D : va_G} {ks : Nat → ClassId} {A : Nat → Prop} {ad : Nat → Nat} (X : Cx p s m args meth c cX12_valueOf 4 RX12 D ks A 24 ad (shR ks ad)) (hr : meth.sig.returnType = (some .int)) {F : Nat} {r : Int32 × Mem} : ∀ n : Nat, ∀ (μ : Mem) (x1 : Int32) (x2 : Int32) (x3 : Int32), f_X12_valueOf_b4 F  n μ x1 x2 x3 = some r → G p l e rm_X12_valueOf s m args below meth c D A 4 (MQ below (QI D 24 ad (shR ks ad) A r) args s 0 0 A) 24 ad (shR ks ad) μ 4 [(0, .ref (ad 0)), (1, .int x1), (2, .int x2), (3, .int x3)] [] := by
  intro n
  induction n with
  | zero =>
    intro _ _ _ _ h
    cases h
  | succ n ih =>
    intro μ x1 x2 x3 h
    refine g_iload_n 5 X 3 dX12_valueOf_4 rfl rfl ?_
    refine g_aload_n 6 X 0 dX12_valueOf_5 rfl rfl ?_
    refine g_geti 9 X fl_X12_128_12 (o12 rfl) rfl dX12_valueOf_6 h rfl (fun v1 h => ?_)
    refine g_icmp_ge 63 12 X dX12_valueOf_9 (by decide) rfl h (fun h => ?_) (fun h => ?_)
    · refine g_iload_n 64 X 2 dX12_valueOf_63 rfl rfl ?_
      refine g_iconst 65 X dX12_valueOf_64 icm1 rfl ?_
      refine g_icmp_ne 72 68 X dX12_valueOf_65 (by decide) rfl h (fun h => ?_) (fun h => ?_)
      · refine g_aload_n 73 X 0 dX12_valueOf_72 rfl rfl ?_
        refine g_getr 76 X fl_X12_37_12 (o12 rfl) rfl dX12_valueOf_73 rfl ?_
        refine g_iload_n 77 X 2 dX12_valueOf_76 rfl rfl ?_
        refine g_iald 78 X (aiR (n := 120) (by decide) rfl) dX12_valueOf_77 h rfl (fun v2 h => ?_)
        exact g_iret X hr dX12_valueOf_78 h
      · refine g_iconst 69 X dX12_valueOf_68 icm1 rfl ?_
        refine g_goto 78 X dX12_valueOf_69 (by decide) ?_
        exact g_iret X hr dX12_valueOf_78 h
    · refine g_aload_n 13 X 0 dX12_valueOf_12 rfl rfl ?_
      refine g_getr 16 X fl_X12_34_12 (o12 rfl) rfl dX12_valueOf_13 rfl ?_
      refine g_iload_n 17 X 3 dX12_valueOf_16 rfl rfl ?_
      refine g_iald 18 X (aiR (n := 120) (by decide) rfl) dX12_valueOf_17 h rfl (fun v3 h => ?_)
      refine g_iload_n 19 X 1 dX12_valueOf_18 rfl rfl ?_
      refine g_icmp_ne 57 22 X dX12_valueOf_19 (by decide) rfl h (fun h => ?_) (fun h => ?_)
      · exact G.sub [0, 1, 2, 3] rfl (b_X12_valueOf_57 X hr ih _ _ _ _ h)
      · refine g_aload_n 23 X 0 dX12_valueOf_22 rfl rfl ?_
        refine g_getr 26 X fl_X12_40_12 (o12 rfl) rfl dX12_valueOf_23 rfl ?_
        refine g_iload_n 27 X 3 dX12_valueOf_26 rfl rfl ?_
        refine g_iald 28 X (aiR (n := 120) (by decide) rfl) dX12_valueOf_27 h rfl (fun v4 h => ?_)
        refine g_aload_n 29 X 0 dX12_valueOf_28 rfl rfl ?_
        refine g_geti 32 X fl_X12_43_12 (o12 rfl) rfl dX12_valueOf_29 h rfl (fun v5 h => ?_)
        refine g_icmp_gt 57 35 X dX12_valueOf_32 (by decide) rfl h (fun h => ?_) (fun h => ?_)
        · exact G.sub [0, 1, 2, 3] rfl (b_X12_valueOf_57 X hr ih _ _ _ _ h)
        · refine g_iload_n 36 X 2 dX12_valueOf_35 rfl rfl ?_
          refine g_iconst 37 X dX12_valueOf_36 icm1 rfl ?_
          refine g_icmp_eq 55 40 X dX12_valueOf_37 (by decide) rfl h (fun h => ?_) (fun h => ?_)
          · exact G.sub [0, 1, 3] rfl (b_X12_valueOf_55 X hr ih _ _ _ h)
          · refine g_aload_n 41 X 0 dX12_valueOf_40 rfl rfl ?_
            refine g_getr 44 X fl_X12_40_12 (o12 rfl) rfl dX12_valueOf_41 rfl ?_
            refine g_iload_n 45 X 3 dX12_valueOf_44 rfl rfl ?_
            refine g_iald 46 X (aiR (n := 120) (by decide) rfl) dX12_valueOf_45 h rfl (fun v6 h => ?_)
            refine g_aload_n 47 X 0 dX12_valueOf_46 rfl rfl ?_
            refine g_getr 50 X fl_X12_40_12 (o12 rfl) rfl dX12_valueOf_47 rfl ?_
            refine g_iload_n 51 X 2 dX12_valueOf_50 rfl rfl ?_
            refine g_iald 52 X (aiR (n := 120) (by decide) rfl) dX12_valueOf_51 h rfl (fun v7 h => ?_)
            refine g_icmp_lt 57 55 X dX12_valueOf_52 (by decide) rfl h (fun h => ?_) (fun h => ?_)
            · exact G.sub [0, 1, 2, 3] rfl (b_X12_valueOf_57 X hr ih _ _ _ _ h)
            · exact G.sub [0, 1, 3] rfl (b_X12_valueOf_55 X hr ih _ _ _ h)
set_option maxRecDepth 100000 in
set_option maxHeartbeats 4000000 in
theorem b_X12_valueOf_0 {p : Program} {l : Launch} {e : Env} {s : State} {m : MethodId} {args : Array Value} {below : List Frame} {meth : Method} {c : Code} {D : va_G} {ks : Nat → ClassId} {A : Nat → Prop} {ad : Nat → Nat} (X : Cx p s m args meth c cX12_valueOf 4 RX12 D ks A 24 ad (shR ks ad)) (hr : meth.sig.returnType = (some .int)) {F : Nat} {r : Int32 × Mem} (μ : Mem) (x1 : Int32)  (h : f_X12_valueOf F  μ x1 = some r) : G p l e rm_X12_valueOf s m args below meth c D A 4 (MQ below (QI D 24 ad (shR ks ad) A r) args s 0 0 A) 24 ad (shR ks ad) μ 0 [(0, .ref (ad 0)), (1, .int x1)] [] := by
  refine g_iconst 1 X dX12_valueOf_0 icm1 rfl ?_
  refine g_istore_n 2 X dX12_valueOf_1 (by decide) rfl ?_
  refine g_iconst 3 X dX12_valueOf_2 ic0 rfl ?_
  refine g_istore_n 4 X dX12_valueOf_3 (by decide) rfl ?_
  exact G.sub [2, 3, 1, 0] rfl (b_X12_valueOf_4 X hr  F _ _ _ _ h)
set_option maxRecDepth 100000 in
theorem c_X12_valueOf {l : Launch} {D : va_G} {ks : Nat → ClassId} {A : Nat → Prop} {ad : Nat → Nat} (hD : ∀ μ : Mem, va_D A (wsM 24 ad (shR ks ad) μ)) {F : Nat} {μ : Mem} {x1 : Int32} {r : Int32 × Mem}  (h : f_X12_valueOf F μ x1 = some r) : Met l yX12_valueOf (Cond.code yX12_valueOf cX12_valueOf 4 (some .int) :: wg) rm_X12_valueOf (PC D ks 24 ad (shR ks ad) μ [.ref (ad 0), .int x1]) (QI D 24 ad (shR ks ad) A r) 0 0 A := by
  refine met_of (by decide) (Nat.le_of_ble_eq_true rfl) hD ?_
  intro p e s m args below meth c X hr
  exact G.sub [0, 1] rfl (b_X12_valueOf_0 X hr  _ _ h)
abbrev rm_X12_about : Room := { frames := 2, cells := 0, slots := 0, locals := 46 }
set_option maxRecDepth 100000 in
set_option maxHeartbeats 4000000 in
theorem b_X12_about_0 {p : Program} {l : Launch} {e : Env} {s : State} {m : MethodId} {args : Array Value} {below : List Frame} {meth : Method} {c : Code} {D : va_G} {ks : Nat → ClassId} {A : Nat → Prop} {ad : Nat → Nat} (X : Cx p s m args meth c cX12_about 3 RX12 D ks A 24 ad (shR ks ad)) (hr : meth.sig.returnType = (some .int)) {F : Nat} {r : Int32 × Mem} (μ : Mem) (x1 : Int32) (x2 : Int32)  (h : f_X12_about F  μ x1 x2 = some r) : G p l e rm_X12_about s m args below meth c D A 3 (MQ below (QI D 24 ad (shR ks ad) A r) args s 0 0 A) 24 ad (shR ks ad) μ 0 [(0, .ref (ad 0)), (1, .int x1), (2, .int x2)] [] := by
  refine g_aload_n 1 X 0 dX12_about_0 rfl rfl ?_
  refine g_iload_n 2 X 1 dX12_about_1 rfl rfl ?_
  refine g_ci 5 h (fun q e => r_V X cd_X12_131_X12_isName_X12 ⟨rfl, rfl⟩ ⟨Nat.le_of_ble_eq_true rfl, Nat.le_of_ble_eq_true rfl⟩ (c_X12_isName X.2.2.2.2  e) PC_blind (pc_pre X) (g_recv X (o12 rfl) rfl) rfl rfl (Nat.le_of_ble_eq_true rfl) dX12_about_2) rfl (fun v1 μ2 h => ?_)
  refine g_if_ne 11 8 X dX12_about_5 (by decide) rfl h (fun h => ?_) (fun h => ?_)
  · refine g_iload_n 12 X 2 dX12_about_11 rfl rfl ?_
    by_cases hc3 : x2 = 0
    · have h := if_t h hc3
      refine g_tin 48 X (off := 36) hc3 dX12_about_12 (by decide) (by decide) (by decide +kernel) (by decide) ?_
      refine g_aload_n 49 X 0 dX12_about_48 rfl rfl ?_
      refine g_getr 52 X fl_X12_22_12 (o12 rfl) rfl dX12_about_49 rfl ?_
      refine g_iload_n 53 X 1 dX12_about_52 rfl rfl ?_
      refine g_iald 54 X (aiR (n := 30) (by decide) rfl) dX12_about_53 h rfl (fun v4 h => ?_)
      exact g_iret X hr dX12_about_54 h
    · have h := if_f h hc3
      by_cases hc5 : x2 = 1
      · have h := if_t h hc5
        refine g_tin 55 X (off := 43) hc5 dX12_about_12 (by decide) (by decide) (by decide +kernel) (by decide) ?_
        refine g_aload_n 56 X 0 dX12_about_55 rfl rfl ?_
        refine g_getr 59 X fl_X12_25_12 (o12 rfl) rfl dX12_about_56 rfl ?_
        refine g_iload_n 60 X 1 dX12_about_59 rfl rfl ?_
        refine g_iald 61 X (aiR (n := 30) (by decide) rfl) dX12_about_60 h rfl (fun v6 h => ?_)
        exact g_iret X hr dX12_about_61 h
      · have h := if_f h hc5
        by_cases hc7 : x2 = 2
        · have h := if_t h hc7
          refine g_tin 62 X (off := 50) hc7 dX12_about_12 (by decide) (by decide) (by decide +kernel) (by decide) ?_
          refine g_aload_n 63 X 0 dX12_about_62 rfl rfl ?_
          refine g_getr 66 X fl_X12_28_12 (o12 rfl) rfl dX12_about_63 rfl ?_
          refine g_iload_n 67 X 1 dX12_about_66 rfl rfl ?_
          refine g_iald 68 X (aiR (n := 30) (by decide) rfl) dX12_about_67 h rfl (fun v8 h => ?_)
          exact g_iret X hr dX12_about_68 h
        · have h := if_f h hc7
          by_cases hc9 : x2 = 3
          · have h := if_t h hc9
            refine g_tin 69 X (off := 57) hc9 dX12_about_12 (by decide) (by decide) (by decide +kernel) (by decide) ?_
            refine g_aload_n 70 X 0 dX12_about_69 rfl rfl ?_
            refine g_getr 73 X fl_X12_31_12 (o12 rfl) rfl dX12_about_70 rfl ?_
            refine g_iload_n 74 X 1 dX12_about_73 rfl rfl ?_
            refine g_iald 75 X (aiR (n := 30) (by decide) rfl) dX12_about_74 h rfl (fun v10 h => ?_)
            exact g_iret X hr dX12_about_75 h
          · have h := if_f h hc9
            by_cases hc11 : x2 = 4
            · have h := if_t h hc11
              refine g_tin 76 X (off := 64) hc11 dX12_about_12 (by decide) (by decide) (by decide +kernel) (by decide) ?_
              refine g_aload_n 77 X 0 dX12_about_76 rfl rfl ?_
              refine g_iload_n 78 X 1 dX12_about_77 rfl rfl ?_
              refine g_ci 81 h (fun q e => r_V X cd_X12_134_X12_valueOf_X12 ⟨rfl, rfl⟩ ⟨Nat.le_of_ble_eq_true rfl, Nat.le_of_ble_eq_true rfl⟩ (c_X12_valueOf X.2.2.2.2  e) PC_blind (pc_pre X) (g_recv X (o12 rfl) rfl) rfl rfl (Nat.le_of_ble_eq_true rfl) dX12_about_78) rfl (fun v12 μ13 h => ?_)
              exact g_iret X hr dX12_about_81 h
            · have h := if_f h hc11
              have ehc3 := ne_ti hc3 (k := 0) (by decide)
              have ehc5 := ne_ti hc5 (k := 1) (by decide)
              have ehc7 := ne_ti hc7 (k := 2) (by decide)
              have ehc9 := ne_ti hc9 (k := 3) (by decide)
              have ehc11 := ne_ti hc11 (k := 4) (by decide)
              refine g_tout 82 X dX12_about_12 (by omega) (by decide) ?_
              refine g_bipush 84 X dX12_about_82 bpm2 rfl ?_
              exact g_iret X hr dX12_about_84 h
  · refine g_bipush 10 X dX12_about_8 bpm2 rfl ?_
    exact g_iret X hr dX12_about_10 h
set_option maxRecDepth 100000 in
theorem c_X12_about {l : Launch} {D : va_G} {ks : Nat → ClassId} {A : Nat → Prop} {ad : Nat → Nat} (hD : ∀ μ : Mem, va_D A (wsM 24 ad (shR ks ad) μ)) {F : Nat} {μ : Mem} {x1 : Int32} {x2 : Int32} {r : Int32 × Mem}  (h : f_X12_about F μ x1 x2 = some r) : Met l yX12_about (Cond.code yX12_about cX12_about 3 (some .int) :: wg) rm_X12_about (PC D ks 24 ad (shR ks ad) μ [.ref (ad 0), .int x1, .int x2]) (QI D 24 ad (shR ks ad) A r) 0 0 A := by
  refine met_of (by decide) (Nat.le_of_ble_eq_true rfl) hD ?_
  intro p e s m args below meth c X hr
  exact G.sub [0, 1, 2] rfl (b_X12_about_0 X hr  _ _ _ h)
abbrev rm_X12_answer : Room := { frames := 2, cells := 0, slots := 0, locals := 46 }
set_option maxRecDepth 100000 in
set_option maxHeartbeats 4000000 in
theorem b_X12_answer_0 {p : Program} {l : Launch} {e : Env} {s : State} {m : MethodId} {args : Array Value} {below : List Frame} {meth : Method} {c : Code} {D : va_G} {ks : Nat → ClassId} {A : Nat → Prop} {ad : Nat → Nat} (X : Cx p s m args meth c cX12_answer 4 RX12 D ks A 24 ad (shR ks ad)) (hr : meth.sig.returnType = (some .int)) {F : Nat} {r : Int32 × Mem} (μ : Mem) (x1 : Int32) (x2 : Int32) (x3 : Int32)  (h : f_X12_answer F  μ x1 x2 x3 = some r) : G p l e rm_X12_answer s m args below meth c D A 4 (MQ below (QI D 24 ad (shR ks ad) A r) args s 0 0 A) 24 ad (shR ks ad) μ 0 [(0, .ref (ad 0)), (1, .int x1), (2, .int x2), (3, .int x3)] [] := by
  refine g_aload_n 1 X 0 dX12_answer_0 rfl rfl ?_
  refine g_iload_n 2 X 1 dX12_answer_1 rfl rfl ?_
  refine g_ci 5 h (fun q e => r_V X cd_X12_131_X12_isName_X12 ⟨rfl, rfl⟩ ⟨Nat.le_of_ble_eq_true rfl, Nat.le_of_ble_eq_true rfl⟩ (c_X12_isName X.2.2.2.2  e) PC_blind (pc_pre X) (g_recv X (o12 rfl) rfl) rfl rfl (Nat.le_of_ble_eq_true rfl) dX12_answer_2) rfl (fun v1 μ2 h => ?_)
  refine g_if_eq 29 8 X dX12_answer_5 (by decide) rfl h (fun h => ?_) (fun h => ?_)
  · refine g_bipush 31 X dX12_answer_29 bpm2 rfl ?_
    exact g_iret X hr dX12_answer_31 h
  · refine g_iload_n 9 X 2 dX12_answer_8 rfl rfl ?_
    refine g_i2l 10 X dX12_answer_9 rfl ?_
    refine g_ldc2 13 X m1204 dX12_answer_10 rfl ?_
    refine g_ldc2 16 X m1205 dX12_answer_13 rfl ?_
    refine g_ni 19 h (fun q e => r_S X cd_X12_92_X12_in ⟨rfl, rfl⟩ ⟨Nat.le_of_ble_eq_true rfl, Nat.le_of_ble_eq_true rfl⟩ (c_X12_in e) PC_blind (pn_pre X) rfl rfl (Nat.le_of_ble_eq_true rfl) dX12_answer_16) rfl (fun v3 h => ?_)
    refine g_if_eq 29 22 X dX12_answer_19 (by decide) rfl h (fun h => ?_) (fun h => ?_)
    · refine g_bipush 31 X dX12_answer_29 bpm2 rfl ?_
      exact g_iret X hr dX12_answer_31 h
    · refine g_iload_n 23 X 3 dX12_answer_22 rfl rfl ?_
      refine g_ni 26 h (fun q e => r_S X cd_X12_141_X12_isDay ⟨rfl, rfl⟩ ⟨Nat.le_of_ble_eq_true rfl, Nat.le_of_ble_eq_true rfl⟩ (c_X12_isDay e) PC_blind (pn_pre X) rfl rfl (Nat.le_of_ble_eq_true rfl) dX12_answer_23) rfl (fun v4 h => ?_)
      refine g_if_ne 32 29 X dX12_answer_26 (by decide) rfl h (fun h => ?_) (fun h => ?_)
      · refine g_aload_n 33 X 0 dX12_answer_32 rfl rfl ?_
        refine g_geti 36 X fl_X12_128_12 (o12 rfl) rfl dX12_answer_33 h rfl (fun v5 h => ?_)
        refine g_bipush 38 X dX12_answer_36 bp120 rfl ?_
        refine g_icmp_ne 44 41 X dX12_answer_38 (by decide) rfl h (fun h => ?_) (fun h => ?_)
        · refine g_aload_n 45 X 0 dX12_answer_44 rfl rfl ?_
          refine g_getr 48 X fl_X12_34_12 (o12 rfl) rfl dX12_answer_45 rfl ?_
          refine g_aload_n 49 X 0 dX12_answer_48 rfl rfl ?_
          refine g_geti 52 X fl_X12_128_12 (o12 rfl) rfl dX12_answer_49 h rfl (fun v6 h => ?_)
          refine g_iload_n 53 X 1 dX12_answer_52 rfl rfl ?_
          refine g_iast 54 X (aiR (n := 120) (by decide) rfl) dX12_answer_53 h rfl (fun μ7 h => ?_)
          refine g_aload_n 55 X 0 dX12_answer_54 rfl rfl ?_
          refine g_getr 58 X fl_X12_37_12 (o12 rfl) rfl dX12_answer_55 rfl ?_
          refine g_aload_n 59 X 0 dX12_answer_58 rfl rfl ?_
          refine g_geti 62 X fl_X12_128_12 (o12 rfl) rfl dX12_answer_59 h rfl (fun v8 h => ?_)
          refine g_iload_n 63 X 2 dX12_answer_62 rfl rfl ?_
          refine g_iast 64 X (aiR (n := 120) (by decide) rfl) dX12_answer_63 h rfl (fun μ9 h => ?_)
          refine g_aload_n 65 X 0 dX12_answer_64 rfl rfl ?_
          refine g_getr 68 X fl_X12_40_12 (o12 rfl) rfl dX12_answer_65 rfl ?_
          refine g_aload_n 69 X 0 dX12_answer_68 rfl rfl ?_
          refine g_geti 72 X fl_X12_128_12 (o12 rfl) rfl dX12_answer_69 h rfl (fun v10 h => ?_)
          refine g_iload_n 73 X 3 dX12_answer_72 rfl rfl ?_
          refine g_iast 74 X (aiR (n := 120) (by decide) rfl) dX12_answer_73 h rfl (fun μ11 h => ?_)
          refine g_aload_n 75 X 0 dX12_answer_74 rfl rfl ?_
          refine g_dup 76 X dX12_answer_75 rfl rfl ?_
          refine g_geti 79 X fl_X12_128_12 (o12 rfl) rfl dX12_answer_76 h rfl (fun v12 h => ?_)
          refine g_iconst 80 X dX12_answer_79 ic1 rfl ?_
          refine g_iadd 81 X dX12_answer_80 rfl ?_
          refine g_puti 84 X fp_X12_128_12 (o12 rfl) rfl (Nat.le_of_ble_eq_true rfl) rfl rfl dX12_answer_81 h rfl (fun μ13 h => ?_)
          refine g_aload_n 85 X 0 dX12_answer_84 rfl rfl ?_
          refine g_geti 88 X fl_X12_128_12 (o12 rfl) rfl dX12_answer_85 h rfl (fun v14 h => ?_)
          exact g_iret X hr dX12_answer_88 h
        · refine g_bipush 43 X dX12_answer_41 bpm4 rfl ?_
          exact g_iret X hr dX12_answer_43 h
      · refine g_bipush 31 X dX12_answer_29 bpm2 rfl ?_
        exact g_iret X hr dX12_answer_31 h
set_option maxRecDepth 100000 in
theorem c_X12_answer {l : Launch} {D : va_G} {ks : Nat → ClassId} {A : Nat → Prop} {ad : Nat → Nat} (hD : ∀ μ : Mem, va_D A (wsM 24 ad (shR ks ad) μ)) {F : Nat} {μ : Mem} {x1 : Int32} {x2 : Int32} {x3 : Int32} {r : Int32 × Mem}  (h : f_X12_answer F μ x1 x2 x3 = some r) : Met l yX12_answer (Cond.code yX12_answer cX12_answer 4 (some .int) :: wg) rm_X12_answer (PC D ks 24 ad (shR ks ad) μ [.ref (ad 0), .int x1, .int x2, .int x3]) (QI D 24 ad (shR ks ad) A r) 0 0 A := by
  refine met_of (by decide) (Nat.le_of_ble_eq_true rfl) hD ?_
  intro p e s m args below meth c X hr
  exact G.sub [0, 1, 2, 3] rfl (b_X12_answer_0 X hr  _ _ _ _ h)
abbrev rm_X12_asOf : Room := { frames := 2, cells := 0, slots := 0, locals := 45 }
set_option maxRecDepth 100000 in
set_option maxHeartbeats 4000000 in
theorem b_X12_asOf_0 {p : Program} {l : Launch} {e : Env} {s : State} {m : MethodId} {args : Array Value} {below : List Frame} {meth : Method} {c : Code} {D : va_G} {ks : Nat → ClassId} {A : Nat → Prop} {ad : Nat → Nat} (X : Cx p s m args meth c cX12_asOf 3 RX12 D ks A 24 ad (shR ks ad)) (hr : meth.sig.returnType = (some .int)) {F : Nat} {r : Int32 × Mem} (μ : Mem) (x1 : Int32)  (h : f_X12_asOf F  μ x1 = some r) : G p l e rm_X12_asOf s m args below meth c D A 3 (MQ below (QI D 24 ad (shR ks ad) A r) args s 0 0 A) 24 ad (shR ks ad) μ 0 [(0, .ref (ad 0)), (1, .int x1)] [] := by
  refine g_iload_n 1 X 1 dX12_asOf_0 rfl rfl ?_
  refine g_ni 4 h (fun q e => r_S X cd_X12_141_X12_isDay ⟨rfl, rfl⟩ ⟨Nat.le_of_ble_eq_true rfl, Nat.le_of_ble_eq_true rfl⟩ (c_X12_isDay e) PC_blind (pn_pre X) rfl rfl (Nat.le_of_ble_eq_true rfl) dX12_asOf_1) rfl (fun v1 h => ?_)
  refine g_if_ne 10 7 X dX12_asOf_4 (by decide) rfl h (fun h => ?_) (fun h => ?_)
  · refine g_aload_n 11 X 0 dX12_asOf_10 rfl rfl ?_
    refine g_geti 14 X fl_X12_43_12 (o12 rfl) rfl dX12_asOf_11 h rfl (fun v2 h => ?_)
    refine g_istore_n 15 X dX12_asOf_14 (by decide) rfl ?_
    refine g_aload_n 16 X 1 dX12_asOf_15 rfl rfl ?_
    refine g_iload_n 17 X 2 dX12_asOf_16 rfl rfl ?_
    refine g_puti 20 X fp_X12_43_12 (o12 rfl) rfl (Nat.le_of_ble_eq_true rfl) rfl rfl dX12_asOf_17 h rfl (fun μ3 h => ?_)
    refine g_iload_n 21 X 0 dX12_asOf_20 rfl rfl ?_
    exact g_iret X hr dX12_asOf_21 h
  · refine g_bipush 9 X dX12_asOf_7 bpm2 rfl ?_
    exact g_iret X hr dX12_asOf_9 h
set_option maxRecDepth 100000 in
theorem c_X12_asOf {l : Launch} {D : va_G} {ks : Nat → ClassId} {A : Nat → Prop} {ad : Nat → Nat} (hD : ∀ μ : Mem, va_D A (wsM 24 ad (shR ks ad) μ)) {F : Nat} {μ : Mem} {x1 : Int32} {r : Int32 × Mem}  (h : f_X12_asOf F μ x1 = some r) : Met l yX12_asOf (Cond.code yX12_asOf cX12_asOf 3 (some .int) :: wg) rm_X12_asOf (PC D ks 24 ad (shR ks ad) μ [.ref (ad 0), .int x1]) (QI D 24 ad (shR ks ad) A r) 0 0 A := by
  refine met_of (by decide) (Nat.le_of_ble_eq_true rfl) hD ?_
  intro p e s m args below meth c X hr
  exact G.sub [0, 1] rfl (b_X12_asOf_0 X hr  _ _ h)
abbrev rm_X12_manyOf : Room := { frames := 0, cells := 0, slots := 0, locals := 0 }
set_option maxRecDepth 100000 in
set_option maxHeartbeats 4000000 in
theorem b_X12_manyOf_65 {p : Program} {l : Launch} {e : Env} {s : State} {m : MethodId} {args : Array Value} {below : List Frame} {meth : Method} {c : Code} {D : va_G} {ks : Nat → ClassId} {A : Nat → Prop} {ad : Nat → Nat} (X : Cx p s m args meth c cX12_manyOf 5 RX12 D ks A 24 ad (shR ks ad)) (hr : meth.sig.returnType = (some .int)) {F : Nat} {r : Int32 × Mem} {k5 : Mem → Int32 → Int32 → Int32 → Int32 → Option (Int32 × Mem)} (hk5 : ∀ (μ : Mem) (x1 : Int32) (x2 : Int32) (x3 : Int32) (x4 : Int32), k5 μ x1 x2 x3 x4 = some r → G p l e rm_X12_manyOf s m args below meth c D A 5 (MQ below (QI D 24 ad (shR ks ad) A r) args s 0 0 A) 24 ad (shR ks ad) μ 5 [(0, .ref (ad 0)), (1, .int x1), (2, .int x2), (3, .int x3), (4, .int x4)] []) (μ : Mem) (x1 : Int32) (x2 : Int32) (x4 : Int32) (z0 : Int32) (z1 : Int32)  (h : f_X12_manyOf_b65 F k5 μ x1 x2 x4 z0 z1 = some r) : G p l e rm_X12_manyOf s m args below meth c D A 5 (MQ below (QI D 24 ad (shR ks ad) A r) args s 0 0 A) 24 ad (shR ks ad) μ 65 [(0, .ref (ad 0)), (1, .int x1), (2, .int x2), (4, .int x4)] [.int z0, .int z1] := by
  refine g_iadd 66 X dX12_manyOf_65 rfl ?_
  refine g_topi h (fun v1 h => ?_)
  refine g_istore_n 67 X dX12_manyOf_66 (by decide) rfl ?_
  refine g_iinc 70 X 4 dX12_manyOf_67 ic1 rfl (by decide) rfl ?_
  refine g_goto 5 X dX12_manyOf_70 (by decide) ?_
  exact G.sub [2, 3, 4, 1, 0] rfl (hk5 _ _ _ _ _ h)
set_option maxRecDepth 100000 in
set_option maxHeartbeats 4000000 in
theorem b_X12_manyOf_60 {p : Program} {l : Launch} {e : Env} {s : State} {m : MethodId} {args : Array Value} {below : List Frame} {meth : Method} {c : Code} {D : va_G} {ks : Nat → ClassId} {A : Nat → Prop} {ad : Nat → Nat} (X : Cx p s m args meth c cX12_manyOf 5 RX12 D ks A 24 ad (shR ks ad)) (hr : meth.sig.returnType = (some .int)) {F : Nat} {r : Int32 × Mem} {k5 : Mem → Int32 → Int32 → Int32 → Int32 → Option (Int32 × Mem)} (hk5 : ∀ (μ : Mem) (x1 : Int32) (x2 : Int32) (x3 : Int32) (x4 : Int32), k5 μ x1 x2 x3 x4 = some r → G p l e rm_X12_manyOf s m args below meth c D A 5 (MQ below (QI D 24 ad (shR ks ad) A r) args s 0 0 A) 24 ad (shR ks ad) μ 5 [(0, .ref (ad 0)), (1, .int x1), (2, .int x2), (3, .int x3), (4, .int x4)] []) (μ : Mem) (x1 : Int32) (x2 : Int32) (x4 : Int32) (z0 : Int32)  (h : f_X12_manyOf_b60 F k5 μ x1 x2 x4 z0 = some r) : G p l e rm_X12_manyOf s m args below meth c D A 5 (MQ below (QI D 24 ad (shR ks ad) A r) args s 0 0 A) 24 ad (shR ks ad) μ 60 [(0, .ref (ad 0)), (1, .int x1), (2, .int x2), (4, .int x4)] [.int z0] := by
  refine g_iconst 61 X dX12_manyOf_60 ic1 rfl ?_
  refine g_goto 65 X dX12_manyOf_61 (by decide) ?_
  exact G.sub [0, 1, 2, 3] rfl (b_X12_manyOf_65 X hr hk5 _ _ _ _ _ _ h)
set_option maxRecDepth 100000 in
set_option maxHeartbeats 4000000 in
theorem b_X12_manyOf_56 {p : Program} {l : Launch} {e : Env} {s : State} {m : MethodId} {args : Array Value} {below : List Frame} {meth : Method} {c : Code} {D : va_G} {ks : Nat → ClassId} {A : Nat → Prop} {ad : Nat → Nat} (X : Cx p s m args meth c cX12_manyOf 5 RX12 D ks A 24 ad (shR ks ad)) (hr : meth.sig.returnType = (some .int)) {F : Nat} {r : Int32 × Mem} {k5 : Mem → Int32 → Int32 → Int32 → Int32 → Option (Int32 × Mem)} (hk5 : ∀ (μ : Mem) (x1 : Int32) (x2 : Int32) (x3 : Int32) (x4 : Int32), k5 μ x1 x2 x3 x4 = some r → G p l e rm_X12_manyOf s m args below meth c D A 5 (MQ below (QI D 24 ad (shR ks ad) A r) args s 0 0 A) 24 ad (shR ks ad) μ 5 [(0, .ref (ad 0)), (1, .int x1), (2, .int x2), (3, .int x3), (4, .int x4)] []) (μ : Mem) (x1 : Int32) (x2 : Int32) (x4 : Int32) (z0 : Int32) (z1 : Int32)  (h : f_X12_manyOf_b56 F k5 μ x1 x2 x4 z0 z1 = some r) : G p l e rm_X12_manyOf s m args below meth c D A 5 (MQ below (QI D 24 ad (shR ks ad) A r) args s 0 0 A) 24 ad (shR ks ad) μ 56 [(0, .ref (ad 0)), (1, .int x1), (2, .int x2), (4, .int x4)] [.int z0, .int z1] := by
  refine g_iload_n 57 X 2 dX12_manyOf_56 rfl rfl ?_
  refine g_icmp_ne 64 60 X dX12_manyOf_57 (by decide) rfl h (fun h => ?_) (fun h => ?_)
  · refine g_iconst 65 X dX12_manyOf_64 ic0 rfl ?_
    exact G.sub [0, 1, 2, 3] rfl (b_X12_manyOf_65 X hr hk5 _ _ _ _ _ _ h)
  · exact G.sub [0, 1, 2, 3] rfl (b_X12_manyOf_60 X hr hk5 _ _ _ _ _ h)
set_option maxRecDepth 100000 in
set_option maxHeartbeats 4000000 in
theorem b_X12_manyOf_5 {p : Program} {l : Launch} {e : Env} {s : State} {m : MethodId} {args : Array Value} {below : List Frame} {meth : Method} {c : Code} {D : va_G} {ks : Nat → ClassId} {A : Nat → Prop} {ad : Nat → Nat} (X : Cx p s m args meth c cX12_manyOf 5 RX12 D ks A 24 ad (shR ks ad)) (hr : meth.sig.returnType = (some .int)) {F : Nat} {r : Int32 × Mem} : ∀ n : Nat, ∀ (μ : Mem) (x1 : Int32) (x2 : Int32) (x3 : Int32) (x4 : Int32), f_X12_manyOf_b5 F  n μ x1 x2 x3 x4 = some r → G p l e rm_X12_manyOf s m args below meth c D A 5 (MQ below (QI D 24 ad (shR ks ad) A r) args s 0 0 A) 24 ad (shR ks ad) μ 5 [(0, .ref (ad 0)), (1, .int x1), (2, .int x2), (3, .int x3), (4, .int x4)] [] := by
  intro n
  induction n with
  | zero =>
    intro _ _ _ _ _ h
    cases h
  | succ n ih =>
    intro μ x1 x2 x3 x4 h
    refine g_iload 7 X 4 dX12_manyOf_5 rfl rfl ?_
    refine g_aload_n 8 X 0 dX12_manyOf_7 rfl rfl ?_
    refine g_geti 11 X fl_X12_115_12 (o12 rfl) rfl dX12_manyOf_8 h rfl (fun v1 h => ?_)
    refine g_icmp_ge 73 14 X dX12_manyOf_11 (by decide) rfl h (fun h => ?_) (fun h => ?_)
    · refine g_iload_n 74 X 3 dX12_manyOf_73 rfl rfl ?_
      exact g_iret X hr dX12_manyOf_74 h
    · refine g_iload_n 15 X 3 dX12_manyOf_14 rfl rfl ?_
      refine g_iload_n 16 X 1 dX12_manyOf_15 rfl rfl ?_
      refine g_iconst 17 X dX12_manyOf_16 ic3 rfl ?_
      refine g_icmp_eq 60 20 X dX12_manyOf_17 (by decide) rfl h (fun h => ?_) (fun h => ?_)
      · exact G.sub [0, 1, 2, 4] rfl (b_X12_manyOf_60 X hr ih _ _ _ _ _ h)
      · refine g_iload_n 21 X 1 dX12_manyOf_20 rfl rfl ?_
        refine g_if_ne 34 24 X dX12_manyOf_21 (by decide) rfl h (fun h => ?_) (fun h => ?_)
        · refine g_iload_n 35 X 1 dX12_manyOf_34 rfl rfl ?_
          refine g_iconst 36 X dX12_manyOf_35 ic1 rfl ?_
          refine g_icmp_ne 49 39 X dX12_manyOf_36 (by decide) rfl h (fun h => ?_) (fun h => ?_)
          · refine g_aload_n 50 X 0 dX12_manyOf_49 rfl rfl ?_
            refine g_getr 53 X fl_X12_31_12 (o12 rfl) rfl dX12_manyOf_50 rfl ?_
            refine g_iload 55 X 4 dX12_manyOf_53 rfl rfl ?_
            refine g_iald 56 X (aiR (n := 30) (by decide) rfl) dX12_manyOf_55 h rfl (fun v2 h => ?_)
            exact G.sub [0, 1, 2, 4] rfl (b_X12_manyOf_56 X hr ih _ _ _ _ _ _ h)
          · refine g_aload_n 40 X 0 dX12_manyOf_39 rfl rfl ?_
            refine g_getr 43 X fl_X12_25_12 (o12 rfl) rfl dX12_manyOf_40 rfl ?_
            refine g_iload 45 X 4 dX12_manyOf_43 rfl rfl ?_
            refine g_iald 46 X (aiR (n := 30) (by decide) rfl) dX12_manyOf_45 h rfl (fun v3 h => ?_)
            refine g_goto 56 X dX12_manyOf_46 (by decide) ?_
            exact G.sub [0, 1, 2, 4] rfl (b_X12_manyOf_56 X hr ih _ _ _ _ _ _ h)
        · refine g_aload_n 25 X 0 dX12_manyOf_24 rfl rfl ?_
          refine g_getr 28 X fl_X12_22_12 (o12 rfl) rfl dX12_manyOf_25 rfl ?_
          refine g_iload 30 X 4 dX12_manyOf_28 rfl rfl ?_
          refine g_iald 31 X (aiR (n := 30) (by decide) rfl) dX12_manyOf_30 h rfl (fun v4 h => ?_)
          refine g_goto 56 X dX12_manyOf_31 (by decide) ?_
          exact G.sub [0, 1, 2, 4] rfl (b_X12_manyOf_56 X hr ih _ _ _ _ _ _ h)
set_option maxRecDepth 100000 in
set_option maxHeartbeats 4000000 in
theorem b_X12_manyOf_0 {p : Program} {l : Launch} {e : Env} {s : State} {m : MethodId} {args : Array Value} {below : List Frame} {meth : Method} {c : Code} {D : va_G} {ks : Nat → ClassId} {A : Nat → Prop} {ad : Nat → Nat} (X : Cx p s m args meth c cX12_manyOf 5 RX12 D ks A 24 ad (shR ks ad)) (hr : meth.sig.returnType = (some .int)) {F : Nat} {r : Int32 × Mem} (μ : Mem) (x1 : Int32) (x2 : Int32)  (h : f_X12_manyOf F  μ x1 x2 = some r) : G p l e rm_X12_manyOf s m args below meth c D A 5 (MQ below (QI D 24 ad (shR ks ad) A r) args s 0 0 A) 24 ad (shR ks ad) μ 0 [(0, .ref (ad 0)), (1, .int x1), (2, .int x2)] [] := by
  refine g_iconst 1 X dX12_manyOf_0 ic0 rfl ?_
  refine g_istore_n 2 X dX12_manyOf_1 (by decide) rfl ?_
  refine g_iconst 3 X dX12_manyOf_2 ic0 rfl ?_
  refine g_istore 5 X dX12_manyOf_3 (by decide) rfl ?_
  exact G.sub [2, 3, 4, 1, 0] rfl (b_X12_manyOf_5 X hr  F _ _ _ _ _ h)
set_option maxRecDepth 100000 in
theorem c_X12_manyOf {l : Launch} {D : va_G} {ks : Nat → ClassId} {A : Nat → Prop} {ad : Nat → Nat} (hD : ∀ μ : Mem, va_D A (wsM 24 ad (shR ks ad) μ)) {F : Nat} {μ : Mem} {x1 : Int32} {x2 : Int32} {r : Int32 × Mem}  (h : f_X12_manyOf F μ x1 x2 = some r) : Met l yX12_manyOf (Cond.code yX12_manyOf cX12_manyOf 5 (some .int) :: wg) rm_X12_manyOf (PC D ks 24 ad (shR ks ad) μ [.ref (ad 0), .int x1, .int x2]) (QI D 24 ad (shR ks ad) A r) 0 0 A := by
  refine met_of (by decide) (Nat.le_of_ble_eq_true rfl) hD ?_
  intro p e s m args below meth c X hr
  exact G.sub [0, 1, 2] rfl (b_X12_manyOf_0 X hr  _ _ _ h)
abbrev rm_X12_many : Room := { frames := 1, cells := 0, slots := 0, locals := 25 }
set_option maxRecDepth 100000 in
set_option maxHeartbeats 4000000 in
theorem b_X12_many_64 {p : Program} {l : Launch} {e : Env} {s : State} {m : MethodId} {args : Array Value} {below : List Frame} {meth : Method} {c : Code} {D : va_G} {ks : Nat → ClassId} {A : Nat → Prop} {ad : Nat → Nat} (X : Cx p s m args meth c cX12_many 4 RX12 D ks A 24 ad (shR ks ad)) (hr : meth.sig.returnType = (some .int)) {F : Nat} {r : Int32 × Mem} (μ : Mem) (x1 : Int32) (x2 : Int32) (z0 : Int32)  (h : f_X12_many_b64 F  μ x1 x2 z0 = some r) : G p l e rm_X12_many s m args below meth c D A 4 (MQ below (QI D 24 ad (shR ks ad) A r) args s 0 0 A) 24 ad (shR ks ad) μ 64 [(0, .ref (ad 0)), (1, .int x1), (2, .int x2)] [.int z0] := by
  refine g_istore_n 65 X dX12_many_64 (by decide) rfl ?_
  refine g_iload_n 66 X 0 dX12_many_65 rfl rfl ?_
  refine g_if_eq 78 69 X dX12_many_66 (by decide) rfl h (fun h => ?_) (fun h => ?_)
  · refine g_bipush 80 X dX12_many_78 bpm2 rfl ?_
    exact g_iret X hr dX12_many_80 h
  · refine g_aload_n 70 X 1 dX12_many_69 rfl rfl ?_
    refine g_iload_n 71 X 2 dX12_many_70 rfl rfl ?_
    refine g_iload_n 72 X 3 dX12_many_71 rfl rfl ?_
    refine g_ci 75 h (fun q e => r_V X cd_X12_144_X12_manyOf_X12 ⟨rfl, rfl⟩ ⟨Nat.le_of_ble_eq_true rfl, Nat.le_of_ble_eq_true rfl⟩ (c_X12_manyOf X.2.2.2.2  e) PC_blind (pc_pre X) (g_recv X (o12 rfl) rfl) rfl rfl (Nat.le_of_ble_eq_true rfl) dX12_many_72) rfl (fun v1 μ2 h => ?_)
    refine g_goto 80 X dX12_many_75 (by decide) ?_
    exact g_iret X hr dX12_many_80 h
set_option maxRecDepth 100000 in
set_option maxHeartbeats 4000000 in
theorem b_X12_many_63 {p : Program} {l : Launch} {e : Env} {s : State} {m : MethodId} {args : Array Value} {below : List Frame} {meth : Method} {c : Code} {D : va_G} {ks : Nat → ClassId} {A : Nat → Prop} {ad : Nat → Nat} (X : Cx p s m args meth c cX12_many 4 RX12 D ks A 24 ad (shR ks ad)) (hr : meth.sig.returnType = (some .int)) {F : Nat} {r : Int32 × Mem} (μ : Mem) (x1 : Int32) (x2 : Int32)  (h : f_X12_many_b63 F  μ x1 x2 = some r) : G p l e rm_X12_many s m args below meth c D A 4 (MQ below (QI D 24 ad (shR ks ad) A r) args s 0 0 A) 24 ad (shR ks ad) μ 63 [(0, .ref (ad 0)), (1, .int x1), (2, .int x2)] [] := by
  refine g_iconst 64 X dX12_many_63 ic0 rfl ?_
  exact G.sub [0, 1, 2] rfl (b_X12_many_64 X hr  _ _ _ _ h)
set_option maxRecDepth 100000 in
set_option maxHeartbeats 4000000 in
theorem b_X12_many_0 {p : Program} {l : Launch} {e : Env} {s : State} {m : MethodId} {args : Array Value} {below : List Frame} {meth : Method} {c : Code} {D : va_G} {ks : Nat → ClassId} {A : Nat → Prop} {ad : Nat → Nat} (X : Cx p s m args meth c cX12_many 4 RX12 D ks A 24 ad (shR ks ad)) (hr : meth.sig.returnType = (some .int)) {F : Nat} {r : Int32 × Mem} (μ : Mem) (x1 : Int32) (x2 : Int32)  (h : f_X12_many F  μ x1 x2 = some r) : G p l e rm_X12_many s m args below meth c D A 4 (MQ below (QI D 24 ad (shR ks ad) A r) args s 0 0 A) 24 ad (shR ks ad) μ 0 [(0, .ref (ad 0)), (1, .int x1), (2, .int x2)] [] := by
  refine g_iload_n 1 X 1 dX12_many_0 rfl rfl ?_
  refine g_if_ne 16 4 X dX12_many_1 (by decide) rfl h (fun h => ?_) (fun h => ?_)
  · refine g_iload_n 17 X 1 dX12_many_16 rfl rfl ?_
    refine g_iconst 18 X dX12_many_17 ic1 rfl ?_
    refine g_icmp_ne 33 21 X dX12_many_18 (by decide) rfl h (fun h => ?_) (fun h => ?_)
    · refine g_iload_n 34 X 1 dX12_many_33 rfl rfl ?_
      refine g_iconst 35 X dX12_many_34 ic2 rfl ?_
      refine g_icmp_ne 50 38 X dX12_many_35 (by decide) rfl h (fun h => ?_) (fun h => ?_)
      · refine g_iload_n 51 X 1 dX12_many_50 rfl rfl ?_
        refine g_iconst 52 X dX12_many_51 ic3 rfl ?_
        refine g_icmp_ne 63 55 X dX12_many_52 (by decide) rfl h (fun h => ?_) (fun h => ?_)
        · exact G.sub [0, 1, 2] rfl (b_X12_many_63 X hr  _ _ _ h)
        · refine g_iload_n 56 X 2 dX12_many_55 rfl rfl ?_
          refine g_if_ne 63 59 X dX12_many_56 (by decide) rfl h (fun h => ?_) (fun h => ?_)
          · exact G.sub [0, 1, 2] rfl (b_X12_many_63 X hr  _ _ _ h)
          · refine g_iconst 60 X dX12_many_59 ic1 rfl ?_
            refine g_goto 64 X dX12_many_60 (by decide) ?_
            exact G.sub [0, 1, 2] rfl (b_X12_many_64 X hr  _ _ _ _ h)
      · refine g_iload_n 39 X 2 dX12_many_38 rfl rfl ?_
        refine g_i2l 40 X dX12_many_39 rfl ?_
        refine g_lconst 41 X dX12_many_40 lc0 rfl ?_
        refine g_ldc2 44 X m1148 dX12_many_41 rfl ?_
        refine g_ni 47 h (fun q e => r_S X cd_X12_92_X12_in ⟨rfl, rfl⟩ ⟨Nat.le_of_ble_eq_true rfl, Nat.le_of_ble_eq_true rfl⟩ (c_X12_in e) PC_blind (pn_pre X) rfl rfl (Nat.le_of_ble_eq_true rfl) dX12_many_44) rfl (fun v1 h => ?_)
        refine g_goto 64 X dX12_many_47 (by decide) ?_
        exact G.sub [0, 1, 2] rfl (b_X12_many_64 X hr  _ _ _ _ h)
    · refine g_iload_n 22 X 2 dX12_many_21 rfl rfl ?_
      refine g_i2l 23 X dX12_many_22 rfl ?_
      refine g_lconst 24 X dX12_many_23 lc0 rfl ?_
      refine g_ldc2 27 X m1181 dX12_many_24 rfl ?_
      refine g_ni 30 h (fun q e => r_S X cd_X12_92_X12_in ⟨rfl, rfl⟩ ⟨Nat.le_of_ble_eq_true rfl, Nat.le_of_ble_eq_true rfl⟩ (c_X12_in e) PC_blind (pn_pre X) rfl rfl (Nat.le_of_ble_eq_true rfl) dX12_many_27) rfl (fun v2 h => ?_)
      refine g_goto 64 X dX12_many_30 (by decide) ?_
      exact G.sub [0, 1, 2] rfl (b_X12_many_64 X hr  _ _ _ _ h)
  · refine g_iload_n 5 X 2 dX12_many_4 rfl rfl ?_
    refine g_i2l 6 X dX12_many_5 rfl ?_
    refine g_lconst 7 X dX12_many_6 lc0 rfl ?_
    refine g_ldc2 10 X m1144 dX12_many_7 rfl ?_
    refine g_ni 13 h (fun q e => r_S X cd_X12_92_X12_in ⟨rfl, rfl⟩ ⟨Nat.le_of_ble_eq_true rfl, Nat.le_of_ble_eq_true rfl⟩ (c_X12_in e) PC_blind (pn_pre X) rfl rfl (Nat.le_of_ble_eq_true rfl) dX12_many_10) rfl (fun v3 h => ?_)
    refine g_goto 64 X dX12_many_13 (by decide) ?_
    exact G.sub [0, 1, 2] rfl (b_X12_many_64 X hr  _ _ _ _ h)
set_option maxRecDepth 100000 in
theorem c_X12_many {l : Launch} {D : va_G} {ks : Nat → ClassId} {A : Nat → Prop} {ad : Nat → Nat} (hD : ∀ μ : Mem, va_D A (wsM 24 ad (shR ks ad) μ)) {F : Nat} {μ : Mem} {x1 : Int32} {x2 : Int32} {r : Int32 × Mem}  (h : f_X12_many F μ x1 x2 = some r) : Met l yX12_many (Cond.code yX12_many cX12_many 4 (some .int) :: wg) rm_X12_many (PC D ks 24 ad (shR ks ad) μ [.ref (ad 0), .int x1, .int x2]) (QI D 24 ad (shR ks ad) A r) 0 0 A := by
  refine met_of (by decide) (Nat.le_of_ble_eq_true rfl) hD ?_
  intro p e s m args below meth c X hr
  exact G.sub [0, 1, 2] rfl (b_X12_many_0 X hr  _ _ _ h)
abbrev rm_X12_clustersNow : Room := { frames := 1, cells := 0, slots := 0, locals := 24 }
set_option maxRecDepth 100000 in
set_option maxHeartbeats 4000000 in
theorem b_X12_clustersNow_25 {p : Program} {l : Launch} {e : Env} {s : State} {m : MethodId} {args : Array Value} {below : List Frame} {meth : Method} {c : Code} {D : va_G} {ks : Nat → ClassId} {A : Nat → Prop} {ad : Nat → Nat} (X : Cx p s m args meth c cX12_clustersNow 3 RX12 D ks A 24 ad (shR ks ad)) (hr : meth.sig.returnType = (some .int)) {F : Nat} {r : Int32 × Mem} {k4 : Mem → Int32 → Int32 → Option (Int32 × Mem)} (hk4 : ∀ (μ : Mem) (x1 : Int32) (x2 : Int32), k4 μ x1 x2 = some r → G p l e rm_X12_clustersNow s m args below meth c D A 3 (MQ below (QI D 24 ad (shR ks ad) A r) args s 0 0 A) 24 ad (shR ks ad) μ 4 [(0, .ref (ad 0)), (1, .int x1), (2, .int x2)] []) (μ : Mem) (x2 : Int32) (z0 : Int32) (z1 : Int32)  (h : f_X12_clustersNow_b25 F k4 μ x2 z0 z1 = some r) : G p l e rm_X12_clustersNow s m args below meth c D A 3 (MQ below (QI D 24 ad (shR ks ad) A r) args s 0 0 A) 24 ad (shR ks ad) μ 25 [(0, .ref (ad 0)), (2, .int x2)] [.int z0, .int z1] := by
  refine g_iadd 26 X dX12_clustersNow_25 rfl ?_
  refine g_topi h (fun v1 h => ?_)
  refine g_istore_n 27 X dX12_clustersNow_26 (by decide) rfl ?_
  refine g_iinc 30 X 2 dX12_clustersNow_27 ic1 rfl (by decide) rfl ?_
  refine g_goto 4 X dX12_clustersNow_30 (by decide) ?_
  exact G.sub [2, 1, 0] rfl (hk4 _ _ _ h)
set_option maxRecDepth 100000 in
set_option maxHeartbeats 4000000 in
theorem b_X12_clustersNow_4 {p : Program} {l : Launch} {e : Env} {s : State} {m : MethodId} {args : Array Value} {below : List Frame} {meth : Method} {c : Code} {D : va_G} {ks : Nat → ClassId} {A : Nat → Prop} {ad : Nat → Nat} (X : Cx p s m args meth c cX12_clustersNow 3 RX12 D ks A 24 ad (shR ks ad)) (hr : meth.sig.returnType = (some .int)) {F : Nat} {r : Int32 × Mem} : ∀ n : Nat, ∀ (μ : Mem) (x1 : Int32) (x2 : Int32), f_X12_clustersNow_b4 F  n μ x1 x2 = some r → G p l e rm_X12_clustersNow s m args below meth c D A 3 (MQ below (QI D 24 ad (shR ks ad) A r) args s 0 0 A) 24 ad (shR ks ad) μ 4 [(0, .ref (ad 0)), (1, .int x1), (2, .int x2)] [] := by
  intro n
  induction n with
  | zero =>
    intro _ _ _ h
    cases h
  | succ n ih =>
    intro μ x1 x2 h
    refine g_iload_n 5 X 2 dX12_clustersNow_4 rfl rfl ?_
    refine g_bipush 7 X dX12_clustersNow_5 bp8 rfl ?_
    refine g_icmp_ge 33 10 X dX12_clustersNow_7 (by decide) rfl h (fun h => ?_) (fun h => ?_)
    · refine g_iload_n 34 X 1 dX12_clustersNow_33 rfl rfl ?_
      exact g_iret X hr dX12_clustersNow_34 h
    · refine g_iload_n 11 X 1 dX12_clustersNow_10 rfl rfl ?_
      refine g_aload_n 12 X 0 dX12_clustersNow_11 rfl rfl ?_
      refine g_iconst 13 X dX12_clustersNow_12 ic1 rfl ?_
      refine g_iload_n 14 X 2 dX12_clustersNow_13 rfl rfl ?_
      refine g_ci 17 h (fun q e => r_V X cd_X12_144_X12_manyOf_X12 ⟨rfl, rfl⟩ ⟨Nat.le_of_ble_eq_true rfl, Nat.le_of_ble_eq_true rfl⟩ (c_X12_manyOf X.2.2.2.2  e) PC_blind (pc_pre X) (g_recv X (o12 rfl) rfl) rfl rfl (Nat.le_of_ble_eq_true rfl) dX12_clustersNow_14) rfl (fun v1 μ2 h => ?_)
      refine g_if_le 24 20 X dX12_clustersNow_17 (by decide) rfl h (fun h => ?_) (fun h => ?_)
      · refine g_iconst 25 X dX12_clustersNow_24 ic0 rfl ?_
        exact G.sub [0, 2] rfl (b_X12_clustersNow_25 X hr ih _ _ _ _ h)
      · refine g_iconst 21 X dX12_clustersNow_20 ic1 rfl ?_
        refine g_goto 25 X dX12_clustersNow_21 (by decide) ?_
        exact G.sub [0, 2] rfl (b_X12_clustersNow_25 X hr ih _ _ _ _ h)
set_option maxRecDepth 100000 in
set_option maxHeartbeats 4000000 in
theorem b_X12_clustersNow_0 {p : Program} {l : Launch} {e : Env} {s : State} {m : MethodId} {args : Array Value} {below : List Frame} {meth : Method} {c : Code} {D : va_G} {ks : Nat → ClassId} {A : Nat → Prop} {ad : Nat → Nat} (X : Cx p s m args meth c cX12_clustersNow 3 RX12 D ks A 24 ad (shR ks ad)) (hr : meth.sig.returnType = (some .int)) {F : Nat} {r : Int32 × Mem} (μ : Mem)  (h : f_X12_clustersNow F  μ = some r) : G p l e rm_X12_clustersNow s m args below meth c D A 3 (MQ below (QI D 24 ad (shR ks ad) A r) args s 0 0 A) 24 ad (shR ks ad) μ 0 [(0, .ref (ad 0))] [] := by
  refine g_iconst 1 X dX12_clustersNow_0 ic0 rfl ?_
  refine g_istore_n 2 X dX12_clustersNow_1 (by decide) rfl ?_
  refine g_iconst 3 X dX12_clustersNow_2 ic0 rfl ?_
  refine g_istore_n 4 X dX12_clustersNow_3 (by decide) rfl ?_
  exact G.sub [2, 1, 0] rfl (b_X12_clustersNow_4 X hr  F _ _ _ h)
set_option maxRecDepth 100000 in
theorem c_X12_clustersNow {l : Launch} {D : va_G} {ks : Nat → ClassId} {A : Nat → Prop} {ad : Nat → Nat} (hD : ∀ μ : Mem, va_D A (wsM 24 ad (shR ks ad) μ)) {F : Nat} {μ : Mem} {r : Int32 × Mem}  (h : f_X12_clustersNow F μ = some r) : Met l yX12_clustersNow (Cond.code yX12_clustersNow cX12_clustersNow 3 (some .int) :: wg) rm_X12_clustersNow (PC D ks 24 ad (shR ks ad) μ [.ref (ad 0)]) (QI D 24 ad (shR ks ad) A r) 0 0 A := by
  refine met_of (by decide) (Nat.le_of_ble_eq_true rfl) hD ?_
  intro p e s m args below meth c X hr
  exact G.sub [0] rfl (b_X12_clustersNow_0 X hr  _ h)
abbrev rm_X12_allSizes : Room := { frames := 0, cells := 0, slots := 0, locals := 0 }
set_option maxRecDepth 100000 in
set_option maxHeartbeats 4000000 in
theorem b_X12_allSizes_4 {p : Program} {l : Launch} {e : Env} {s : State} {m : MethodId} {args : Array Value} {below : List Frame} {meth : Method} {c : Code} {D : va_G} {ks : Nat → ClassId} {A : Nat → Prop} {ad : Nat → Nat} (X : Cx p s m args meth c cX12_allSizes 3 RX12 D ks A 24 ad (shR ks ad)) (hr : meth.sig.returnType = (some .int)) {F : Nat} {r : Int32 × Mem} : ∀ n : Nat, ∀ (μ : Mem) (x1 : Int32) (x2 : Int32), f_X12_allSizes_b4 F  n μ x1 x2 = some r → G p l e rm_X12_allSizes s m args below meth c D A 3 (MQ below (QI D 24 ad (shR ks ad) A r) args s 0 0 A) 24 ad (shR ks ad) μ 4 [(0, .ref (ad 0)), (1, .int x1), (2, .int x2)] [] := by
  intro n
  induction n with
  | zero =>
    intro _ _ _ h
    cases h
  | succ n ih =>
    intro μ x1 x2 h
    refine g_iload_n 5 X 2 dX12_allSizes_4 rfl rfl ?_
    refine g_aload_n 6 X 0 dX12_allSizes_5 rfl rfl ?_
    refine g_geti 9 X fl_X12_115_12 (o12 rfl) rfl dX12_allSizes_6 h rfl (fun v1 h => ?_)
    refine g_icmp_ge 27 12 X dX12_allSizes_9 (by decide) rfl h (fun h => ?_) (fun h => ?_)
    · refine g_iload_n 28 X 1 dX12_allSizes_27 rfl rfl ?_
      exact g_iret X hr dX12_allSizes_28 h
    · refine g_iload_n 13 X 1 dX12_allSizes_12 rfl rfl ?_
      refine g_aload_n 14 X 0 dX12_allSizes_13 rfl rfl ?_
      refine g_getr 17 X fl_X12_28_12 (o12 rfl) rfl dX12_allSizes_14 rfl ?_
      refine g_iload_n 18 X 2 dX12_allSizes_17 rfl rfl ?_
      refine g_iald 19 X (aiR (n := 30) (by decide) rfl) dX12_allSizes_18 h rfl (fun v2 h => ?_)
      refine g_iadd 20 X dX12_allSizes_19 rfl ?_
      refine g_topi h (fun v3 h => ?_)
      refine g_istore_n 21 X dX12_allSizes_20 (by decide) rfl ?_
      refine g_iinc 24 X 2 dX12_allSizes_21 ic1 rfl (by decide) rfl ?_
      refine g_goto 4 X dX12_allSizes_24 (by decide) ?_
      exact G.sub [2, 1, 0] rfl (ih _ _ _ h)
set_option maxRecDepth 100000 in
set_option maxHeartbeats 4000000 in
theorem b_X12_allSizes_0 {p : Program} {l : Launch} {e : Env} {s : State} {m : MethodId} {args : Array Value} {below : List Frame} {meth : Method} {c : Code} {D : va_G} {ks : Nat → ClassId} {A : Nat → Prop} {ad : Nat → Nat} (X : Cx p s m args meth c cX12_allSizes 3 RX12 D ks A 24 ad (shR ks ad)) (hr : meth.sig.returnType = (some .int)) {F : Nat} {r : Int32 × Mem} (μ : Mem)  (h : f_X12_allSizes F  μ = some r) : G p l e rm_X12_allSizes s m args below meth c D A 3 (MQ below (QI D 24 ad (shR ks ad) A r) args s 0 0 A) 24 ad (shR ks ad) μ 0 [(0, .ref (ad 0))] [] := by
  refine g_iconst 1 X dX12_allSizes_0 ic0 rfl ?_
  refine g_istore_n 2 X dX12_allSizes_1 (by decide) rfl ?_
  refine g_iconst 3 X dX12_allSizes_2 ic0 rfl ?_
  refine g_istore_n 4 X dX12_allSizes_3 (by decide) rfl ?_
  exact G.sub [2, 1, 0] rfl (b_X12_allSizes_4 X hr  F _ _ _ h)
set_option maxRecDepth 100000 in
theorem c_X12_allSizes {l : Launch} {D : va_G} {ks : Nat → ClassId} {A : Nat → Prop} {ad : Nat → Nat} (hD : ∀ μ : Mem, va_D A (wsM 24 ad (shR ks ad) μ)) {F : Nat} {μ : Mem} {r : Int32 × Mem}  (h : f_X12_allSizes F μ = some r) : Met l yX12_allSizes (Cond.code yX12_allSizes cX12_allSizes 3 (some .int) :: wg) rm_X12_allSizes (PC D ks 24 ad (shR ks ad) μ [.ref (ad 0)]) (QI D 24 ad (shR ks ad) A r) 0 0 A := by
  refine met_of (by decide) (Nat.le_of_ble_eq_true rfl) hD ?_
  intro p e s m args below meth c X hr
  exact G.sub [0] rfl (b_X12_allSizes_0 X hr  _ h)
abbrev rm_X12_isPlan : Room := { frames := 1, cells := 0, slots := 0, locals := 25 }
set_option maxRecDepth 100000 in
set_option maxHeartbeats 4000000 in
theorem b_X12_isPlan_0 {p : Program} {l : Launch} {e : Env} {s : State} {m : MethodId} {args : Array Value} {below : List Frame} {meth : Method} {c : Code} {D : va_G} {ks : Nat → ClassId} (X : Cx p s m args meth c cX12_isPlan 1 RX12 D ks (fun _ => False) 0 ad0 sh0) (hr : meth.sig.returnType = (some .boolean)) {F : Nat} {r : Int32} (x0 : Int32)  (h : f_X12_isPlan F  x0 = some r) : G p l e rm_X12_isPlan s m args below meth c D (fun _ => False) 1 (MQ below (QNi D r) args s 0 0 (fun _ => False)) 0 ad0 sh0 μ0 0 [(0, .int x0)] [] := by
  refine g_iload_n 1 X 0 dX12_isPlan_0 rfl rfl ?_
  refine g_i2l 2 X dX12_isPlan_1 rfl ?_
  refine g_lconst 3 X dX12_isPlan_2 lc0 rfl ?_
  refine g_ldc2 6 X m1144 dX12_isPlan_3 rfl ?_
  refine g_ni 9 h (fun q e => r_S X cd_X12_92_X12_in ⟨rfl, rfl⟩ ⟨Nat.le_of_ble_eq_true rfl, Nat.le_of_ble_eq_true rfl⟩ (c_X12_in e) PC_blind (pn_pre X) rfl rfl (Nat.le_of_ble_eq_true rfl) dX12_isPlan_6) rfl (fun v1 h => ?_)
  obtain ⟨hz, h⟩ := zk_some h
  exact gn_zret X hr hz dX12_isPlan_9 h
set_option maxRecDepth 100000 in
theorem c_X12_isPlan {l : Launch} {D : va_G} {ks : Nat → ClassId} {F : Nat} {x0 : Int32} {r : Int32}  (h : f_X12_isPlan F x0 = some r) : Met l yX12_isPlan (Cond.code yX12_isPlan cX12_isPlan 1 (some .boolean) :: wg) rm_X12_isPlan (PN D ks [.int x0]) (QNi D r) 0 0 (fun _ => False) := by
  refine met_of (by decide) (Nat.le_of_ble_eq_true rfl) d0 ?_
  intro p e s m args below meth c X hr
  exact G.sub [0] rfl (b_X12_isPlan_0 X hr  _ h)
abbrev rm_X12_type : Room := { frames := 2, cells := 0, slots := 0, locals := 45 }
set_option maxRecDepth 100000 in
set_option maxHeartbeats 4000000 in
theorem b_X12_type_0 {p : Program} {l : Launch} {e : Env} {s : State} {m : MethodId} {args : Array Value} {below : List Frame} {meth : Method} {c : Code} {D : va_G} {ks : Nat → ClassId} {A : Nat → Prop} {ad : Nat → Nat} (X : Cx p s m args meth c cX12_type 3 RX12 D ks A 24 ad (shR ks ad)) (hr : meth.sig.returnType = (some .int)) {F : Nat} {r : Int32 × Mem} (μ : Mem) (x1 : Int32) (x2 : Int32)  (h : f_X12_type F  μ x1 x2 = some r) : G p l e rm_X12_type s m args below meth c D A 3 (MQ below (QI D 24 ad (shR ks ad) A r) args s 0 0 A) 24 ad (shR ks ad) μ 0 [(0, .ref (ad 0)), (1, .int x1), (2, .int x2)] [] := by
  refine g_iload_n 1 X 1 dX12_type_0 rfl rfl ?_
  refine g_ni 4 h (fun q e => r_S X cd_X12_147_X12_isPlan ⟨rfl, rfl⟩ ⟨Nat.le_of_ble_eq_true rfl, Nat.le_of_ble_eq_true rfl⟩ (c_X12_isPlan e) PC_blind (pn_pre X) rfl rfl (Nat.le_of_ble_eq_true rfl) dX12_type_1) rfl (fun v1 h => ?_)
  refine g_if_eq 19 7 X dX12_type_4 (by decide) rfl h (fun h => ?_) (fun h => ?_)
  · refine g_bipush 21 X dX12_type_19 bpm2 rfl ?_
    exact g_iret X hr dX12_type_21 h
  · refine g_iload_n 8 X 2 dX12_type_7 rfl rfl ?_
    refine g_i2l 9 X dX12_type_8 rfl ?_
    refine g_lconst 10 X dX12_type_9 lc0 rfl ?_
    refine g_ldc2 13 X m1229 dX12_type_10 rfl ?_
    refine g_ni 16 h (fun q e => r_S X cd_X12_92_X12_in ⟨rfl, rfl⟩ ⟨Nat.le_of_ble_eq_true rfl, Nat.le_of_ble_eq_true rfl⟩ (c_X12_in e) PC_blind (pn_pre X) rfl rfl (Nat.le_of_ble_eq_true rfl) dX12_type_13) rfl (fun v2 h => ?_)
    refine g_if_ne 22 19 X dX12_type_16 (by decide) rfl h (fun h => ?_) (fun h => ?_)
    · refine g_aload_n 23 X 0 dX12_type_22 rfl rfl ?_
      refine g_getr 26 X fl_X12_50_12 (o12 rfl) rfl dX12_type_23 rfl ?_
      refine g_iload_n 27 X 1 dX12_type_26 rfl rfl ?_
      refine g_iald 28 X (aiR (n := 4) (by decide) rfl) dX12_type_27 h rfl (fun v3 h => ?_)
      refine g_bipush 30 X dX12_type_28 bp20 rfl ?_
      refine g_icmp_ne 36 33 X dX12_type_30 (by decide) rfl h (fun h => ?_) (fun h => ?_)
      · refine g_aload_n 37 X 0 dX12_type_36 rfl rfl ?_
        refine g_getr 40 X fl_X12_47_12 (o12 rfl) rfl dX12_type_37 rfl ?_
        refine g_bipush 42 X dX12_type_40 bp20 rfl ?_
        refine g_iload_n 43 X 1 dX12_type_42 rfl rfl ?_
        refine g_imul 44 X dX12_type_43 rfl ?_
        refine g_aload_n 45 X 0 dX12_type_44 rfl rfl ?_
        refine g_getr 48 X fl_X12_50_12 (o12 rfl) rfl dX12_type_45 rfl ?_
        refine g_iload_n 49 X 1 dX12_type_48 rfl rfl ?_
        refine g_iald 50 X (aiR (n := 4) (by decide) rfl) dX12_type_49 h rfl (fun v4 h => ?_)
        refine g_iadd 51 X dX12_type_50 rfl ?_
        refine g_iload_n 52 X 2 dX12_type_51 rfl rfl ?_
        refine g_iast 53 X (aiR (n := 80) (by decide) rfl) dX12_type_52 h rfl (fun μ5 h => ?_)
        refine g_aload_n 54 X 0 dX12_type_53 rfl rfl ?_
        refine g_getr 57 X fl_X12_50_12 (o12 rfl) rfl dX12_type_54 rfl ?_
        refine g_iload_n 58 X 1 dX12_type_57 rfl rfl ?_
        refine g_dup2 59 X dX12_type_58 rfl rfl rfl ?_
        refine g_iald 60 X (aiR (n := 4) (by decide) rfl) dX12_type_59 h rfl (fun v6 h => ?_)
        refine g_iconst 61 X dX12_type_60 ic1 rfl ?_
        refine g_iadd 62 X dX12_type_61 rfl ?_
        refine g_iast 63 X (aiR (n := 4) (by decide) rfl) dX12_type_62 h rfl (fun μ7 h => ?_)
        refine g_aload_n 64 X 0 dX12_type_63 rfl rfl ?_
        refine g_getr 67 X fl_X12_50_12 (o12 rfl) rfl dX12_type_64 rfl ?_
        refine g_iload_n 68 X 1 dX12_type_67 rfl rfl ?_
        refine g_iald 69 X (aiR (n := 4) (by decide) rfl) dX12_type_68 h rfl (fun v8 h => ?_)
        exact g_iret X hr dX12_type_69 h
      · refine g_bipush 35 X dX12_type_33 bpm4 rfl ?_
        exact g_iret X hr dX12_type_35 h
    · refine g_bipush 21 X dX12_type_19 bpm2 rfl ?_
      exact g_iret X hr dX12_type_21 h
set_option maxRecDepth 100000 in
theorem c_X12_type {l : Launch} {D : va_G} {ks : Nat → ClassId} {A : Nat → Prop} {ad : Nat → Nat} (hD : ∀ μ : Mem, va_D A (wsM 24 ad (shR ks ad) μ)) {F : Nat} {μ : Mem} {x1 : Int32} {x2 : Int32} {r : Int32 × Mem}  (h : f_X12_type F μ x1 x2 = some r) : Met l yX12_type (Cond.code yX12_type cX12_type 3 (some .int) :: wg) rm_X12_type (PC D ks 24 ad (shR ks ad) μ [.ref (ad 0), .int x1, .int x2]) (QI D 24 ad (shR ks ad) A r) 0 0 A := by
  refine met_of (by decide) (Nat.le_of_ble_eq_true rfl) hD ?_
  intro p e s m args below meth c X hr
  exact G.sub [0, 1, 2] rfl (b_X12_type_0 X hr  _ _ _ h)
abbrev rm_X12_wipe : Room := { frames := 2, cells := 0, slots := 0, locals := 45 }
set_option maxRecDepth 100000 in
set_option maxHeartbeats 4000000 in
theorem b_X12_wipe_0 {p : Program} {l : Launch} {e : Env} {s : State} {m : MethodId} {args : Array Value} {below : List Frame} {meth : Method} {c : Code} {D : va_G} {ks : Nat → ClassId} {A : Nat → Prop} {ad : Nat → Nat} (X : Cx p s m args meth c cX12_wipe 3 RX12 D ks A 24 ad (shR ks ad)) (hr : meth.sig.returnType = (some .int)) {F : Nat} {r : Int32 × Mem} (μ : Mem) (x1 : Int32)  (h : f_X12_wipe F  μ x1 = some r) : G p l e rm_X12_wipe s m args below meth c D A 3 (MQ below (QI D 24 ad (shR ks ad) A r) args s 0 0 A) 24 ad (shR ks ad) μ 0 [(0, .ref (ad 0)), (1, .int x1)] [] := by
  refine g_iload_n 1 X 1 dX12_wipe_0 rfl rfl ?_
  refine g_ni 4 h (fun q e => r_S X cd_X12_147_X12_isPlan ⟨rfl, rfl⟩ ⟨Nat.le_of_ble_eq_true rfl, Nat.le_of_ble_eq_true rfl⟩ (c_X12_isPlan e) PC_blind (pn_pre X) rfl rfl (Nat.le_of_ble_eq_true rfl) dX12_wipe_1) rfl (fun v1 h => ?_)
  refine g_if_ne 10 7 X dX12_wipe_4 (by decide) rfl h (fun h => ?_) (fun h => ?_)
  · refine g_aload_n 11 X 0 dX12_wipe_10 rfl rfl ?_
    refine g_getr 14 X fl_X12_50_12 (o12 rfl) rfl dX12_wipe_11 rfl ?_
    refine g_iload_n 15 X 1 dX12_wipe_14 rfl rfl ?_
    refine g_iald 16 X (aiR (n := 4) (by decide) rfl) dX12_wipe_15 h rfl (fun v2 h => ?_)
    refine g_istore_n 17 X dX12_wipe_16 (by decide) rfl ?_
    refine g_aload_n 18 X 1 dX12_wipe_17 rfl rfl ?_
    refine g_getr 21 X fl_X12_50_12 (o12 rfl) rfl dX12_wipe_18 rfl ?_
    refine g_iload_n 22 X 2 dX12_wipe_21 rfl rfl ?_
    refine g_iconst 23 X dX12_wipe_22 ic0 rfl ?_
    refine g_iast 24 X (aiR (n := 4) (by decide) rfl) dX12_wipe_23 h rfl (fun μ3 h => ?_)
    refine g_iload_n 25 X 0 dX12_wipe_24 rfl rfl ?_
    exact g_iret X hr dX12_wipe_25 h
  · refine g_bipush 9 X dX12_wipe_7 bpm2 rfl ?_
    exact g_iret X hr dX12_wipe_9 h
set_option maxRecDepth 100000 in
theorem c_X12_wipe {l : Launch} {D : va_G} {ks : Nat → ClassId} {A : Nat → Prop} {ad : Nat → Nat} (hD : ∀ μ : Mem, va_D A (wsM 24 ad (shR ks ad) μ)) {F : Nat} {μ : Mem} {x1 : Int32} {r : Int32 × Mem}  (h : f_X12_wipe F μ x1 = some r) : Met l yX12_wipe (Cond.code yX12_wipe cX12_wipe 3 (some .int) :: wg) rm_X12_wipe (PC D ks 24 ad (shR ks ad) μ [.ref (ad 0), .int x1]) (QI D 24 ad (shR ks ad) A r) 0 0 A := by
  refine met_of (by decide) (Nat.le_of_ble_eq_true rfl) hD ?_
  intro p e s m args below meth c X hr
  exact G.sub [0, 1] rfl (b_X12_wipe_0 X hr  _ _ h)
abbrev rm_X12_here : Room := { frames := 0, cells := 0, slots := 0, locals := 0 }
set_option maxRecDepth 100000 in
set_option maxHeartbeats 4000000 in
theorem b_X12_here_0 {p : Program} {l : Launch} {e : Env} {s : State} {m : MethodId} {args : Array Value} {below : List Frame} {meth : Method} {c : Code} {D : va_G} {ks : Nat → ClassId} {A : Nat → Prop} {ad : Nat → Nat} (X : Cx p s m args meth c cX12_here 2 RX12 D ks A 24 ad (shR ks ad)) (hr : meth.sig.returnType = (some .int)) {F : Nat} {r : Int32 × Mem} (μ : Mem) (x1 : Int32)  (h : f_X12_here F  μ x1 = some r) : G p l e rm_X12_here s m args below meth c D A 2 (MQ below (QI D 24 ad (shR ks ad) A r) args s 0 0 A) 24 ad (shR ks ad) μ 0 [(0, .ref (ad 0)), (1, .int x1)] [] := by
  refine g_aload_n 1 X 0 dX12_here_0 rfl rfl ?_
  refine g_geti 4 X fl_X12_152_12 (o12 rfl) rfl dX12_here_1 h rfl (fun v1 h => ?_)
  refine g_aload_n 5 X 0 dX12_here_4 rfl rfl ?_
  refine g_getr 8 X fl_X12_50_12 (o12 rfl) rfl dX12_here_5 rfl ?_
  refine g_iload_n 9 X 1 dX12_here_8 rfl rfl ?_
  refine g_iald 10 X (aiR (n := 4) (by decide) rfl) dX12_here_9 h rfl (fun v2 h => ?_)
  refine g_icmp_ge 30 13 X dX12_here_10 (by decide) rfl h (fun h => ?_) (fun h => ?_)
  · refine g_iconst 31 X dX12_here_30 icm1 rfl ?_
    exact g_iret X hr dX12_here_31 h
  · refine g_aload_n 14 X 0 dX12_here_13 rfl rfl ?_
    refine g_getr 17 X fl_X12_47_12 (o12 rfl) rfl dX12_here_14 rfl ?_
    refine g_bipush 19 X dX12_here_17 bp20 rfl ?_
    refine g_iload_n 20 X 1 dX12_here_19 rfl rfl ?_
    refine g_imul 21 X dX12_here_20 rfl ?_
    refine g_aload_n 22 X 0 dX12_here_21 rfl rfl ?_
    refine g_geti 25 X fl_X12_152_12 (o12 rfl) rfl dX12_here_22 h rfl (fun v3 h => ?_)
    refine g_iadd 26 X dX12_here_25 rfl ?_
    refine g_iald 27 X (aiR (n := 80) (by decide) rfl) dX12_here_26 h rfl (fun v4 h => ?_)
    refine g_goto 31 X dX12_here_27 (by decide) ?_
    exact g_iret X hr dX12_here_31 h
set_option maxRecDepth 100000 in
theorem c_X12_here {l : Launch} {D : va_G} {ks : Nat → ClassId} {A : Nat → Prop} {ad : Nat → Nat} (hD : ∀ μ : Mem, va_D A (wsM 24 ad (shR ks ad) μ)) {F : Nat} {μ : Mem} {x1 : Int32} {r : Int32 × Mem}  (h : f_X12_here F μ x1 = some r) : Met l yX12_here (Cond.code yX12_here cX12_here 2 (some .int) :: wg) rm_X12_here (PC D ks 24 ad (shR ks ad) μ [.ref (ad 0), .int x1]) (QI D 24 ad (shR ks ad) A r) 0 0 A := by
  refine met_of (by decide) (Nat.le_of_ble_eq_true rfl) hD ?_
  intro p e s m args below meth c X hr
  exact G.sub [0, 1] rfl (b_X12_here_0 X hr  _ _ h)
abbrev rm_X12_number : Room := { frames := 1, cells := 0, slots := 0, locals := 25 }
set_option maxRecDepth 100000 in
set_option maxHeartbeats 4000000 in
theorem b_X12_number_65 {p : Program} {l : Launch} {e : Env} {s : State} {m : MethodId} {args : Array Value} {below : List Frame} {meth : Method} {c : Code} {D : va_G} {ks : Nat → ClassId} {A : Nat → Prop} {ad : Nat → Nat} (X : Cx p s m args meth c cX12_number 5 RX12 D ks A 24 ad (shR ks ad)) (hr : meth.sig.returnType = (some .boolean)) {F : Nat} {r : Int32 × Mem} (μ : Mem) (x2 : Int32) (x3 : Int32) (x4 : Int32)  (h : f_X12_number_b65 F  μ x2 x3 x4 = some r) : G p l e rm_X12_number s m args below meth c D A 5 (MQ below (QI D 24 ad (shR ks ad) A r) args s 0 0 A) 24 ad (shR ks ad) μ 65 [(0, .ref (ad 0)), (2, .int x2), (3, .int x3), (4, .int x4)] [] := by
  refine g_aload_n 66 X 0 dX12_number_65 rfl rfl ?_
  refine g_getr 69 X fl_X12_53_12 (o12 rfl) rfl dX12_number_66 rfl ?_
  refine g_iload_n 70 X 1 dX12_number_69 rfl rfl ?_
  refine g_iload 72 X 3 dX12_number_70 rfl rfl ?_
  refine g_iast 73 X (aiR (n := 4) (by decide) rfl) dX12_number_72 h rfl (fun μ1 h => ?_)
  refine g_aload_n 74 X 0 dX12_number_73 rfl rfl ?_
  refine g_geti 77 X fl_X12_152_12 (o12 rfl) rfl dX12_number_74 h rfl (fun v2 h => ?_)
  refine g_iload_n 78 X 2 dX12_number_77 rfl rfl ?_
  refine g_icmp_le 85 81 X dX12_number_78 (by decide) rfl h (fun h => ?_) (fun h => ?_)
  · refine g_iconst 86 X dX12_number_85 ic0 rfl ?_
    exact g_zret X hr nb0 dX12_number_86 h
  · refine g_iconst 82 X dX12_number_81 ic1 rfl ?_
    refine g_goto 86 X dX12_number_82 (by decide) ?_
    exact g_zret X hr nb1 dX12_number_86 h
set_option maxRecDepth 100000 in
set_option maxHeartbeats 4000000 in
theorem b_X12_number_8 {p : Program} {l : Launch} {e : Env} {s : State} {m : MethodId} {args : Array Value} {below : List Frame} {meth : Method} {c : Code} {D : va_G} {ks : Nat → ClassId} {A : Nat → Prop} {ad : Nat → Nat} (X : Cx p s m args meth c cX12_number 5 RX12 D ks A 24 ad (shR ks ad)) (hr : meth.sig.returnType = (some .boolean)) {F : Nat} {r : Int32 × Mem} : ∀ n : Nat, ∀ (μ : Mem) (x1 : Int32) (x2 : Int32) (x3 : Int32) (x4 : Int32), f_X12_number_b8 F  n μ x1 x2 x3 x4 = some r → G p l e rm_X12_number s m args below meth c D A 5 (MQ below (QI D 24 ad (shR ks ad) A r) args s 0 0 A) 24 ad (shR ks ad) μ 8 [(0, .ref (ad 0)), (1, .int x1), (2, .int x2), (3, .int x3), (4, .int x4)] [] := by
  intro n
  induction n with
  | zero =>
    intro _ _ _ _ _ h
    cases h
  | succ n ih =>
    intro μ x1 x2 x3 x4 h
    refine g_aload_n 9 X 0 dX12_number_8 rfl rfl ?_
    refine g_geti 12 X fl_X12_152_12 (o12 rfl) rfl dX12_number_9 h rfl (fun v1 h => ?_)
    refine g_iload_n 13 X 3 dX12_number_12 rfl rfl ?_
    refine g_iconst 14 X dX12_number_13 ic2 rfl ?_
    refine g_iadd 15 X dX12_number_14 rfl ?_
    refine g_icmp_ge 65 18 X dX12_number_15 (by decide) rfl h (fun h => ?_) (fun h => ?_)
    · exact G.sub [0, 2, 3, 4] rfl (b_X12_number_65 X hr  _ _ _ _ h)
    · refine g_aload_n 19 X 0 dX12_number_18 rfl rfl ?_
      refine g_iload_n 20 X 1 dX12_number_19 rfl rfl ?_
      refine g_ci 23 h (fun q e => r_V X cd_X12_155_X12_here_X12 ⟨rfl, rfl⟩ ⟨Nat.le_of_ble_eq_true rfl, Nat.le_of_ble_eq_true rfl⟩ (c_X12_here X.2.2.2.2  e) PC_blind (pc_pre X) (g_recv X (o12 rfl) rfl) rfl rfl (Nat.le_of_ble_eq_true rfl) dX12_number_20) rfl (fun v2 μ3 h => ?_)
      refine g_i2l 24 X dX12_number_23 rfl ?_
      refine g_ldc2 27 X m1250 dX12_number_24 rfl ?_
      refine g_ldc2 30 X m1251 dX12_number_27 rfl ?_
      refine g_ni 33 h (fun q e => r_S X cd_X12_92_X12_in ⟨rfl, rfl⟩ ⟨Nat.le_of_ble_eq_true rfl, Nat.le_of_ble_eq_true rfl⟩ (c_X12_in e) PC_blind (pn_pre X) rfl rfl (Nat.le_of_ble_eq_true rfl) dX12_number_30) rfl (fun v4 h => ?_)
      refine g_if_eq 65 36 X dX12_number_33 (by decide) rfl h (fun h => ?_) (fun h => ?_)
      · exact G.sub [0, 2, 3, 4] rfl (b_X12_number_65 X hr  _ _ _ _ h)
      · refine g_bipush 38 X dX12_number_36 bp10 rfl ?_
        refine g_iload 40 X 4 dX12_number_38 rfl rfl ?_
        refine g_imul 41 X dX12_number_40 rfl ?_
        refine g_aload_n 42 X 0 dX12_number_41 rfl rfl ?_
        refine g_iload_n 43 X 1 dX12_number_42 rfl rfl ?_
        refine g_ci 46 h (fun q e => r_V X cd_X12_155_X12_here_X12 ⟨rfl, rfl⟩ ⟨Nat.le_of_ble_eq_true rfl, Nat.le_of_ble_eq_true rfl⟩ (c_X12_here X.2.2.2.2  e) PC_blind (pc_pre X) (g_recv X (o12 rfl) rfl) rfl rfl (Nat.le_of_ble_eq_true rfl) dX12_number_43) rfl (fun v5 μ6 h => ?_)
        refine g_iadd 47 X dX12_number_46 rfl ?_
        refine g_bipush 49 X dX12_number_47 bp48 rfl ?_
        refine g_isub 50 X dX12_number_49 rfl ?_
        refine g_topi h (fun v7 h => ?_)
        refine g_istore 52 X dX12_number_50 (by decide) rfl ?_
        refine g_aload_n 53 X 1 dX12_number_52 rfl rfl ?_
        refine g_dup 54 X dX12_number_53 rfl rfl ?_
        refine g_geti 57 X fl_X12_152_12 (o12 rfl) rfl dX12_number_54 h rfl (fun v8 h => ?_)
        refine g_iconst 58 X dX12_number_57 ic1 rfl ?_
        refine g_iadd 59 X dX12_number_58 rfl ?_
        refine g_puti 62 X fp_X12_152_12 (o12 rfl) rfl (Nat.le_of_ble_eq_true rfl) rfl rfl dX12_number_59 h rfl (fun μ9 h => ?_)
        refine g_goto 8 X dX12_number_62 (by decide) ?_
        exact G.sub [1, 2, 3, 4, 0] rfl (ih _ _ _ _ _ h)
set_option maxRecDepth 100000 in
set_option maxHeartbeats 4000000 in
theorem b_X12_number_0 {p : Program} {l : Launch} {e : Env} {s : State} {m : MethodId} {args : Array Value} {below : List Frame} {meth : Method} {c : Code} {D : va_G} {ks : Nat → ClassId} {A : Nat → Prop} {ad : Nat → Nat} (X : Cx p s m args meth c cX12_number 5 RX12 D ks A 24 ad (shR ks ad)) (hr : meth.sig.returnType = (some .boolean)) {F : Nat} {r : Int32 × Mem} (μ : Mem) (x1 : Int32) (x2 : Int32)  (h : f_X12_number F  μ x1 x2 = some r) : G p l e rm_X12_number s m args below meth c D A 5 (MQ below (QI D 24 ad (shR ks ad) A r) args s 0 0 A) 24 ad (shR ks ad) μ 0 [(0, .ref (ad 0)), (1, .int x1), (2, .int x2)] [] := by
  refine g_aload_n 1 X 0 dX12_number_0 rfl rfl ?_
  refine g_geti 4 X fl_X12_152_12 (o12 rfl) rfl dX12_number_1 h rfl (fun v1 h => ?_)
  refine g_istore_n 5 X dX12_number_4 (by decide) rfl ?_
  refine g_iconst 6 X dX12_number_5 ic0 rfl ?_
  refine g_istore 8 X dX12_number_6 (by decide) rfl ?_
  exact G.sub [2, 3, 4, 1, 0] rfl (b_X12_number_8 X hr  F _ _ _ _ _ h)
set_option maxRecDepth 100000 in
theorem c_X12_number {l : Launch} {D : va_G} {ks : Nat → ClassId} {A : Nat → Prop} {ad : Nat → Nat} (hD : ∀ μ : Mem, va_D A (wsM 24 ad (shR ks ad) μ)) {F : Nat} {μ : Mem} {x1 : Int32} {x2 : Int32} {r : Int32 × Mem}  (h : f_X12_number F μ x1 x2 = some r) : Met l yX12_number (Cond.code yX12_number cX12_number 5 (some .boolean) :: wg) rm_X12_number (PC D ks 24 ad (shR ks ad) μ [.ref (ad 0), .int x1, .int x2]) (QI D 24 ad (shR ks ad) A r) 0 0 A := by
  refine met_of (by decide) (Nat.le_of_ble_eq_true rfl) hD ?_
  intro p e s m args below meth c X hr
  exact G.sub [0, 1, 2] rfl (b_X12_number_0 X hr  _ _ _ h)
abbrev rm_X12_reads : Room := { frames := 2, cells := 0, slots := 0, locals := 49 }
set_option maxRecDepth 100000 in
set_option maxHeartbeats 4000000 in
theorem b_X12_reads_149 {p : Program} {l : Launch} {e : Env} {s : State} {m : MethodId} {args : Array Value} {below : List Frame} {meth : Method} {c : Code} {D : va_G} {ks : Nat → ClassId} {A : Nat → Prop} {ad : Nat → Nat} (X : Cx p s m args meth c cX12_reads 4 RX12 D ks A 24 ad (shR ks ad)) (hr : meth.sig.returnType = (some .int)) {F : Nat} {r : Int32 × Mem} {k123 : Mem → Int32 → Int32 → Int32 → Option (Int32 × Mem)} (hk123 : ∀ (μ : Mem) (x1 : Int32) (x2 : Int32) (x3 : Int32), k123 μ x1 x2 x3 = some r → G p l e rm_X12_reads s m args below meth c D A 4 (MQ below (QI D 24 ad (shR ks ad) A r) args s 0 0 A) 24 ad (shR ks ad) μ 123 [(0, .ref (ad 0)), (1, .int x1), (2, .int x2), (3, .int x3)] []) (μ : Mem) (x1 : Int32) (x2 : Int32) (x3 : Int32) (z0 : Int32) (z1 : Int32)  (h : f_X12_reads_b149 F k123 μ x1 x2 x3 z0 z1 = some r) : G p l e rm_X12_reads s m args below meth c D A 4 (MQ below (QI D 24 ad (shR ks ad) A r) args s 0 0 A) 24 ad (shR ks ad) μ 149 [(0, .ref (ad 0)), (1, .int x1), (2, .int x2), (3, .int x3)] [.int z0, .int z1] := by
  refine g_icmp_eq 157 152 X dX12_reads_149 (by decide) rfl h (fun h => ?_) (fun h => ?_)
  · refine g_aload_n 158 X 0 dX12_reads_157 rfl rfl ?_
    refine g_dup 159 X dX12_reads_158 rfl rfl ?_
    refine g_geti 162 X fl_X12_152_12 (o12 rfl) rfl dX12_reads_159 h rfl (fun v1 h => ?_)
    refine g_iconst 163 X dX12_reads_162 ic1 rfl ?_
    refine g_iadd 164 X dX12_reads_163 rfl ?_
    refine g_puti 167 X fp_X12_152_12 (o12 rfl) rfl (Nat.le_of_ble_eq_true rfl) rfl rfl dX12_reads_164 h rfl (fun μ2 h => ?_)
    refine g_aload_n 168 X 0 dX12_reads_167 rfl rfl ?_
    refine g_iload_n 169 X 1 dX12_reads_168 rfl rfl ?_
    refine g_iload_n 170 X 3 dX12_reads_169 rfl rfl ?_
    refine g_ci 173 h (fun q e => r_V X cd_X12_169_X12_number_X12 ⟨rfl, rfl⟩ ⟨Nat.le_of_ble_eq_true rfl, Nat.le_of_ble_eq_true rfl⟩ (c_X12_number X.2.2.2.2  e) PC_blind (pc_pre X) (g_recv X (o12 rfl) rfl) rfl rfl (Nat.le_of_ble_eq_true rfl) dX12_reads_170) rfl (fun v3 μ4 h => ?_)
    refine g_if_ne 181 176 X dX12_reads_173 (by decide) rfl h (fun h => ?_) (fun h => ?_)
    · refine g_iinc 184 X 3 dX12_reads_181 ic1 rfl (by decide) rfl ?_
      refine g_goto 123 X dX12_reads_184 (by decide) ?_
      exact G.sub [1, 2, 3, 0] rfl (hk123 _ _ _ _ h)
    · refine g_aload_n 177 X 0 dX12_reads_176 rfl rfl ?_
      refine g_geti 180 X fl_X12_152_12 (o12 rfl) rfl dX12_reads_177 h rfl (fun v5 h => ?_)
      exact g_iret X hr dX12_reads_180 h
  · refine g_aload_n 153 X 0 dX12_reads_152 rfl rfl ?_
    refine g_geti 156 X fl_X12_152_12 (o12 rfl) rfl dX12_reads_153 h rfl (fun v6 h => ?_)
    exact g_iret X hr dX12_reads_156 h
set_option maxRecDepth 100000 in
set_option maxHeartbeats 4000000 in
theorem b_X12_reads_123 {p : Program} {l : Launch} {e : Env} {s : State} {m : MethodId} {args : Array Value} {below : List Frame} {meth : Method} {c : Code} {D : va_G} {ks : Nat → ClassId} {A : Nat → Prop} {ad : Nat → Nat} (X : Cx p s m args meth c cX12_reads 4 RX12 D ks A 24 ad (shR ks ad)) (hr : meth.sig.returnType = (some .int)) {F : Nat} {r : Int32 × Mem} : ∀ n : Nat, ∀ (μ : Mem) (x1 : Int32) (x2 : Int32) (x3 : Int32), f_X12_reads_b123 F  n μ x1 x2 x3 = some r → G p l e rm_X12_reads s m args below meth c D A 4 (MQ below (QI D 24 ad (shR ks ad) A r) args s 0 0 A) 24 ad (shR ks ad) μ 123 [(0, .ref (ad 0)), (1, .int x1), (2, .int x2), (3, .int x3)] [] := by
  intro n
  induction n with
  | zero =>
    intro _ _ _ _ h
    cases h
  | succ n ih =>
    intro μ x1 x2 x3 h
    refine g_iload_n 124 X 3 dX12_reads_123 rfl rfl ?_
    refine g_iload_n 125 X 2 dX12_reads_124 rfl rfl ?_
    refine g_icmp_gt 187 128 X dX12_reads_125 (by decide) rfl h (fun h => ?_) (fun h => ?_)
    · refine g_aload_n 188 X 0 dX12_reads_187 rfl rfl ?_
      refine g_geti 191 X fl_X12_152_12 (o12 rfl) rfl dX12_reads_188 h rfl (fun v1 h => ?_)
      refine g_aload_n 192 X 0 dX12_reads_191 rfl rfl ?_
      refine g_getr 195 X fl_X12_50_12 (o12 rfl) rfl dX12_reads_192 rfl ?_
      refine g_iload_n 196 X 1 dX12_reads_195 rfl rfl ?_
      refine g_iald 197 X (aiR (n := 4) (by decide) rfl) dX12_reads_196 h rfl (fun v2 h => ?_)
      refine g_icmp_ne 204 200 X dX12_reads_197 (by decide) rfl h (fun h => ?_) (fun h => ?_)
      · refine g_aload_n 205 X 0 dX12_reads_204 rfl rfl ?_
        refine g_geti 208 X fl_X12_152_12 (o12 rfl) rfl dX12_reads_205 h rfl (fun v3 h => ?_)
        exact g_iret X hr dX12_reads_208 h
      · refine g_iconst 201 X dX12_reads_200 icm1 rfl ?_
        refine g_goto 208 X dX12_reads_201 (by decide) ?_
        exact g_iret X hr dX12_reads_208 h
    · refine g_aload_n 129 X 0 dX12_reads_128 rfl rfl ?_
      refine g_iload_n 130 X 1 dX12_reads_129 rfl rfl ?_
      refine g_ci 133 h (fun q e => r_V X cd_X12_155_X12_here_X12 ⟨rfl, rfl⟩ ⟨Nat.le_of_ble_eq_true rfl, Nat.le_of_ble_eq_true rfl⟩ (c_X12_here X.2.2.2.2  e) PC_blind (pc_pre X) (g_recv X (o12 rfl) rfl) rfl rfl (Nat.le_of_ble_eq_true rfl) dX12_reads_130) rfl (fun v4 μ5 h => ?_)
      refine g_aload_n 134 X 0 dX12_reads_133 rfl rfl ?_
      refine g_geti 137 X fl_X12_166_12 (o12 rfl) rfl dX12_reads_134 h rfl (fun v6 h => ?_)
      refine g_bipush 139 X dX12_reads_137 bp108 rfl ?_
      refine g_icmp_ne 147 142 X dX12_reads_139 (by decide) rfl h (fun h => ?_) (fun h => ?_)
      · refine g_bipush 149 X dX12_reads_147 bp120 rfl ?_
        exact G.sub [0, 1, 2, 3] rfl (b_X12_reads_149 X hr ih _ _ _ _ _ _ h)
      · refine g_bipush 144 X dX12_reads_142 bp44 rfl ?_
        refine g_goto 149 X dX12_reads_144 (by decide) ?_
        exact G.sub [0, 1, 2, 3] rfl (b_X12_reads_149 X hr ih _ _ _ _ _ _ h)
set_option maxRecDepth 100000 in
set_option maxHeartbeats 4000000 in
theorem b_X12_reads_120 {p : Program} {l : Launch} {e : Env} {s : State} {m : MethodId} {args : Array Value} {below : List Frame} {meth : Method} {c : Code} {D : va_G} {ks : Nat → ClassId} {A : Nat → Prop} {ad : Nat → Nat} (X : Cx p s m args meth c cX12_reads 4 RX12 D ks A 24 ad (shR ks ad)) (hr : meth.sig.returnType = (some .int)) {F : Nat} {r : Int32 × Mem} (μ : Mem) (x1 : Int32) (z0 : Int32)  (h : f_X12_reads_b120 F  μ x1 z0 = some r) : G p l e rm_X12_reads s m args below meth c D A 4 (MQ below (QI D 24 ad (shR ks ad) A r) args s 0 0 A) 24 ad (shR ks ad) μ 120 [(0, .ref (ad 0)), (1, .int x1)] [.int z0] := by
  refine g_istore_n 121 X dX12_reads_120 (by decide) rfl ?_
  refine g_iconst 122 X dX12_reads_121 ic1 rfl ?_
  refine g_istore_n 123 X dX12_reads_122 (by decide) rfl ?_
  exact G.sub [2, 3, 1, 0] rfl (b_X12_reads_123 X hr  F _ _ _ _ h)
set_option maxRecDepth 100000 in
set_option maxHeartbeats 4000000 in
theorem b_X12_reads_69 {p : Program} {l : Launch} {e : Env} {s : State} {m : MethodId} {args : Array Value} {below : List Frame} {meth : Method} {c : Code} {D : va_G} {ks : Nat → ClassId} {A : Nat → Prop} {ad : Nat → Nat} (X : Cx p s m args meth c cX12_reads 4 RX12 D ks A 24 ad (shR ks ad)) (hr : meth.sig.returnType = (some .int)) {F : Nat} {r : Int32 × Mem} (μ : Mem) (x1 : Int32)  (h : f_X12_reads_b69 F  μ x1 = some r) : G p l e rm_X12_reads s m args below meth c D A 4 (MQ below (QI D 24 ad (shR ks ad) A r) args s 0 0 A) 24 ad (shR ks ad) μ 69 [(0, .ref (ad 0)), (1, .int x1)] [] := by
  refine g_aload_n 70 X 0 dX12_reads_69 rfl rfl ?_
  refine g_dup 71 X dX12_reads_70 rfl rfl ?_
  refine g_geti 74 X fl_X12_152_12 (o12 rfl) rfl dX12_reads_71 h rfl (fun v1 h => ?_)
  refine g_iconst 75 X dX12_reads_74 ic1 rfl ?_
  refine g_iadd 76 X dX12_reads_75 rfl ?_
  refine g_puti 79 X fp_X12_152_12 (o12 rfl) rfl (Nat.le_of_ble_eq_true rfl) rfl rfl dX12_reads_76 h rfl (fun μ2 h => ?_)
  refine g_aload_n 80 X 0 dX12_reads_79 rfl rfl ?_
  refine g_iload_n 81 X 1 dX12_reads_80 rfl rfl ?_
  refine g_iconst 82 X dX12_reads_81 ic0 rfl ?_
  refine g_ci 85 h (fun q e => r_V X cd_X12_169_X12_number_X12 ⟨rfl, rfl⟩ ⟨Nat.le_of_ble_eq_true rfl, Nat.le_of_ble_eq_true rfl⟩ (c_X12_number X.2.2.2.2  e) PC_blind (pc_pre X) (g_recv X (o12 rfl) rfl) rfl rfl (Nat.le_of_ble_eq_true rfl) dX12_reads_82) rfl (fun v3 μ4 h => ?_)
  refine g_if_ne 93 88 X dX12_reads_85 (by decide) rfl h (fun h => ?_) (fun h => ?_)
  · refine g_aload_n 94 X 0 dX12_reads_93 rfl rfl ?_
    refine g_geti 97 X fl_X12_166_12 (o12 rfl) rfl dX12_reads_94 h rfl (fun v5 h => ?_)
    refine g_bipush 99 X dX12_reads_97 bp108 rfl ?_
    refine g_icmp_ne 106 102 X dX12_reads_99 (by decide) rfl h (fun h => ?_) (fun h => ?_)
    · refine g_aload_n 107 X 0 dX12_reads_106 rfl rfl ?_
      refine g_geti 110 X fl_X12_166_12 (o12 rfl) rfl dX12_reads_107 h rfl (fun v6 h => ?_)
      refine g_bipush 112 X dX12_reads_110 bp116 rfl ?_
      refine g_icmp_ne 119 115 X dX12_reads_112 (by decide) rfl h (fun h => ?_) (fun h => ?_)
      · refine g_iconst 120 X dX12_reads_119 ic0 rfl ?_
        exact G.sub [0, 1] rfl (b_X12_reads_120 X hr  _ _ _ h)
      · refine g_iconst 116 X dX12_reads_115 ic1 rfl ?_
        refine g_goto 120 X dX12_reads_116 (by decide) ?_
        exact G.sub [0, 1] rfl (b_X12_reads_120 X hr  _ _ _ h)
    · refine g_iconst 103 X dX12_reads_102 ic3 rfl ?_
      refine g_goto 120 X dX12_reads_103 (by decide) ?_
      exact G.sub [0, 1] rfl (b_X12_reads_120 X hr  _ _ _ h)
  · refine g_aload_n 89 X 0 dX12_reads_88 rfl rfl ?_
    refine g_geti 92 X fl_X12_152_12 (o12 rfl) rfl dX12_reads_89 h rfl (fun v7 h => ?_)
    exact g_iret X hr dX12_reads_92 h
set_option maxRecDepth 100000 in
set_option maxHeartbeats 4000000 in
theorem b_X12_reads_0 {p : Program} {l : Launch} {e : Env} {s : State} {m : MethodId} {args : Array Value} {below : List Frame} {meth : Method} {c : Code} {D : va_G} {ks : Nat → ClassId} {A : Nat → Prop} {ad : Nat → Nat} (X : Cx p s m args meth c cX12_reads 4 RX12 D ks A 24 ad (shR ks ad)) (hr : meth.sig.returnType = (some .int)) {F : Nat} {r : Int32 × Mem} (μ : Mem) (x1 : Int32)  (h : f_X12_reads F  μ x1 = some r) : G p l e rm_X12_reads s m args below meth c D A 4 (MQ below (QI D 24 ad (shR ks ad) A r) args s 0 0 A) 24 ad (shR ks ad) μ 0 [(0, .ref (ad 0)), (1, .int x1)] [] := by
  refine g_aload_n 1 X 0 dX12_reads_0 rfl rfl ?_
  refine g_iconst 2 X dX12_reads_1 ic0 rfl ?_
  refine g_puti 5 X fp_X12_152_12 (o12 rfl) rfl (Nat.le_of_ble_eq_true rfl) rfl rfl dX12_reads_2 h rfl (fun μ1 h => ?_)
  refine g_aload_n 6 X 0 dX12_reads_5 rfl rfl ?_
  refine g_iconst 7 X dX12_reads_6 ic0 rfl ?_
  refine g_puti 10 X fp_X12_162_12 (o12 rfl) rfl (Nat.le_of_ble_eq_true rfl) nb0 fb0 dX12_reads_7 h rfl (fun μ2 h => ?_)
  refine g_aload_n 11 X 0 dX12_reads_10 rfl rfl ?_
  refine g_aload_n 12 X 0 dX12_reads_11 rfl rfl ?_
  refine g_iload_n 13 X 1 dX12_reads_12 rfl rfl ?_
  refine g_ci 16 h (fun q e => r_V X cd_X12_155_X12_here_X12 ⟨rfl, rfl⟩ ⟨Nat.le_of_ble_eq_true rfl, Nat.le_of_ble_eq_true rfl⟩ (c_X12_here X.2.2.2.2  e) PC_blind (pc_pre X) (g_recv X (o12 rfl) rfl) rfl rfl (Nat.le_of_ble_eq_true rfl) dX12_reads_13) rfl (fun v3 μ4 h => ?_)
  refine g_puti 19 X fp_X12_166_12 (o12 rfl) rfl (Nat.le_of_ble_eq_true rfl) rfl rfl dX12_reads_16 h rfl (fun μ5 h => ?_)
  refine g_aload_n 20 X 0 dX12_reads_19 rfl rfl ?_
  refine g_geti 23 X fl_X12_166_12 (o12 rfl) rfl dX12_reads_20 h rfl (fun v6 h => ?_)
  refine g_bipush 25 X dX12_reads_23 bp97 rfl ?_
  refine g_icmp_eq 69 28 X dX12_reads_25 (by decide) rfl h (fun h => ?_) (fun h => ?_)
  · exact G.sub [0, 1] rfl (b_X12_reads_69 X hr  _ _ h)
  · refine g_aload_n 29 X 0 dX12_reads_28 rfl rfl ?_
    refine g_geti 32 X fl_X12_166_12 (o12 rfl) rfl dX12_reads_29 h rfl (fun v7 h => ?_)
    refine g_bipush 34 X dX12_reads_32 bp108 rfl ?_
    refine g_icmp_eq 69 37 X dX12_reads_34 (by decide) rfl h (fun h => ?_) (fun h => ?_)
    · exact G.sub [0, 1] rfl (b_X12_reads_69 X hr  _ _ h)
    · refine g_aload_n 38 X 0 dX12_reads_37 rfl rfl ?_
      refine g_geti 41 X fl_X12_166_12 (o12 rfl) rfl dX12_reads_38 h rfl (fun v8 h => ?_)
      refine g_bipush 43 X dX12_reads_41 bp101 rfl ?_
      refine g_icmp_eq 69 46 X dX12_reads_43 (by decide) rfl h (fun h => ?_) (fun h => ?_)
      · exact G.sub [0, 1] rfl (b_X12_reads_69 X hr  _ _ h)
      · refine g_aload_n 47 X 0 dX12_reads_46 rfl rfl ?_
        refine g_geti 50 X fl_X12_166_12 (o12 rfl) rfl dX12_reads_47 h rfl (fun v9 h => ?_)
        refine g_bipush 52 X dX12_reads_50 bp122 rfl ?_
        refine g_icmp_eq 69 55 X dX12_reads_52 (by decide) rfl h (fun h => ?_) (fun h => ?_)
        · exact G.sub [0, 1] rfl (b_X12_reads_69 X hr  _ _ h)
        · refine g_aload_n 56 X 0 dX12_reads_55 rfl rfl ?_
          refine g_geti 59 X fl_X12_166_12 (o12 rfl) rfl dX12_reads_56 h rfl (fun v10 h => ?_)
          refine g_bipush 61 X dX12_reads_59 bp116 rfl ?_
          refine g_icmp_eq 69 64 X dX12_reads_61 (by decide) rfl h (fun h => ?_) (fun h => ?_)
          · exact G.sub [0, 1] rfl (b_X12_reads_69 X hr  _ _ h)
          · refine g_aload_n 65 X 0 dX12_reads_64 rfl rfl ?_
            refine g_geti 68 X fl_X12_152_12 (o12 rfl) rfl dX12_reads_65 h rfl (fun v11 h => ?_)
            exact g_iret X hr dX12_reads_68 h
set_option maxRecDepth 100000 in
theorem c_X12_reads {l : Launch} {D : va_G} {ks : Nat → ClassId} {A : Nat → Prop} {ad : Nat → Nat} (hD : ∀ μ : Mem, va_D A (wsM 24 ad (shR ks ad) μ)) {F : Nat} {μ : Mem} {x1 : Int32} {r : Int32 × Mem}  (h : f_X12_reads F μ x1 = some r) : Met l yX12_reads (Cond.code yX12_reads cX12_reads 4 (some .int) :: wg) rm_X12_reads (PC D ks 24 ad (shR ks ad) μ [.ref (ad 0), .int x1]) (QI D 24 ad (shR ks ad) A r) 0 0 A := by
  refine met_of (by decide) (Nat.le_of_ble_eq_true rfl) hD ?_
  intro p e s m args below meth c X hr
  exact G.sub [0, 1] rfl (b_X12_reads_0 X hr  _ _ h)
abbrev rm_X12_fault : Room := { frames := 3, cells := 0, slots := 0, locals := 72 }
set_option maxRecDepth 100000 in
set_option maxHeartbeats 4000000 in
theorem b_X12_fault_0 {p : Program} {l : Launch} {e : Env} {s : State} {m : MethodId} {args : Array Value} {below : List Frame} {meth : Method} {c : Code} {D : va_G} {ks : Nat → ClassId} {A : Nat → Prop} {ad : Nat → Nat} (X : Cx p s m args meth c cX12_fault 2 RX12 D ks A 24 ad (shR ks ad)) (hr : meth.sig.returnType = (some .int)) {F : Nat} {r : Int32 × Mem} (μ : Mem) (x1 : Int32)  (h : f_X12_fault F  μ x1 = some r) : G p l e rm_X12_fault s m args below meth c D A 2 (MQ below (QI D 24 ad (shR ks ad) A r) args s 0 0 A) 24 ad (shR ks ad) μ 0 [(0, .ref (ad 0)), (1, .int x1)] [] := by
  refine g_iload_n 1 X 1 dX12_fault_0 rfl rfl ?_
  refine g_ni 4 h (fun q e => r_S X cd_X12_147_X12_isPlan ⟨rfl, rfl⟩ ⟨Nat.le_of_ble_eq_true rfl, Nat.le_of_ble_eq_true rfl⟩ (c_X12_isPlan e) PC_blind (pn_pre X) rfl rfl (Nat.le_of_ble_eq_true rfl) dX12_fault_1) rfl (fun v1 h => ?_)
  refine g_if_eq 15 7 X dX12_fault_4 (by decide) rfl h (fun h => ?_) (fun h => ?_)
  · refine g_bipush 17 X dX12_fault_15 bpm2 rfl ?_
    exact g_iret X hr dX12_fault_17 h
  · refine g_aload_n 8 X 0 dX12_fault_7 rfl rfl ?_
    refine g_iload_n 9 X 1 dX12_fault_8 rfl rfl ?_
    refine g_ci 12 h (fun q e => r_V X cd_X12_173_X12_reads_X12 ⟨rfl, rfl⟩ ⟨Nat.le_of_ble_eq_true rfl, Nat.le_of_ble_eq_true rfl⟩ (c_X12_reads X.2.2.2.2  e) PC_blind (pc_pre X) (g_recv X (o12 rfl) rfl) rfl rfl (Nat.le_of_ble_eq_true rfl) dX12_fault_9) rfl (fun v2 μ3 h => ?_)
    refine g_goto 17 X dX12_fault_12 (by decide) ?_
    exact g_iret X hr dX12_fault_17 h
set_option maxRecDepth 100000 in
theorem c_X12_fault {l : Launch} {D : va_G} {ks : Nat → ClassId} {A : Nat → Prop} {ad : Nat → Nat} (hD : ∀ μ : Mem, va_D A (wsM 24 ad (shR ks ad) μ)) {F : Nat} {μ : Mem} {x1 : Int32} {r : Int32 × Mem}  (h : f_X12_fault F μ x1 = some r) : Met l yX12_fault (Cond.code yX12_fault cX12_fault 2 (some .int) :: wg) rm_X12_fault (PC D ks 24 ad (shR ks ad) μ [.ref (ad 0), .int x1]) (QI D 24 ad (shR ks ad) A r) 0 0 A := by
  refine met_of (by decide) (Nat.le_of_ble_eq_true rfl) hD ?_
  intro p e s m args below meth c X hr
  exact G.sub [0, 1] rfl (b_X12_fault_0 X hr  _ _ h)
