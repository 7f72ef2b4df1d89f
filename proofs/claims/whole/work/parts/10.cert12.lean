abbrev rm_X12_silent : Room := { frames := 2, cells := 0, slots := 0, locals := 46 }
set_option maxRecDepth 100000 in
set_option maxHeartbeats 4000000 in
theorem b_X12_silent_47 {p : Program} {l : Launch} {e : Env} {s : State} {m : MethodId} {args : Array Value} {below : List Frame} {meth : Method} {c : Code} {D : va_G} {ks : Nat → ClassId} {A : Nat → Prop} {ad : Nat → Nat} (X : Cx p s m args meth c cX12_silent 4 RX12 D ks A 24 ad (shR ks ad)) (hr : meth.sig.returnType = (some .int)) {F : Nat} {r : Int32 × Mem} {k15 : Mem → Int32 → Int32 → Int32 → Option (Int32 × Mem)} (hk15 : ∀ (μ : Mem) (x1 : Int32) (x2 : Int32) (x3 : Int32), k15 μ x1 x2 x3 = some r → G p l e rm_X12_silent s m args below meth c D A 4 (MQ below (QI D 24 ad (shR ks ad) A r) args s 0 0 A) 24 ad (shR ks ad) μ 15 [(0, .ref (ad 0)), (1, .int x1), (2, .int x2), (3, .int x3)] []) (μ : Mem) (x1 : Int32) (x3 : Int32) (z0 : Int32) (z1 : Int32)  (h : f_X12_silent_b47 F k15 μ x1 x3 z0 z1 = some r) : G p l e rm_X12_silent s m args below meth c D A 4 (MQ below (QI D 24 ad (shR ks ad) A r) args s 0 0 A) 24 ad (shR ks ad) μ 47 [(0, .ref (ad 0)), (1, .int x1), (3, .int x3)] [.int z0, .int z1] := by
  refine g_iadd 48 X dX12_silent_47 rfl ?_
  refine g_topi h (fun v1 h => ?_)
  refine g_istore_n 49 X dX12_silent_48 (by decide) rfl ?_
  refine g_iinc 52 X 3 dX12_silent_49 ic1 rfl (by decide) rfl ?_
  refine g_goto 15 X dX12_silent_52 (by decide) ?_
  exact G.sub [2, 3, 1, 0] rfl (hk15 _ _ _ _ h)
set_option maxRecDepth 100000 in
set_option maxHeartbeats 4000000 in
theorem b_X12_silent_46 {p : Program} {l : Launch} {e : Env} {s : State} {m : MethodId} {args : Array Value} {below : List Frame} {meth : Method} {c : Code} {D : va_G} {ks : Nat → ClassId} {A : Nat → Prop} {ad : Nat → Nat} (X : Cx p s m args meth c cX12_silent 4 RX12 D ks A 24 ad (shR ks ad)) (hr : meth.sig.returnType = (some .int)) {F : Nat} {r : Int32 × Mem} {k15 : Mem → Int32 → Int32 → Int32 → Option (Int32 × Mem)} (hk15 : ∀ (μ : Mem) (x1 : Int32) (x2 : Int32) (x3 : Int32), k15 μ x1 x2 x3 = some r → G p l e rm_X12_silent s m args below meth c D A 4 (MQ below (QI D 24 ad (shR ks ad) A r) args s 0 0 A) 24 ad (shR ks ad) μ 15 [(0, .ref (ad 0)), (1, .int x1), (2, .int x2), (3, .int x3)] []) (μ : Mem) (x1 : Int32) (x3 : Int32) (z0 : Int32)  (h : f_X12_silent_b46 F k15 μ x1 x3 z0 = some r) : G p l e rm_X12_silent s m args below meth c D A 4 (MQ below (QI D 24 ad (shR ks ad) A r) args s 0 0 A) 24 ad (shR ks ad) μ 46 [(0, .ref (ad 0)), (1, .int x1), (3, .int x3)] [.int z0] := by
  refine g_iconst 47 X dX12_silent_46 ic0 rfl ?_
  exact G.sub [0, 1, 2] rfl (b_X12_silent_47 X hr hk15 _ _ _ _ _ h)
set_option maxRecDepth 100000 in
set_option maxHeartbeats 4000000 in
theorem b_X12_silent_15 {p : Program} {l : Launch} {e : Env} {s : State} {m : MethodId} {args : Array Value} {below : List Frame} {meth : Method} {c : Code} {D : va_G} {ks : Nat → ClassId} {A : Nat → Prop} {ad : Nat → Nat} (X : Cx p s m args meth c cX12_silent 4 RX12 D ks A 24 ad (shR ks ad)) (hr : meth.sig.returnType = (some .int)) {F : Nat} {r : Int32 × Mem} : ∀ n : Nat, ∀ (μ : Mem) (x1 : Int32) (x2 : Int32) (x3 : Int32), f_X12_silent_b15 F  n μ x1 x2 x3 = some r → G p l e rm_X12_silent s m args below meth c D A 4 (MQ below (QI D 24 ad (shR ks ad) A r) args s 0 0 A) 24 ad (shR ks ad) μ 15 [(0, .ref (ad 0)), (1, .int x1), (2, .int x2), (3, .int x3)] [] := by
  intro n
  induction n with
  | zero =>
    intro _ _ _ _ h
    cases h
  | succ n ih =>
    intro μ x1 x2 x3 h
    refine g_iload_n 16 X 3 dX12_silent_15 rfl rfl ?_
    refine g_aload_n 17 X 0 dX12_silent_16 rfl rfl ?_
    refine g_geti 20 X fl_X12_115_12 (o12 rfl) rfl dX12_silent_17 h rfl (fun v1 h => ?_)
    refine g_icmp_ge 55 23 X dX12_silent_20 (by decide) rfl h (fun h => ?_) (fun h => ?_)
    · refine g_iload_n 56 X 2 dX12_silent_55 rfl rfl ?_
      exact g_iret X hr dX12_silent_56 h
    · refine g_iload_n 24 X 2 dX12_silent_23 rfl rfl ?_
      refine g_iload_n 25 X 1 dX12_silent_24 rfl rfl ?_
      refine g_iload_n 26 X 3 dX12_silent_25 rfl rfl ?_
      refine g_ishr 27 X dX12_silent_26 rfl ?_
      refine g_iconst 28 X dX12_silent_27 ic1 rfl ?_
      refine g_iand 29 X dX12_silent_28 rfl ?_
      refine g_iconst 30 X dX12_silent_29 ic1 rfl ?_
      refine g_icmp_ne 46 33 X dX12_silent_30 (by decide) rfl h (fun h => ?_) (fun h => ?_)
      · exact G.sub [0, 1, 3] rfl (b_X12_silent_46 X hr ih _ _ _ _ h)
      · refine g_aload_n 34 X 0 dX12_silent_33 rfl rfl ?_
        refine g_iload_n 35 X 3 dX12_silent_34 rfl rfl ?_
        refine g_ci 38 h (fun q e => r_V X cd_X12_134_X12_valueOf_X12 ⟨rfl, rfl⟩ ⟨Nat.le_of_ble_eq_true rfl, Nat.le_of_ble_eq_true rfl⟩ (c_X12_valueOf X.2.2.2.2  e) PC_blind (pc_pre X) (g_recv X (o12 rfl) rfl) rfl rfl (Nat.le_of_ble_eq_true rfl) dX12_silent_35) rfl (fun v2 μ3 h => ?_)
        refine g_iconst 39 X dX12_silent_38 icm1 rfl ?_
        refine g_icmp_ne 46 42 X dX12_silent_39 (by decide) rfl h (fun h => ?_) (fun h => ?_)
        · exact G.sub [0, 1, 3] rfl (b_X12_silent_46 X hr ih _ _ _ _ h)
        · refine g_iconst 43 X dX12_silent_42 ic1 rfl ?_
          refine g_goto 47 X dX12_silent_43 (by decide) ?_
          exact G.sub [0, 1, 3] rfl (b_X12_silent_47 X hr ih _ _ _ _ _ h)
set_option maxRecDepth 100000 in
set_option maxHeartbeats 4000000 in
theorem b_X12_silent_0 {p : Program} {l : Launch} {e : Env} {s : State} {m : MethodId} {args : Array Value} {below : List Frame} {meth : Method} {c : Code} {D : va_G} {ks : Nat → ClassId} {A : Nat → Prop} {ad : Nat → Nat} (X : Cx p s m args meth c cX12_silent 4 RX12 D ks A 24 ad (shR ks ad)) (hr : meth.sig.returnType = (some .int)) {F : Nat} {r : Int32 × Mem} (μ : Mem) (x1 : Int32)  (h : f_X12_silent F  μ x1 = some r) : G p l e rm_X12_silent s m args below meth c D A 4 (MQ below (QI D 24 ad (shR ks ad) A r) args s 0 0 A) 24 ad (shR ks ad) μ 0 [(0, .ref (ad 0)), (1, .int x1)] [] := by
  refine g_aload_n 1 X 0 dX12_silent_0 rfl rfl ?_
  refine g_iload_n 2 X 1 dX12_silent_1 rfl rfl ?_
  refine g_ci 5 h (fun q e => r_V X cd_X12_266_X12_isDraw_X12 ⟨rfl, rfl⟩ ⟨Nat.le_of_ble_eq_true rfl, Nat.le_of_ble_eq_true rfl⟩ (c_X12_isDraw X.2.2.2.2  e) PC_blind (pc_pre X) (g_recv X (o12 rfl) rfl) rfl rfl (Nat.le_of_ble_eq_true rfl) dX12_silent_2) rfl (fun v1 μ2 h => ?_)
  refine g_if_ne 11 8 X dX12_silent_5 (by decide) rfl h (fun h => ?_) (fun h => ?_)
  · refine g_iconst 12 X dX12_silent_11 ic0 rfl ?_
    refine g_istore_n 13 X dX12_silent_12 (by decide) rfl ?_
    refine g_iconst 14 X dX12_silent_13 ic0 rfl ?_
    refine g_istore_n 15 X dX12_silent_14 (by decide) rfl ?_
    exact G.sub [2, 3, 1, 0] rfl (b_X12_silent_15 X hr  F _ _ _ _ h)
  · refine g_bipush 10 X dX12_silent_8 bpm2 rfl ?_
    exact g_iret X hr dX12_silent_10 h
set_option maxRecDepth 100000 in
theorem c_X12_silent {l : Launch} {D : va_G} {ks : Nat → ClassId} {A : Nat → Prop} {ad : Nat → Nat} (hD : ∀ μ : Mem, va_D A (wsM 24 ad (shR ks ad) μ)) {F : Nat} {μ : Mem} {x1 : Int32} {r : Int32 × Mem}  (h : f_X12_silent F μ x1 = some r) : Met l yX12_silent (Cond.code yX12_silent cX12_silent 4 (some .int) :: wg) rm_X12_silent (PC D ks 24 ad (shR ks ad) μ [.ref (ad 0), .int x1]) (QI D 24 ad (shR ks ad) A r) 0 0 A := by
  refine met_of (by decide) (Nat.le_of_ble_eq_true rfl) hD ?_
  intro p e s m args below meth c X hr
  exact G.sub [0, 1] rfl (b_X12_silent_0 X hr  _ _ h)
abbrev rm_X12_spreads : Room := { frames := 2, cells := 0, slots := 0, locals := 55 }
set_option maxRecDepth 100000 in
set_option maxHeartbeats 4000000 in
theorem b_X12_spreads_60 {p : Program} {l : Launch} {e : Env} {s : State} {m : MethodId} {args : Array Value} {below : List Frame} {meth : Method} {c : Code} {D : va_G} {ks : Nat → ClassId} {A : Nat → Prop} {ad : Nat → Nat} (X : Cx p s m args meth c cX12_spreads 10 RX12 D ks A 24 ad (shR ks ad)) (hr : meth.sig.returnType = (some .boolean)) {F : Nat} {r : Int32 × Mem} {k8 : Mem → Int32 → Int32 → Int64 → Int64 → Int32 → Option (Int32 × Mem)} (hk8 : ∀ (μ : Mem) (x1 : Int32) (x2 : Int32) (x3 : Int64) (x5 : Int64) (x7 : Int32), k8 μ x1 x2 x3 x5 x7 = some r → G p l e rm_X12_spreads s m args below meth c D A 10 (MQ below (QI D 24 ad (shR ks ad) A r) args s 0 0 A) 24 ad (shR ks ad) μ 8 [(0, .ref (ad 0)), (1, .int x1), (2, .int x2), (3, .long x3), (5, .long x5), (7, .int x7)] []) (μ : Mem) (x1 : Int32) (x2 : Int32) (x3 : Int64) (x5 : Int64) (x7 : Int32)  (h : f_X12_spreads_b60 F k8 μ x1 x2 x3 x5 x7 = some r) : G p l e rm_X12_spreads s m args below meth c D A 10 (MQ below (QI D 24 ad (shR ks ad) A r) args s 0 0 A) 24 ad (shR ks ad) μ 60 [(0, .ref (ad 0)), (1, .int x1), (2, .int x2), (3, .long x3), (5, .long x5), (7, .int x7)] [] := by
  refine g_iinc 63 X 5 dX12_spreads_60 ic1 rfl (by decide) rfl ?_
  refine g_goto 8 X dX12_spreads_63 (by decide) ?_
  exact G.sub [1, 2, 3, 4, 5, 0] rfl (hk8 _ _ _ _ _ _ h)
set_option maxRecDepth 100000 in
set_option maxHeartbeats 4000000 in
theorem b_X12_spreads_8 {p : Program} {l : Launch} {e : Env} {s : State} {m : MethodId} {args : Array Value} {below : List Frame} {meth : Method} {c : Code} {D : va_G} {ks : Nat → ClassId} {A : Nat → Prop} {ad : Nat → Nat} (X : Cx p s m args meth c cX12_spreads 10 RX12 D ks A 24 ad (shR ks ad)) (hr : meth.sig.returnType = (some .boolean)) {F : Nat} {r : Int32 × Mem} : ∀ n : Nat, ∀ (μ : Mem) (x1 : Int32) (x2 : Int32) (x3 : Int64) (x5 : Int64) (x7 : Int32), f_X12_spreads_b8 F  n μ x1 x2 x3 x5 x7 = some r → G p l e rm_X12_spreads s m args below meth c D A 10 (MQ below (QI D 24 ad (shR ks ad) A r) args s 0 0 A) 24 ad (shR ks ad) μ 8 [(0, .ref (ad 0)), (1, .int x1), (2, .int x2), (3, .long x3), (5, .long x5), (7, .int x7)] [] := by
  intro n
  induction n with
  | zero =>
    intro _ _ _ _ _ _ h
    cases h
  | succ n ih =>
    intro μ x1 x2 x3 x5 x7 h
    refine g_iload 10 X 5 dX12_spreads_8 rfl rfl ?_
    refine g_aload_n 11 X 0 dX12_spreads_10 rfl rfl ?_
    refine g_geti 14 X fl_X12_115_12 (o12 rfl) rfl dX12_spreads_11 h rfl (fun v1 h => ?_)
    refine g_icmp_ge 66 17 X dX12_spreads_14 (by decide) rfl h (fun h => ?_) (fun h => ?_)
    · refine g_iload_n 67 X 1 dX12_spreads_66 rfl rfl ?_
      refine g_ni 70 h (fun q e => r_S X cd_X12_244_X12_ones ⟨rfl, rfl⟩ ⟨Nat.le_of_ble_eq_true rfl, Nat.le_of_ble_eq_true rfl⟩ (c_X12_ones e) PC_blind (pn_pre X) rfl rfl (Nat.le_of_ble_eq_true rfl) dX12_spreads_67) rfl (fun v2 h => ?_)
      refine g_istore 72 X dX12_spreads_70 (by decide) rfl ?_
      refine g_iload 74 X 0 dX12_spreads_72 rfl rfl ?_
      refine g_iload_n 75 X 3 dX12_spreads_74 rfl rfl ?_
      refine g_icmp_le 154 78 X dX12_spreads_75 (by decide) rfl h (fun h => ?_) (fun h => ?_)
      · refine g_iconst 155 X dX12_spreads_154 ic1 rfl ?_
        exact g_zret X hr nb1 dX12_spreads_155 h
      · refine g_aload_n 79 X 1 dX12_spreads_78 rfl rfl ?_
        refine g_iload 81 X 0 dX12_spreads_79 rfl rfl ?_
        refine g_iload_n 82 X 3 dX12_spreads_81 rfl rfl ?_
        refine g_isub 83 X dX12_spreads_82 rfl ?_
        refine g_i2l 84 X dX12_spreads_83 rfl ?_
        refine g_iload 86 X 0 dX12_spreads_84 rfl rfl ?_
        refine g_i2l 87 X dX12_spreads_86 rfl ?_
        refine g_lload 89 X 5 dX12_spreads_87 rfl rfl ?_
        refine g_lmul 90 X dX12_spreads_89 rfl ?_
        refine g_lload_n 91 X 4 dX12_spreads_90 rfl rfl ?_
        refine g_lload_n 92 X 4 dX12_spreads_91 rfl rfl ?_
        refine g_lmul 93 X dX12_spreads_92 rfl ?_
        refine g_lsub 94 X dX12_spreads_93 rfl ?_
        refine g_lmul 95 X dX12_spreads_94 rfl ?_
        refine g_topl h (fun v3 h => ?_)
        refine g_iload_n 96 X 3 dX12_spreads_95 rfl rfl ?_
        refine g_i2l 97 X dX12_spreads_96 rfl ?_
        refine g_iload 99 X 0 dX12_spreads_97 rfl rfl ?_
        refine g_iconst 100 X dX12_spreads_99 ic1 rfl ?_
        refine g_isub 101 X dX12_spreads_100 rfl ?_
        refine g_i2l 102 X dX12_spreads_101 rfl ?_
        refine g_lmul 103 X dX12_spreads_102 rfl ?_
        refine g_cv 106 h (fun q e => r_V X cd_X12_226_X12_becomes_X12 ⟨rfl, rfl⟩ ⟨Nat.le_of_ble_eq_true rfl, Nat.le_of_ble_eq_true rfl⟩ (c_X12_becomes X.2.2.2.2  e) PC_blind (pc_pre X) (g_recv X (o12 rfl) rfl) rfl rfl (Nat.le_of_ble_eq_true rfl) dX12_spreads_103) rfl (fun _ μ4 h => ?_)
        refine g_aload_n 107 X 1 dX12_spreads_106 rfl rfl ?_
        refine g_aload_n 108 X 1 dX12_spreads_107 rfl rfl ?_
        refine g_getl 111 X fl_X12_272_12 (o12 rfl) rfl dX12_spreads_108 h rfl (fun v5 h => ?_)
        refine g_aload_n 112 X 1 dX12_spreads_111 rfl rfl ?_
        refine g_getl 115 X fl_X12_214_12 (o12 rfl) rfl dX12_spreads_112 h rfl (fun v6 h => ?_)
        refine g_lmul 116 X dX12_spreads_115 rfl ?_
        refine g_aload_n 117 X 1 dX12_spreads_116 rfl rfl ?_
        refine g_getl 120 X fl_X12_210_12 (o12 rfl) rfl dX12_spreads_117 h rfl (fun v7 h => ?_)
        refine g_aload_n 121 X 1 dX12_spreads_120 rfl rfl ?_
        refine g_getl 124 X fl_X12_275_12 (o12 rfl) rfl dX12_spreads_121 h rfl (fun v8 h => ?_)
        refine g_lmul 125 X dX12_spreads_124 rfl ?_
        refine g_ladd 126 X dX12_spreads_125 rfl ?_
        refine g_aload_n 127 X 1 dX12_spreads_126 rfl rfl ?_
        refine g_getl 130 X fl_X12_275_12 (o12 rfl) rfl dX12_spreads_127 h rfl (fun v9 h => ?_)
        refine g_aload_n 131 X 1 dX12_spreads_130 rfl rfl ?_
        refine g_getl 134 X fl_X12_214_12 (o12 rfl) rfl dX12_spreads_131 h rfl (fun v10 h => ?_)
        refine g_lmul 135 X dX12_spreads_134 rfl ?_
        refine g_cv 138 h (fun q e => r_V X cd_X12_226_X12_becomes_X12 ⟨rfl, rfl⟩ ⟨Nat.le_of_ble_eq_true rfl, Nat.le_of_ble_eq_true rfl⟩ (c_X12_becomes X.2.2.2.2  e) PC_blind (pc_pre X) (g_recv X (o12 rfl) rfl) rfl rfl (Nat.le_of_ble_eq_true rfl) dX12_spreads_135) rfl (fun _ μ11 h => ?_)
        refine g_aload_n 139 X 1 dX12_spreads_138 rfl rfl ?_
        refine g_aload_n 140 X 1 dX12_spreads_139 rfl rfl ?_
        refine g_getl 143 X fl_X12_210_12 (o12 rfl) rfl dX12_spreads_140 h rfl (fun v12 h => ?_)
        refine g_putl 146 X fp_X12_272_12 (o12 rfl) rfl (Nat.le_of_ble_eq_true rfl) rfl rfl dX12_spreads_143 h rfl (fun μ13 h => ?_)
        refine g_aload_n 147 X 1 dX12_spreads_146 rfl rfl ?_
        refine g_aload_n 148 X 1 dX12_spreads_147 rfl rfl ?_
        refine g_getl 151 X fl_X12_214_12 (o12 rfl) rfl dX12_spreads_148 h rfl (fun v14 h => ?_)
        refine g_putl 154 X fp_X12_275_12 (o12 rfl) rfl (Nat.le_of_ble_eq_true rfl) rfl rfl dX12_spreads_151 h rfl (fun μ15 h => ?_)
        refine g_iconst 155 X dX12_spreads_154 ic1 rfl ?_
        exact g_zret X hr nb1 dX12_spreads_155 h
    · refine g_iload_n 18 X 1 dX12_spreads_17 rfl rfl ?_
      refine g_iload 20 X 5 dX12_spreads_18 rfl rfl ?_
      refine g_ishr 21 X dX12_spreads_20 rfl ?_
      refine g_iconst 22 X dX12_spreads_21 ic1 rfl ?_
      refine g_iand 23 X dX12_spreads_22 rfl ?_
      refine g_iconst 24 X dX12_spreads_23 ic1 rfl ?_
      refine g_icmp_ne 60 27 X dX12_spreads_24 (by decide) rfl h (fun h => ?_) (fun h => ?_)
      · exact G.sub [0, 1, 2, 3, 4, 5] rfl (b_X12_spreads_60 X hr ih _ _ _ _ _ _ h)
      · refine g_aload_n 28 X 0 dX12_spreads_27 rfl rfl ?_
        refine g_iload 30 X 5 dX12_spreads_28 rfl rfl ?_
        refine g_ci 33 h (fun q e => r_V X cd_X12_134_X12_valueOf_X12 ⟨rfl, rfl⟩ ⟨Nat.le_of_ble_eq_true rfl, Nat.le_of_ble_eq_true rfl⟩ (c_X12_valueOf X.2.2.2.2  e) PC_blind (pc_pre X) (g_recv X (o12 rfl) rfl) rfl rfl (Nat.le_of_ble_eq_true rfl) dX12_spreads_30) rfl (fun v16 μ17 h => ?_)
        refine g_i2l 34 X dX12_spreads_33 rfl ?_
        refine g_topl h (fun v18 h => ?_)
        refine g_lstore 36 X dX12_spreads_34 (by decide) rfl ?_
        refine g_lload 38 X 0 dX12_spreads_36 rfl rfl ?_
        refine g_lconst 39 X dX12_spreads_38 lc0 rfl ?_
        refine g_lcmp 40 X dX12_spreads_39 rfl ?_
        refine g_if_ge 45 43 X dX12_spreads_40 (by decide) rfl h (fun h => ?_) (fun h => ?_)
        · refine g_lload_n 46 X 4 dX12_spreads_45 rfl rfl ?_
          refine g_lload 48 X 0 dX12_spreads_46 rfl rfl ?_
          refine g_ladd 49 X dX12_spreads_48 rfl ?_
          refine g_topl h (fun v19 h => ?_)
          refine g_lstore_n 50 X dX12_spreads_49 (by decide) rfl ?_
          refine g_lload 52 X 5 dX12_spreads_50 rfl rfl ?_
          refine g_lload 54 X 1 dX12_spreads_52 rfl rfl ?_
          refine g_lload 56 X 1 dX12_spreads_54 rfl rfl ?_
          refine g_lmul 57 X dX12_spreads_56 rfl ?_
          refine g_ladd 58 X dX12_spreads_57 rfl ?_
          refine g_topl h (fun v20 h => ?_)
          refine g_lstore 60 X dX12_spreads_58 (by decide) rfl ?_
          exact G.sub [3, 4, 5, 1, 0, 6] rfl (b_X12_spreads_60 X hr ih _ _ _ _ _ _ h)
        · refine g_iconst 44 X dX12_spreads_43 ic0 rfl ?_
          exact g_zret X hr nb0 dX12_spreads_44 h
set_option maxRecDepth 100000 in
set_option maxHeartbeats 4000000 in
theorem b_X12_spreads_0 {p : Program} {l : Launch} {e : Env} {s : State} {m : MethodId} {args : Array Value} {below : List Frame} {meth : Method} {c : Code} {D : va_G} {ks : Nat → ClassId} {A : Nat → Prop} {ad : Nat → Nat} (X : Cx p s m args meth c cX12_spreads 10 RX12 D ks A 24 ad (shR ks ad)) (hr : meth.sig.returnType = (some .boolean)) {F : Nat} {r : Int32 × Mem} (μ : Mem) (x1 : Int32) (x2 : Int32)  (h : f_X12_spreads F  μ x1 x2 = some r) : G p l e rm_X12_spreads s m args below meth c D A 10 (MQ below (QI D 24 ad (shR ks ad) A r) args s 0 0 A) 24 ad (shR ks ad) μ 0 [(0, .ref (ad 0)), (1, .int x1), (2, .int x2)] [] := by
  refine g_lconst 1 X dX12_spreads_0 lc0 rfl ?_
  refine g_lstore_n 2 X dX12_spreads_1 (by decide) rfl ?_
  refine g_lconst 3 X dX12_spreads_2 lc0 rfl ?_
  refine g_lstore 5 X dX12_spreads_3 (by decide) rfl ?_
  refine g_iconst 6 X dX12_spreads_5 ic0 rfl ?_
  refine g_istore 8 X dX12_spreads_6 (by decide) rfl ?_
  exact G.sub [3, 4, 5, 2, 1, 0] rfl (b_X12_spreads_8 X hr  F _ _ _ _ _ _ h)
set_option maxRecDepth 100000 in
theorem c_X12_spreads {l : Launch} {D : va_G} {ks : Nat → ClassId} {A : Nat → Prop} {ad : Nat → Nat} (hD : ∀ μ : Mem, va_D A (wsM 24 ad (shR ks ad) μ)) {F : Nat} {μ : Mem} {x1 : Int32} {x2 : Int32} {r : Int32 × Mem}  (h : f_X12_spreads F μ x1 x2 = some r) : Met l yX12_spreads (Cond.code yX12_spreads cX12_spreads 10 (some .boolean) :: wg) rm_X12_spreads (PC D ks 24 ad (shR ks ad) μ [.ref (ad 0), .int x1, .int x2]) (QI D 24 ad (shR ks ad) A r) 0 0 A := by
  refine met_of (by decide) (Nat.le_of_ble_eq_true rfl) hD ?_
  intro p e s m args below meth c X hr
  exact G.sub [0, 1, 2] rfl (b_X12_spreads_0 X hr  _ _ _ h)
abbrev rm_X12_findSpread : Room := { frames := 4, cells := 0, slots := 0, locals := 96 }
set_option maxRecDepth 100000 in
set_option maxHeartbeats 4000000 in
theorem b_X12_findSpread_108 {p : Program} {l : Launch} {e : Env} {s : State} {m : MethodId} {args : Array Value} {below : List Frame} {meth : Method} {c : Code} {D : va_G} {ks : Nat → ClassId} {A : Nat → Prop} {ad : Nat → Nat} (X : Cx p s m args meth c cX12_findSpread 4 RX12 D ks A 24 ad (shR ks ad)) (hr : meth.sig.returnType = (some .boolean)) {F : Nat} {r : Int32 × Mem} {k66 : Mem → Int32 → Int32 → Option (Int32 × Mem)} (hk66 : ∀ (μ : Mem) (x2 : Int32) (x3 : Int32), k66 μ x2 x3 = some r → G p l e rm_X12_findSpread s m args below meth c D A 4 (MQ below (QI D 24 ad (shR ks ad) A r) args s 0 0 A) 24 ad (shR ks ad) μ 66 [(0, .ref (ad 0)), (2, .int x2), (3, .int x3)] []) (μ : Mem) (x3 : Int32) (z0 : Int32)  (h : f_X12_findSpread_b108 F k66 μ x3 z0 = some r) : G p l e rm_X12_findSpread s m args below meth c D A 4 (MQ below (QI D 24 ad (shR ks ad) A r) args s 0 0 A) 24 ad (shR ks ad) μ 108 [(0, .ref (ad 0)), (3, .int x3)] [.int z0] := by
  refine g_istore_n 109 X dX12_findSpread_108 (by decide) rfl ?_
  refine g_iinc 112 X 2 dX12_findSpread_109 ic1 rfl (by decide) rfl ?_
  refine g_goto 66 X dX12_findSpread_112 (by decide) ?_
  exact G.sub [2, 1, 0] rfl (hk66 _ _ _ h)
set_option maxRecDepth 100000 in
set_option maxHeartbeats 4000000 in
theorem b_X12_findSpread_107 {p : Program} {l : Launch} {e : Env} {s : State} {m : MethodId} {args : Array Value} {below : List Frame} {meth : Method} {c : Code} {D : va_G} {ks : Nat → ClassId} {A : Nat → Prop} {ad : Nat → Nat} (X : Cx p s m args meth c cX12_findSpread 4 RX12 D ks A 24 ad (shR ks ad)) (hr : meth.sig.returnType = (some .boolean)) {F : Nat} {r : Int32 × Mem} {k66 : Mem → Int32 → Int32 → Option (Int32 × Mem)} (hk66 : ∀ (μ : Mem) (x2 : Int32) (x3 : Int32), k66 μ x2 x3 = some r → G p l e rm_X12_findSpread s m args below meth c D A 4 (MQ below (QI D 24 ad (shR ks ad) A r) args s 0 0 A) 24 ad (shR ks ad) μ 66 [(0, .ref (ad 0)), (2, .int x2), (3, .int x3)] []) (μ : Mem) (x3 : Int32)  (h : f_X12_findSpread_b107 F k66 μ x3 = some r) : G p l e rm_X12_findSpread s m args below meth c D A 4 (MQ below (QI D 24 ad (shR ks ad) A r) args s 0 0 A) 24 ad (shR ks ad) μ 107 [(0, .ref (ad 0)), (3, .int x3)] [] := by
  refine g_iconst 108 X dX12_findSpread_107 ic0 rfl ?_
  exact G.sub [0, 1] rfl (b_X12_findSpread_108 X hr hk66 _ _ _ h)
set_option maxRecDepth 100000 in
set_option maxHeartbeats 4000000 in
theorem b_X12_findSpread_103 {p : Program} {l : Launch} {e : Env} {s : State} {m : MethodId} {args : Array Value} {below : List Frame} {meth : Method} {c : Code} {D : va_G} {ks : Nat → ClassId} {A : Nat → Prop} {ad : Nat → Nat} (X : Cx p s m args meth c cX12_findSpread 4 RX12 D ks A 24 ad (shR ks ad)) (hr : meth.sig.returnType = (some .boolean)) {F : Nat} {r : Int32 × Mem} {k66 : Mem → Int32 → Int32 → Option (Int32 × Mem)} (hk66 : ∀ (μ : Mem) (x2 : Int32) (x3 : Int32), k66 μ x2 x3 = some r → G p l e rm_X12_findSpread s m args below meth c D A 4 (MQ below (QI D 24 ad (shR ks ad) A r) args s 0 0 A) 24 ad (shR ks ad) μ 66 [(0, .ref (ad 0)), (2, .int x2), (3, .int x3)] []) (μ : Mem) (x3 : Int32)  (h : f_X12_findSpread_b103 F k66 μ x3 = some r) : G p l e rm_X12_findSpread s m args below meth c D A 4 (MQ below (QI D 24 ad (shR ks ad) A r) args s 0 0 A) 24 ad (shR ks ad) μ 103 [(0, .ref (ad 0)), (3, .int x3)] [] := by
  refine g_iconst 104 X dX12_findSpread_103 ic1 rfl ?_
  refine g_goto 108 X dX12_findSpread_104 (by decide) ?_
  exact G.sub [0, 1] rfl (b_X12_findSpread_108 X hr hk66 _ _ _ h)
set_option maxRecDepth 100000 in
set_option maxHeartbeats 4000000 in
theorem b_X12_findSpread_66 {p : Program} {l : Launch} {e : Env} {s : State} {m : MethodId} {args : Array Value} {below : List Frame} {meth : Method} {c : Code} {D : va_G} {ks : Nat → ClassId} {A : Nat → Prop} {ad : Nat → Nat} (X : Cx p s m args meth c cX12_findSpread 4 RX12 D ks A 24 ad (shR ks ad)) (hr : meth.sig.returnType = (some .boolean)) {F : Nat} {r : Int32 × Mem} : ∀ n : Nat, ∀ (μ : Mem) (x2 : Int32) (x3 : Int32), f_X12_findSpread_b66 F  n μ x2 x3 = some r → G p l e rm_X12_findSpread s m args below meth c D A 4 (MQ below (QI D 24 ad (shR ks ad) A r) args s 0 0 A) 24 ad (shR ks ad) μ 66 [(0, .ref (ad 0)), (2, .int x2), (3, .int x3)] [] := by
  intro n
  induction n with
  | zero =>
    intro _ _ _ h
    cases h
  | succ n ih =>
    intro μ x2 x3 h
    refine g_iload_n 67 X 2 dX12_findSpread_66 rfl rfl ?_
    refine g_iconst 68 X dX12_findSpread_67 ic4 rfl ?_
    refine g_icmp_ge 115 71 X dX12_findSpread_68 (by decide) rfl h (fun h => ?_) (fun h => ?_)
    · refine g_iload_n 116 X 1 dX12_findSpread_115 rfl rfl ?_
      obtain ⟨hz, h⟩ := zk_some h
      exact g_zret X hr hz dX12_findSpread_116 h
    · refine g_iload_n 72 X 1 dX12_findSpread_71 rfl rfl ?_
      refine g_if_eq 107 75 X dX12_findSpread_72 (by decide) rfl h (fun h => ?_) (fun h => ?_)
      · exact G.sub [0, 2] rfl (b_X12_findSpread_107 X hr ih _ _ h)
      · refine g_aload_n 76 X 0 dX12_findSpread_75 rfl rfl ?_
        refine g_getr 79 X fl_X12_53_12 (o12 rfl) rfl dX12_findSpread_76 rfl ?_
        refine g_iload_n 80 X 2 dX12_findSpread_79 rfl rfl ?_
        refine g_iald 81 X (aiR (n := 4) (by decide) rfl) dX12_findSpread_80 h rfl (fun v1 h => ?_)
        refine g_if_eq 103 84 X dX12_findSpread_81 (by decide) rfl h (fun h => ?_) (fun h => ?_)
        · exact G.sub [0, 2] rfl (b_X12_findSpread_103 X hr ih _ _ h)
        · refine g_aload_n 85 X 0 dX12_findSpread_84 rfl rfl ?_
          refine g_aload_n 86 X 0 dX12_findSpread_85 rfl rfl ?_
          refine g_iconst 87 X dX12_findSpread_86 ic0 rfl ?_
          refine g_iload_n 88 X 2 dX12_findSpread_87 rfl rfl ?_
          refine g_ci 91 h (fun q e => r_V X cd_X12_260_X12_bitsOf_X12 ⟨rfl, rfl⟩ ⟨Nat.le_of_ble_eq_true rfl, Nat.le_of_ble_eq_true rfl⟩ (c_X12_bitsOf X.2.2.2.2  e) PC_blind (pc_pre X) (g_recv X (o12 rfl) rfl) rfl rfl (Nat.le_of_ble_eq_true rfl) dX12_findSpread_88) rfl (fun v2 μ3 h => ?_)
          refine g_aload_n 92 X 0 dX12_findSpread_91 rfl rfl ?_
          refine g_getr 95 X fl_X12_53_12 (o12 rfl) rfl dX12_findSpread_92 rfl ?_
          refine g_iload_n 96 X 2 dX12_findSpread_95 rfl rfl ?_
          refine g_iald 97 X (aiR (n := 4) (by decide) rfl) dX12_findSpread_96 h rfl (fun v4 h => ?_)
          refine g_ci 100 h (fun q e => r_V X cd_X12_284_X12_spreads_X12 ⟨rfl, rfl⟩ ⟨Nat.le_of_ble_eq_true rfl, Nat.le_of_ble_eq_true rfl⟩ (c_X12_spreads X.2.2.2.2  e) PC_blind (pc_pre X) (g_recv X (o12 rfl) rfl) rfl rfl (Nat.le_of_ble_eq_true rfl) dX12_findSpread_97) rfl (fun v5 μ6 h => ?_)
          refine g_if_eq 107 103 X dX12_findSpread_100 (by decide) rfl h (fun h => ?_) (fun h => ?_)
          · exact G.sub [0, 2] rfl (b_X12_findSpread_107 X hr ih _ _ h)
          · exact G.sub [0, 2] rfl (b_X12_findSpread_103 X hr ih _ _ h)
set_option maxRecDepth 100000 in
set_option maxHeartbeats 4000000 in
theorem b_X12_findSpread_38 {p : Program} {l : Launch} {e : Env} {s : State} {m : MethodId} {args : Array Value} {below : List Frame} {meth : Method} {c : Code} {D : va_G} {ks : Nat → ClassId} {A : Nat → Prop} {ad : Nat → Nat} (X : Cx p s m args meth c cX12_findSpread 4 RX12 D ks A 24 ad (shR ks ad)) (hr : meth.sig.returnType = (some .boolean)) {F : Nat} {r : Int32 × Mem} (μ : Mem)  (h : f_X12_findSpread_b38 F  μ = some r) : G p l e rm_X12_findSpread s m args below meth c D A 4 (MQ below (QI D 24 ad (shR ks ad) A r) args s 0 0 A) 24 ad (shR ks ad) μ 38 [(0, .ref (ad 0))] [] := by
  refine g_aload_n 39 X 0 dX12_findSpread_38 rfl rfl ?_
  refine g_geti 42 X fl_X12_166_12 (o12 rfl) rfl dX12_findSpread_39 h rfl (fun v1 h => ?_)
  refine g_bipush 44 X dX12_findSpread_42 bp97 rfl ?_
  refine g_icmp_ne 62 47 X dX12_findSpread_44 (by decide) rfl h (fun h => ?_) (fun h => ?_)
  · refine g_iconst 63 X dX12_findSpread_62 ic1 rfl ?_
    refine g_istore_n 64 X dX12_findSpread_63 (by decide) rfl ?_
    refine g_iconst 65 X dX12_findSpread_64 ic0 rfl ?_
    refine g_istore_n 66 X dX12_findSpread_65 (by decide) rfl ?_
    exact G.sub [2, 1, 0] rfl (b_X12_findSpread_66 X hr  F _ _ _ h)
  · refine g_aload_n 48 X 0 dX12_findSpread_47 rfl rfl ?_
    refine g_aload_n 49 X 0 dX12_findSpread_48 rfl rfl ?_
    refine g_ci 52 h (fun q e => r_V X cd_X12_254_X12_allBits_X12 ⟨rfl, rfl⟩ ⟨Nat.le_of_ble_eq_true rfl, Nat.le_of_ble_eq_true rfl⟩ (c_X12_allBits X.2.2.2.2  e) PC_blind (pc_pre X) (g_recv X (o12 rfl) rfl) rfl rfl (Nat.le_of_ble_eq_true rfl) dX12_findSpread_49) rfl (fun v2 μ3 h => ?_)
    refine g_aload_n 53 X 0 dX12_findSpread_52 rfl rfl ?_
    refine g_getr 56 X fl_X12_53_12 (o12 rfl) rfl dX12_findSpread_53 rfl ?_
    refine g_iconst 57 X dX12_findSpread_56 ic0 rfl ?_
    refine g_iald 58 X (aiR (n := 4) (by decide) rfl) dX12_findSpread_57 h rfl (fun v4 h => ?_)
    refine g_ci 61 h (fun q e => r_V X cd_X12_284_X12_spreads_X12 ⟨rfl, rfl⟩ ⟨Nat.le_of_ble_eq_true rfl, Nat.le_of_ble_eq_true rfl⟩ (c_X12_spreads X.2.2.2.2  e) PC_blind (pc_pre X) (g_recv X (o12 rfl) rfl) rfl rfl (Nat.le_of_ble_eq_true rfl) dX12_findSpread_58) rfl (fun v5 μ6 h => ?_)
    obtain ⟨hz, h⟩ := zk_some h
    exact g_zret X hr hz dX12_findSpread_61 h
set_option maxRecDepth 100000 in
set_option maxHeartbeats 4000000 in
theorem b_X12_findSpread_0 {p : Program} {l : Launch} {e : Env} {s : State} {m : MethodId} {args : Array Value} {below : List Frame} {meth : Method} {c : Code} {D : va_G} {ks : Nat → ClassId} {A : Nat → Prop} {ad : Nat → Nat} (X : Cx p s m args meth c cX12_findSpread 4 RX12 D ks A 24 ad (shR ks ad)) (hr : meth.sig.returnType = (some .boolean)) {F : Nat} {r : Int32 × Mem} (μ : Mem) (x1 : Int32)  (h : f_X12_findSpread F  μ x1 = some r) : G p l e rm_X12_findSpread s m args below meth c D A 4 (MQ below (QI D 24 ad (shR ks ad) A r) args s 0 0 A) 24 ad (shR ks ad) μ 0 [(0, .ref (ad 0)), (1, .int x1)] [] := by
  refine g_aload_n 1 X 0 dX12_findSpread_0 rfl rfl ?_
  refine g_lconst 2 X dX12_findSpread_1 lc0 rfl ?_
  refine g_putl 5 X fp_X12_272_12 (o12 rfl) rfl (Nat.le_of_ble_eq_true rfl) rfl rfl dX12_findSpread_2 h rfl (fun μ1 h => ?_)
  refine g_aload_n 6 X 0 dX12_findSpread_5 rfl rfl ?_
  refine g_lconst 7 X dX12_findSpread_6 lc1 rfl ?_
  refine g_putl 10 X fp_X12_275_12 (o12 rfl) rfl (Nat.le_of_ble_eq_true rfl) rfl rfl dX12_findSpread_7 h rfl (fun μ2 h => ?_)
  refine g_aload_n 11 X 0 dX12_findSpread_10 rfl rfl ?_
  refine g_iload_n 12 X 1 dX12_findSpread_11 rfl rfl ?_
  refine g_ci 15 h (fun q e => r_V X cd_X12_188_X12_canBe_X12 ⟨rfl, rfl⟩ ⟨Nat.le_of_ble_eq_true rfl, Nat.le_of_ble_eq_true rfl⟩ (c_X12_canBe X.2.2.2.2  e) PC_blind (pc_pre X) (g_recv X (o12 rfl) rfl) rfl rfl (Nat.le_of_ble_eq_true rfl) dX12_findSpread_12) rfl (fun v3 μ4 h => ?_)
  refine g_if_eq 36 18 X dX12_findSpread_15 (by decide) rfl h (fun h => ?_) (fun h => ?_)
  · refine g_iconst 37 X dX12_findSpread_36 ic0 rfl ?_
    exact g_zret X hr nb0 dX12_findSpread_37 h
  · refine g_aload_n 19 X 0 dX12_findSpread_18 rfl rfl ?_
    refine g_geti 22 X fl_X12_166_12 (o12 rfl) rfl dX12_findSpread_19 h rfl (fun v5 h => ?_)
    refine g_bipush 24 X dX12_findSpread_22 bp97 rfl ?_
    refine g_icmp_eq 38 27 X dX12_findSpread_24 (by decide) rfl h (fun h => ?_) (fun h => ?_)
    · exact G.sub [0] rfl (b_X12_findSpread_38 X hr  _ h)
    · refine g_aload_n 28 X 0 dX12_findSpread_27 rfl rfl ?_
      refine g_geti 31 X fl_X12_166_12 (o12 rfl) rfl dX12_findSpread_28 h rfl (fun v6 h => ?_)
      refine g_bipush 33 X dX12_findSpread_31 bp108 rfl ?_
      refine g_icmp_eq 38 36 X dX12_findSpread_33 (by decide) rfl h (fun h => ?_) (fun h => ?_)
      · exact G.sub [0] rfl (b_X12_findSpread_38 X hr  _ h)
      · refine g_iconst 37 X dX12_findSpread_36 ic0 rfl ?_
        exact g_zret X hr nb0 dX12_findSpread_37 h
set_option maxRecDepth 100000 in
theorem c_X12_findSpread {l : Launch} {D : va_G} {ks : Nat → ClassId} {A : Nat → Prop} {ad : Nat → Nat} (hD : ∀ μ : Mem, va_D A (wsM 24 ad (shR ks ad) μ)) {F : Nat} {μ : Mem} {x1 : Int32} {r : Int32 × Mem}  (h : f_X12_findSpread F μ x1 = some r) : Met l yX12_findSpread (Cond.code yX12_findSpread cX12_findSpread 4 (some .boolean) :: wg) rm_X12_findSpread (PC D ks 24 ad (shR ks ad) μ [.ref (ad 0), .int x1]) (QI D 24 ad (shR ks ad) A r) 0 0 A := by
  refine met_of (by decide) (Nat.le_of_ble_eq_true rfl) hD ?_
  intro p e s m args below meth c X hr
  exact G.sub [0, 1] rfl (b_X12_findSpread_0 X hr  _ _ h)
abbrev rm_X12_spread : Room := { frames := 5, cells := 0, slots := 0, locals := 119 }
set_option maxRecDepth 100000 in
set_option maxHeartbeats 4000000 in
theorem b_X12_spread_17 {p : Program} {l : Launch} {e : Env} {s : State} {m : MethodId} {args : Array Value} {below : List Frame} {meth : Method} {c : Code} {D : va_G} {ks : Nat → ClassId} {A : Nat → Prop} {ad : Nat → Nat} (X : Cx p s m args meth c cX12_spread 3 RX12 D ks A 24 ad (shR ks ad)) (hr : meth.sig.returnType = (some .long)) {F : Nat} {r : Int64 × Mem} (μ : Mem)  (h : f_X12_spread_b17 F  μ = some r) : G p l e rm_X12_spread s m args below meth c D A 3 (MQ below (QL D 24 ad (shR ks ad) A r) args s 0 0 A) 24 ad (shR ks ad) μ 17 [] [] := by
  refine g_bipush 19 X dX12_spread_17 bpm2 rfl ?_
  refine g_nl 22 h (fun q e => r_S X cd_X12_198_X12_no ⟨rfl, rfl⟩ ⟨Nat.le_of_ble_eq_true rfl, Nat.le_of_ble_eq_true rfl⟩ (c_X12_no e) PC_blind (pn_pre X) rfl rfl (Nat.le_of_ble_eq_true rfl) dX12_spread_19) rfl (fun v1 h => ?_)
  exact g_lret X hr dX12_spread_22 h
set_option maxRecDepth 100000 in
set_option maxHeartbeats 4000000 in
theorem b_X12_spread_0 {p : Program} {l : Launch} {e : Env} {s : State} {m : MethodId} {args : Array Value} {below : List Frame} {meth : Method} {c : Code} {D : va_G} {ks : Nat → ClassId} {A : Nat → Prop} {ad : Nat → Nat} (X : Cx p s m args meth c cX12_spread 3 RX12 D ks A 24 ad (shR ks ad)) (hr : meth.sig.returnType = (some .long)) {F : Nat} {r : Int64 × Mem} (μ : Mem) (x1 : Int32) (x2 : Int32)  (h : f_X12_spread F  μ x1 x2 = some r) : G p l e rm_X12_spread s m args below meth c D A 3 (MQ below (QL D 24 ad (shR ks ad) A r) args s 0 0 A) 24 ad (shR ks ad) μ 0 [(0, .ref (ad 0)), (1, .int x1), (2, .int x2)] [] := by
  refine g_iload_n 1 X 1 dX12_spread_0 rfl rfl ?_
  refine g_ni 4 h (fun q e => r_S X cd_X12_147_X12_isPlan ⟨rfl, rfl⟩ ⟨Nat.le_of_ble_eq_true rfl, Nat.le_of_ble_eq_true rfl⟩ (c_X12_isPlan e) PC_blind (pn_pre X) rfl rfl (Nat.le_of_ble_eq_true rfl) dX12_spread_1) rfl (fun v1 h => ?_)
  refine g_if_eq 17 7 X dX12_spread_4 (by decide) rfl h (fun h => ?_) (fun h => ?_)
  · exact G.sub [] rfl (b_X12_spread_17 X hr  _ h)
  · refine g_iload_n 8 X 2 dX12_spread_7 rfl rfl ?_
    refine g_i2l 9 X dX12_spread_8 rfl ?_
    refine g_lconst 10 X dX12_spread_9 lc0 rfl ?_
    refine g_lconst 11 X dX12_spread_10 lc1 rfl ?_
    refine g_ni 14 h (fun q e => r_S X cd_X12_92_X12_in ⟨rfl, rfl⟩ ⟨Nat.le_of_ble_eq_true rfl, Nat.le_of_ble_eq_true rfl⟩ (c_X12_in e) PC_blind (pn_pre X) rfl rfl (Nat.le_of_ble_eq_true rfl) dX12_spread_11) rfl (fun v2 h => ?_)
    refine g_if_ne 23 17 X dX12_spread_14 (by decide) rfl h (fun h => ?_) (fun h => ?_)
    · refine g_aload_n 24 X 0 dX12_spread_23 rfl rfl ?_
      refine g_iload_n 25 X 1 dX12_spread_24 rfl rfl ?_
      refine g_ci 28 h (fun q e => r_V X cd_X12_287_X12_findSpread_X12 ⟨rfl, rfl⟩ ⟨Nat.le_of_ble_eq_true rfl, Nat.le_of_ble_eq_true rfl⟩ (c_X12_findSpread X.2.2.2.2  e) PC_blind (pc_pre X) (g_recv X (o12 rfl) rfl) rfl rfl (Nat.le_of_ble_eq_true rfl) dX12_spread_25) rfl (fun v3 μ4 h => ?_)
      refine g_if_eq 49 31 X dX12_spread_28 (by decide) rfl h (fun h => ?_) (fun h => ?_)
      · refine g_bipush 51 X dX12_spread_49 bpm3 rfl ?_
        refine g_nl 54 h (fun q e => r_S X cd_X12_198_X12_no ⟨rfl, rfl⟩ ⟨Nat.le_of_ble_eq_true rfl, Nat.le_of_ble_eq_true rfl⟩ (c_X12_no e) PC_blind (pn_pre X) rfl rfl (Nat.le_of_ble_eq_true rfl) dX12_spread_51) rfl (fun v5 h => ?_)
        exact g_lret X hr dX12_spread_54 h
      · refine g_iload_n 32 X 2 dX12_spread_31 rfl rfl ?_
        refine g_if_ne 42 35 X dX12_spread_32 (by decide) rfl h (fun h => ?_) (fun h => ?_)
        · refine g_aload_n 43 X 0 dX12_spread_42 rfl rfl ?_
          refine g_getl 46 X fl_X12_275_12 (o12 rfl) rfl dX12_spread_43 h rfl (fun v6 h => ?_)
          refine g_goto 54 X dX12_spread_46 (by decide) ?_
          exact g_lret X hr dX12_spread_54 h
        · refine g_aload_n 36 X 0 dX12_spread_35 rfl rfl ?_
          refine g_getl 39 X fl_X12_272_12 (o12 rfl) rfl dX12_spread_36 h rfl (fun v7 h => ?_)
          refine g_goto 54 X dX12_spread_39 (by decide) ?_
          exact g_lret X hr dX12_spread_54 h
    · exact G.sub [] rfl (b_X12_spread_17 X hr  _ h)
set_option maxRecDepth 100000 in
theorem c_X12_spread {l : Launch} {D : va_G} {ks : Nat → ClassId} {A : Nat → Prop} {ad : Nat → Nat} (hD : ∀ μ : Mem, va_D A (wsM 24 ad (shR ks ad) μ)) {F : Nat} {μ : Mem} {x1 : Int32} {x2 : Int32} {r : Int64 × Mem}  (h : f_X12_spread F μ x1 x2 = some r) : Met l yX12_spread (Cond.code yX12_spread cX12_spread 3 (some .long) :: wg) rm_X12_spread (PC D ks 24 ad (shR ks ad) μ [.ref (ad 0), .int x1, .int x2]) (QL D 24 ad (shR ks ad) A r) 0 0 A := by
  refine met_of (by decide) (Nat.le_of_ble_eq_true rfl) hD ?_
  intro p e s m args below meth c X hr
  exact G.sub [0, 1, 2] rfl (b_X12_spread_0 X hr  _ _ _ h)
abbrev rm_X12_wider : Room := { frames := 5, cells := 0, slots := 0, locals := 119 }
set_option maxRecDepth 100000 in
set_option maxHeartbeats 4000000 in
theorem b_X12_wider_128 {p : Program} {l : Launch} {e : Env} {s : State} {m : MethodId} {args : Array Value} {below : List Frame} {meth : Method} {c : Code} {D : va_G} {ks : Nat → ClassId} {A : Nat → Prop} {ad : Nat → Nat} (X : Cx p s m args meth c cX12_wider 18 RX12 D ks A 24 ad (shR ks ad)) (hr : meth.sig.returnType = (some .int)) {F : Nat} {r : Int32 × Mem} (μ : Mem) (x3 : Int64) (x7 : Int64) (x11 : Int32)  (h : f_X12_wider_b128 F  μ x3 x7 x11 = some r) : G p l e rm_X12_wider s m args below meth c D A 18 (MQ below (QI D 24 ad (shR ks ad) A r) args s 0 0 A) 24 ad (shR ks ad) μ 128 [(3, .long x3), (7, .long x7), (11, .int x11)] [] := by
  refine g_lload_n 129 X 0 dX12_wider_128 rfl rfl ?_
  refine g_lload 131 X 1 dX12_wider_129 rfl rfl ?_
  refine g_lcmp 132 X dX12_wider_131 rfl ?_
  refine g_if_ne 139 135 X dX12_wider_132 (by decide) rfl h (fun h => ?_) (fun h => ?_)
  · refine g_lload_n 140 X 0 dX12_wider_139 rfl rfl ?_
    refine g_lload 142 X 1 dX12_wider_140 rfl rfl ?_
    refine g_lcmp 143 X dX12_wider_142 rfl ?_
    refine g_if_le 151 146 X dX12_wider_143 (by decide) rfl h (fun h => ?_) (fun h => ?_)
    · refine g_iload 153 X 2 dX12_wider_151 rfl rfl ?_
      refine g_ineg 154 X dX12_wider_153 rfl ?_
      exact g_iret X hr dX12_wider_154 h
    · refine g_iload 148 X 2 dX12_wider_146 rfl rfl ?_
      refine g_goto 154 X dX12_wider_148 (by decide) ?_
      exact g_iret X hr dX12_wider_154 h
  · refine g_iconst 136 X dX12_wider_135 ic0 rfl ?_
    refine g_goto 154 X dX12_wider_136 (by decide) ?_
    exact g_iret X hr dX12_wider_154 h
set_option maxRecDepth 100000 in
set_option maxHeartbeats 4000000 in
theorem b_X12_wider_65 {p : Program} {l : Launch} {e : Env} {s : State} {m : MethodId} {args : Array Value} {below : List Frame} {meth : Method} {c : Code} {D : va_G} {ks : Nat → ClassId} {A : Nat → Prop} {ad : Nat → Nat} (X : Cx p s m args meth c cX12_wider 18 RX12 D ks A 24 ad (shR ks ad)) (hr : meth.sig.returnType = (some .int)) {F : Nat} {r : Int32 × Mem} : ∀ n : Nat, ∀ (μ : Mem) (x3 : Int64) (x5 : Int64) (x7 : Int64) (x9 : Int64) (x11 : Int32), f_X12_wider_b65 F  n μ x3 x5 x7 x9 x11 = some r → G p l e rm_X12_wider s m args below meth c D A 18 (MQ below (QI D 24 ad (shR ks ad) A r) args s 0 0 A) 24 ad (shR ks ad) μ 65 [(3, .long x3), (5, .long x5), (7, .long x7), (9, .long x9), (11, .int x11)] [] := by
  intro n
  induction n with
  | zero =>
    intro _ _ _ _ _ _ h
    cases h
  | succ n ih =>
    intro μ x3 x5 x7 x9 x11 h
    refine g_lload_n 66 X 0 dX12_wider_65 rfl rfl ?_
    refine g_lload 68 X 1 dX12_wider_66 rfl rfl ?_
    refine g_ldiv 69 X dX12_wider_68 h rfl (fun h => ?_)
    refine g_topl h (fun v1 h => ?_)
    refine g_lstore 71 X dX12_wider_69 (by decide) rfl ?_
    refine g_lload 73 X 3 dX12_wider_71 rfl rfl ?_
    refine g_lload 75 X 4 dX12_wider_73 rfl rfl ?_
    refine g_ldiv 76 X dX12_wider_75 h rfl (fun h => ?_)
    refine g_topl h (fun v2 h => ?_)
    refine g_lstore 78 X dX12_wider_76 (by decide) rfl ?_
    refine g_lload 80 X 1 dX12_wider_78 rfl rfl ?_
    refine g_lload 82 X 0 dX12_wider_80 rfl rfl ?_
    refine g_lcmp 83 X dX12_wider_82 rfl ?_
    refine g_if_eq 103 86 X dX12_wider_83 (by decide) rfl h (fun h => ?_) (fun h => ?_)
    · refine g_lload_n 104 X 2 dX12_wider_103 rfl rfl ?_
      refine g_lload 106 X 3 dX12_wider_104 rfl rfl ?_
      refine g_lrem 107 X dX12_wider_106 h rfl (fun h => ?_)
      refine g_topl h (fun v3 h => ?_)
      refine g_lstore_n 108 X dX12_wider_107 (by decide) rfl ?_
      refine g_lload 110 X 4 dX12_wider_108 rfl rfl ?_
      refine g_lload 112 X 5 dX12_wider_110 rfl rfl ?_
      refine g_lrem 113 X dX12_wider_112 h rfl (fun h => ?_)
      refine g_topl h (fun v4 h => ?_)
      refine g_lstore 115 X dX12_wider_113 (by decide) rfl ?_
      refine g_lload_n 116 X 1 dX12_wider_115 rfl rfl ?_
      refine g_lconst 117 X dX12_wider_116 lc0 rfl ?_
      refine g_lcmp 118 X dX12_wider_117 rfl ?_
      refine g_if_eq 128 121 X dX12_wider_118 (by decide) rfl h (fun h => ?_) (fun h => ?_)
      · exact G.sub [1, 0, 6] rfl (b_X12_wider_128 X hr  _ _ _ _ h)
      · refine g_lload 123 X 0 dX12_wider_121 rfl rfl ?_
        refine g_lconst 124 X dX12_wider_123 lc0 rfl ?_
        refine g_lcmp 125 X dX12_wider_124 rfl ?_
        refine g_if_ne 155 128 X dX12_wider_125 (by decide) rfl h (fun h => ?_) (fun h => ?_)
        · refine g_lload_n 156 X 1 dX12_wider_155 rfl rfl ?_
          refine g_lstore 158 X dX12_wider_156 (by decide) rfl ?_
          refine g_lload 160 X 5 dX12_wider_158 rfl rfl ?_
          refine g_lstore_n 161 X dX12_wider_160 (by decide) rfl ?_
          refine g_lload 163 X 1 dX12_wider_161 rfl rfl ?_
          refine g_lstore 165 X dX12_wider_163 (by decide) rfl ?_
          refine g_lload 167 X 3 dX12_wider_165 rfl rfl ?_
          refine g_lstore 169 X dX12_wider_167 (by decide) rfl ?_
          refine g_lload 171 X 6 dX12_wider_169 rfl rfl ?_
          refine g_lstore 173 X dX12_wider_171 (by decide) rfl ?_
          refine g_lload 175 X 1 dX12_wider_173 rfl rfl ?_
          refine g_lstore 177 X dX12_wider_175 (by decide) rfl ?_
          refine g_iload 179 X 7 dX12_wider_177 rfl rfl ?_
          refine g_ineg 180 X dX12_wider_179 rfl ?_
          refine g_topi h (fun v5 h => ?_)
          refine g_istore 182 X dX12_wider_180 (by decide) rfl ?_
          refine g_goto 65 X dX12_wider_182 (by decide) ?_
          exact G.sub [5, 4, 2, 1, 0] rfl (ih _ _ _ _ _ _ h)
        · exact G.sub [1, 0, 6] rfl (b_X12_wider_128 X hr  _ _ _ _ h)
    · refine g_lload 88 X 1 dX12_wider_86 rfl rfl ?_
      refine g_lload 90 X 0 dX12_wider_88 rfl rfl ?_
      refine g_lcmp 91 X dX12_wider_90 rfl ?_
      refine g_if_le 99 94 X dX12_wider_91 (by decide) rfl h (fun h => ?_) (fun h => ?_)
      · refine g_iload 101 X 6 dX12_wider_99 rfl rfl ?_
        refine g_ineg 102 X dX12_wider_101 rfl ?_
        exact g_iret X hr dX12_wider_102 h
      · refine g_iload 96 X 6 dX12_wider_94 rfl rfl ?_
        refine g_goto 102 X dX12_wider_96 (by decide) ?_
        exact g_iret X hr dX12_wider_102 h
set_option maxRecDepth 100000 in
set_option maxHeartbeats 4000000 in
theorem b_X12_wider_0 {p : Program} {l : Launch} {e : Env} {s : State} {m : MethodId} {args : Array Value} {below : List Frame} {meth : Method} {c : Code} {D : va_G} {ks : Nat → ClassId} {A : Nat → Prop} {ad : Nat → Nat} (X : Cx p s m args meth c cX12_wider 18 RX12 D ks A 24 ad (shR ks ad)) (hr : meth.sig.returnType = (some .int)) {F : Nat} {r : Int32 × Mem} (μ : Mem) (x1 : Int32) (x2 : Int32)  (h : f_X12_wider F  μ x1 x2 = some r) : G p l e rm_X12_wider s m args below meth c D A 18 (MQ below (QI D 24 ad (shR ks ad) A r) args s 0 0 A) 24 ad (shR ks ad) μ 0 [(0, .ref (ad 0)), (1, .int x1), (2, .int x2)] [] := by
  refine g_iload_n 1 X 1 dX12_wider_0 rfl rfl ?_
  refine g_ni 4 h (fun q e => r_S X cd_X12_147_X12_isPlan ⟨rfl, rfl⟩ ⟨Nat.le_of_ble_eq_true rfl, Nat.le_of_ble_eq_true rfl⟩ (c_X12_isPlan e) PC_blind (pn_pre X) rfl rfl (Nat.le_of_ble_eq_true rfl) dX12_wider_1) rfl (fun v1 h => ?_)
  refine g_if_eq 14 7 X dX12_wider_4 (by decide) rfl h (fun h => ?_) (fun h => ?_)
  · refine g_bipush 16 X dX12_wider_14 bpm2 rfl ?_
    exact g_iret X hr dX12_wider_16 h
  · refine g_iload_n 8 X 2 dX12_wider_7 rfl rfl ?_
    refine g_ni 11 h (fun q e => r_S X cd_X12_147_X12_isPlan ⟨rfl, rfl⟩ ⟨Nat.le_of_ble_eq_true rfl, Nat.le_of_ble_eq_true rfl⟩ (c_X12_isPlan e) PC_blind (pn_pre X) rfl rfl (Nat.le_of_ble_eq_true rfl) dX12_wider_8) rfl (fun v2 h => ?_)
    refine g_if_ne 17 14 X dX12_wider_11 (by decide) rfl h (fun h => ?_) (fun h => ?_)
    · refine g_aload_n 18 X 0 dX12_wider_17 rfl rfl ?_
      refine g_iload_n 19 X 1 dX12_wider_18 rfl rfl ?_
      refine g_ci 22 h (fun q e => r_V X cd_X12_287_X12_findSpread_X12 ⟨rfl, rfl⟩ ⟨Nat.le_of_ble_eq_true rfl, Nat.le_of_ble_eq_true rfl⟩ (c_X12_findSpread X.2.2.2.2  e) PC_blind (pc_pre X) (g_recv X (o12 rfl) rfl) rfl rfl (Nat.le_of_ble_eq_true rfl) dX12_wider_19) rfl (fun v3 μ4 h => ?_)
      refine g_if_ne 28 25 X dX12_wider_22 (by decide) rfl h (fun h => ?_) (fun h => ?_)
      · refine g_aload_n 29 X 0 dX12_wider_28 rfl rfl ?_
        refine g_getl 32 X fl_X12_272_12 (o12 rfl) rfl dX12_wider_29 h rfl (fun v5 h => ?_)
        refine g_lstore_n 33 X dX12_wider_32 (by decide) rfl ?_
        refine g_aload_n 34 X 1 dX12_wider_33 rfl rfl ?_
        refine g_getl 37 X fl_X12_275_12 (o12 rfl) rfl dX12_wider_34 h rfl (fun v6 h => ?_)
        refine g_lstore 39 X dX12_wider_37 (by decide) rfl ?_
        refine g_aload_n 40 X 2 dX12_wider_39 rfl rfl ?_
        refine g_iload_n 41 X 4 dX12_wider_40 rfl rfl ?_
        refine g_ci 44 h (fun q e => r_V X cd_X12_287_X12_findSpread_X12 ⟨rfl, rfl⟩ ⟨Nat.le_of_ble_eq_true rfl, Nat.le_of_ble_eq_true rfl⟩ (c_X12_findSpread X.2.2.2.2  e) PC_blind (pc_pre X) (g_recv X (o12 rfl) rfl) rfl rfl (Nat.le_of_ble_eq_true rfl) dX12_wider_41) rfl (fun v7 μ8 h => ?_)
        refine g_if_ne 50 47 X dX12_wider_44 (by decide) rfl h (fun h => ?_) (fun h => ?_)
        · refine g_aload_n 51 X 2 dX12_wider_50 rfl rfl ?_
          refine g_getl 54 X fl_X12_272_12 (o12 rfl) rfl dX12_wider_51 h rfl (fun v9 h => ?_)
          refine g_lstore 56 X dX12_wider_54 (by decide) rfl ?_
          refine g_aload_n 57 X 3 dX12_wider_56 rfl rfl ?_
          refine g_getl 60 X fl_X12_275_12 (o12 rfl) rfl dX12_wider_57 h rfl (fun v10 h => ?_)
          refine g_lstore 62 X dX12_wider_60 (by decide) rfl ?_
          refine g_iconst 63 X dX12_wider_62 ic1 rfl ?_
          refine g_istore 65 X dX12_wider_63 (by decide) rfl ?_
          exact G.sub [4, 3, 2, 1, 0] rfl (b_X12_wider_65 X hr  F _ _ _ _ _ _ h)
        · refine g_bipush 49 X dX12_wider_47 bpm3 rfl ?_
          exact g_iret X hr dX12_wider_49 h
      · refine g_bipush 27 X dX12_wider_25 bpm3 rfl ?_
        exact g_iret X hr dX12_wider_27 h
    · refine g_bipush 16 X dX12_wider_14 bpm2 rfl ?_
      exact g_iret X hr dX12_wider_16 h
set_option maxRecDepth 100000 in
theorem c_X12_wider {l : Launch} {D : va_G} {ks : Nat → ClassId} {A : Nat → Prop} {ad : Nat → Nat} (hD : ∀ μ : Mem, va_D A (wsM 24 ad (shR ks ad) μ)) {F : Nat} {μ : Mem} {x1 : Int32} {x2 : Int32} {r : Int32 × Mem}  (h : f_X12_wider F μ x1 x2 = some r) : Met l yX12_wider (Cond.code yX12_wider cX12_wider 18 (some .int) :: wg) rm_X12_wider (PC D ks 24 ad (shR ks ad) μ [.ref (ad 0), .int x1, .int x2]) (QI D 24 ad (shR ks ad) A r) 0 0 A := by
  refine met_of (by decide) (Nat.le_of_ble_eq_true rfl) hD ?_
  intro p e s m args below meth c X hr
  exact G.sub [0, 1, 2] rfl (b_X12_wider_0 X hr  _ _ _ h)
abbrev rm_X12_edge : Room := { frames := 6, cells := 0, slots := 0, locals := 139 }
set_option maxRecDepth 100000 in
set_option maxHeartbeats 4000000 in
theorem b_X12_edge_116 {p : Program} {l : Launch} {e : Env} {s : State} {m : MethodId} {args : Array Value} {below : List Frame} {meth : Method} {c : Code} {D : va_G} {ks : Nat → ClassId} {A : Nat → Prop} {ad : Nat → Nat} (X : Cx p s m args meth c cX12_edge 9 RX12 D ks A 24 ad (shR ks ad)) (hr : meth.sig.returnType = (some .long)) {F : Nat} {r : Int64 × Mem} {k56 : Mem → Int32 → Int64 → Int32 → Int32 → Option (Int64 × Mem)} (hk56 : ∀ (μ : Mem) (x2 : Int32) (x3 : Int64) (x5 : Int32) (x6 : Int32), k56 μ x2 x3 x5 x6 = some r → G p l e rm_X12_edge s m args below meth c D A 9 (MQ below (QL D 24 ad (shR ks ad) A r) args s 0 0 A) 24 ad (shR ks ad) μ 56 [(0, .ref (ad 0)), (2, .int x2), (3, .long x3), (5, .int x5), (6, .int x6)] []) (μ : Mem) (x2 : Int32) (x5 : Int32) (x6 : Int32) (z0 : Int64)  (h : f_X12_edge_b116 F k56 μ x2 x5 x6 z0 = some r) : G p l e rm_X12_edge s m args below meth c D A 9 (MQ below (QL D 24 ad (shR ks ad) A r) args s 0 0 A) 24 ad (shR ks ad) μ 116 [(0, .ref (ad 0)), (2, .int x2), (5, .int x5), (6, .int x6)] [.long z0] := by
  refine g_lstore_n 117 X dX12_edge_116 (by decide) rfl ?_
  refine g_iinc 120 X 4 dX12_edge_117 ic1 rfl (by decide) rfl ?_
  refine g_goto 56 X dX12_edge_120 (by decide) ?_
  exact G.sub [2, 3, 1, 4, 0] rfl (hk56 _ _ _ _ _ h)
set_option maxRecDepth 100000 in
set_option maxHeartbeats 4000000 in
theorem b_X12_edge_115 {p : Program} {l : Launch} {e : Env} {s : State} {m : MethodId} {args : Array Value} {below : List Frame} {meth : Method} {c : Code} {D : va_G} {ks : Nat → ClassId} {A : Nat → Prop} {ad : Nat → Nat} (X : Cx p s m args meth c cX12_edge 9 RX12 D ks A 24 ad (shR ks ad)) (hr : meth.sig.returnType = (some .long)) {F : Nat} {r : Int64 × Mem} {k56 : Mem → Int32 → Int64 → Int32 → Int32 → Option (Int64 × Mem)} (hk56 : ∀ (μ : Mem) (x2 : Int32) (x3 : Int64) (x5 : Int32) (x6 : Int32), k56 μ x2 x3 x5 x6 = some r → G p l e rm_X12_edge s m args below meth c D A 9 (MQ below (QL D 24 ad (shR ks ad) A r) args s 0 0 A) 24 ad (shR ks ad) μ 56 [(0, .ref (ad 0)), (2, .int x2), (3, .long x3), (5, .int x5), (6, .int x6)] []) (μ : Mem) (x2 : Int32) (x3 : Int64) (x5 : Int32) (x6 : Int32)  (h : f_X12_edge_b115 F k56 μ x2 x3 x5 x6 = some r) : G p l e rm_X12_edge s m args below meth c D A 9 (MQ below (QL D 24 ad (shR ks ad) A r) args s 0 0 A) 24 ad (shR ks ad) μ 115 [(0, .ref (ad 0)), (2, .int x2), (3, .long x3), (5, .int x5), (6, .int x6)] [] := by
  refine g_lload_n 116 X 2 dX12_edge_115 rfl rfl ?_
  exact G.sub [0, 1, 3, 4] rfl (b_X12_edge_116 X hr hk56 _ _ _ _ _ h)
set_option maxRecDepth 100000 in
set_option maxHeartbeats 4000000 in
theorem b_X12_edge_110 {p : Program} {l : Launch} {e : Env} {s : State} {m : MethodId} {args : Array Value} {below : List Frame} {meth : Method} {c : Code} {D : va_G} {ks : Nat → ClassId} {A : Nat → Prop} {ad : Nat → Nat} (X : Cx p s m args meth c cX12_edge 9 RX12 D ks A 24 ad (shR ks ad)) (hr : meth.sig.returnType = (some .long)) {F : Nat} {r : Int64 × Mem} {k56 : Mem → Int32 → Int64 → Int32 → Int32 → Option (Int64 × Mem)} (hk56 : ∀ (μ : Mem) (x2 : Int32) (x3 : Int64) (x5 : Int32) (x6 : Int32), k56 μ x2 x3 x5 x6 = some r → G p l e rm_X12_edge s m args below meth c D A 9 (MQ below (QL D 24 ad (shR ks ad) A r) args s 0 0 A) 24 ad (shR ks ad) μ 56 [(0, .ref (ad 0)), (2, .int x2), (3, .long x3), (5, .int x5), (6, .int x6)] []) (μ : Mem) (x2 : Int32) (x5 : Int32) (x6 : Int32) (x7 : Int64)  (h : f_X12_edge_b110 F k56 μ x2 x5 x6 x7 = some r) : G p l e rm_X12_edge s m args below meth c D A 9 (MQ below (QL D 24 ad (shR ks ad) A r) args s 0 0 A) 24 ad (shR ks ad) μ 110 [(0, .ref (ad 0)), (2, .int x2), (5, .int x5), (6, .int x6), (7, .long x7)] [] := by
  refine g_lload 112 X 4 dX12_edge_110 rfl rfl ?_
  refine g_goto 116 X dX12_edge_112 (by decide) ?_
  exact G.sub [0, 1, 2, 3] rfl (b_X12_edge_116 X hr hk56 _ _ _ _ _ h)
set_option maxRecDepth 100000 in
set_option maxHeartbeats 4000000 in
theorem b_X12_edge_56 {p : Program} {l : Launch} {e : Env} {s : State} {m : MethodId} {args : Array Value} {below : List Frame} {meth : Method} {c : Code} {D : va_G} {ks : Nat → ClassId} {A : Nat → Prop} {ad : Nat → Nat} (X : Cx p s m args meth c cX12_edge 9 RX12 D ks A 24 ad (shR ks ad)) (hr : meth.sig.returnType = (some .long)) {F : Nat} {r : Int64 × Mem} : ∀ n : Nat, ∀ (μ : Mem) (x2 : Int32) (x3 : Int64) (x5 : Int32) (x6 : Int32), f_X12_edge_b56 F  n μ x2 x3 x5 x6 = some r → G p l e rm_X12_edge s m args below meth c D A 9 (MQ below (QL D 24 ad (shR ks ad) A r) args s 0 0 A) 24 ad (shR ks ad) μ 56 [(0, .ref (ad 0)), (2, .int x2), (3, .long x3), (5, .int x5), (6, .int x6)] [] := by
  intro n
  induction n with
  | zero =>
    intro _ _ _ _ _ h
    cases h
  | succ n ih =>
    intro μ x2 x3 x5 x6 h
    refine g_iload 58 X 4 dX12_edge_56 rfl rfl ?_
    refine g_iload 60 X 3 dX12_edge_58 rfl rfl ?_
    refine g_icmp_ge 123 63 X dX12_edge_60 (by decide) rfl h (fun h => ?_) (fun h => ?_)
    · refine g_lload_n 124 X 2 dX12_edge_123 rfl rfl ?_
      exact g_lret X hr dX12_edge_124 h
    · refine g_aload_n 64 X 0 dX12_edge_63 rfl rfl ?_
      refine g_aload_n 65 X 0 dX12_edge_64 rfl rfl ?_
      refine g_iload 67 X 4 dX12_edge_65 rfl rfl ?_
      refine g_ci 70 h (fun q e => r_V X cd_X12_217_X12_drawOf_X12 ⟨rfl, rfl⟩ ⟨Nat.le_of_ble_eq_true rfl, Nat.le_of_ble_eq_true rfl⟩ (c_X12_drawOf X.2.2.2.2  e) PC_blind (pc_pre X) (g_recv X (o12 rfl) rfl) rfl rfl (Nat.le_of_ble_eq_true rfl) dX12_edge_67) rfl (fun v1 μ2 h => ?_)
      refine g_cv 73 h (fun q e => r_V X cd_X12_281_X12_findSum_X12 ⟨rfl, rfl⟩ ⟨Nat.le_of_ble_eq_true rfl, Nat.le_of_ble_eq_true rfl⟩ (c_X12_findSum X.2.2.2.2  e) PC_blind (pc_pre X) (g_recv X (o12 rfl) rfl) rfl rfl (Nat.le_of_ble_eq_true rfl) dX12_edge_70) rfl (fun _ μ3 h => ?_)
      refine g_aload_n 74 X 0 dX12_edge_73 rfl rfl ?_
      refine g_getl 77 X fl_X12_272_12 (o12 rfl) rfl dX12_edge_74 h rfl (fun v4 h => ?_)
      refine g_aload_n 78 X 0 dX12_edge_77 rfl rfl ?_
      refine g_getl 81 X fl_X12_275_12 (o12 rfl) rfl dX12_edge_78 h rfl (fun v5 h => ?_)
      refine g_ldiv 82 X dX12_edge_81 h rfl (fun h => ?_)
      refine g_topl h (fun v6 h => ?_)
      refine g_lstore 84 X dX12_edge_82 (by decide) rfl ?_
      refine g_iload 86 X 5 dX12_edge_84 rfl rfl ?_
      refine g_if_eq 110 89 X dX12_edge_86 (by decide) rfl h (fun h => ?_) (fun h => ?_)
      · exact G.sub [1, 2, 4, 5, 0] rfl (b_X12_edge_110 X hr ih _ _ _ _ _ h)
      · refine g_iload_n 90 X 2 dX12_edge_89 rfl rfl ?_
        refine g_if_ne 103 93 X dX12_edge_90 (by decide) rfl h (fun h => ?_) (fun h => ?_)
        · refine g_lload 105 X 0 dX12_edge_103 rfl rfl ?_
          refine g_lload_n 106 X 3 dX12_edge_105 rfl rfl ?_
          refine g_lcmp 107 X dX12_edge_106 rfl ?_
          refine g_if_le 115 110 X dX12_edge_107 (by decide) rfl h (fun h => ?_) (fun h => ?_)
          · exact G.sub [1, 2, 3, 4, 5] rfl (b_X12_edge_115 X hr ih _ _ _ _ _ h)
          · exact G.sub [1, 2, 4, 5, 0] rfl (b_X12_edge_110 X hr ih _ _ _ _ _ h)
        · refine g_lload 95 X 0 dX12_edge_93 rfl rfl ?_
          refine g_lload_n 96 X 3 dX12_edge_95 rfl rfl ?_
          refine g_lcmp 97 X dX12_edge_96 rfl ?_
          refine g_if_ge 115 100 X dX12_edge_97 (by decide) rfl h (fun h => ?_) (fun h => ?_)
          · exact G.sub [1, 2, 3, 4, 5] rfl (b_X12_edge_115 X hr ih _ _ _ _ _ h)
          · refine g_goto 110 X dX12_edge_100 (by decide) ?_
            exact G.sub [1, 2, 4, 5, 0] rfl (b_X12_edge_110 X hr ih _ _ _ _ _ h)
set_option maxRecDepth 100000 in
set_option maxHeartbeats 4000000 in
theorem b_X12_edge_38 {p : Program} {l : Launch} {e : Env} {s : State} {m : MethodId} {args : Array Value} {below : List Frame} {meth : Method} {c : Code} {D : va_G} {ks : Nat → ClassId} {A : Nat → Prop} {ad : Nat → Nat} (X : Cx p s m args meth c cX12_edge 9 RX12 D ks A 24 ad (shR ks ad)) (hr : meth.sig.returnType = (some .long)) {F : Nat} {r : Int64 × Mem} (μ : Mem)  (h : f_X12_edge_b38 F  μ = some r) : G p l e rm_X12_edge s m args below meth c D A 9 (MQ below (QL D 24 ad (shR ks ad) A r) args s 0 0 A) 24 ad (shR ks ad) μ 38 [] [] := by
  refine g_bipush 40 X dX12_edge_38 bpm3 rfl ?_
  refine g_nl 43 h (fun q e => r_S X cd_X12_198_X12_no ⟨rfl, rfl⟩ ⟨Nat.le_of_ble_eq_true rfl, Nat.le_of_ble_eq_true rfl⟩ (c_X12_no e) PC_blind (pn_pre X) rfl rfl (Nat.le_of_ble_eq_true rfl) dX12_edge_40) rfl (fun v1 h => ?_)
  exact g_lret X hr dX12_edge_43 h
set_option maxRecDepth 100000 in
set_option maxHeartbeats 4000000 in
theorem b_X12_edge_17 {p : Program} {l : Launch} {e : Env} {s : State} {m : MethodId} {args : Array Value} {below : List Frame} {meth : Method} {c : Code} {D : va_G} {ks : Nat → ClassId} {A : Nat → Prop} {ad : Nat → Nat} (X : Cx p s m args meth c cX12_edge 9 RX12 D ks A 24 ad (shR ks ad)) (hr : meth.sig.returnType = (some .long)) {F : Nat} {r : Int64 × Mem} (μ : Mem)  (h : f_X12_edge_b17 F  μ = some r) : G p l e rm_X12_edge s m args below meth c D A 9 (MQ below (QL D 24 ad (shR ks ad) A r) args s 0 0 A) 24 ad (shR ks ad) μ 17 [] [] := by
  refine g_bipush 19 X dX12_edge_17 bpm2 rfl ?_
  refine g_nl 22 h (fun q e => r_S X cd_X12_198_X12_no ⟨rfl, rfl⟩ ⟨Nat.le_of_ble_eq_true rfl, Nat.le_of_ble_eq_true rfl⟩ (c_X12_no e) PC_blind (pn_pre X) rfl rfl (Nat.le_of_ble_eq_true rfl) dX12_edge_19) rfl (fun v1 h => ?_)
  exact g_lret X hr dX12_edge_22 h
set_option maxRecDepth 100000 in
set_option maxHeartbeats 4000000 in
theorem b_X12_edge_0 {p : Program} {l : Launch} {e : Env} {s : State} {m : MethodId} {args : Array Value} {below : List Frame} {meth : Method} {c : Code} {D : va_G} {ks : Nat → ClassId} {A : Nat → Prop} {ad : Nat → Nat} (X : Cx p s m args meth c cX12_edge 9 RX12 D ks A 24 ad (shR ks ad)) (hr : meth.sig.returnType = (some .long)) {F : Nat} {r : Int64 × Mem} (μ : Mem) (x1 : Int32) (x2 : Int32)  (h : f_X12_edge F  μ x1 x2 = some r) : G p l e rm_X12_edge s m args below meth c D A 9 (MQ below (QL D 24 ad (shR ks ad) A r) args s 0 0 A) 24 ad (shR ks ad) μ 0 [(0, .ref (ad 0)), (1, .int x1), (2, .int x2)] [] := by
  refine g_iload_n 1 X 1 dX12_edge_0 rfl rfl ?_
  refine g_ni 4 h (fun q e => r_S X cd_X12_147_X12_isPlan ⟨rfl, rfl⟩ ⟨Nat.le_of_ble_eq_true rfl, Nat.le_of_ble_eq_true rfl⟩ (c_X12_isPlan e) PC_blind (pn_pre X) rfl rfl (Nat.le_of_ble_eq_true rfl) dX12_edge_1) rfl (fun v1 h => ?_)
  refine g_if_eq 17 7 X dX12_edge_4 (by decide) rfl h (fun h => ?_) (fun h => ?_)
  · exact G.sub [] rfl (b_X12_edge_17 X hr  _ h)
  · refine g_iload_n 8 X 2 dX12_edge_7 rfl rfl ?_
    refine g_i2l 9 X dX12_edge_8 rfl ?_
    refine g_lconst 10 X dX12_edge_9 lc0 rfl ?_
    refine g_lconst 11 X dX12_edge_10 lc1 rfl ?_
    refine g_ni 14 h (fun q e => r_S X cd_X12_92_X12_in ⟨rfl, rfl⟩ ⟨Nat.le_of_ble_eq_true rfl, Nat.le_of_ble_eq_true rfl⟩ (c_X12_in e) PC_blind (pn_pre X) rfl rfl (Nat.le_of_ble_eq_true rfl) dX12_edge_11) rfl (fun v2 h => ?_)
    refine g_if_ne 23 17 X dX12_edge_14 (by decide) rfl h (fun h => ?_) (fun h => ?_)
    · refine g_aload_n 24 X 0 dX12_edge_23 rfl rfl ?_
      refine g_iload_n 25 X 1 dX12_edge_24 rfl rfl ?_
      refine g_ci 28 h (fun q e => r_V X cd_X12_188_X12_canBe_X12 ⟨rfl, rfl⟩ ⟨Nat.le_of_ble_eq_true rfl, Nat.le_of_ble_eq_true rfl⟩ (c_X12_canBe X.2.2.2.2  e) PC_blind (pc_pre X) (g_recv X (o12 rfl) rfl) rfl rfl (Nat.le_of_ble_eq_true rfl) dX12_edge_25) rfl (fun v3 μ4 h => ?_)
      refine g_if_eq 38 31 X dX12_edge_28 (by decide) rfl h (fun h => ?_) (fun h => ?_)
      · exact G.sub [] rfl (b_X12_edge_38 X hr  _ h)
      · refine g_aload_n 32 X 0 dX12_edge_31 rfl rfl ?_
        refine g_ci 35 h (fun q e => r_V X cd_X12_220_X12_goesRound_X12 ⟨rfl, rfl⟩ ⟨Nat.le_of_ble_eq_true rfl, Nat.le_of_ble_eq_true rfl⟩ (c_X12_goesRound X.2.2.2.2  e) PC_blind (pc_pre X) (g_recv X (o12 rfl) rfl) rfl rfl (Nat.le_of_ble_eq_true rfl) dX12_edge_32) rfl (fun v5 μ6 h => ?_)
        refine g_if_ne 44 38 X dX12_edge_35 (by decide) rfl h (fun h => ?_) (fun h => ?_)
        · refine g_lconst 45 X dX12_edge_44 lc0 rfl ?_
          refine g_lstore_n 46 X dX12_edge_45 (by decide) rfl ?_
          refine g_aload_n 47 X 1 dX12_edge_46 rfl rfl ?_
          refine g_cl 50 h (fun q e => r_V X cd_X12_202_X12_drawsNow_X12 ⟨rfl, rfl⟩ ⟨Nat.le_of_ble_eq_true rfl, Nat.le_of_ble_eq_true rfl⟩ (c_X12_drawsNow X.2.2.2.2  e) PC_blind (pc_pre X) (g_recv X (o12 rfl) rfl) rfl rfl (Nat.le_of_ble_eq_true rfl) dX12_edge_47) rfl (fun v7 μ8 h => ?_)
          refine g_l2i 51 X dX12_edge_50 rfl ?_
          refine g_topi h (fun v9 h => ?_)
          refine g_istore 53 X dX12_edge_51 (by decide) rfl ?_
          refine g_iconst 54 X dX12_edge_53 ic0 rfl ?_
          refine g_istore 56 X dX12_edge_54 (by decide) rfl ?_
          exact G.sub [3, 5, 2, 1, 0] rfl (b_X12_edge_56 X hr  F _ _ _ _ _ h)
        · exact G.sub [] rfl (b_X12_edge_38 X hr  _ h)
    · exact G.sub [] rfl (b_X12_edge_17 X hr  _ h)
set_option maxRecDepth 100000 in
theorem c_X12_edge {l : Launch} {D : va_G} {ks : Nat → ClassId} {A : Nat → Prop} {ad : Nat → Nat} (hD : ∀ μ : Mem, va_D A (wsM 24 ad (shR ks ad) μ)) {F : Nat} {μ : Mem} {x1 : Int32} {x2 : Int32} {r : Int64 × Mem}  (h : f_X12_edge F μ x1 x2 = some r) : Met l yX12_edge (Cond.code yX12_edge cX12_edge 9 (some .long) :: wg) rm_X12_edge (PC D ks 24 ad (shR ks ad) μ [.ref (ad 0), .int x1, .int x2]) (QL D 24 ad (shR ks ad) A r) 0 0 A := by
  refine met_of (by decide) (Nat.le_of_ble_eq_true rfl) hD ?_
  intro p e s m args below meth c X hr
  exact G.sub [0, 1, 2] rfl (b_X12_edge_0 X hr  _ _ _ h)
abbrev rm_X12_known : Room := { frames := 1, cells := 0, slots := 0, locals := 25 }
set_option maxRecDepth 100000 in
set_option maxHeartbeats 4000000 in
theorem b_X12_known_66 {p : Program} {l : Launch} {e : Env} {s : State} {m : MethodId} {args : Array Value} {below : List Frame} {meth : Method} {c : Code} {D : va_G} {ks : Nat → ClassId} {A : Nat → Prop} {ad : Nat → Nat} (X : Cx p s m args meth c cX12_known 5 RX12 D ks A 24 ad (shR ks ad)) (hr : meth.sig.returnType = (some .int)) {F : Nat} {r : Int32 × Mem} (μ : Mem) (x1 : Int32) (x2 : Int32) (x3 : Int32) (z0 : Int32)  (h : f_X12_known_b66 F  μ x1 x2 x3 z0 = some r) : G p l e rm_X12_known s m args below meth c D A 5 (MQ below (QI D 24 ad (shR ks ad) A r) args s 0 0 A) 24 ad (shR ks ad) μ 66 [(0, .ref (ad 0)), (1, .int x1), (2, .int x2), (3, .int x3)] [.int z0] := by
  refine g_istore 68 X dX12_known_66 (by decide) rfl ?_
  refine g_iload_n 69 X 2 dX12_known_68 rfl rfl ?_
  refine g_if_ne 82 72 X dX12_known_69 (by decide) rfl h (fun h => ?_) (fun h => ?_)
  · refine g_aload_n 83 X 1 dX12_known_82 rfl rfl ?_
    refine g_getr 86 X fl_X12_66_12 (o12 rfl) rfl dX12_known_83 rfl ?_
    refine g_iload_n 87 X 3 dX12_known_86 rfl rfl ?_
    refine g_iload_n 88 X 4 dX12_known_87 rfl rfl ?_
    refine g_iast 89 X (aiR (n := 3) (by decide) rfl) dX12_known_88 h rfl (fun μ1 h => ?_)
    refine g_iload 91 X 0 dX12_known_89 rfl rfl ?_
    exact g_iret X hr dX12_known_91 h
  · refine g_aload_n 73 X 1 dX12_known_72 rfl rfl ?_
    refine g_getr 76 X fl_X12_63_12 (o12 rfl) rfl dX12_known_73 rfl ?_
    refine g_iload_n 77 X 3 dX12_known_76 rfl rfl ?_
    refine g_iload_n 78 X 4 dX12_known_77 rfl rfl ?_
    refine g_iast 79 X (aiR (n := 4) (by decide) rfl) dX12_known_78 h rfl (fun μ2 h => ?_)
    refine g_goto 89 X dX12_known_79 (by decide) ?_
    refine g_iload 91 X 0 dX12_known_89 rfl rfl ?_
    exact g_iret X hr dX12_known_91 h
set_option maxRecDepth 100000 in
set_option maxHeartbeats 4000000 in
theorem b_X12_known_26 {p : Program} {l : Launch} {e : Env} {s : State} {m : MethodId} {args : Array Value} {below : List Frame} {meth : Method} {c : Code} {D : va_G} {ks : Nat → ClassId} {A : Nat → Prop} {ad : Nat → Nat} (X : Cx p s m args meth c cX12_known 5 RX12 D ks A 24 ad (shR ks ad)) (hr : meth.sig.returnType = (some .int)) {F : Nat} {r : Int32 × Mem} (μ : Mem) (x1 : Int32) (x2 : Int32) (x3 : Int32) (z0 : Int64) (z1 : Int64) (z2 : Int64)  (h : f_X12_known_b26 F  μ x1 x2 x3 z0 z1 z2 = some r) : G p l e rm_X12_known s m args below meth c D A 5 (MQ below (QI D 24 ad (shR ks ad) A r) args s 0 0 A) 24 ad (shR ks ad) μ 26 [(0, .ref (ad 0)), (1, .int x1), (2, .int x2), (3, .int x3)] [.long z0, .long z1, .long z2] := by
  refine g_ni 29 h (fun q e => r_S X cd_X12_92_X12_in ⟨rfl, rfl⟩ ⟨Nat.le_of_ble_eq_true rfl, Nat.le_of_ble_eq_true rfl⟩ (c_X12_in e) PC_blind (pn_pre X) rfl rfl (Nat.le_of_ble_eq_true rfl) dX12_known_26) rfl (fun v1 h => ?_)
  refine g_if_eq 44 32 X dX12_known_29 (by decide) rfl h (fun h => ?_) (fun h => ?_)
  · refine g_bipush 46 X dX12_known_44 bpm2 rfl ?_
    exact g_iret X hr dX12_known_46 h
  · refine g_iload_n 33 X 3 dX12_known_32 rfl rfl ?_
    refine g_i2l 34 X dX12_known_33 rfl ?_
    refine g_lconst 35 X dX12_known_34 lc0 rfl ?_
    refine g_ldc2 38 X m1415 dX12_known_35 rfl ?_
    refine g_ni 41 h (fun q e => r_S X cd_X12_92_X12_in ⟨rfl, rfl⟩ ⟨Nat.le_of_ble_eq_true rfl, Nat.le_of_ble_eq_true rfl⟩ (c_X12_in e) PC_blind (pn_pre X) rfl rfl (Nat.le_of_ble_eq_true rfl) dX12_known_38) rfl (fun v2 h => ?_)
    refine g_if_ne 47 44 X dX12_known_41 (by decide) rfl h (fun h => ?_) (fun h => ?_)
    · refine g_iload_n 48 X 1 dX12_known_47 rfl rfl ?_
      refine g_if_ne 60 51 X dX12_known_48 (by decide) rfl h (fun h => ?_) (fun h => ?_)
      · refine g_aload_n 61 X 0 dX12_known_60 rfl rfl ?_
        refine g_getr 64 X fl_X12_66_12 (o12 rfl) rfl dX12_known_61 rfl ?_
        refine g_iload_n 65 X 2 dX12_known_64 rfl rfl ?_
        refine g_iald 66 X (aiR (n := 3) (by decide) rfl) dX12_known_65 h rfl (fun v3 h => ?_)
        exact G.sub [0, 1, 2, 3] rfl (b_X12_known_66 X hr  _ _ _ _ _ h)
      · refine g_aload_n 52 X 0 dX12_known_51 rfl rfl ?_
        refine g_getr 55 X fl_X12_63_12 (o12 rfl) rfl dX12_known_52 rfl ?_
        refine g_iload_n 56 X 2 dX12_known_55 rfl rfl ?_
        refine g_iald 57 X (aiR (n := 4) (by decide) rfl) dX12_known_56 h rfl (fun v4 h => ?_)
        refine g_goto 66 X dX12_known_57 (by decide) ?_
        exact G.sub [0, 1, 2, 3] rfl (b_X12_known_66 X hr  _ _ _ _ _ h)
    · refine g_bipush 46 X dX12_known_44 bpm2 rfl ?_
      exact g_iret X hr dX12_known_46 h
set_option maxRecDepth 100000 in
set_option maxHeartbeats 4000000 in
theorem b_X12_known_0 {p : Program} {l : Launch} {e : Env} {s : State} {m : MethodId} {args : Array Value} {below : List Frame} {meth : Method} {c : Code} {D : va_G} {ks : Nat → ClassId} {A : Nat → Prop} {ad : Nat → Nat} (X : Cx p s m args meth c cX12_known 5 RX12 D ks A 24 ad (shR ks ad)) (hr : meth.sig.returnType = (some .int)) {F : Nat} {r : Int32 × Mem} (μ : Mem) (x1 : Int32) (x2 : Int32) (x3 : Int32)  (h : f_X12_known F  μ x1 x2 x3 = some r) : G p l e rm_X12_known s m args below meth c D A 5 (MQ below (QI D 24 ad (shR ks ad) A r) args s 0 0 A) 24 ad (shR ks ad) μ 0 [(0, .ref (ad 0)), (1, .int x1), (2, .int x2), (3, .int x3)] [] := by
  refine g_iload_n 1 X 1 dX12_known_0 rfl rfl ?_
  refine g_i2l 2 X dX12_known_1 rfl ?_
  refine g_lconst 3 X dX12_known_2 lc0 rfl ?_
  refine g_lconst 4 X dX12_known_3 lc1 rfl ?_
  refine g_ni 7 h (fun q e => r_S X cd_X12_92_X12_in ⟨rfl, rfl⟩ ⟨Nat.le_of_ble_eq_true rfl, Nat.le_of_ble_eq_true rfl⟩ (c_X12_in e) PC_blind (pn_pre X) rfl rfl (Nat.le_of_ble_eq_true rfl) dX12_known_4) rfl (fun v1 h => ?_)
  refine g_if_eq 44 10 X dX12_known_7 (by decide) rfl h (fun h => ?_) (fun h => ?_)
  · refine g_bipush 46 X dX12_known_44 bpm2 rfl ?_
    exact g_iret X hr dX12_known_46 h
  · refine g_iload_n 11 X 2 dX12_known_10 rfl rfl ?_
    refine g_i2l 12 X dX12_known_11 rfl ?_
    refine g_lconst 13 X dX12_known_12 lc0 rfl ?_
    refine g_iload_n 14 X 1 dX12_known_13 rfl rfl ?_
    refine g_if_ne 23 17 X dX12_known_14 (by decide) rfl h (fun h => ?_) (fun h => ?_)
    · refine g_ldc2 26 X m1148 dX12_known_23 rfl ?_
      exact G.sub [0, 1, 2, 3] rfl (b_X12_known_26 X hr  _ _ _ _ _ _ _ h)
    · refine g_ldc2 20 X m1144 dX12_known_17 rfl ?_
      refine g_goto 26 X dX12_known_20 (by decide) ?_
      exact G.sub [0, 1, 2, 3] rfl (b_X12_known_26 X hr  _ _ _ _ _ _ _ h)
set_option maxRecDepth 100000 in
theorem c_X12_known {l : Launch} {D : va_G} {ks : Nat → ClassId} {A : Nat → Prop} {ad : Nat → Nat} (hD : ∀ μ : Mem, va_D A (wsM 24 ad (shR ks ad) μ)) {F : Nat} {μ : Mem} {x1 : Int32} {x2 : Int32} {x3 : Int32} {r : Int32 × Mem}  (h : f_X12_known F μ x1 x2 x3 = some r) : Met l yX12_known (Cond.code yX12_known cX12_known 5 (some .int) :: wg) rm_X12_known (PC D ks 24 ad (shR ks ad) μ [.ref (ad 0), .int x1, .int x2, .int x3]) (QI D 24 ad (shR ks ad) A r) 0 0 A := by
  refine met_of (by decide) (Nat.le_of_ble_eq_true rfl) hD ?_
  intro p e s m args below meth c X hr
  exact G.sub [0, 1, 2, 3] rfl (b_X12_known_0 X hr  _ _ _ _ h)
abbrev rm_X12_isOf : Room := { frames := 0, cells := 0, slots := 0, locals := 0 }
set_option maxRecDepth 100000 in
set_option maxHeartbeats 4000000 in
theorem b_X12_isOf_28 {p : Program} {l : Launch} {e : Env} {s : State} {m : MethodId} {args : Array Value} {below : List Frame} {meth : Method} {c : Code} {D : va_G} {ks : Nat → ClassId} {A : Nat → Prop} {ad : Nat → Nat} (X : Cx p s m args meth c cX12_isOf 4 RX12 D ks A 24 ad (shR ks ad)) (hr : meth.sig.returnType = (some .boolean)) {F : Nat} {r : Int32 × Mem} (μ : Mem) (x3 : Int32) (z0 : Int32)  (h : f_X12_isOf_b28 F  μ x3 z0 = some r) : G p l e rm_X12_isOf s m args below meth c D A 4 (MQ below (QI D 24 ad (shR ks ad) A r) args s 0 0 A) 24 ad (shR ks ad) μ 28 [(3, .int x3)] [.int z0] := by
  refine g_iload_n 29 X 0 dX12_isOf_28 rfl rfl ?_
  refine g_icmp_ne 36 32 X dX12_isOf_29 (by decide) rfl h (fun h => ?_) (fun h => ?_)
  · refine g_iconst 37 X dX12_isOf_36 ic0 rfl ?_
    exact g_zret X hr nb0 dX12_isOf_37 h
  · refine g_iconst 33 X dX12_isOf_32 ic1 rfl ?_
    refine g_goto 37 X dX12_isOf_33 (by decide) ?_
    exact g_zret X hr nb1 dX12_isOf_37 h
set_option maxRecDepth 100000 in
set_option maxHeartbeats 4000000 in
theorem b_X12_isOf_0 {p : Program} {l : Launch} {e : Env} {s : State} {m : MethodId} {args : Array Value} {below : List Frame} {meth : Method} {c : Code} {D : va_G} {ks : Nat → ClassId} {A : Nat → Prop} {ad : Nat → Nat} (X : Cx p s m args meth c cX12_isOf 4 RX12 D ks A 24 ad (shR ks ad)) (hr : meth.sig.returnType = (some .boolean)) {F : Nat} {r : Int32 × Mem} (μ : Mem) (x1 : Int32) (x2 : Int32) (x3 : Int32)  (h : f_X12_isOf F  μ x1 x2 x3 = some r) : G p l e rm_X12_isOf s m args below meth c D A 4 (MQ below (QI D 24 ad (shR ks ad) A r) args s 0 0 A) 24 ad (shR ks ad) μ 0 [(0, .ref (ad 0)), (1, .int x1), (2, .int x2), (3, .int x3)] [] := by
  refine g_aload_n 1 X 0 dX12_isOf_0 rfl rfl ?_
  refine g_getr 4 X fl_X12_72_12 (o12 rfl) rfl dX12_isOf_1 rfl ?_
  refine g_iload_n 5 X 1 dX12_isOf_4 rfl rfl ?_
  refine g_zald 6 X (azR (n := 30) (by decide) rfl) dX12_isOf_5 h rfl (fun v1 h => ?_)
  refine g_if_eq 36 9 X dX12_isOf_6 (by decide) rfl h (fun h => ?_) (fun h => ?_)
  · refine g_iconst 37 X dX12_isOf_36 ic0 rfl ?_
    exact g_zret X hr nb0 dX12_isOf_37 h
  · refine g_iload_n 10 X 2 dX12_isOf_9 rfl rfl ?_
    refine g_if_ne 22 13 X dX12_isOf_10 (by decide) rfl h (fun h => ?_) (fun h => ?_)
    · refine g_aload_n 23 X 0 dX12_isOf_22 rfl rfl ?_
      refine g_getr 26 X fl_X12_31_12 (o12 rfl) rfl dX12_isOf_23 rfl ?_
      refine g_iload_n 27 X 1 dX12_isOf_26 rfl rfl ?_
      refine g_iald 28 X (aiR (n := 30) (by decide) rfl) dX12_isOf_27 h rfl (fun v2 h => ?_)
      exact G.sub [3] rfl (b_X12_isOf_28 X hr  _ _ _ h)
    · refine g_aload_n 14 X 0 dX12_isOf_13 rfl rfl ?_
      refine g_getr 17 X fl_X12_22_12 (o12 rfl) rfl dX12_isOf_14 rfl ?_
      refine g_iload_n 18 X 1 dX12_isOf_17 rfl rfl ?_
      refine g_iald 19 X (aiR (n := 30) (by decide) rfl) dX12_isOf_18 h rfl (fun v3 h => ?_)
      refine g_goto 28 X dX12_isOf_19 (by decide) ?_
      exact G.sub [3] rfl (b_X12_isOf_28 X hr  _ _ _ h)
set_option maxRecDepth 100000 in
theorem c_X12_isOf {l : Launch} {D : va_G} {ks : Nat → ClassId} {A : Nat → Prop} {ad : Nat → Nat} (hD : ∀ μ : Mem, va_D A (wsM 24 ad (shR ks ad) μ)) {F : Nat} {μ : Mem} {x1 : Int32} {x2 : Int32} {x3 : Int32} {r : Int32 × Mem}  (h : f_X12_isOf F μ x1 x2 x3 = some r) : Met l yX12_isOf (Cond.code yX12_isOf cX12_isOf 4 (some .boolean) :: wg) rm_X12_isOf (PC D ks 24 ad (shR ks ad) μ [.ref (ad 0), .int x1, .int x2, .int x3]) (QI D 24 ad (shR ks ad) A r) 0 0 A := by
  refine met_of (by decide) (Nat.le_of_ble_eq_true rfl) hD ?_
  intro p e s m args below meth c X hr
  exact G.sub [0, 1, 2, 3] rfl (b_X12_isOf_0 X hr  _ _ _ _ h)
abbrev rm_X12_weightOf : Room := { frames := 1, cells := 0, slots := 0, locals := 23 }
set_option maxRecDepth 100000 in
set_option maxHeartbeats 4000000 in
theorem b_X12_weightOf_37 {p : Program} {l : Launch} {e : Env} {s : State} {m : MethodId} {args : Array Value} {below : List Frame} {meth : Method} {c : Code} {D : va_G} {ks : Nat → ClassId} {A : Nat → Prop} {ad : Nat → Nat} (X : Cx p s m args meth c cX12_weightOf 6 RX12 D ks A 24 ad (shR ks ad)) (hr : meth.sig.returnType = (some .long)) {F : Nat} {r : Int64 × Mem} {k5 : Mem → Int32 → Int32 → Int64 → Int32 → Option (Int64 × Mem)} (hk5 : ∀ (μ : Mem) (x1 : Int32) (x2 : Int32) (x3 : Int64) (x5 : Int32), k5 μ x1 x2 x3 x5 = some r → G p l e rm_X12_weightOf s m args below meth c D A 6 (MQ below (QL D 24 ad (shR ks ad) A r) args s 0 0 A) 24 ad (shR ks ad) μ 5 [(0, .ref (ad 0)), (1, .int x1), (2, .int x2), (3, .long x3), (5, .int x5)] []) (μ : Mem) (x1 : Int32) (x2 : Int32) (x5 : Int32) (z0 : Int64) (z1 : Int64)  (h : f_X12_weightOf_b37 F k5 μ x1 x2 x5 z0 z1 = some r) : G p l e rm_X12_weightOf s m args below meth c D A 6 (MQ below (QL D 24 ad (shR ks ad) A r) args s 0 0 A) 24 ad (shR ks ad) μ 37 [(0, .ref (ad 0)), (1, .int x1), (2, .int x2), (5, .int x5)] [.long z0, .long z1] := by
  refine g_ladd 38 X dX12_weightOf_37 rfl ?_
  refine g_topl h (fun v1 h => ?_)
  refine g_lstore_n 39 X dX12_weightOf_38 (by decide) rfl ?_
  refine g_iinc 42 X 4 dX12_weightOf_39 ic1 rfl (by decide) rfl ?_
  refine g_goto 5 X dX12_weightOf_42 (by decide) ?_
  exact G.sub [2, 3, 4, 1, 0] rfl (hk5 _ _ _ _ _ h)
set_option maxRecDepth 100000 in
set_option maxHeartbeats 4000000 in
theorem b_X12_weightOf_5 {p : Program} {l : Launch} {e : Env} {s : State} {m : MethodId} {args : Array Value} {below : List Frame} {meth : Method} {c : Code} {D : va_G} {ks : Nat → ClassId} {A : Nat → Prop} {ad : Nat → Nat} (X : Cx p s m args meth c cX12_weightOf 6 RX12 D ks A 24 ad (shR ks ad)) (hr : meth.sig.returnType = (some .long)) {F : Nat} {r : Int64 × Mem} : ∀ n : Nat, ∀ (μ : Mem) (x1 : Int32) (x2 : Int32) (x3 : Int64) (x5 : Int32), f_X12_weightOf_b5 F  n μ x1 x2 x3 x5 = some r → G p l e rm_X12_weightOf s m args below meth c D A 6 (MQ below (QL D 24 ad (shR ks ad) A r) args s 0 0 A) 24 ad (shR ks ad) μ 5 [(0, .ref (ad 0)), (1, .int x1), (2, .int x2), (3, .long x3), (5, .int x5)] [] := by
  intro n
  induction n with
  | zero =>
    intro _ _ _ _ _ h
    cases h
  | succ n ih =>
    intro μ x1 x2 x3 x5 h
    refine g_iload 7 X 4 dX12_weightOf_5 rfl rfl ?_
    refine g_aload_n 8 X 0 dX12_weightOf_7 rfl rfl ?_
    refine g_geti 11 X fl_X12_115_12 (o12 rfl) rfl dX12_weightOf_8 h rfl (fun v1 h => ?_)
    refine g_icmp_ge 45 14 X dX12_weightOf_11 (by decide) rfl h (fun h => ?_) (fun h => ?_)
    · refine g_lload_n 46 X 3 dX12_weightOf_45 rfl rfl ?_
      exact g_lret X hr dX12_weightOf_46 h
    · refine g_lload_n 15 X 3 dX12_weightOf_14 rfl rfl ?_
      refine g_aload_n 16 X 0 dX12_weightOf_15 rfl rfl ?_
      refine g_iload 18 X 4 dX12_weightOf_16 rfl rfl ?_
      refine g_iload_n 19 X 1 dX12_weightOf_18 rfl rfl ?_
      refine g_iload_n 20 X 2 dX12_weightOf_19 rfl rfl ?_
      refine g_ci 23 h (fun q e => r_V X cd_X12_292_X12_isOf_X12 ⟨rfl, rfl⟩ ⟨Nat.le_of_ble_eq_true rfl, Nat.le_of_ble_eq_true rfl⟩ (c_X12_isOf X.2.2.2.2  e) PC_blind (pc_pre X) (g_recv X (o12 rfl) rfl) rfl rfl (Nat.le_of_ble_eq_true rfl) dX12_weightOf_20) rfl (fun v2 μ3 h => ?_)
      refine g_if_eq 36 26 X dX12_weightOf_23 (by decide) rfl h (fun h => ?_) (fun h => ?_)
      · refine g_lconst 37 X dX12_weightOf_36 lc0 rfl ?_
        exact G.sub [0, 1, 2, 4] rfl (b_X12_weightOf_37 X hr ih _ _ _ _ _ _ h)
      · refine g_aload_n 27 X 0 dX12_weightOf_26 rfl rfl ?_
        refine g_getr 30 X fl_X12_69_12 (o12 rfl) rfl dX12_weightOf_27 rfl ?_
        refine g_iload 32 X 4 dX12_weightOf_30 rfl rfl ?_
        refine g_lald 33 X (ajR (n := 30) (by decide) rfl) dX12_weightOf_32 h rfl (fun v4 h => ?_)
        refine g_goto 37 X dX12_weightOf_33 (by decide) ?_
        exact G.sub [0, 1, 2, 4] rfl (b_X12_weightOf_37 X hr ih _ _ _ _ _ _ h)
set_option maxRecDepth 100000 in
set_option maxHeartbeats 4000000 in
theorem b_X12_weightOf_0 {p : Program} {l : Launch} {e : Env} {s : State} {m : MethodId} {args : Array Value} {below : List Frame} {meth : Method} {c : Code} {D : va_G} {ks : Nat → ClassId} {A : Nat → Prop} {ad : Nat → Nat} (X : Cx p s m args meth c cX12_weightOf 6 RX12 D ks A 24 ad (shR ks ad)) (hr : meth.sig.returnType = (some .long)) {F : Nat} {r : Int64 × Mem} (μ : Mem) (x1 : Int32) (x2 : Int32)  (h : f_X12_weightOf F  μ x1 x2 = some r) : G p l e rm_X12_weightOf s m args below meth c D A 6 (MQ below (QL D 24 ad (shR ks ad) A r) args s 0 0 A) 24 ad (shR ks ad) μ 0 [(0, .ref (ad 0)), (1, .int x1), (2, .int x2)] [] := by
  refine g_lconst 1 X dX12_weightOf_0 lc0 rfl ?_
  refine g_lstore_n 2 X dX12_weightOf_1 (by decide) rfl ?_
  refine g_iconst 3 X dX12_weightOf_2 ic0 rfl ?_
  refine g_istore 5 X dX12_weightOf_3 (by decide) rfl ?_
  exact G.sub [2, 3, 4, 1, 0] rfl (b_X12_weightOf_5 X hr  F _ _ _ _ _ h)
set_option maxRecDepth 100000 in
theorem c_X12_weightOf {l : Launch} {D : va_G} {ks : Nat → ClassId} {A : Nat → Prop} {ad : Nat → Nat} (hD : ∀ μ : Mem, va_D A (wsM 24 ad (shR ks ad) μ)) {F : Nat} {μ : Mem} {x1 : Int32} {x2 : Int32} {r : Int64 × Mem}  (h : f_X12_weightOf F μ x1 x2 = some r) : Met l yX12_weightOf (Cond.code yX12_weightOf cX12_weightOf 6 (some .long) :: wg) rm_X12_weightOf (PC D ks 24 ad (shR ks ad) μ [.ref (ad 0), .int x1, .int x2]) (QL D 24 ad (shR ks ad) A r) 0 0 A := by
  refine met_of (by decide) (Nat.le_of_ble_eq_true rfl) hD ?_
  intro p e s m args below meth c X hr
  exact G.sub [0, 1, 2] rfl (b_X12_weightOf_0 X hr  _ _ _ h)
