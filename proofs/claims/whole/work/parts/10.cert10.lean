abbrev rm_X12_findShare : Room := { frames := 4, cells := 0, slots := 0, locals := 94 }
set_option maxRecDepth 100000 in
set_option maxHeartbeats 4000000 in
theorem b_X12_findShare_0 {p : Program} {l : Launch} {e : Env} {s : State} {m : MethodId} {args : Array Value} {below : List Frame} {meth : Method} {c : Code} {D : va_G} {ks : Nat → ClassId} {A : Nat → Prop} {ad : Nat → Nat} (X : Cx p s m args meth c cX12_findShare 3 RX12 D ks A 24 ad (shR ks ad)) (hr : meth.sig.returnType = none) {F : Nat} {r : Unit × Mem} (μ : Mem) (x1 : Int32)  (h : f_X12_findShare F  μ x1 = some r) : G p l e rm_X12_findShare s m args below meth c D A 3 (MQ below (QV D 24 ad (shR ks ad) A r) args s 0 0 A) 24 ad (shR ks ad) μ 0 [(0, .ref (ad 0)), (1, .int x1)] [] := by
  refine g_aload_n 1 X 0 dX12_findShare_0 rfl rfl ?_
  refine g_ci 4 h (fun q e => r_V X cd_X12_220_X12_goesRound_X12 ⟨rfl, rfl⟩ ⟨Nat.le_of_ble_eq_true rfl, Nat.le_of_ble_eq_true rfl⟩ (c_X12_goesRound X.2.2.2.2  e) PC_blind (pc_pre X) (g_recv X (o12 rfl) rfl) rfl rfl (Nat.le_of_ble_eq_true rfl) dX12_findShare_1) rfl (fun v1 μ2 h => ?_)
  refine g_if_eq 24 7 X dX12_findShare_4 (by decide) rfl h (fun h => ?_) (fun h => ?_)
  · refine g_aload_n 25 X 0 dX12_findShare_24 rfl rfl ?_
    refine g_geti 28 X fl_X12_166_12 (o12 rfl) rfl dX12_findShare_25 h rfl (fun v3 h => ?_)
    refine g_bipush 30 X dX12_findShare_28 bp97 rfl ?_
    refine g_icmp_ne 52 33 X dX12_findShare_30 (by decide) rfl h (fun h => ?_) (fun h => ?_)
    · refine g_aload_n 53 X 0 dX12_findShare_52 rfl rfl ?_
      refine g_geti 56 X fl_X12_166_12 (o12 rfl) rfl dX12_findShare_53 h rfl (fun v4 h => ?_)
      refine g_bipush 58 X dX12_findShare_56 bp108 rfl ?_
      refine g_icmp_ne 92 61 X dX12_findShare_58 (by decide) rfl h (fun h => ?_) (fun h => ?_)
      · refine g_aload_n 93 X 0 dX12_findShare_92 rfl rfl ?_
        refine g_getr 96 X fl_X12_25_12 (o12 rfl) rfl dX12_findShare_93 rfl ?_
        refine g_iload_n 97 X 1 dX12_findShare_96 rfl rfl ?_
        refine g_iald 98 X (aiR (n := 30) (by decide) rfl) dX12_findShare_97 h rfl (fun v5 h => ?_)
        refine g_istore_n 99 X dX12_findShare_98 (by decide) rfl ?_
        refine g_aload_n 100 X 1 dX12_findShare_99 rfl rfl ?_
        refine g_aload_n 101 X 1 dX12_findShare_100 rfl rfl ?_
        refine g_getr 104 X fl_X12_53_12 (o12 rfl) rfl dX12_findShare_101 rfl ?_
        refine g_iconst 105 X dX12_findShare_104 ic0 rfl ?_
        refine g_iald 106 X (aiR (n := 4) (by decide) rfl) dX12_findShare_105 h rfl (fun v6 h => ?_)
        refine g_i2l 107 X dX12_findShare_106 rfl ?_
        refine g_aload_n 108 X 1 dX12_findShare_107 rfl rfl ?_
        refine g_iload_n 109 X 0 dX12_findShare_108 rfl rfl ?_
        refine g_ci 112 h (fun q e => r_V X cd_X12_195_X12_ofCluster_X12 ⟨rfl, rfl⟩ ⟨Nat.le_of_ble_eq_true rfl, Nat.le_of_ble_eq_true rfl⟩ (c_X12_ofCluster X.2.2.2.2  e) PC_blind (pc_pre X) (g_recv X (o12 rfl) rfl) rfl rfl (Nat.le_of_ble_eq_true rfl) dX12_findShare_109) rfl (fun v7 μ8 h => ?_)
        refine g_i2l 113 X dX12_findShare_112 rfl ?_
        refine g_lmul 114 X dX12_findShare_113 rfl ?_
        refine g_aload_n 115 X 1 dX12_findShare_114 rfl rfl ?_
        refine g_ci 118 h (fun q e => r_V X cd_X12_185_X12_clustersNow_X12 ⟨rfl, rfl⟩ ⟨Nat.le_of_ble_eq_true rfl, Nat.le_of_ble_eq_true rfl⟩ (c_X12_clustersNow X.2.2.2.2  e) PC_blind (pc_pre X) (g_recv X (o12 rfl) rfl) rfl rfl (Nat.le_of_ble_eq_true rfl) dX12_findShare_115) rfl (fun v9 μ10 h => ?_)
        refine g_i2l 119 X dX12_findShare_118 rfl ?_
        refine g_aload_n 120 X 1 dX12_findShare_119 rfl rfl ?_
        refine g_iconst 121 X dX12_findShare_120 ic1 rfl ?_
        refine g_iload_n 122 X 0 dX12_findShare_121 rfl rfl ?_
        refine g_ci 125 h (fun q e => r_V X cd_X12_144_X12_manyOf_X12 ⟨rfl, rfl⟩ ⟨Nat.le_of_ble_eq_true rfl, Nat.le_of_ble_eq_true rfl⟩ (c_X12_manyOf X.2.2.2.2  e) PC_blind (pc_pre X) (g_recv X (o12 rfl) rfl) rfl rfl (Nat.le_of_ble_eq_true rfl) dX12_findShare_122) rfl (fun v11 μ12 h => ?_)
        refine g_i2l 126 X dX12_findShare_125 rfl ?_
        refine g_lmul 127 X dX12_findShare_126 rfl ?_
        refine g_cv 130 h (fun q e => r_V X cd_X12_226_X12_becomes_X12 ⟨rfl, rfl⟩ ⟨Nat.le_of_ble_eq_true rfl, Nat.le_of_ble_eq_true rfl⟩ (c_X12_becomes X.2.2.2.2  e) PC_blind (pc_pre X) (g_recv X (o12 rfl) rfl) rfl rfl (Nat.le_of_ble_eq_true rfl) dX12_findShare_127) rfl (fun _ μ13 h => ?_)
        exact g_vret X hr dX12_findShare_130 h
      · refine g_aload_n 62 X 0 dX12_findShare_61 rfl rfl ?_
        refine g_aload_n 63 X 0 dX12_findShare_62 rfl rfl ?_
        refine g_getr 66 X fl_X12_53_12 (o12 rfl) rfl dX12_findShare_63 rfl ?_
        refine g_aload_n 67 X 0 dX12_findShare_66 rfl rfl ?_
        refine g_getr 70 X fl_X12_22_12 (o12 rfl) rfl dX12_findShare_67 rfl ?_
        refine g_iload_n 71 X 1 dX12_findShare_70 rfl rfl ?_
        refine g_iald 72 X (aiR (n := 30) (by decide) rfl) dX12_findShare_71 h rfl (fun v14 h => ?_)
        refine g_iald 73 X (aiR (n := 4) (by decide) rfl) dX12_findShare_72 h rfl (fun v15 h => ?_)
        refine g_i2l 74 X dX12_findShare_73 rfl ?_
        refine g_aload_n 75 X 0 dX12_findShare_74 rfl rfl ?_
        refine g_iconst 76 X dX12_findShare_75 ic0 rfl ?_
        refine g_aload_n 77 X 0 dX12_findShare_76 rfl rfl ?_
        refine g_getr 80 X fl_X12_22_12 (o12 rfl) rfl dX12_findShare_77 rfl ?_
        refine g_iload_n 81 X 1 dX12_findShare_80 rfl rfl ?_
        refine g_iald 82 X (aiR (n := 30) (by decide) rfl) dX12_findShare_81 h rfl (fun v16 h => ?_)
        refine g_ci 85 h (fun q e => r_V X cd_X12_144_X12_manyOf_X12 ⟨rfl, rfl⟩ ⟨Nat.le_of_ble_eq_true rfl, Nat.le_of_ble_eq_true rfl⟩ (c_X12_manyOf X.2.2.2.2  e) PC_blind (pc_pre X) (g_recv X (o12 rfl) rfl) rfl rfl (Nat.le_of_ble_eq_true rfl) dX12_findShare_82) rfl (fun v17 μ18 h => ?_)
        refine g_i2l 86 X dX12_findShare_85 rfl ?_
        refine g_cv 89 h (fun q e => r_V X cd_X12_226_X12_becomes_X12 ⟨rfl, rfl⟩ ⟨Nat.le_of_ble_eq_true rfl, Nat.le_of_ble_eq_true rfl⟩ (c_X12_becomes X.2.2.2.2  e) PC_blind (pc_pre X) (g_recv X (o12 rfl) rfl) rfl rfl (Nat.le_of_ble_eq_true rfl) dX12_findShare_86) rfl (fun _ μ19 h => ?_)
        refine g_goto 130 X dX12_findShare_89 (by decide) ?_
        exact g_vret X hr dX12_findShare_130 h
    · refine g_aload_n 34 X 0 dX12_findShare_33 rfl rfl ?_
      refine g_aload_n 35 X 0 dX12_findShare_34 rfl rfl ?_
      refine g_getr 38 X fl_X12_53_12 (o12 rfl) rfl dX12_findShare_35 rfl ?_
      refine g_iconst 39 X dX12_findShare_38 ic0 rfl ?_
      refine g_iald 40 X (aiR (n := 4) (by decide) rfl) dX12_findShare_39 h rfl (fun v20 h => ?_)
      refine g_i2l 41 X dX12_findShare_40 rfl ?_
      refine g_aload_n 42 X 0 dX12_findShare_41 rfl rfl ?_
      refine g_geti 45 X fl_X12_115_12 (o12 rfl) rfl dX12_findShare_42 h rfl (fun v21 h => ?_)
      refine g_i2l 46 X dX12_findShare_45 rfl ?_
      refine g_cv 49 h (fun q e => r_V X cd_X12_226_X12_becomes_X12 ⟨rfl, rfl⟩ ⟨Nat.le_of_ble_eq_true rfl, Nat.le_of_ble_eq_true rfl⟩ (c_X12_becomes X.2.2.2.2  e) PC_blind (pc_pre X) (g_recv X (o12 rfl) rfl) rfl rfl (Nat.le_of_ble_eq_true rfl) dX12_findShare_46) rfl (fun _ μ22 h => ?_)
      refine g_goto 130 X dX12_findShare_49 (by decide) ?_
      exact g_vret X hr dX12_findShare_130 h
  · refine g_aload_n 8 X 0 dX12_findShare_7 rfl rfl ?_
    refine g_aload_n 9 X 0 dX12_findShare_8 rfl rfl ?_
    refine g_iload_n 10 X 1 dX12_findShare_9 rfl rfl ?_
    refine g_ci 13 h (fun q e => r_V X cd_X12_224_X12_waysOf_X12 ⟨rfl, rfl⟩ ⟨Nat.le_of_ble_eq_true rfl, Nat.le_of_ble_eq_true rfl⟩ (c_X12_waysOf X.2.2.2.2  e) PC_blind (pc_pre X) (g_recv X (o12 rfl) rfl) rfl rfl (Nat.le_of_ble_eq_true rfl) dX12_findShare_10) rfl (fun v23 μ24 h => ?_)
    refine g_i2l 14 X dX12_findShare_13 rfl ?_
    refine g_aload_n 15 X 0 dX12_findShare_14 rfl rfl ?_
    refine g_cl 18 h (fun q e => r_V X cd_X12_202_X12_drawsNow_X12 ⟨rfl, rfl⟩ ⟨Nat.le_of_ble_eq_true rfl, Nat.le_of_ble_eq_true rfl⟩ (c_X12_drawsNow X.2.2.2.2  e) PC_blind (pc_pre X) (g_recv X (o12 rfl) rfl) rfl rfl (Nat.le_of_ble_eq_true rfl) dX12_findShare_15) rfl (fun v25 μ26 h => ?_)
    refine g_cv 21 h (fun q e => r_V X cd_X12_226_X12_becomes_X12 ⟨rfl, rfl⟩ ⟨Nat.le_of_ble_eq_true rfl, Nat.le_of_ble_eq_true rfl⟩ (c_X12_becomes X.2.2.2.2  e) PC_blind (pc_pre X) (g_recv X (o12 rfl) rfl) rfl rfl (Nat.le_of_ble_eq_true rfl) dX12_findShare_18) rfl (fun _ μ27 h => ?_)
    refine g_goto 130 X dX12_findShare_21 (by decide) ?_
    exact g_vret X hr dX12_findShare_130 h
set_option maxRecDepth 100000 in
theorem c_X12_findShare {l : Launch} {D : va_G} {ks : Nat → ClassId} {A : Nat → Prop} {ad : Nat → Nat} (hD : ∀ μ : Mem, va_D A (wsM 24 ad (shR ks ad) μ)) {F : Nat} {μ : Mem} {x1 : Int32} {r : Unit × Mem}  (h : f_X12_findShare F μ x1 = some r) : Met l yX12_findShare (Cond.code yX12_findShare cX12_findShare 3 none :: wg) rm_X12_findShare (PC D ks 24 ad (shR ks ad) μ [.ref (ad 0), .int x1]) (QV D 24 ad (shR ks ad) A r) 0 0 A := by
  refine met_of (by decide) (Nat.le_of_ble_eq_true rfl) hD ?_
  intro p e s m args below meth c X hr
  exact G.sub [0, 1] rfl (b_X12_findShare_0 X hr  _ _ h)
abbrev rm_X12_share : Room := { frames := 5, cells := 0, slots := 0, locals := 116 }
set_option maxRecDepth 100000 in
set_option maxHeartbeats 4000000 in
theorem b_X12_share_25 {p : Program} {l : Launch} {e : Env} {s : State} {m : MethodId} {args : Array Value} {below : List Frame} {meth : Method} {c : Code} {D : va_G} {ks : Nat → ClassId} {A : Nat → Prop} {ad : Nat → Nat} (X : Cx p s m args meth c cX12_share 4 RX12 D ks A 24 ad (shR ks ad)) (hr : meth.sig.returnType = (some .long)) {F : Nat} {r : Int64 × Mem} (μ : Mem)  (h : f_X12_share_b25 F  μ = some r) : G p l e rm_X12_share s m args below meth c D A 4 (MQ below (QL D 24 ad (shR ks ad) A r) args s 0 0 A) 24 ad (shR ks ad) μ 25 [] [] := by
  refine g_bipush 27 X dX12_share_25 bpm2 rfl ?_
  refine g_nl 30 h (fun q e => r_S X cd_X12_198_X12_no ⟨rfl, rfl⟩ ⟨Nat.le_of_ble_eq_true rfl, Nat.le_of_ble_eq_true rfl⟩ (c_X12_no e) PC_blind (pn_pre X) rfl rfl (Nat.le_of_ble_eq_true rfl) dX12_share_27) rfl (fun v1 h => ?_)
  exact g_lret X hr dX12_share_30 h
set_option maxRecDepth 100000 in
set_option maxHeartbeats 4000000 in
theorem b_X12_share_0 {p : Program} {l : Launch} {e : Env} {s : State} {m : MethodId} {args : Array Value} {below : List Frame} {meth : Method} {c : Code} {D : va_G} {ks : Nat → ClassId} {A : Nat → Prop} {ad : Nat → Nat} (X : Cx p s m args meth c cX12_share 4 RX12 D ks A 24 ad (shR ks ad)) (hr : meth.sig.returnType = (some .long)) {F : Nat} {r : Int64 × Mem} (μ : Mem) (x1 : Int32) (x2 : Int32) (x3 : Int32)  (h : f_X12_share F  μ x1 x2 x3 = some r) : G p l e rm_X12_share s m args below meth c D A 4 (MQ below (QL D 24 ad (shR ks ad) A r) args s 0 0 A) 24 ad (shR ks ad) μ 0 [(0, .ref (ad 0)), (1, .int x1), (2, .int x2), (3, .int x3)] [] := by
  refine g_iload_n 1 X 1 dX12_share_0 rfl rfl ?_
  refine g_ni 4 h (fun q e => r_S X cd_X12_147_X12_isPlan ⟨rfl, rfl⟩ ⟨Nat.le_of_ble_eq_true rfl, Nat.le_of_ble_eq_true rfl⟩ (c_X12_isPlan e) PC_blind (pn_pre X) rfl rfl (Nat.le_of_ble_eq_true rfl) dX12_share_1) rfl (fun v1 h => ?_)
  refine g_if_eq 25 7 X dX12_share_4 (by decide) rfl h (fun h => ?_) (fun h => ?_)
  · exact G.sub [] rfl (b_X12_share_25 X hr  _ h)
  · refine g_aload_n 8 X 0 dX12_share_7 rfl rfl ?_
    refine g_iload_n 9 X 2 dX12_share_8 rfl rfl ?_
    refine g_ci 12 h (fun q e => r_V X cd_X12_131_X12_isName_X12 ⟨rfl, rfl⟩ ⟨Nat.le_of_ble_eq_true rfl, Nat.le_of_ble_eq_true rfl⟩ (c_X12_isName X.2.2.2.2  e) PC_blind (pc_pre X) (g_recv X (o12 rfl) rfl) rfl rfl (Nat.le_of_ble_eq_true rfl) dX12_share_9) rfl (fun v2 μ3 h => ?_)
    refine g_if_eq 25 15 X dX12_share_12 (by decide) rfl h (fun h => ?_) (fun h => ?_)
    · exact G.sub [] rfl (b_X12_share_25 X hr  _ h)
    · refine g_iload_n 16 X 3 dX12_share_15 rfl rfl ?_
      refine g_i2l 17 X dX12_share_16 rfl ?_
      refine g_lconst 18 X dX12_share_17 lc0 rfl ?_
      refine g_lconst 19 X dX12_share_18 lc1 rfl ?_
      refine g_ni 22 h (fun q e => r_S X cd_X12_92_X12_in ⟨rfl, rfl⟩ ⟨Nat.le_of_ble_eq_true rfl, Nat.le_of_ble_eq_true rfl⟩ (c_X12_in e) PC_blind (pn_pre X) rfl rfl (Nat.le_of_ble_eq_true rfl) dX12_share_19) rfl (fun v4 h => ?_)
      refine g_if_ne 31 25 X dX12_share_22 (by decide) rfl h (fun h => ?_) (fun h => ?_)
      · refine g_aload_n 32 X 0 dX12_share_31 rfl rfl ?_
        refine g_iload_n 33 X 1 dX12_share_32 rfl rfl ?_
        refine g_ci 36 h (fun q e => r_V X cd_X12_188_X12_canBe_X12 ⟨rfl, rfl⟩ ⟨Nat.le_of_ble_eq_true rfl, Nat.le_of_ble_eq_true rfl⟩ (c_X12_canBe X.2.2.2.2  e) PC_blind (pc_pre X) (g_recv X (o12 rfl) rfl) rfl rfl (Nat.le_of_ble_eq_true rfl) dX12_share_33) rfl (fun v5 μ6 h => ?_)
        refine g_if_ne 45 39 X dX12_share_36 (by decide) rfl h (fun h => ?_) (fun h => ?_)
        · refine g_aload_n 46 X 0 dX12_share_45 rfl rfl ?_
          refine g_iload_n 47 X 2 dX12_share_46 rfl rfl ?_
          refine g_cv 50 h (fun q e => r_V X cd_X12_230_X12_findShare_X12 ⟨rfl, rfl⟩ ⟨Nat.le_of_ble_eq_true rfl, Nat.le_of_ble_eq_true rfl⟩ (c_X12_findShare X.2.2.2.2  e) PC_blind (pc_pre X) (g_recv X (o12 rfl) rfl) rfl rfl (Nat.le_of_ble_eq_true rfl) dX12_share_47) rfl (fun _ μ7 h => ?_)
          refine g_iload_n 51 X 3 dX12_share_50 rfl rfl ?_
          refine g_if_ne 61 54 X dX12_share_51 (by decide) rfl h (fun h => ?_) (fun h => ?_)
          · refine g_aload_n 62 X 0 dX12_share_61 rfl rfl ?_
            refine g_getl 65 X fl_X12_214_12 (o12 rfl) rfl dX12_share_62 h rfl (fun v8 h => ?_)
            exact g_lret X hr dX12_share_65 h
          · refine g_aload_n 55 X 0 dX12_share_54 rfl rfl ?_
            refine g_getl 58 X fl_X12_210_12 (o12 rfl) rfl dX12_share_55 h rfl (fun v9 h => ?_)
            refine g_goto 65 X dX12_share_58 (by decide) ?_
            exact g_lret X hr dX12_share_65 h
        · refine g_bipush 41 X dX12_share_39 bpm3 rfl ?_
          refine g_nl 44 h (fun q e => r_S X cd_X12_198_X12_no ⟨rfl, rfl⟩ ⟨Nat.le_of_ble_eq_true rfl, Nat.le_of_ble_eq_true rfl⟩ (c_X12_no e) PC_blind (pn_pre X) rfl rfl (Nat.le_of_ble_eq_true rfl) dX12_share_41) rfl (fun v10 h => ?_)
          exact g_lret X hr dX12_share_44 h
      · exact G.sub [] rfl (b_X12_share_25 X hr  _ h)
set_option maxRecDepth 100000 in
theorem c_X12_share {l : Launch} {D : va_G} {ks : Nat → ClassId} {A : Nat → Prop} {ad : Nat → Nat} (hD : ∀ μ : Mem, va_D A (wsM 24 ad (shR ks ad) μ)) {F : Nat} {μ : Mem} {x1 : Int32} {x2 : Int32} {x3 : Int32} {r : Int64 × Mem}  (h : f_X12_share F μ x1 x2 x3 = some r) : Met l yX12_share (Cond.code yX12_share cX12_share 4 (some .long) :: wg) rm_X12_share (PC D ks 24 ad (shR ks ad) μ [.ref (ad 0), .int x1, .int x2, .int x3]) (QL D 24 ad (shR ks ad) A r) 0 0 A := by
  refine met_of (by decide) (Nat.le_of_ble_eq_true rfl) hD ?_
  intro p e s m args below meth c X hr
  exact G.sub [0, 1, 2, 3] rfl (b_X12_share_0 X hr  _ _ _ _ h)
abbrev rm_X12_findBoth : Room := { frames := 4, cells := 0, slots := 0, locals := 93 }
set_option maxRecDepth 100000 in
set_option maxHeartbeats 4000000 in
theorem b_X12_findBoth_331 {p : Program} {l : Launch} {e : Env} {s : State} {m : MethodId} {args : Array Value} {below : List Frame} {meth : Method} {c : Code} {D : va_G} {ks : Nat → ClassId} {A : Nat → Prop} {ad : Nat → Nat} (X : Cx p s m args meth c cX12_findBoth 11 RX12 D ks A 24 ad (shR ks ad)) (hr : meth.sig.returnType = none) {F : Nat} {r : Unit × Mem} (μ : Mem) (z0 : Int32) (z1 : Int64) (z2 : Int64)  (h : f_X12_findBoth_b331 F  μ z0 z1 z2 = some r) : G p l e rm_X12_findBoth s m args below meth c D A 11 (MQ below (QV D 24 ad (shR ks ad) A r) args s 0 0 A) 24 ad (shR ks ad) μ 331 [] [.int z0, .long z1, .long z2, .ref (ad 0)] := by
  refine g_i2l 332 X dX12_findBoth_331 rfl ?_
  refine g_lmul 333 X dX12_findBoth_332 rfl ?_
  refine g_cv 336 h (fun q e => r_V X cd_X12_226_X12_becomes_X12 ⟨rfl, rfl⟩ ⟨Nat.le_of_ble_eq_true rfl, Nat.le_of_ble_eq_true rfl⟩ (c_X12_becomes X.2.2.2.2  e) PC_blind (pc_pre X) (g_recv X (o12 rfl) rfl) rfl rfl (Nat.le_of_ble_eq_true rfl) dX12_findBoth_333) rfl (fun _ μ1 h => ?_)
  exact g_vret X hr dX12_findBoth_336 h
set_option maxRecDepth 100000 in
set_option maxHeartbeats 4000000 in
theorem b_X12_findBoth_310 {p : Program} {l : Launch} {e : Env} {s : State} {m : MethodId} {args : Array Value} {below : List Frame} {meth : Method} {c : Code} {D : va_G} {ks : Nat → ClassId} {A : Nat → Prop} {ad : Nat → Nat} (X : Cx p s m args meth c cX12_findBoth 11 RX12 D ks A 24 ad (shR ks ad)) (hr : meth.sig.returnType = none) {F : Nat} {r : Unit × Mem} (μ : Mem) (x5 : Int32) (x8 : Int64) (x10 : Int32) (z0 : Int32) (z1 : Int64)  (h : f_X12_findBoth_b310 F  μ x5 x8 x10 z0 z1 = some r) : G p l e rm_X12_findBoth s m args below meth c D A 11 (MQ below (QV D 24 ad (shR ks ad) A r) args s 0 0 A) 24 ad (shR ks ad) μ 310 [(5, .int x5), (8, .long x8), (10, .int x10)] [.int z0, .long z1, .ref (ad 0)] := by
  refine g_i2l 311 X dX12_findBoth_310 rfl ?_
  refine g_lmul 312 X dX12_findBoth_311 rfl ?_
  refine g_lload 314 X 1 dX12_findBoth_312 rfl rfl ?_
  refine g_iload 316 X 2 dX12_findBoth_314 rfl rfl ?_
  refine g_i2l 317 X dX12_findBoth_316 rfl ?_
  refine g_lmul 318 X dX12_findBoth_317 rfl ?_
  refine g_iload 320 X 0 dX12_findBoth_318 rfl rfl ?_
  refine g_if_eq 327 323 X dX12_findBoth_320 (by decide) rfl h (fun h => ?_) (fun h => ?_)
  · refine g_iload 329 X 2 dX12_findBoth_327 rfl rfl ?_
    refine g_iconst 330 X dX12_findBoth_329 ic1 rfl ?_
    refine g_isub 331 X dX12_findBoth_330 rfl ?_
    exact G.sub [] rfl (b_X12_findBoth_331 X hr  _ _ _ _ h)
  · refine g_iconst 324 X dX12_findBoth_323 ic1 rfl ?_
    refine g_goto 331 X dX12_findBoth_324 (by decide) ?_
    exact G.sub [] rfl (b_X12_findBoth_331 X hr  _ _ _ _ h)
set_option maxRecDepth 100000 in
set_option maxHeartbeats 4000000 in
theorem b_X12_findBoth_271 {p : Program} {l : Launch} {e : Env} {s : State} {m : MethodId} {args : Array Value} {below : List Frame} {meth : Method} {c : Code} {D : va_G} {ks : Nat → ClassId} {A : Nat → Prop} {ad : Nat → Nat} (X : Cx p s m args meth c cX12_findBoth 11 RX12 D ks A 24 ad (shR ks ad)) (hr : meth.sig.returnType = none) {F : Nat} {r : Unit × Mem} (μ : Mem) (x5 : Int32) (x6 : Int64) (z0 : Int32) (z1 : Int32) (z2 : Int64)  (h : f_X12_findBoth_b271 F  μ x5 x6 z0 z1 z2 = some r) : G p l e rm_X12_findBoth s m args below meth c D A 11 (MQ below (QV D 24 ad (shR ks ad) A r) args s 0 0 A) 24 ad (shR ks ad) μ 271 [(0, .ref (ad 0)), (5, .int x5), (6, .long x6)] [.int z0, .int z1, .long z2] := by
  refine g_isub 272 X dX12_findBoth_271 rfl ?_
  refine g_i2l 273 X dX12_findBoth_272 rfl ?_
  refine g_lmul 274 X dX12_findBoth_273 rfl ?_
  refine g_topl h (fun v1 h => ?_)
  refine g_lstore 276 X dX12_findBoth_274 (by decide) rfl ?_
  refine g_aload_n 277 X 1 dX12_findBoth_276 rfl rfl ?_
  refine g_ci 280 h (fun q e => r_V X cd_X12_185_X12_clustersNow_X12 ⟨rfl, rfl⟩ ⟨Nat.le_of_ble_eq_true rfl, Nat.le_of_ble_eq_true rfl⟩ (c_X12_clustersNow X.2.2.2.2  e) PC_blind (pc_pre X) (g_recv X (o12 rfl) rfl) rfl rfl (Nat.le_of_ble_eq_true rfl) dX12_findBoth_277) rfl (fun v2 μ3 h => ?_)
  refine g_istore 282 X dX12_findBoth_280 (by decide) rfl ?_
  refine g_aload_n 283 X 2 dX12_findBoth_282 rfl rfl ?_
  refine g_lload 285 X 4 dX12_findBoth_283 rfl rfl ?_
  refine g_aload_n 286 X 2 dX12_findBoth_285 rfl rfl ?_
  refine g_getr 289 X fl_X12_53_12 (o12 rfl) rfl dX12_findBoth_286 rfl ?_
  refine g_iconst 290 X dX12_findBoth_289 ic0 rfl ?_
  refine g_iald 291 X (aiR (n := 4) (by decide) rfl) dX12_findBoth_290 h rfl (fun v4 h => ?_)
  refine g_i2l 292 X dX12_findBoth_291 rfl ?_
  refine g_lmul 293 X dX12_findBoth_292 rfl ?_
  refine g_iload 295 X 3 dX12_findBoth_293 rfl rfl ?_
  refine g_if_eq 302 298 X dX12_findBoth_295 (by decide) rfl h (fun h => ?_) (fun h => ?_)
  · refine g_aload_n 303 X 2 dX12_findBoth_302 rfl rfl ?_
    refine g_getr 306 X fl_X12_53_12 (o12 rfl) rfl dX12_findBoth_303 rfl ?_
    refine g_iconst 307 X dX12_findBoth_306 ic0 rfl ?_
    refine g_iald 308 X (aiR (n := 4) (by decide) rfl) dX12_findBoth_307 h rfl (fun v5 h => ?_)
    refine g_iconst 309 X dX12_findBoth_308 ic1 rfl ?_
    refine g_isub 310 X dX12_findBoth_309 rfl ?_
    exact G.sub [3, 1, 0] rfl (b_X12_findBoth_310 X hr  _ _ _ _ _ _ h)
  · refine g_iconst 299 X dX12_findBoth_298 ic1 rfl ?_
    refine g_goto 310 X dX12_findBoth_299 (by decide) ?_
    exact G.sub [3, 1, 0] rfl (b_X12_findBoth_310 X hr  _ _ _ _ _ _ h)
set_option maxRecDepth 100000 in
set_option maxHeartbeats 4000000 in
theorem b_X12_findBoth_242 {p : Program} {l : Launch} {e : Env} {s : State} {m : MethodId} {args : Array Value} {below : List Frame} {meth : Method} {c : Code} {D : va_G} {ks : Nat → ClassId} {A : Nat → Prop} {ad : Nat → Nat} (X : Cx p s m args meth c cX12_findBoth 11 RX12 D ks A 24 ad (shR ks ad)) (hr : meth.sig.returnType = none) {F : Nat} {r : Unit × Mem} (μ : Mem) (x3 : Int32) (x4 : Int32) (x5 : Int32) (z0 : Int32) (z1 : Int32) (z2 : Int64)  (h : f_X12_findBoth_b242 F  μ x3 x4 x5 z0 z1 z2 = some r) : G p l e rm_X12_findBoth s m args below meth c D A 11 (MQ below (QV D 24 ad (shR ks ad) A r) args s 0 0 A) 24 ad (shR ks ad) μ 242 [(0, .ref (ad 0)), (3, .int x3), (4, .int x4), (5, .int x5)] [.int z0, .int z1, .long z2] := by
  refine g_isub 243 X dX12_findBoth_242 rfl ?_
  refine g_i2l 244 X dX12_findBoth_243 rfl ?_
  refine g_lmul 245 X dX12_findBoth_244 rfl ?_
  refine g_topl h (fun v1 h => ?_)
  refine g_lstore 247 X dX12_findBoth_245 (by decide) rfl ?_
  refine g_aload_n 248 X 1 dX12_findBoth_247 rfl rfl ?_
  refine g_iconst 249 X dX12_findBoth_248 ic1 rfl ?_
  refine g_iload_n 250 X 2 dX12_findBoth_249 rfl rfl ?_
  refine g_ci 253 h (fun q e => r_V X cd_X12_144_X12_manyOf_X12 ⟨rfl, rfl⟩ ⟨Nat.le_of_ble_eq_true rfl, Nat.le_of_ble_eq_true rfl⟩ (c_X12_manyOf X.2.2.2.2  e) PC_blind (pc_pre X) (g_recv X (o12 rfl) rfl) rfl rfl (Nat.le_of_ble_eq_true rfl) dX12_findBoth_250) rfl (fun v2 μ3 h => ?_)
  refine g_i2l 254 X dX12_findBoth_253 rfl ?_
  refine g_aload_n 255 X 1 dX12_findBoth_254 rfl rfl ?_
  refine g_iconst 256 X dX12_findBoth_255 ic1 rfl ?_
  refine g_iload 258 X 3 dX12_findBoth_256 rfl rfl ?_
  refine g_ci 261 h (fun q e => r_V X cd_X12_144_X12_manyOf_X12 ⟨rfl, rfl⟩ ⟨Nat.le_of_ble_eq_true rfl, Nat.le_of_ble_eq_true rfl⟩ (c_X12_manyOf X.2.2.2.2  e) PC_blind (pc_pre X) (g_recv X (o12 rfl) rfl) rfl rfl (Nat.le_of_ble_eq_true rfl) dX12_findBoth_258) rfl (fun v4 μ5 h => ?_)
  refine g_iload 263 X 4 dX12_findBoth_261 rfl rfl ?_
  refine g_if_eq 270 266 X dX12_findBoth_263 (by decide) rfl h (fun h => ?_) (fun h => ?_)
  · refine g_iconst 271 X dX12_findBoth_270 ic0 rfl ?_
    exact G.sub [1, 4, 0] rfl (b_X12_findBoth_271 X hr  _ _ _ _ _ _ h)
  · refine g_iconst 267 X dX12_findBoth_266 ic1 rfl ?_
    refine g_goto 271 X dX12_findBoth_267 (by decide) ?_
    exact G.sub [1, 4, 0] rfl (b_X12_findBoth_271 X hr  _ _ _ _ _ _ h)
set_option maxRecDepth 100000 in
set_option maxHeartbeats 4000000 in
theorem b_X12_findBoth_218 {p : Program} {l : Launch} {e : Env} {s : State} {m : MethodId} {args : Array Value} {below : List Frame} {meth : Method} {c : Code} {D : va_G} {ks : Nat → ClassId} {A : Nat → Prop} {ad : Nat → Nat} (X : Cx p s m args meth c cX12_findBoth 11 RX12 D ks A 24 ad (shR ks ad)) (hr : meth.sig.returnType = none) {F : Nat} {r : Unit × Mem} (μ : Mem) (x3 : Int32) (x4 : Int32) (z0 : Int32)  (h : f_X12_findBoth_b218 F  μ x3 x4 z0 = some r) : G p l e rm_X12_findBoth s m args below meth c D A 11 (MQ below (QV D 24 ad (shR ks ad) A r) args s 0 0 A) 24 ad (shR ks ad) μ 218 [(0, .ref (ad 0)), (3, .int x3), (4, .int x4)] [.int z0] := by
  refine g_istore 220 X dX12_findBoth_218 (by decide) rfl ?_
  refine g_aload_n 221 X 1 dX12_findBoth_220 rfl rfl ?_
  refine g_iload_n 222 X 2 dX12_findBoth_221 rfl rfl ?_
  refine g_ci 225 h (fun q e => r_V X cd_X12_195_X12_ofCluster_X12 ⟨rfl, rfl⟩ ⟨Nat.le_of_ble_eq_true rfl, Nat.le_of_ble_eq_true rfl⟩ (c_X12_ofCluster X.2.2.2.2  e) PC_blind (pc_pre X) (g_recv X (o12 rfl) rfl) rfl rfl (Nat.le_of_ble_eq_true rfl) dX12_findBoth_222) rfl (fun v1 μ2 h => ?_)
  refine g_i2l 226 X dX12_findBoth_225 rfl ?_
  refine g_aload_n 227 X 1 dX12_findBoth_226 rfl rfl ?_
  refine g_iload 229 X 3 dX12_findBoth_227 rfl rfl ?_
  refine g_ci 232 h (fun q e => r_V X cd_X12_195_X12_ofCluster_X12 ⟨rfl, rfl⟩ ⟨Nat.le_of_ble_eq_true rfl, Nat.le_of_ble_eq_true rfl⟩ (c_X12_ofCluster X.2.2.2.2  e) PC_blind (pc_pre X) (g_recv X (o12 rfl) rfl) rfl rfl (Nat.le_of_ble_eq_true rfl) dX12_findBoth_229) rfl (fun v3 μ4 h => ?_)
  refine g_iload 234 X 0 dX12_findBoth_232 rfl rfl ?_
  refine g_if_eq 241 237 X dX12_findBoth_234 (by decide) rfl h (fun h => ?_) (fun h => ?_)
  · refine g_iconst 242 X dX12_findBoth_241 ic0 rfl ?_
    exact G.sub [1, 2, 3, 0] rfl (b_X12_findBoth_242 X hr  _ _ _ _ _ _ _ h)
  · refine g_iconst 238 X dX12_findBoth_237 ic1 rfl ?_
    refine g_goto 242 X dX12_findBoth_238 (by decide) ?_
    exact G.sub [1, 2, 3, 0] rfl (b_X12_findBoth_242 X hr  _ _ _ _ _ _ _ h)
set_option maxRecDepth 100000 in
set_option maxHeartbeats 4000000 in
theorem b_X12_findBoth_183 {p : Program} {l : Launch} {e : Env} {s : State} {m : MethodId} {args : Array Value} {below : List Frame} {meth : Method} {c : Code} {D : va_G} {ks : Nat → ClassId} {A : Nat → Prop} {ad : Nat → Nat} (X : Cx p s m args meth c cX12_findBoth 11 RX12 D ks A 24 ad (shR ks ad)) (hr : meth.sig.returnType = none) {F : Nat} {r : Unit × Mem} (μ : Mem) (z0 : Int32) (z1 : Int32) (z2 : Int64) (z3 : Int64)  (h : f_X12_findBoth_b183 F  μ z0 z1 z2 z3 = some r) : G p l e rm_X12_findBoth s m args below meth c D A 11 (MQ below (QV D 24 ad (shR ks ad) A r) args s 0 0 A) 24 ad (shR ks ad) μ 183 [] [.int z0, .int z1, .long z2, .long z3, .ref (ad 0)] := by
  refine g_isub 184 X dX12_findBoth_183 rfl ?_
  refine g_i2l 185 X dX12_findBoth_184 rfl ?_
  refine g_lmul 186 X dX12_findBoth_185 rfl ?_
  refine g_cv 189 h (fun q e => r_V X cd_X12_226_X12_becomes_X12 ⟨rfl, rfl⟩ ⟨Nat.le_of_ble_eq_true rfl, Nat.le_of_ble_eq_true rfl⟩ (c_X12_becomes X.2.2.2.2  e) PC_blind (pc_pre X) (g_recv X (o12 rfl) rfl) rfl rfl (Nat.le_of_ble_eq_true rfl) dX12_findBoth_186) rfl (fun _ μ1 h => ?_)
  refine g_goto 336 X dX12_findBoth_189 (by decide) ?_
  exact g_vret X hr dX12_findBoth_336 h
set_option maxRecDepth 100000 in
set_option maxHeartbeats 4000000 in
theorem b_X12_findBoth_166 {p : Program} {l : Launch} {e : Env} {s : State} {m : MethodId} {args : Array Value} {below : List Frame} {meth : Method} {c : Code} {D : va_G} {ks : Nat → ClassId} {A : Nat → Prop} {ad : Nat → Nat} (X : Cx p s m args meth c cX12_findBoth 11 RX12 D ks A 24 ad (shR ks ad)) (hr : meth.sig.returnType = none) {F : Nat} {r : Unit × Mem} (μ : Mem) (x3 : Int32) (x4 : Int32) (x5 : Int32) (z0 : Int32) (z1 : Int32) (z2 : Int64)  (h : f_X12_findBoth_b166 F  μ x3 x4 x5 z0 z1 z2 = some r) : G p l e rm_X12_findBoth s m args below meth c D A 11 (MQ below (QV D 24 ad (shR ks ad) A r) args s 0 0 A) 24 ad (shR ks ad) μ 166 [(3, .int x3), (4, .int x4), (5, .int x5)] [.int z0, .int z1, .long z2, .ref (ad 0)] := by
  refine g_isub 167 X dX12_findBoth_166 rfl ?_
  refine g_i2l 168 X dX12_findBoth_167 rfl ?_
  refine g_lmul 169 X dX12_findBoth_168 rfl ?_
  refine g_iload_n 170 X 0 dX12_findBoth_169 rfl rfl ?_
  refine g_i2l 171 X dX12_findBoth_170 rfl ?_
  refine g_iload 173 X 1 dX12_findBoth_171 rfl rfl ?_
  refine g_iload 175 X 2 dX12_findBoth_173 rfl rfl ?_
  refine g_if_eq 182 178 X dX12_findBoth_175 (by decide) rfl h (fun h => ?_) (fun h => ?_)
  · refine g_iconst 183 X dX12_findBoth_182 ic0 rfl ?_
    exact G.sub [] rfl (b_X12_findBoth_183 X hr  _ _ _ _ _ h)
  · refine g_iconst 179 X dX12_findBoth_178 ic1 rfl ?_
    refine g_goto 183 X dX12_findBoth_179 (by decide) ?_
    exact G.sub [] rfl (b_X12_findBoth_183 X hr  _ _ _ _ _ h)
set_option maxRecDepth 100000 in
set_option maxHeartbeats 4000000 in
theorem b_X12_findBoth_130 {p : Program} {l : Launch} {e : Env} {s : State} {m : MethodId} {args : Array Value} {below : List Frame} {meth : Method} {c : Code} {D : va_G} {ks : Nat → ClassId} {A : Nat → Prop} {ad : Nat → Nat} (X : Cx p s m args meth c cX12_findBoth 11 RX12 D ks A 24 ad (shR ks ad)) (hr : meth.sig.returnType = none) {F : Nat} {r : Unit × Mem} (μ : Mem) (x1 : Int32) (x2 : Int32) (x3 : Int32) (x4 : Int32) (z0 : Int32)  (h : f_X12_findBoth_b130 F  μ x1 x2 x3 x4 z0 = some r) : G p l e rm_X12_findBoth s m args below meth c D A 11 (MQ below (QV D 24 ad (shR ks ad) A r) args s 0 0 A) 24 ad (shR ks ad) μ 130 [(0, .ref (ad 0)), (1, .int x1), (2, .int x2), (3, .int x3), (4, .int x4)] [.int z0] := by
  refine g_istore 132 X dX12_findBoth_130 (by decide) rfl ?_
  refine g_aload_n 133 X 1 dX12_findBoth_132 rfl rfl ?_
  refine g_aload_n 134 X 1 dX12_findBoth_133 rfl rfl ?_
  refine g_getr 137 X fl_X12_53_12 (o12 rfl) rfl dX12_findBoth_134 rfl ?_
  refine g_aload_n 138 X 1 dX12_findBoth_137 rfl rfl ?_
  refine g_getr 141 X fl_X12_22_12 (o12 rfl) rfl dX12_findBoth_138 rfl ?_
  refine g_iload_n 142 X 2 dX12_findBoth_141 rfl rfl ?_
  refine g_iald 143 X (aiR (n := 30) (by decide) rfl) dX12_findBoth_142 h rfl (fun v1 h => ?_)
  refine g_iald 144 X (aiR (n := 4) (by decide) rfl) dX12_findBoth_143 h rfl (fun v2 h => ?_)
  refine g_i2l 145 X dX12_findBoth_144 rfl ?_
  refine g_aload_n 146 X 1 dX12_findBoth_145 rfl rfl ?_
  refine g_getr 149 X fl_X12_53_12 (o12 rfl) rfl dX12_findBoth_146 rfl ?_
  refine g_aload_n 150 X 1 dX12_findBoth_149 rfl rfl ?_
  refine g_getr 153 X fl_X12_22_12 (o12 rfl) rfl dX12_findBoth_150 rfl ?_
  refine g_iload_n 154 X 3 dX12_findBoth_153 rfl rfl ?_
  refine g_iald 155 X (aiR (n := 30) (by decide) rfl) dX12_findBoth_154 h rfl (fun v3 h => ?_)
  refine g_iald 156 X (aiR (n := 4) (by decide) rfl) dX12_findBoth_155 h rfl (fun v4 h => ?_)
  refine g_iload 158 X 0 dX12_findBoth_156 rfl rfl ?_
  refine g_if_eq 165 161 X dX12_findBoth_158 (by decide) rfl h (fun h => ?_) (fun h => ?_)
  · refine g_iconst 166 X dX12_findBoth_165 ic0 rfl ?_
    exact G.sub [4, 5, 0] rfl (b_X12_findBoth_166 X hr  _ _ _ _ _ _ _ h)
  · refine g_iconst 162 X dX12_findBoth_161 ic1 rfl ?_
    refine g_goto 166 X dX12_findBoth_162 (by decide) ?_
    exact G.sub [4, 5, 0] rfl (b_X12_findBoth_166 X hr  _ _ _ _ _ _ _ h)
set_option maxRecDepth 100000 in
set_option maxHeartbeats 4000000 in
theorem b_X12_findBoth_0 {p : Program} {l : Launch} {e : Env} {s : State} {m : MethodId} {args : Array Value} {below : List Frame} {meth : Method} {c : Code} {D : va_G} {ks : Nat → ClassId} {A : Nat → Prop} {ad : Nat → Nat} (X : Cx p s m args meth c cX12_findBoth 11 RX12 D ks A 24 ad (shR ks ad)) (hr : meth.sig.returnType = none) {F : Nat} {r : Unit × Mem} (μ : Mem) (x1 : Int32) (x2 : Int32)  (h : f_X12_findBoth F  μ x1 x2 = some r) : G p l e rm_X12_findBoth s m args below meth c D A 11 (MQ below (QV D 24 ad (shR ks ad) A r) args s 0 0 A) 24 ad (shR ks ad) μ 0 [(0, .ref (ad 0)), (1, .int x1), (2, .int x2)] [] := by
  refine g_aload_n 1 X 0 dX12_findBoth_0 rfl rfl ?_
  refine g_ci 4 h (fun q e => r_V X cd_X12_220_X12_goesRound_X12 ⟨rfl, rfl⟩ ⟨Nat.le_of_ble_eq_true rfl, Nat.le_of_ble_eq_true rfl⟩ (c_X12_goesRound X.2.2.2.2  e) PC_blind (pc_pre X) (g_recv X (o12 rfl) rfl) rfl rfl (Nat.le_of_ble_eq_true rfl) dX12_findBoth_1) rfl (fun v1 μ2 h => ?_)
  refine g_if_eq 30 7 X dX12_findBoth_4 (by decide) rfl h (fun h => ?_) (fun h => ?_)
  · refine g_aload_n 31 X 0 dX12_findBoth_30 rfl rfl ?_
    refine g_geti 34 X fl_X12_166_12 (o12 rfl) rfl dX12_findBoth_31 h rfl (fun v3 h => ?_)
    refine g_bipush 36 X dX12_findBoth_34 bp97 rfl ?_
    refine g_icmp_ne 76 39 X dX12_findBoth_36 (by decide) rfl h (fun h => ?_) (fun h => ?_)
    · refine g_aload_n 77 X 0 dX12_findBoth_76 rfl rfl ?_
      refine g_geti 80 X fl_X12_166_12 (o12 rfl) rfl dX12_findBoth_77 h rfl (fun v4 h => ?_)
      refine g_bipush 82 X dX12_findBoth_80 bp108 rfl ?_
      refine g_icmp_ne 192 85 X dX12_findBoth_82 (by decide) rfl h (fun h => ?_) (fun h => ?_)
      · refine g_aload_n 193 X 0 dX12_findBoth_192 rfl rfl ?_
        refine g_getr 196 X fl_X12_25_12 (o12 rfl) rfl dX12_findBoth_193 rfl ?_
        refine g_iload_n 197 X 1 dX12_findBoth_196 rfl rfl ?_
        refine g_iald 198 X (aiR (n := 30) (by decide) rfl) dX12_findBoth_197 h rfl (fun v5 h => ?_)
        refine g_istore_n 199 X dX12_findBoth_198 (by decide) rfl ?_
        refine g_aload_n 200 X 1 dX12_findBoth_199 rfl rfl ?_
        refine g_getr 203 X fl_X12_25_12 (o12 rfl) rfl dX12_findBoth_200 rfl ?_
        refine g_iload_n 204 X 3 dX12_findBoth_203 rfl rfl ?_
        refine g_iald 205 X (aiR (n := 30) (by decide) rfl) dX12_findBoth_204 h rfl (fun v6 h => ?_)
        refine g_istore 207 X dX12_findBoth_205 (by decide) rfl ?_
        refine g_iload_n 208 X 1 dX12_findBoth_207 rfl rfl ?_
        refine g_iload 210 X 0 dX12_findBoth_208 rfl rfl ?_
        refine g_icmp_ne 217 213 X dX12_findBoth_210 (by decide) rfl h (fun h => ?_) (fun h => ?_)
        · refine g_iconst 218 X dX12_findBoth_217 ic0 rfl ?_
          exact G.sub [2, 1, 0] rfl (b_X12_findBoth_218 X hr  _ _ _ _ h)
        · refine g_iconst 214 X dX12_findBoth_213 ic1 rfl ?_
          refine g_goto 218 X dX12_findBoth_214 (by decide) ?_
          exact G.sub [2, 1, 0] rfl (b_X12_findBoth_218 X hr  _ _ _ _ h)
      · refine g_aload_n 86 X 0 dX12_findBoth_85 rfl rfl ?_
        refine g_iconst 87 X dX12_findBoth_86 ic0 rfl ?_
        refine g_aload_n 88 X 0 dX12_findBoth_87 rfl rfl ?_
        refine g_getr 91 X fl_X12_22_12 (o12 rfl) rfl dX12_findBoth_88 rfl ?_
        refine g_iload_n 92 X 1 dX12_findBoth_91 rfl rfl ?_
        refine g_iald 93 X (aiR (n := 30) (by decide) rfl) dX12_findBoth_92 h rfl (fun v7 h => ?_)
        refine g_ci 96 h (fun q e => r_V X cd_X12_144_X12_manyOf_X12 ⟨rfl, rfl⟩ ⟨Nat.le_of_ble_eq_true rfl, Nat.le_of_ble_eq_true rfl⟩ (c_X12_manyOf X.2.2.2.2  e) PC_blind (pc_pre X) (g_recv X (o12 rfl) rfl) rfl rfl (Nat.le_of_ble_eq_true rfl) dX12_findBoth_93) rfl (fun v8 μ9 h => ?_)
        refine g_istore_n 97 X dX12_findBoth_96 (by decide) rfl ?_
        refine g_aload_n 98 X 1 dX12_findBoth_97 rfl rfl ?_
        refine g_iconst 99 X dX12_findBoth_98 ic0 rfl ?_
        refine g_aload_n 100 X 1 dX12_findBoth_99 rfl rfl ?_
        refine g_getr 103 X fl_X12_22_12 (o12 rfl) rfl dX12_findBoth_100 rfl ?_
        refine g_iload_n 104 X 3 dX12_findBoth_103 rfl rfl ?_
        refine g_iald 105 X (aiR (n := 30) (by decide) rfl) dX12_findBoth_104 h rfl (fun v10 h => ?_)
        refine g_ci 108 h (fun q e => r_V X cd_X12_144_X12_manyOf_X12 ⟨rfl, rfl⟩ ⟨Nat.le_of_ble_eq_true rfl, Nat.le_of_ble_eq_true rfl⟩ (c_X12_manyOf X.2.2.2.2  e) PC_blind (pc_pre X) (g_recv X (o12 rfl) rfl) rfl rfl (Nat.le_of_ble_eq_true rfl) dX12_findBoth_105) rfl (fun v11 μ12 h => ?_)
        refine g_istore 110 X dX12_findBoth_108 (by decide) rfl ?_
        refine g_aload_n 111 X 2 dX12_findBoth_110 rfl rfl ?_
        refine g_getr 114 X fl_X12_22_12 (o12 rfl) rfl dX12_findBoth_111 rfl ?_
        refine g_iload_n 115 X 3 dX12_findBoth_114 rfl rfl ?_
        refine g_iald 116 X (aiR (n := 30) (by decide) rfl) dX12_findBoth_115 h rfl (fun v13 h => ?_)
        refine g_aload_n 117 X 2 dX12_findBoth_116 rfl rfl ?_
        refine g_getr 120 X fl_X12_22_12 (o12 rfl) rfl dX12_findBoth_117 rfl ?_
        refine g_iload_n 121 X 4 dX12_findBoth_120 rfl rfl ?_
        refine g_iald 122 X (aiR (n := 30) (by decide) rfl) dX12_findBoth_121 h rfl (fun v14 h => ?_)
        refine g_icmp_ne 129 125 X dX12_findBoth_122 (by decide) rfl h (fun h => ?_) (fun h => ?_)
        · refine g_iconst 130 X dX12_findBoth_129 ic0 rfl ?_
          exact G.sub [2, 3, 4, 1, 0] rfl (b_X12_findBoth_130 X hr  _ _ _ _ _ _ h)
        · refine g_iconst 126 X dX12_findBoth_125 ic1 rfl ?_
          refine g_goto 130 X dX12_findBoth_126 (by decide) ?_
          exact G.sub [2, 3, 4, 1, 0] rfl (b_X12_findBoth_130 X hr  _ _ _ _ _ _ h)
    · refine g_aload_n 40 X 0 dX12_findBoth_39 rfl rfl ?_
      refine g_aload_n 41 X 0 dX12_findBoth_40 rfl rfl ?_
      refine g_getr 44 X fl_X12_53_12 (o12 rfl) rfl dX12_findBoth_41 rfl ?_
      refine g_iconst 45 X dX12_findBoth_44 ic0 rfl ?_
      refine g_iald 46 X (aiR (n := 4) (by decide) rfl) dX12_findBoth_45 h rfl (fun v15 h => ?_)
      refine g_i2l 47 X dX12_findBoth_46 rfl ?_
      refine g_aload_n 48 X 0 dX12_findBoth_47 rfl rfl ?_
      refine g_getr 51 X fl_X12_53_12 (o12 rfl) rfl dX12_findBoth_48 rfl ?_
      refine g_iconst 52 X dX12_findBoth_51 ic0 rfl ?_
      refine g_iald 53 X (aiR (n := 4) (by decide) rfl) dX12_findBoth_52 h rfl (fun v16 h => ?_)
      refine g_iconst 54 X dX12_findBoth_53 ic1 rfl ?_
      refine g_isub 55 X dX12_findBoth_54 rfl ?_
      refine g_i2l 56 X dX12_findBoth_55 rfl ?_
      refine g_lmul 57 X dX12_findBoth_56 rfl ?_
      refine g_aload_n 58 X 0 dX12_findBoth_57 rfl rfl ?_
      refine g_geti 61 X fl_X12_115_12 (o12 rfl) rfl dX12_findBoth_58 h rfl (fun v17 h => ?_)
      refine g_i2l 62 X dX12_findBoth_61 rfl ?_
      refine g_aload_n 63 X 0 dX12_findBoth_62 rfl rfl ?_
      refine g_geti 66 X fl_X12_115_12 (o12 rfl) rfl dX12_findBoth_63 h rfl (fun v18 h => ?_)
      refine g_iconst 67 X dX12_findBoth_66 ic1 rfl ?_
      refine g_isub 68 X dX12_findBoth_67 rfl ?_
      refine g_i2l 69 X dX12_findBoth_68 rfl ?_
      refine g_lmul 70 X dX12_findBoth_69 rfl ?_
      refine g_cv 73 h (fun q e => r_V X cd_X12_226_X12_becomes_X12 ⟨rfl, rfl⟩ ⟨Nat.le_of_ble_eq_true rfl, Nat.le_of_ble_eq_true rfl⟩ (c_X12_becomes X.2.2.2.2  e) PC_blind (pc_pre X) (g_recv X (o12 rfl) rfl) rfl rfl (Nat.le_of_ble_eq_true rfl) dX12_findBoth_70) rfl (fun _ μ19 h => ?_)
      refine g_goto 336 X dX12_findBoth_73 (by decide) ?_
      exact g_vret X hr dX12_findBoth_336 h
  · refine g_aload_n 8 X 0 dX12_findBoth_7 rfl rfl ?_
    refine g_aload_n 9 X 0 dX12_findBoth_8 rfl rfl ?_
    refine g_iconst 10 X dX12_findBoth_9 ic1 rfl ?_
    refine g_iload_n 11 X 1 dX12_findBoth_10 rfl rfl ?_
    refine g_ishl 12 X dX12_findBoth_11 rfl ?_
    refine g_iconst 13 X dX12_findBoth_12 ic1 rfl ?_
    refine g_iload_n 14 X 2 dX12_findBoth_13 rfl rfl ?_
    refine g_ishl 15 X dX12_findBoth_14 rfl ?_
    refine g_ior 16 X dX12_findBoth_15 rfl ?_
    refine g_ci 19 h (fun q e => r_V X cd_X12_234_X12_waysWith_X12 ⟨rfl, rfl⟩ ⟨Nat.le_of_ble_eq_true rfl, Nat.le_of_ble_eq_true rfl⟩ (c_X12_waysWith X.2.2.2.2  e) PC_blind (pc_pre X) (g_recv X (o12 rfl) rfl) rfl rfl (Nat.le_of_ble_eq_true rfl) dX12_findBoth_16) rfl (fun v20 μ21 h => ?_)
    refine g_i2l 20 X dX12_findBoth_19 rfl ?_
    refine g_aload_n 21 X 0 dX12_findBoth_20 rfl rfl ?_
    refine g_cl 24 h (fun q e => r_V X cd_X12_202_X12_drawsNow_X12 ⟨rfl, rfl⟩ ⟨Nat.le_of_ble_eq_true rfl, Nat.le_of_ble_eq_true rfl⟩ (c_X12_drawsNow X.2.2.2.2  e) PC_blind (pc_pre X) (g_recv X (o12 rfl) rfl) rfl rfl (Nat.le_of_ble_eq_true rfl) dX12_findBoth_21) rfl (fun v22 μ23 h => ?_)
    refine g_cv 27 h (fun q e => r_V X cd_X12_226_X12_becomes_X12 ⟨rfl, rfl⟩ ⟨Nat.le_of_ble_eq_true rfl, Nat.le_of_ble_eq_true rfl⟩ (c_X12_becomes X.2.2.2.2  e) PC_blind (pc_pre X) (g_recv X (o12 rfl) rfl) rfl rfl (Nat.le_of_ble_eq_true rfl) dX12_findBoth_24) rfl (fun _ μ24 h => ?_)
    refine g_goto 336 X dX12_findBoth_27 (by decide) ?_
    exact g_vret X hr dX12_findBoth_336 h
set_option maxRecDepth 100000 in
theorem c_X12_findBoth {l : Launch} {D : va_G} {ks : Nat → ClassId} {A : Nat → Prop} {ad : Nat → Nat} (hD : ∀ μ : Mem, va_D A (wsM 24 ad (shR ks ad) μ)) {F : Nat} {μ : Mem} {x1 : Int32} {x2 : Int32} {r : Unit × Mem}  (h : f_X12_findBoth F μ x1 x2 = some r) : Met l yX12_findBoth (Cond.code yX12_findBoth cX12_findBoth 11 none :: wg) rm_X12_findBoth (PC D ks 24 ad (shR ks ad) μ [.ref (ad 0), .int x1, .int x2]) (QV D 24 ad (shR ks ad) A r) 0 0 A := by
  refine met_of (by decide) (Nat.le_of_ble_eq_true rfl) hD ?_
  intro p e s m args below meth c X hr
  exact G.sub [0, 1, 2] rfl (b_X12_findBoth_0 X hr  _ _ _ h)
abbrev rm_X12_both : Room := { frames := 5, cells := 0, slots := 0, locals := 123 }
set_option maxRecDepth 100000 in
set_option maxHeartbeats 4000000 in
theorem b_X12_both_39 {p : Program} {l : Launch} {e : Env} {s : State} {m : MethodId} {args : Array Value} {below : List Frame} {meth : Method} {c : Code} {D : va_G} {ks : Nat → ClassId} {A : Nat → Prop} {ad : Nat → Nat} (X : Cx p s m args meth c cX12_both 5 RX12 D ks A 24 ad (shR ks ad)) (hr : meth.sig.returnType = (some .long)) {F : Nat} {r : Int64 × Mem} (μ : Mem)  (h : f_X12_both_b39 F  μ = some r) : G p l e rm_X12_both s m args below meth c D A 5 (MQ below (QL D 24 ad (shR ks ad) A r) args s 0 0 A) 24 ad (shR ks ad) μ 39 [] [] := by
  refine g_bipush 41 X dX12_both_39 bpm2 rfl ?_
  refine g_nl 44 h (fun q e => r_S X cd_X12_198_X12_no ⟨rfl, rfl⟩ ⟨Nat.le_of_ble_eq_true rfl, Nat.le_of_ble_eq_true rfl⟩ (c_X12_no e) PC_blind (pn_pre X) rfl rfl (Nat.le_of_ble_eq_true rfl) dX12_both_41) rfl (fun v1 h => ?_)
  exact g_lret X hr dX12_both_44 h
set_option maxRecDepth 100000 in
set_option maxHeartbeats 4000000 in
theorem b_X12_both_0 {p : Program} {l : Launch} {e : Env} {s : State} {m : MethodId} {args : Array Value} {below : List Frame} {meth : Method} {c : Code} {D : va_G} {ks : Nat → ClassId} {A : Nat → Prop} {ad : Nat → Nat} (X : Cx p s m args meth c cX12_both 5 RX12 D ks A 24 ad (shR ks ad)) (hr : meth.sig.returnType = (some .long)) {F : Nat} {r : Int64 × Mem} (μ : Mem) (x1 : Int32) (x2 : Int32) (x3 : Int32) (x4 : Int32)  (h : f_X12_both F  μ x1 x2 x3 x4 = some r) : G p l e rm_X12_both s m args below meth c D A 5 (MQ below (QL D 24 ad (shR ks ad) A r) args s 0 0 A) 24 ad (shR ks ad) μ 0 [(0, .ref (ad 0)), (1, .int x1), (2, .int x2), (3, .int x3), (4, .int x4)] [] := by
  refine g_iload_n 1 X 1 dX12_both_0 rfl rfl ?_
  refine g_ni 4 h (fun q e => r_S X cd_X12_147_X12_isPlan ⟨rfl, rfl⟩ ⟨Nat.le_of_ble_eq_true rfl, Nat.le_of_ble_eq_true rfl⟩ (c_X12_isPlan e) PC_blind (pn_pre X) rfl rfl (Nat.le_of_ble_eq_true rfl) dX12_both_1) rfl (fun v1 h => ?_)
  refine g_if_eq 39 7 X dX12_both_4 (by decide) rfl h (fun h => ?_) (fun h => ?_)
  · exact G.sub [] rfl (b_X12_both_39 X hr  _ h)
  · refine g_aload_n 8 X 0 dX12_both_7 rfl rfl ?_
    refine g_iload_n 9 X 2 dX12_both_8 rfl rfl ?_
    refine g_ci 12 h (fun q e => r_V X cd_X12_131_X12_isName_X12 ⟨rfl, rfl⟩ ⟨Nat.le_of_ble_eq_true rfl, Nat.le_of_ble_eq_true rfl⟩ (c_X12_isName X.2.2.2.2  e) PC_blind (pc_pre X) (g_recv X (o12 rfl) rfl) rfl rfl (Nat.le_of_ble_eq_true rfl) dX12_both_9) rfl (fun v2 μ3 h => ?_)
    refine g_if_eq 39 15 X dX12_both_12 (by decide) rfl h (fun h => ?_) (fun h => ?_)
    · exact G.sub [] rfl (b_X12_both_39 X hr  _ h)
    · refine g_aload_n 16 X 0 dX12_both_15 rfl rfl ?_
      refine g_iload_n 17 X 3 dX12_both_16 rfl rfl ?_
      refine g_ci 20 h (fun q e => r_V X cd_X12_131_X12_isName_X12 ⟨rfl, rfl⟩ ⟨Nat.le_of_ble_eq_true rfl, Nat.le_of_ble_eq_true rfl⟩ (c_X12_isName X.2.2.2.2  e) PC_blind (pc_pre X) (g_recv X (o12 rfl) rfl) rfl rfl (Nat.le_of_ble_eq_true rfl) dX12_both_17) rfl (fun v4 μ5 h => ?_)
      refine g_if_eq 39 23 X dX12_both_20 (by decide) rfl h (fun h => ?_) (fun h => ?_)
      · exact G.sub [] rfl (b_X12_both_39 X hr  _ h)
      · refine g_iload_n 24 X 2 dX12_both_23 rfl rfl ?_
        refine g_iload_n 25 X 3 dX12_both_24 rfl rfl ?_
        refine g_icmp_eq 39 28 X dX12_both_25 (by decide) rfl h (fun h => ?_) (fun h => ?_)
        · exact G.sub [] rfl (b_X12_both_39 X hr  _ h)
        · refine g_iload 30 X 4 dX12_both_28 rfl rfl ?_
          refine g_i2l 31 X dX12_both_30 rfl ?_
          refine g_lconst 32 X dX12_both_31 lc0 rfl ?_
          refine g_lconst 33 X dX12_both_32 lc1 rfl ?_
          refine g_ni 36 h (fun q e => r_S X cd_X12_92_X12_in ⟨rfl, rfl⟩ ⟨Nat.le_of_ble_eq_true rfl, Nat.le_of_ble_eq_true rfl⟩ (c_X12_in e) PC_blind (pn_pre X) rfl rfl (Nat.le_of_ble_eq_true rfl) dX12_both_33) rfl (fun v6 h => ?_)
          refine g_if_ne 45 39 X dX12_both_36 (by decide) rfl h (fun h => ?_) (fun h => ?_)
          · refine g_aload_n 46 X 0 dX12_both_45 rfl rfl ?_
            refine g_iload_n 47 X 1 dX12_both_46 rfl rfl ?_
            refine g_ci 50 h (fun q e => r_V X cd_X12_188_X12_canBe_X12 ⟨rfl, rfl⟩ ⟨Nat.le_of_ble_eq_true rfl, Nat.le_of_ble_eq_true rfl⟩ (c_X12_canBe X.2.2.2.2  e) PC_blind (pc_pre X) (g_recv X (o12 rfl) rfl) rfl rfl (Nat.le_of_ble_eq_true rfl) dX12_both_47) rfl (fun v7 μ8 h => ?_)
            refine g_if_ne 59 53 X dX12_both_50 (by decide) rfl h (fun h => ?_) (fun h => ?_)
            · refine g_aload_n 60 X 0 dX12_both_59 rfl rfl ?_
              refine g_iload_n 61 X 2 dX12_both_60 rfl rfl ?_
              refine g_iload_n 62 X 3 dX12_both_61 rfl rfl ?_
              refine g_cv 65 h (fun q e => r_V X cd_X12_237_X12_findBoth_X12 ⟨rfl, rfl⟩ ⟨Nat.le_of_ble_eq_true rfl, Nat.le_of_ble_eq_true rfl⟩ (c_X12_findBoth X.2.2.2.2  e) PC_blind (pc_pre X) (g_recv X (o12 rfl) rfl) rfl rfl (Nat.le_of_ble_eq_true rfl) dX12_both_62) rfl (fun _ μ9 h => ?_)
              refine g_iload 67 X 4 dX12_both_65 rfl rfl ?_
              refine g_if_ne 77 70 X dX12_both_67 (by decide) rfl h (fun h => ?_) (fun h => ?_)
              · refine g_aload_n 78 X 0 dX12_both_77 rfl rfl ?_
                refine g_getl 81 X fl_X12_214_12 (o12 rfl) rfl dX12_both_78 h rfl (fun v10 h => ?_)
                exact g_lret X hr dX12_both_81 h
              · refine g_aload_n 71 X 0 dX12_both_70 rfl rfl ?_
                refine g_getl 74 X fl_X12_210_12 (o12 rfl) rfl dX12_both_71 h rfl (fun v11 h => ?_)
                refine g_goto 81 X dX12_both_74 (by decide) ?_
                exact g_lret X hr dX12_both_81 h
            · refine g_bipush 55 X dX12_both_53 bpm3 rfl ?_
              refine g_nl 58 h (fun q e => r_S X cd_X12_198_X12_no ⟨rfl, rfl⟩ ⟨Nat.le_of_ble_eq_true rfl, Nat.le_of_ble_eq_true rfl⟩ (c_X12_no e) PC_blind (pn_pre X) rfl rfl (Nat.le_of_ble_eq_true rfl) dX12_both_55) rfl (fun v12 h => ?_)
              exact g_lret X hr dX12_both_58 h
          · exact G.sub [] rfl (b_X12_both_39 X hr  _ h)
set_option maxRecDepth 100000 in
theorem c_X12_both {l : Launch} {D : va_G} {ks : Nat → ClassId} {A : Nat → Prop} {ad : Nat → Nat} (hD : ∀ μ : Mem, va_D A (wsM 24 ad (shR ks ad) μ)) {F : Nat} {μ : Mem} {x1 : Int32} {x2 : Int32} {x3 : Int32} {x4 : Int32} {r : Int64 × Mem}  (h : f_X12_both F μ x1 x2 x3 x4 = some r) : Met l yX12_both (Cond.code yX12_both cX12_both 5 (some .long) :: wg) rm_X12_both (PC D ks 24 ad (shR ks ad) μ [.ref (ad 0), .int x1, .int x2, .int x3, .int x4]) (QL D 24 ad (shR ks ad) A r) 0 0 A := by
  refine met_of (by decide) (Nat.le_of_ble_eq_true rfl) hD ?_
  intro p e s m args below meth c X hr
  exact G.sub [0, 1, 2, 3, 4] rfl (b_X12_both_0 X hr  _ _ _ _ _ h)
abbrev rm_X12_ones : Room := { frames := 0, cells := 0, slots := 0, locals := 0 }
set_option maxRecDepth 100000 in
set_option maxHeartbeats 4000000 in
theorem b_X12_ones_4 {p : Program} {l : Launch} {e : Env} {s : State} {m : MethodId} {args : Array Value} {below : List Frame} {meth : Method} {c : Code} {D : va_G} {ks : Nat → ClassId} (X : Cx p s m args meth c cX12_ones 3 RX12 D ks (fun _ => False) 0 ad0 sh0) (hr : meth.sig.returnType = (some .int)) {F : Nat} {r : Int32} : ∀ n : Nat, ∀ (x1 : Int32) (x2 : Int32), f_X12_ones_b4 F  n x1 x2 = some r → G p l e rm_X12_ones s m args below meth c D (fun _ => False) 3 (MQ below (QNi D r) args s 0 0 (fun _ => False)) 0 ad0 sh0 μ0 4 [(1, .int x1), (2, .int x2)] [] := by
  intro n
  induction n with
  | zero =>
    intro _ _ h
    cases h
  | succ n ih =>
    intro x1 x2 h
    refine g_iload_n 5 X 1 dX12_ones_4 rfl rfl ?_
    refine g_if_eq 20 8 X dX12_ones_5 (by decide) rfl h (fun h => ?_) (fun h => ?_)
    · refine g_iload_n 21 X 0 dX12_ones_20 rfl rfl ?_
      exact gn_iret X hr dX12_ones_21 h
    · refine g_iinc 11 X 0 dX12_ones_8 ic1 rfl (by decide) rfl ?_
      refine g_iload_n 12 X 1 dX12_ones_11 rfl rfl ?_
      refine g_iload_n 13 X 1 dX12_ones_12 rfl rfl ?_
      refine g_iconst 14 X dX12_ones_13 ic1 rfl ?_
      refine g_isub 15 X dX12_ones_14 rfl ?_
      refine g_iand 16 X dX12_ones_15 rfl ?_
      refine g_topi h (fun v1 h => ?_)
      refine g_istore_n 17 X dX12_ones_16 (by decide) rfl ?_
      refine g_goto 4 X dX12_ones_17 (by decide) ?_
      exact G.sub [1, 0] rfl (ih _ _ h)
set_option maxRecDepth 100000 in
set_option maxHeartbeats 4000000 in
theorem b_X12_ones_0 {p : Program} {l : Launch} {e : Env} {s : State} {m : MethodId} {args : Array Value} {below : List Frame} {meth : Method} {c : Code} {D : va_G} {ks : Nat → ClassId} (X : Cx p s m args meth c cX12_ones 3 RX12 D ks (fun _ => False) 0 ad0 sh0) (hr : meth.sig.returnType = (some .int)) {F : Nat} {r : Int32} (x0 : Int32)  (h : f_X12_ones F  x0 = some r) : G p l e rm_X12_ones s m args below meth c D (fun _ => False) 3 (MQ below (QNi D r) args s 0 0 (fun _ => False)) 0 ad0 sh0 μ0 0 [(0, .int x0)] [] := by
  refine g_iconst 1 X dX12_ones_0 ic0 rfl ?_
  refine g_istore_n 2 X dX12_ones_1 (by decide) rfl ?_
  refine g_iload_n 3 X 1 dX12_ones_2 rfl rfl ?_
  refine g_istore_n 4 X dX12_ones_3 (by decide) rfl ?_
  exact G.sub [1, 0] rfl (b_X12_ones_4 X hr  F _ _ h)
set_option maxRecDepth 100000 in
theorem c_X12_ones {l : Launch} {D : va_G} {ks : Nat → ClassId} {F : Nat} {x0 : Int32} {r : Int32}  (h : f_X12_ones F x0 = some r) : Met l yX12_ones (Cond.code yX12_ones cX12_ones 3 (some .int) :: wg) rm_X12_ones (PN D ks [.int x0]) (QNi D r) 0 0 (fun _ => False) := by
  refine met_of (by decide) (Nat.le_of_ble_eq_true rfl) d0 ?_
  intro p e s m args below meth c X hr
  exact G.sub [0] rfl (b_X12_ones_0 X hr  _ h)
abbrev rm_X12_ofClusters : Room := { frames := 2, cells := 0, slots := 0, locals := 46 }
set_option maxRecDepth 100000 in
set_option maxHeartbeats 4000000 in
theorem b_X12_ofClusters_114 {p : Program} {l : Launch} {e : Env} {s : State} {m : MethodId} {args : Array Value} {below : List Frame} {meth : Method} {c : Code} {D : va_G} {ks : Nat → ClassId} {A : Nat → Prop} {ad : Nat → Nat} (X : Cx p s m args meth c cX12_ofClusters 8 RX12 D ks A 24 ad (shR ks ad)) (hr : meth.sig.returnType = (some .int)) {F : Nat} {r : Int32 × Mem} {k7 : Mem → Int32 → Int32 → Int32 → Int32 → Option (Int32 × Mem)} (hk7 : ∀ (μ : Mem) (x1 : Int32) (x2 : Int32) (x3 : Int32) (x4 : Int32), k7 μ x1 x2 x3 x4 = some r → G p l e rm_X12_ofClusters s m args below meth c D A 8 (MQ below (QI D 24 ad (shR ks ad) A r) args s 0 0 A) 24 ad (shR ks ad) μ 7 [(0, .ref (ad 0)), (1, .int x1), (2, .int x2), (3, .int x3), (4, .int x4)] []) {k24 : Mem → Int32 → Int32 → Int32 → Int32 → Int32 → Int32 → Option (Int32 × Mem)} (hk24 : ∀ (μ : Mem) (x1 : Int32) (x2 : Int32) (x3 : Int32) (x4 : Int32) (x5 : Int32) (x6 : Int32), k24 μ x1 x2 x3 x4 x5 x6 = some r → G p l e rm_X12_ofClusters s m args below meth c D A 8 (MQ below (QI D 24 ad (shR ks ad) A r) args s 0 0 A) 24 ad (shR ks ad) μ 24 [(0, .ref (ad 0)), (1, .int x1), (2, .int x2), (3, .int x3), (4, .int x4), (5, .int x5), (6, .int x6)] []) (μ : Mem) (x1 : Int32) (x2 : Int32) (x3 : Int32) (x4 : Int32) (x5 : Int32) (x6 : Int32)  (h : f_X12_ofClusters_b114 F k7 k24 μ x1 x2 x3 x4 x5 x6 = some r) : G p l e rm_X12_ofClusters s m args below meth c D A 8 (MQ below (QI D 24 ad (shR ks ad) A r) args s 0 0 A) 24 ad (shR ks ad) μ 114 [(0, .ref (ad 0)), (1, .int x1), (2, .int x2), (3, .int x3), (4, .int x4), (5, .int x5), (6, .int x6)] [] := by
  refine g_iinc 117 X 6 dX12_ofClusters_114 ic1 rfl (by decide) rfl ?_
  refine g_goto 24 X dX12_ofClusters_117 (by decide) ?_
  exact G.sub [1, 2, 3, 4, 5, 6, 0] rfl (hk24 _ _ _ _ _ _ _ h)
set_option maxRecDepth 100000 in
set_option maxHeartbeats 4000000 in
theorem b_X12_ofClusters_112 {p : Program} {l : Launch} {e : Env} {s : State} {m : MethodId} {args : Array Value} {below : List Frame} {meth : Method} {c : Code} {D : va_G} {ks : Nat → ClassId} {A : Nat → Prop} {ad : Nat → Nat} (X : Cx p s m args meth c cX12_ofClusters 8 RX12 D ks A 24 ad (shR ks ad)) (hr : meth.sig.returnType = (some .int)) {F : Nat} {r : Int32 × Mem} {k7 : Mem → Int32 → Int32 → Int32 → Int32 → Option (Int32 × Mem)} (hk7 : ∀ (μ : Mem) (x1 : Int32) (x2 : Int32) (x3 : Int32) (x4 : Int32), k7 μ x1 x2 x3 x4 = some r → G p l e rm_X12_ofClusters s m args below meth c D A 8 (MQ below (QI D 24 ad (shR ks ad) A r) args s 0 0 A) 24 ad (shR ks ad) μ 7 [(0, .ref (ad 0)), (1, .int x1), (2, .int x2), (3, .int x3), (4, .int x4)] []) {k24 : Mem → Int32 → Int32 → Int32 → Int32 → Int32 → Int32 → Option (Int32 × Mem)} (hk24 : ∀ (μ : Mem) (x1 : Int32) (x2 : Int32) (x3 : Int32) (x4 : Int32) (x5 : Int32) (x6 : Int32), k24 μ x1 x2 x3 x4 x5 x6 = some r → G p l e rm_X12_ofClusters s m args below meth c D A 8 (MQ below (QI D 24 ad (shR ks ad) A r) args s 0 0 A) 24 ad (shR ks ad) μ 24 [(0, .ref (ad 0)), (1, .int x1), (2, .int x2), (3, .int x3), (4, .int x4), (5, .int x5), (6, .int x6)] []) (μ : Mem) (x1 : Int32) (x2 : Int32) (x3 : Int32) (x4 : Int32) (x6 : Int32) (z0 : Int32)  (h : f_X12_ofClusters_b112 F k7 k24 μ x1 x2 x3 x4 x6 z0 = some r) : G p l e rm_X12_ofClusters s m args below meth c D A 8 (MQ below (QI D 24 ad (shR ks ad) A r) args s 0 0 A) 24 ad (shR ks ad) μ 112 [(0, .ref (ad 0)), (1, .int x1), (2, .int x2), (3, .int x3), (4, .int x4), (6, .int x6)] [.int z0] := by
  refine g_istore 114 X dX12_ofClusters_112 (by decide) rfl ?_
  exact G.sub [1, 2, 3, 4, 5, 0, 6] rfl (b_X12_ofClusters_114 X hr hk7 hk24 _ _ _ _ _ _ _ h)
set_option maxRecDepth 100000 in
set_option maxHeartbeats 4000000 in
theorem b_X12_ofClusters_98 {p : Program} {l : Launch} {e : Env} {s : State} {m : MethodId} {args : Array Value} {below : List Frame} {meth : Method} {c : Code} {D : va_G} {ks : Nat → ClassId} {A : Nat → Prop} {ad : Nat → Nat} (X : Cx p s m args meth c cX12_ofClusters 8 RX12 D ks A 24 ad (shR ks ad)) (hr : meth.sig.returnType = (some .int)) {F : Nat} {r : Int32 × Mem} {k7 : Mem → Int32 → Int32 → Int32 → Int32 → Option (Int32 × Mem)} (hk7 : ∀ (μ : Mem) (x1 : Int32) (x2 : Int32) (x3 : Int32) (x4 : Int32), k7 μ x1 x2 x3 x4 = some r → G p l e rm_X12_ofClusters s m args below meth c D A 8 (MQ below (QI D 24 ad (shR ks ad) A r) args s 0 0 A) 24 ad (shR ks ad) μ 7 [(0, .ref (ad 0)), (1, .int x1), (2, .int x2), (3, .int x3), (4, .int x4)] []) {k24 : Mem → Int32 → Int32 → Int32 → Int32 → Int32 → Int32 → Option (Int32 × Mem)} (hk24 : ∀ (μ : Mem) (x1 : Int32) (x2 : Int32) (x3 : Int32) (x4 : Int32) (x5 : Int32) (x6 : Int32), k24 μ x1 x2 x3 x4 x5 x6 = some r → G p l e rm_X12_ofClusters s m args below meth c D A 8 (MQ below (QI D 24 ad (shR ks ad) A r) args s 0 0 A) 24 ad (shR ks ad) μ 24 [(0, .ref (ad 0)), (1, .int x1), (2, .int x2), (3, .int x3), (4, .int x4), (5, .int x5), (6, .int x6)] []) (μ : Mem) (x1 : Int32) (x2 : Int32) (x3 : Int32) (x4 : Int32) (x5 : Int32) (x6 : Int32) (z0 : Int32)  (h : f_X12_ofClusters_b98 F k7 k24 μ x1 x2 x3 x4 x5 x6 z0 = some r) : G p l e rm_X12_ofClusters s m args below meth c D A 8 (MQ below (QI D 24 ad (shR ks ad) A r) args s 0 0 A) 24 ad (shR ks ad) μ 98 [(0, .ref (ad 0)), (1, .int x1), (2, .int x2), (3, .int x3), (4, .int x4), (5, .int x5), (6, .int x6)] [.int z0] := by
  refine g_istore 100 X dX12_ofClusters_98 (by decide) rfl ?_
  refine g_iload 102 X 0 dX12_ofClusters_100 rfl rfl ?_
  refine g_if_eq 110 105 X dX12_ofClusters_102 (by decide) rfl h (fun h => ?_) (fun h => ?_)
  · refine g_iload 112 X 6 dX12_ofClusters_110 rfl rfl ?_
    exact G.sub [1, 2, 3, 4, 5, 7] rfl (b_X12_ofClusters_112 X hr hk7 hk24 _ _ _ _ _ _ _ h)
  · refine g_iload 107 X 7 dX12_ofClusters_105 rfl rfl ?_
    refine g_goto 112 X dX12_ofClusters_107 (by decide) ?_
    exact G.sub [1, 2, 3, 4, 5, 7] rfl (b_X12_ofClusters_112 X hr hk7 hk24 _ _ _ _ _ _ _ h)
set_option maxRecDepth 100000 in
set_option maxHeartbeats 4000000 in
theorem b_X12_ofClusters_97 {p : Program} {l : Launch} {e : Env} {s : State} {m : MethodId} {args : Array Value} {below : List Frame} {meth : Method} {c : Code} {D : va_G} {ks : Nat → ClassId} {A : Nat → Prop} {ad : Nat → Nat} (X : Cx p s m args meth c cX12_ofClusters 8 RX12 D ks A 24 ad (shR ks ad)) (hr : meth.sig.returnType = (some .int)) {F : Nat} {r : Int32 × Mem} {k7 : Mem → Int32 → Int32 → Int32 → Int32 → Option (Int32 × Mem)} (hk7 : ∀ (μ : Mem) (x1 : Int32) (x2 : Int32) (x3 : Int32) (x4 : Int32), k7 μ x1 x2 x3 x4 = some r → G p l e rm_X12_ofClusters s m args below meth c D A 8 (MQ below (QI D 24 ad (shR ks ad) A r) args s 0 0 A) 24 ad (shR ks ad) μ 7 [(0, .ref (ad 0)), (1, .int x1), (2, .int x2), (3, .int x3), (4, .int x4)] []) {k24 : Mem → Int32 → Int32 → Int32 → Int32 → Int32 → Int32 → Option (Int32 × Mem)} (hk24 : ∀ (μ : Mem) (x1 : Int32) (x2 : Int32) (x3 : Int32) (x4 : Int32) (x5 : Int32) (x6 : Int32), k24 μ x1 x2 x3 x4 x5 x6 = some r → G p l e rm_X12_ofClusters s m args below meth c D A 8 (MQ below (QI D 24 ad (shR ks ad) A r) args s 0 0 A) 24 ad (shR ks ad) μ 24 [(0, .ref (ad 0)), (1, .int x1), (2, .int x2), (3, .int x3), (4, .int x4), (5, .int x5), (6, .int x6)] []) (μ : Mem) (x1 : Int32) (x2 : Int32) (x3 : Int32) (x4 : Int32) (x5 : Int32) (x6 : Int32)  (h : f_X12_ofClusters_b97 F k7 k24 μ x1 x2 x3 x4 x5 x6 = some r) : G p l e rm_X12_ofClusters s m args below meth c D A 8 (MQ below (QI D 24 ad (shR ks ad) A r) args s 0 0 A) 24 ad (shR ks ad) μ 97 [(0, .ref (ad 0)), (1, .int x1), (2, .int x2), (3, .int x3), (4, .int x4), (5, .int x5), (6, .int x6)] [] := by
  refine g_iconst 98 X dX12_ofClusters_97 ic0 rfl ?_
  exact G.sub [0, 1, 2, 3, 4, 5, 6] rfl (b_X12_ofClusters_98 X hr hk7 hk24 _ _ _ _ _ _ _ _ h)
set_option maxRecDepth 100000 in
set_option maxHeartbeats 4000000 in
theorem b_X12_ofClusters_93 {p : Program} {l : Launch} {e : Env} {s : State} {m : MethodId} {args : Array Value} {below : List Frame} {meth : Method} {c : Code} {D : va_G} {ks : Nat → ClassId} {A : Nat → Prop} {ad : Nat → Nat} (X : Cx p s m args meth c cX12_ofClusters 8 RX12 D ks A 24 ad (shR ks ad)) (hr : meth.sig.returnType = (some .int)) {F : Nat} {r : Int32 × Mem} {k7 : Mem → Int32 → Int32 → Int32 → Int32 → Option (Int32 × Mem)} (hk7 : ∀ (μ : Mem) (x1 : Int32) (x2 : Int32) (x3 : Int32) (x4 : Int32), k7 μ x1 x2 x3 x4 = some r → G p l e rm_X12_ofClusters s m args below meth c D A 8 (MQ below (QI D 24 ad (shR ks ad) A r) args s 0 0 A) 24 ad (shR ks ad) μ 7 [(0, .ref (ad 0)), (1, .int x1), (2, .int x2), (3, .int x3), (4, .int x4)] []) {k24 : Mem → Int32 → Int32 → Int32 → Int32 → Int32 → Int32 → Option (Int32 × Mem)} (hk24 : ∀ (μ : Mem) (x1 : Int32) (x2 : Int32) (x3 : Int32) (x4 : Int32) (x5 : Int32) (x6 : Int32), k24 μ x1 x2 x3 x4 x5 x6 = some r → G p l e rm_X12_ofClusters s m args below meth c D A 8 (MQ below (QI D 24 ad (shR ks ad) A r) args s 0 0 A) 24 ad (shR ks ad) μ 24 [(0, .ref (ad 0)), (1, .int x1), (2, .int x2), (3, .int x3), (4, .int x4), (5, .int x5), (6, .int x6)] []) (μ : Mem) (x1 : Int32) (x2 : Int32) (x3 : Int32) (x4 : Int32) (x5 : Int32) (x6 : Int32)  (h : f_X12_ofClusters_b93 F k7 k24 μ x1 x2 x3 x4 x5 x6 = some r) : G p l e rm_X12_ofClusters s m args below meth c D A 8 (MQ below (QI D 24 ad (shR ks ad) A r) args s 0 0 A) 24 ad (shR ks ad) μ 93 [(0, .ref (ad 0)), (1, .int x1), (2, .int x2), (3, .int x3), (4, .int x4), (5, .int x5), (6, .int x6)] [] := by
  refine g_iconst 94 X dX12_ofClusters_93 ic1 rfl ?_
  refine g_goto 98 X dX12_ofClusters_94 (by decide) ?_
  exact G.sub [0, 1, 2, 3, 4, 5, 6] rfl (b_X12_ofClusters_98 X hr hk7 hk24 _ _ _ _ _ _ _ _ h)
set_option maxRecDepth 100000 in
set_option maxHeartbeats 4000000 in
theorem b_X12_ofClusters_24 {p : Program} {l : Launch} {e : Env} {s : State} {m : MethodId} {args : Array Value} {below : List Frame} {meth : Method} {c : Code} {D : va_G} {ks : Nat → ClassId} {A : Nat → Prop} {ad : Nat → Nat} (X : Cx p s m args meth c cX12_ofClusters 8 RX12 D ks A 24 ad (shR ks ad)) (hr : meth.sig.returnType = (some .int)) {F : Nat} {r : Int32 × Mem} {k7 : Mem → Int32 → Int32 → Int32 → Int32 → Option (Int32 × Mem)} (hk7 : ∀ (μ : Mem) (x1 : Int32) (x2 : Int32) (x3 : Int32) (x4 : Int32), k7 μ x1 x2 x3 x4 = some r → G p l e rm_X12_ofClusters s m args below meth c D A 8 (MQ below (QI D 24 ad (shR ks ad) A r) args s 0 0 A) 24 ad (shR ks ad) μ 7 [(0, .ref (ad 0)), (1, .int x1), (2, .int x2), (3, .int x3), (4, .int x4)] []) : ∀ n : Nat, ∀ (μ : Mem) (x1 : Int32) (x2 : Int32) (x3 : Int32) (x4 : Int32) (x5 : Int32) (x6 : Int32), f_X12_ofClusters_b24 F k7 n μ x1 x2 x3 x4 x5 x6 = some r → G p l e rm_X12_ofClusters s m args below meth c D A 8 (MQ below (QI D 24 ad (shR ks ad) A r) args s 0 0 A) 24 ad (shR ks ad) μ 24 [(0, .ref (ad 0)), (1, .int x1), (2, .int x2), (3, .int x3), (4, .int x4), (5, .int x5), (6, .int x6)] [] := by
  intro n
  induction n with
  | zero =>
    intro _ _ _ _ _ _ _ h
    cases h
  | succ n ih =>
    intro μ x1 x2 x3 x4 x5 x6 h
    refine g_iload 26 X 6 dX12_ofClusters_24 rfl rfl ?_
    refine g_bipush 28 X dX12_ofClusters_26 bp8 rfl ?_
    refine g_icmp_ge 120 31 X dX12_ofClusters_28 (by decide) rfl h (fun h => ?_) (fun h => ?_)
    · refine g_iload_n 121 X 2 dX12_ofClusters_120 rfl rfl ?_
      refine g_iconst 122 X dX12_ofClusters_121 ic1 rfl ?_
      refine g_iload 124 X 5 dX12_ofClusters_122 rfl rfl ?_
      refine g_ishl 125 X dX12_ofClusters_124 rfl ?_
      refine g_ior 126 X dX12_ofClusters_125 rfl ?_
      refine g_topi h (fun v1 h => ?_)
      refine g_istore_n 127 X dX12_ofClusters_126 (by decide) rfl ?_
      refine g_iload_n 128 X 3 dX12_ofClusters_127 rfl rfl ?_
      refine g_aload_n 129 X 1 dX12_ofClusters_128 rfl rfl ?_
      refine g_iload 131 X 5 dX12_ofClusters_129 rfl rfl ?_
      refine g_ci 134 h (fun q e => r_V X cd_X12_195_X12_ofCluster_X12 ⟨rfl, rfl⟩ ⟨Nat.le_of_ble_eq_true rfl, Nat.le_of_ble_eq_true rfl⟩ (c_X12_ofCluster X.2.2.2.2  e) PC_blind (pc_pre X) (g_recv X (o12 rfl) rfl) rfl rfl (Nat.le_of_ble_eq_true rfl) dX12_ofClusters_131) rfl (fun v2 μ3 h => ?_)
      refine g_iadd 135 X dX12_ofClusters_134 rfl ?_
      refine g_topi h (fun v4 h => ?_)
      refine g_istore_n 136 X dX12_ofClusters_135 (by decide) rfl ?_
      refine g_iinc 139 X 4 dX12_ofClusters_136 ic1 rfl (by decide) rfl ?_
      refine g_goto 7 X dX12_ofClusters_139 (by decide) ?_
      exact G.sub [3, 4, 2, 1, 0] rfl (hk7 _ _ _ _ _ h)
    · refine g_iload_n 32 X 2 dX12_ofClusters_31 rfl rfl ?_
      refine g_iload 34 X 6 dX12_ofClusters_32 rfl rfl ?_
      refine g_ishr 35 X dX12_ofClusters_34 rfl ?_
      refine g_iconst 36 X dX12_ofClusters_35 ic1 rfl ?_
      refine g_iand 37 X dX12_ofClusters_36 rfl ?_
      refine g_if_ne 114 40 X dX12_ofClusters_37 (by decide) rfl h (fun h => ?_) (fun h => ?_)
      · exact G.sub [0, 1, 2, 3, 4, 5, 6] rfl (b_X12_ofClusters_114 X hr hk7 ih _ _ _ _ _ _ _ h)
      · refine g_aload_n 41 X 0 dX12_ofClusters_40 rfl rfl ?_
        refine g_iconst 42 X dX12_ofClusters_41 ic1 rfl ?_
        refine g_iload 44 X 6 dX12_ofClusters_42 rfl rfl ?_
        refine g_ci 47 h (fun q e => r_V X cd_X12_144_X12_manyOf_X12 ⟨rfl, rfl⟩ ⟨Nat.le_of_ble_eq_true rfl, Nat.le_of_ble_eq_true rfl⟩ (c_X12_manyOf X.2.2.2.2  e) PC_blind (pc_pre X) (g_recv X (o12 rfl) rfl) rfl rfl (Nat.le_of_ble_eq_true rfl) dX12_ofClusters_44) rfl (fun v5 μ6 h => ?_)
        refine g_if_le 114 50 X dX12_ofClusters_47 (by decide) rfl h (fun h => ?_) (fun h => ?_)
        · exact G.sub [0, 1, 2, 3, 4, 5, 6] rfl (b_X12_ofClusters_114 X hr hk7 ih _ _ _ _ _ _ _ h)
        · refine g_iload 52 X 5 dX12_ofClusters_50 rfl rfl ?_
          refine g_iconst 53 X dX12_ofClusters_52 icm1 rfl ?_
          refine g_icmp_eq 93 56 X dX12_ofClusters_53 (by decide) rfl h (fun h => ?_) (fun h => ?_)
          · exact G.sub [0, 1, 2, 3, 4, 5, 6] rfl (b_X12_ofClusters_93 X hr hk7 ih _ _ _ _ _ _ _ h)
          · refine g_iload_n 57 X 1 dX12_ofClusters_56 rfl rfl ?_
            refine g_if_ne 78 60 X dX12_ofClusters_57 (by decide) rfl h (fun h => ?_) (fun h => ?_)
            · refine g_aload_n 79 X 0 dX12_ofClusters_78 rfl rfl ?_
              refine g_iload 81 X 6 dX12_ofClusters_79 rfl rfl ?_
              refine g_ci 84 h (fun q e => r_V X cd_X12_195_X12_ofCluster_X12 ⟨rfl, rfl⟩ ⟨Nat.le_of_ble_eq_true rfl, Nat.le_of_ble_eq_true rfl⟩ (c_X12_ofCluster X.2.2.2.2  e) PC_blind (pc_pre X) (g_recv X (o12 rfl) rfl) rfl rfl (Nat.le_of_ble_eq_true rfl) dX12_ofClusters_81) rfl (fun v7 μ8 h => ?_)
              refine g_aload_n 85 X 0 dX12_ofClusters_84 rfl rfl ?_
              refine g_iload 87 X 5 dX12_ofClusters_85 rfl rfl ?_
              refine g_ci 90 h (fun q e => r_V X cd_X12_195_X12_ofCluster_X12 ⟨rfl, rfl⟩ ⟨Nat.le_of_ble_eq_true rfl, Nat.le_of_ble_eq_true rfl⟩ (c_X12_ofCluster X.2.2.2.2  e) PC_blind (pc_pre X) (g_recv X (o12 rfl) rfl) rfl rfl (Nat.le_of_ble_eq_true rfl) dX12_ofClusters_87) rfl (fun v9 μ10 h => ?_)
              refine g_icmp_le 97 93 X dX12_ofClusters_90 (by decide) rfl h (fun h => ?_) (fun h => ?_)
              · exact G.sub [0, 1, 2, 3, 4, 5, 6] rfl (b_X12_ofClusters_97 X hr hk7 ih _ _ _ _ _ _ _ h)
              · exact G.sub [0, 1, 2, 3, 4, 5, 6] rfl (b_X12_ofClusters_93 X hr hk7 ih _ _ _ _ _ _ _ h)
            · refine g_aload_n 61 X 0 dX12_ofClusters_60 rfl rfl ?_
              refine g_iload 63 X 6 dX12_ofClusters_61 rfl rfl ?_
              refine g_ci 66 h (fun q e => r_V X cd_X12_195_X12_ofCluster_X12 ⟨rfl, rfl⟩ ⟨Nat.le_of_ble_eq_true rfl, Nat.le_of_ble_eq_true rfl⟩ (c_X12_ofCluster X.2.2.2.2  e) PC_blind (pc_pre X) (g_recv X (o12 rfl) rfl) rfl rfl (Nat.le_of_ble_eq_true rfl) dX12_ofClusters_63) rfl (fun v11 μ12 h => ?_)
              refine g_aload_n 67 X 0 dX12_ofClusters_66 rfl rfl ?_
              refine g_iload 69 X 5 dX12_ofClusters_67 rfl rfl ?_
              refine g_ci 72 h (fun q e => r_V X cd_X12_195_X12_ofCluster_X12 ⟨rfl, rfl⟩ ⟨Nat.le_of_ble_eq_true rfl, Nat.le_of_ble_eq_true rfl⟩ (c_X12_ofCluster X.2.2.2.2  e) PC_blind (pc_pre X) (g_recv X (o12 rfl) rfl) rfl rfl (Nat.le_of_ble_eq_true rfl) dX12_ofClusters_69) rfl (fun v13 μ14 h => ?_)
              refine g_icmp_ge 97 75 X dX12_ofClusters_72 (by decide) rfl h (fun h => ?_) (fun h => ?_)
              · exact G.sub [0, 1, 2, 3, 4, 5, 6] rfl (b_X12_ofClusters_97 X hr hk7 ih _ _ _ _ _ _ _ h)
              · refine g_goto 93 X dX12_ofClusters_75 (by decide) ?_
                exact G.sub [0, 1, 2, 3, 4, 5, 6] rfl (b_X12_ofClusters_93 X hr hk7 ih _ _ _ _ _ _ _ h)
set_option maxRecDepth 100000 in
set_option maxHeartbeats 4000000 in
theorem b_X12_ofClusters_7 {p : Program} {l : Launch} {e : Env} {s : State} {m : MethodId} {args : Array Value} {below : List Frame} {meth : Method} {c : Code} {D : va_G} {ks : Nat → ClassId} {A : Nat → Prop} {ad : Nat → Nat} (X : Cx p s m args meth c cX12_ofClusters 8 RX12 D ks A 24 ad (shR ks ad)) (hr : meth.sig.returnType = (some .int)) {F : Nat} {r : Int32 × Mem} : ∀ n : Nat, ∀ (μ : Mem) (x1 : Int32) (x2 : Int32) (x3 : Int32) (x4 : Int32), f_X12_ofClusters_b7 F  n μ x1 x2 x3 x4 = some r → G p l e rm_X12_ofClusters s m args below meth c D A 8 (MQ below (QI D 24 ad (shR ks ad) A r) args s 0 0 A) 24 ad (shR ks ad) μ 7 [(0, .ref (ad 0)), (1, .int x1), (2, .int x2), (3, .int x3), (4, .int x4)] [] := by
  intro n
  induction n with
  | zero =>
    intro _ _ _ _ _ h
    cases h
  | succ n ih =>
    intro μ x1 x2 x3 x4 h
    refine g_iload 9 X 4 dX12_ofClusters_7 rfl rfl ?_
    refine g_aload_n 10 X 0 dX12_ofClusters_9 rfl rfl ?_
    refine g_getr 13 X fl_X12_53_12 (o12 rfl) rfl dX12_ofClusters_10 rfl ?_
    refine g_iconst 14 X dX12_ofClusters_13 ic0 rfl ?_
    refine g_iald 15 X (aiR (n := 4) (by decide) rfl) dX12_ofClusters_14 h rfl (fun v1 h => ?_)
    refine g_icmp_ge 142 18 X dX12_ofClusters_15 (by decide) rfl h (fun h => ?_) (fun h => ?_)
    · refine g_iload_n 143 X 3 dX12_ofClusters_142 rfl rfl ?_
      exact g_iret X hr dX12_ofClusters_143 h
    · refine g_iconst 19 X dX12_ofClusters_18 icm1 rfl ?_
      refine g_istore 21 X dX12_ofClusters_19 (by decide) rfl ?_
      refine g_iconst 22 X dX12_ofClusters_21 ic0 rfl ?_
      refine g_istore 24 X dX12_ofClusters_22 (by decide) rfl ?_
      exact G.sub [2, 3, 4, 5, 6, 1, 0] rfl (b_X12_ofClusters_24 X hr ih F _ _ _ _ _ _ _ h)
set_option maxRecDepth 100000 in
set_option maxHeartbeats 4000000 in
theorem b_X12_ofClusters_0 {p : Program} {l : Launch} {e : Env} {s : State} {m : MethodId} {args : Array Value} {below : List Frame} {meth : Method} {c : Code} {D : va_G} {ks : Nat → ClassId} {A : Nat → Prop} {ad : Nat → Nat} (X : Cx p s m args meth c cX12_ofClusters 8 RX12 D ks A 24 ad (shR ks ad)) (hr : meth.sig.returnType = (some .int)) {F : Nat} {r : Int32 × Mem} (μ : Mem) (x1 : Int32)  (h : f_X12_ofClusters F  μ x1 = some r) : G p l e rm_X12_ofClusters s m args below meth c D A 8 (MQ below (QI D 24 ad (shR ks ad) A r) args s 0 0 A) 24 ad (shR ks ad) μ 0 [(0, .ref (ad 0)), (1, .int x1)] [] := by
  refine g_iconst 1 X dX12_ofClusters_0 ic0 rfl ?_
  refine g_istore_n 2 X dX12_ofClusters_1 (by decide) rfl ?_
  refine g_iconst 3 X dX12_ofClusters_2 ic0 rfl ?_
  refine g_istore_n 4 X dX12_ofClusters_3 (by decide) rfl ?_
  refine g_iconst 5 X dX12_ofClusters_4 ic0 rfl ?_
  refine g_istore 7 X dX12_ofClusters_5 (by decide) rfl ?_
  exact G.sub [3, 4, 2, 1, 0] rfl (b_X12_ofClusters_7 X hr  F _ _ _ _ _ h)
set_option maxRecDepth 100000 in
theorem c_X12_ofClusters {l : Launch} {D : va_G} {ks : Nat → ClassId} {A : Nat → Prop} {ad : Nat → Nat} (hD : ∀ μ : Mem, va_D A (wsM 24 ad (shR ks ad) μ)) {F : Nat} {μ : Mem} {x1 : Int32} {r : Int32 × Mem}  (h : f_X12_ofClusters F μ x1 = some r) : Met l yX12_ofClusters (Cond.code yX12_ofClusters cX12_ofClusters 8 (some .int) :: wg) rm_X12_ofClusters (PC D ks 24 ad (shR ks ad) μ [.ref (ad 0), .int x1]) (QI D 24 ad (shR ks ad) A r) 0 0 A := by
  refine met_of (by decide) (Nat.le_of_ble_eq_true rfl) hD ?_
  intro p e s m args below meth c X hr
  exact G.sub [0, 1] rfl (b_X12_ofClusters_0 X hr  _ _ h)
abbrev rm_X12_width : Room := { frames := 4, cells := 0, slots := 0, locals := 96 }
set_option maxRecDepth 100000 in
set_option maxHeartbeats 4000000 in
theorem b_X12_width_161 {p : Program} {l : Launch} {e : Env} {s : State} {m : MethodId} {args : Array Value} {below : List Frame} {meth : Method} {c : Code} {D : va_G} {ks : Nat → ClassId} {A : Nat → Prop} {ad : Nat → Nat} (X : Cx p s m args meth c cX12_width 7 RX12 D ks A 24 ad (shR ks ad)) (hr : meth.sig.returnType = (some .int)) {F : Nat} {r : Int32 × Mem} {k118 : Mem → Int32 → Int32 → Int32 → Int32 → Option (Int32 × Mem)} (hk118 : ∀ (μ : Mem) (x2 : Int32) (x3 : Int32) (x4 : Int32) (x5 : Int32), k118 μ x2 x3 x4 x5 = some r → G p l e rm_X12_width s m args below meth c D A 7 (MQ below (QI D 24 ad (shR ks ad) A r) args s 0 0 A) 24 ad (shR ks ad) μ 118 [(0, .ref (ad 0)), (2, .int x2), (3, .int x3), (4, .int x4), (5, .int x5)] []) (μ : Mem) (x2 : Int32) (x4 : Int32) (x5 : Int32) (z0 : Int32)  (h : f_X12_width_b161 F k118 μ x2 x4 x5 z0 = some r) : G p l e rm_X12_width s m args below meth c D A 7 (MQ below (QI D 24 ad (shR ks ad) A r) args s 0 0 A) 24 ad (shR ks ad) μ 161 [(0, .ref (ad 0)), (2, .int x2), (4, .int x4), (5, .int x5)] [.int z0] := by
  refine g_istore_n 162 X dX12_width_161 (by decide) rfl ?_
  refine g_iinc 165 X 4 dX12_width_162 ic1 rfl (by decide) rfl ?_
  refine g_goto 118 X dX12_width_165 (by decide) ?_
  exact G.sub [2, 3, 1, 4, 0] rfl (hk118 _ _ _ _ _ h)
set_option maxRecDepth 100000 in
set_option maxHeartbeats 4000000 in
theorem b_X12_width_160 {p : Program} {l : Launch} {e : Env} {s : State} {m : MethodId} {args : Array Value} {below : List Frame} {meth : Method} {c : Code} {D : va_G} {ks : Nat → ClassId} {A : Nat → Prop} {ad : Nat → Nat} (X : Cx p s m args meth c cX12_width 7 RX12 D ks A 24 ad (shR ks ad)) (hr : meth.sig.returnType = (some .int)) {F : Nat} {r : Int32 × Mem} {k118 : Mem → Int32 → Int32 → Int32 → Int32 → Option (Int32 × Mem)} (hk118 : ∀ (μ : Mem) (x2 : Int32) (x3 : Int32) (x4 : Int32) (x5 : Int32), k118 μ x2 x3 x4 x5 = some r → G p l e rm_X12_width s m args below meth c D A 7 (MQ below (QI D 24 ad (shR ks ad) A r) args s 0 0 A) 24 ad (shR ks ad) μ 118 [(0, .ref (ad 0)), (2, .int x2), (3, .int x3), (4, .int x4), (5, .int x5)] []) (μ : Mem) (x2 : Int32) (x3 : Int32) (x4 : Int32) (x5 : Int32)  (h : f_X12_width_b160 F k118 μ x2 x3 x4 x5 = some r) : G p l e rm_X12_width s m args below meth c D A 7 (MQ below (QI D 24 ad (shR ks ad) A r) args s 0 0 A) 24 ad (shR ks ad) μ 160 [(0, .ref (ad 0)), (2, .int x2), (3, .int x3), (4, .int x4), (5, .int x5)] [] := by
  refine g_iload_n 161 X 2 dX12_width_160 rfl rfl ?_
  exact G.sub [0, 1, 3, 4] rfl (b_X12_width_161 X hr hk118 _ _ _ _ _ h)
set_option maxRecDepth 100000 in
set_option maxHeartbeats 4000000 in
theorem b_X12_width_155 {p : Program} {l : Launch} {e : Env} {s : State} {m : MethodId} {args : Array Value} {below : List Frame} {meth : Method} {c : Code} {D : va_G} {ks : Nat → ClassId} {A : Nat → Prop} {ad : Nat → Nat} (X : Cx p s m args meth c cX12_width 7 RX12 D ks A 24 ad (shR ks ad)) (hr : meth.sig.returnType = (some .int)) {F : Nat} {r : Int32 × Mem} {k118 : Mem → Int32 → Int32 → Int32 → Int32 → Option (Int32 × Mem)} (hk118 : ∀ (μ : Mem) (x2 : Int32) (x3 : Int32) (x4 : Int32) (x5 : Int32), k118 μ x2 x3 x4 x5 = some r → G p l e rm_X12_width s m args below meth c D A 7 (MQ below (QI D 24 ad (shR ks ad) A r) args s 0 0 A) 24 ad (shR ks ad) μ 118 [(0, .ref (ad 0)), (2, .int x2), (3, .int x3), (4, .int x4), (5, .int x5)] []) (μ : Mem) (x2 : Int32) (x4 : Int32) (x5 : Int32) (x6 : Int32)  (h : f_X12_width_b155 F k118 μ x2 x4 x5 x6 = some r) : G p l e rm_X12_width s m args below meth c D A 7 (MQ below (QI D 24 ad (shR ks ad) A r) args s 0 0 A) 24 ad (shR ks ad) μ 155 [(0, .ref (ad 0)), (2, .int x2), (4, .int x4), (5, .int x5), (6, .int x6)] [] := by
  refine g_iload 157 X 4 dX12_width_155 rfl rfl ?_
  refine g_goto 161 X dX12_width_157 (by decide) ?_
  exact G.sub [0, 1, 2, 3] rfl (b_X12_width_161 X hr hk118 _ _ _ _ _ h)
set_option maxRecDepth 100000 in
set_option maxHeartbeats 4000000 in
theorem b_X12_width_118 {p : Program} {l : Launch} {e : Env} {s : State} {m : MethodId} {args : Array Value} {below : List Frame} {meth : Method} {c : Code} {D : va_G} {ks : Nat → ClassId} {A : Nat → Prop} {ad : Nat → Nat} (X : Cx p s m args meth c cX12_width 7 RX12 D ks A 24 ad (shR ks ad)) (hr : meth.sig.returnType = (some .int)) {F : Nat} {r : Int32 × Mem} : ∀ n : Nat, ∀ (μ : Mem) (x2 : Int32) (x3 : Int32) (x4 : Int32) (x5 : Int32), f_X12_width_b118 F  n μ x2 x3 x4 x5 = some r → G p l e rm_X12_width s m args below meth c D A 7 (MQ below (QI D 24 ad (shR ks ad) A r) args s 0 0 A) 24 ad (shR ks ad) μ 118 [(0, .ref (ad 0)), (2, .int x2), (3, .int x3), (4, .int x4), (5, .int x5)] [] := by
  intro n
  induction n with
  | zero =>
    intro _ _ _ _ _ h
    cases h
  | succ n ih =>
    intro μ x2 x3 x4 x5 h
    refine g_iload 120 X 4 dX12_width_118 rfl rfl ?_
    refine g_iload 122 X 3 dX12_width_120 rfl rfl ?_
    refine g_icmp_ge 168 125 X dX12_width_122 (by decide) rfl h (fun h => ?_) (fun h => ?_)
    · refine g_iload_n 169 X 2 dX12_width_168 rfl rfl ?_
      exact g_iret X hr dX12_width_169 h
    · refine g_aload_n 126 X 0 dX12_width_125 rfl rfl ?_
      refine g_iload 128 X 4 dX12_width_126 rfl rfl ?_
      refine g_ci 131 h (fun q e => r_V X cd_X12_217_X12_drawOf_X12 ⟨rfl, rfl⟩ ⟨Nat.le_of_ble_eq_true rfl, Nat.le_of_ble_eq_true rfl⟩ (c_X12_drawOf X.2.2.2.2  e) PC_blind (pc_pre X) (g_recv X (o12 rfl) rfl) rfl rfl (Nat.le_of_ble_eq_true rfl) dX12_width_128) rfl (fun v1 μ2 h => ?_)
      refine g_ni 134 h (fun q e => r_S X cd_X12_244_X12_ones ⟨rfl, rfl⟩ ⟨Nat.le_of_ble_eq_true rfl, Nat.le_of_ble_eq_true rfl⟩ (c_X12_ones e) PC_blind (pn_pre X) rfl rfl (Nat.le_of_ble_eq_true rfl) dX12_width_131) rfl (fun v3 h => ?_)
      refine g_istore 136 X dX12_width_134 (by decide) rfl ?_
      refine g_iload_n 137 X 2 dX12_width_136 rfl rfl ?_
      refine g_if_ne 149 140 X dX12_width_137 (by decide) rfl h (fun h => ?_) (fun h => ?_)
      · refine g_iload 151 X 0 dX12_width_149 rfl rfl ?_
        refine g_iload_n 152 X 3 dX12_width_151 rfl rfl ?_
        refine g_icmp_le 160 155 X dX12_width_152 (by decide) rfl h (fun h => ?_) (fun h => ?_)
        · exact G.sub [1, 2, 3, 4, 5] rfl (b_X12_width_160 X hr ih _ _ _ _ _ h)
        · exact G.sub [1, 2, 4, 5, 0] rfl (b_X12_width_155 X hr ih _ _ _ _ _ h)
      · refine g_iload 142 X 0 dX12_width_140 rfl rfl ?_
        refine g_iload_n 143 X 3 dX12_width_142 rfl rfl ?_
        refine g_icmp_ge 160 146 X dX12_width_143 (by decide) rfl h (fun h => ?_) (fun h => ?_)
        · exact G.sub [1, 2, 3, 4, 5] rfl (b_X12_width_160 X hr ih _ _ _ _ _ h)
        · refine g_goto 155 X dX12_width_146 (by decide) ?_
          exact G.sub [1, 2, 4, 5, 0] rfl (b_X12_width_155 X hr ih _ _ _ _ _ h)
set_option maxRecDepth 100000 in
set_option maxHeartbeats 4000000 in
theorem b_X12_width_0 {p : Program} {l : Launch} {e : Env} {s : State} {m : MethodId} {args : Array Value} {below : List Frame} {meth : Method} {c : Code} {D : va_G} {ks : Nat → ClassId} {A : Nat → Prop} {ad : Nat → Nat} (X : Cx p s m args meth c cX12_width 7 RX12 D ks A 24 ad (shR ks ad)) (hr : meth.sig.returnType = (some .int)) {F : Nat} {r : Int32 × Mem} (μ : Mem) (x1 : Int32) (x2 : Int32)  (h : f_X12_width F  μ x1 x2 = some r) : G p l e rm_X12_width s m args below meth c D A 7 (MQ below (QI D 24 ad (shR ks ad) A r) args s 0 0 A) 24 ad (shR ks ad) μ 0 [(0, .ref (ad 0)), (1, .int x1), (2, .int x2)] [] := by
  refine g_iload_n 1 X 1 dX12_width_0 rfl rfl ?_
  refine g_ni 4 h (fun q e => r_S X cd_X12_147_X12_isPlan ⟨rfl, rfl⟩ ⟨Nat.le_of_ble_eq_true rfl, Nat.le_of_ble_eq_true rfl⟩ (c_X12_isPlan e) PC_blind (pn_pre X) rfl rfl (Nat.le_of_ble_eq_true rfl) dX12_width_1) rfl (fun v1 h => ?_)
  refine g_if_eq 17 7 X dX12_width_4 (by decide) rfl h (fun h => ?_) (fun h => ?_)
  · refine g_bipush 19 X dX12_width_17 bpm2 rfl ?_
    exact g_iret X hr dX12_width_19 h
  · refine g_iload_n 8 X 2 dX12_width_7 rfl rfl ?_
    refine g_i2l 9 X dX12_width_8 rfl ?_
    refine g_lconst 10 X dX12_width_9 lc0 rfl ?_
    refine g_lconst 11 X dX12_width_10 lc1 rfl ?_
    refine g_ni 14 h (fun q e => r_S X cd_X12_92_X12_in ⟨rfl, rfl⟩ ⟨Nat.le_of_ble_eq_true rfl, Nat.le_of_ble_eq_true rfl⟩ (c_X12_in e) PC_blind (pn_pre X) rfl rfl (Nat.le_of_ble_eq_true rfl) dX12_width_11) rfl (fun v2 h => ?_)
    refine g_if_ne 20 17 X dX12_width_14 (by decide) rfl h (fun h => ?_) (fun h => ?_)
    · refine g_aload_n 21 X 0 dX12_width_20 rfl rfl ?_
      refine g_iload_n 22 X 1 dX12_width_21 rfl rfl ?_
      refine g_ci 25 h (fun q e => r_V X cd_X12_188_X12_canBe_X12 ⟨rfl, rfl⟩ ⟨Nat.le_of_ble_eq_true rfl, Nat.le_of_ble_eq_true rfl⟩ (c_X12_canBe X.2.2.2.2  e) PC_blind (pc_pre X) (g_recv X (o12 rfl) rfl) rfl rfl (Nat.le_of_ble_eq_true rfl) dX12_width_22) rfl (fun v3 μ4 h => ?_)
      refine g_if_ne 31 28 X dX12_width_25 (by decide) rfl h (fun h => ?_) (fun h => ?_)
      · refine g_aload_n 32 X 0 dX12_width_31 rfl rfl ?_
        refine g_geti 35 X fl_X12_166_12 (o12 rfl) rfl dX12_width_32 h rfl (fun v5 h => ?_)
        refine g_bipush 37 X dX12_width_35 bp97 rfl ?_
        refine g_icmp_ne 47 40 X dX12_width_37 (by decide) rfl h (fun h => ?_) (fun h => ?_)
        · refine g_aload_n 48 X 0 dX12_width_47 rfl rfl ?_
          refine g_geti 51 X fl_X12_166_12 (o12 rfl) rfl dX12_width_48 h rfl (fun v6 h => ?_)
          refine g_bipush 53 X dX12_width_51 bp108 rfl ?_
          refine g_icmp_ne 84 56 X dX12_width_53 (by decide) rfl h (fun h => ?_) (fun h => ?_)
          · refine g_aload_n 85 X 0 dX12_width_84 rfl rfl ?_
            refine g_geti 88 X fl_X12_166_12 (o12 rfl) rfl dX12_width_85 h rfl (fun v7 h => ?_)
            refine g_bipush 90 X dX12_width_88 bp116 rfl ?_
            refine g_icmp_ne 99 93 X dX12_width_90 (by decide) rfl h (fun h => ?_) (fun h => ?_)
            · refine g_aload_n 100 X 0 dX12_width_99 rfl rfl ?_
              refine g_iconst 101 X dX12_width_100 ic0 rfl ?_
              refine g_ci 104 h (fun q e => r_V X cd_X12_217_X12_drawOf_X12 ⟨rfl, rfl⟩ ⟨Nat.le_of_ble_eq_true rfl, Nat.le_of_ble_eq_true rfl⟩ (c_X12_drawOf X.2.2.2.2  e) PC_blind (pc_pre X) (g_recv X (o12 rfl) rfl) rfl rfl (Nat.le_of_ble_eq_true rfl) dX12_width_101) rfl (fun v8 μ9 h => ?_)
              refine g_ni 107 h (fun q e => r_S X cd_X12_244_X12_ones ⟨rfl, rfl⟩ ⟨Nat.le_of_ble_eq_true rfl, Nat.le_of_ble_eq_true rfl⟩ (c_X12_ones e) PC_blind (pn_pre X) rfl rfl (Nat.le_of_ble_eq_true rfl) dX12_width_104) rfl (fun v10 h => ?_)
              refine g_istore_n 108 X dX12_width_107 (by decide) rfl ?_
              refine g_aload_n 109 X 1 dX12_width_108 rfl rfl ?_
              refine g_cl 112 h (fun q e => r_V X cd_X12_202_X12_drawsNow_X12 ⟨rfl, rfl⟩ ⟨Nat.le_of_ble_eq_true rfl, Nat.le_of_ble_eq_true rfl⟩ (c_X12_drawsNow X.2.2.2.2  e) PC_blind (pc_pre X) (g_recv X (o12 rfl) rfl) rfl rfl (Nat.le_of_ble_eq_true rfl) dX12_width_109) rfl (fun v11 μ12 h => ?_)
              refine g_l2i 113 X dX12_width_112 rfl ?_
              refine g_topi h (fun v13 h => ?_)
              refine g_istore 115 X dX12_width_113 (by decide) rfl ?_
              refine g_iconst 116 X dX12_width_115 ic1 rfl ?_
              refine g_istore 118 X dX12_width_116 (by decide) rfl ?_
              exact G.sub [3, 5, 2, 1, 0] rfl (b_X12_width_118 X hr  F _ _ _ _ _ h)
            · refine g_aload_n 94 X 0 dX12_width_93 rfl rfl ?_
              refine g_iload_n 95 X 2 dX12_width_94 rfl rfl ?_
              refine g_ci 98 h (fun q e => r_V X cd_X12_241_X12_ofClusters_X12 ⟨rfl, rfl⟩ ⟨Nat.le_of_ble_eq_true rfl, Nat.le_of_ble_eq_true rfl⟩ (c_X12_ofClusters X.2.2.2.2  e) PC_blind (pc_pre X) (g_recv X (o12 rfl) rfl) rfl rfl (Nat.le_of_ble_eq_true rfl) dX12_width_95) rfl (fun v14 μ15 h => ?_)
              exact g_iret X hr dX12_width_98 h
          · refine g_aload_n 57 X 0 dX12_width_56 rfl rfl ?_
            refine g_getr 60 X fl_X12_53_12 (o12 rfl) rfl dX12_width_57 rfl ?_
            refine g_iconst 61 X dX12_width_60 ic0 rfl ?_
            refine g_iald 62 X (aiR (n := 4) (by decide) rfl) dX12_width_61 h rfl (fun v16 h => ?_)
            refine g_aload_n 63 X 0 dX12_width_62 rfl rfl ?_
            refine g_getr 66 X fl_X12_53_12 (o12 rfl) rfl dX12_width_63 rfl ?_
            refine g_iconst 67 X dX12_width_66 ic1 rfl ?_
            refine g_iald 68 X (aiR (n := 4) (by decide) rfl) dX12_width_67 h rfl (fun v17 h => ?_)
            refine g_iadd 69 X dX12_width_68 rfl ?_
            refine g_aload_n 70 X 0 dX12_width_69 rfl rfl ?_
            refine g_getr 73 X fl_X12_53_12 (o12 rfl) rfl dX12_width_70 rfl ?_
            refine g_iconst 74 X dX12_width_73 ic2 rfl ?_
            refine g_iald 75 X (aiR (n := 4) (by decide) rfl) dX12_width_74 h rfl (fun v18 h => ?_)
            refine g_iadd 76 X dX12_width_75 rfl ?_
            refine g_aload_n 77 X 0 dX12_width_76 rfl rfl ?_
            refine g_getr 80 X fl_X12_53_12 (o12 rfl) rfl dX12_width_77 rfl ?_
            refine g_iconst 81 X dX12_width_80 ic3 rfl ?_
            refine g_iald 82 X (aiR (n := 4) (by decide) rfl) dX12_width_81 h rfl (fun v19 h => ?_)
            refine g_iadd 83 X dX12_width_82 rfl ?_
            exact g_iret X hr dX12_width_83 h
        · refine g_aload_n 41 X 0 dX12_width_40 rfl rfl ?_
          refine g_getr 44 X fl_X12_53_12 (o12 rfl) rfl dX12_width_41 rfl ?_
          refine g_iconst 45 X dX12_width_44 ic0 rfl ?_
          refine g_iald 46 X (aiR (n := 4) (by decide) rfl) dX12_width_45 h rfl (fun v20 h => ?_)
          exact g_iret X hr dX12_width_46 h
      · refine g_bipush 30 X dX12_width_28 bpm3 rfl ?_
        exact g_iret X hr dX12_width_30 h
    · refine g_bipush 19 X dX12_width_17 bpm2 rfl ?_
      exact g_iret X hr dX12_width_19 h
set_option maxRecDepth 100000 in
theorem c_X12_width {l : Launch} {D : va_G} {ks : Nat → ClassId} {A : Nat → Prop} {ad : Nat → Nat} (hD : ∀ μ : Mem, va_D A (wsM 24 ad (shR ks ad) μ)) {F : Nat} {μ : Mem} {x1 : Int32} {x2 : Int32} {r : Int32 × Mem}  (h : f_X12_width F μ x1 x2 = some r) : Met l yX12_width (Cond.code yX12_width cX12_width 7 (some .int) :: wg) rm_X12_width (PC D ks 24 ad (shR ks ad) μ [.ref (ad 0), .int x1, .int x2]) (QI D 24 ad (shR ks ad) A r) 0 0 A := by
  refine met_of (by decide) (Nat.le_of_ble_eq_true rfl) hD ?_
  intro p e s m args below meth c X hr
  exact G.sub [0, 1, 2] rfl (b_X12_width_0 X hr  _ _ _ h)
abbrev rm_X12_lot : Room := { frames := 0, cells := 0, slots := 0, locals := 0 }
set_option maxRecDepth 100000 in
set_option maxHeartbeats 4000000 in
theorem b_X12_lot_0 {p : Program} {l : Launch} {e : Env} {s : State} {m : MethodId} {args : Array Value} {below : List Frame} {meth : Method} {c : Code} {D : va_G} {ks : Nat → ClassId} {A : Nat → Prop} {ad : Nat → Nat} (X : Cx p s m args meth c cX12_lot 2 RX12 D ks A 24 ad (shR ks ad)) (hr : meth.sig.returnType = (some .int)) {F : Nat} {r : Int32 × Mem} (μ : Mem) (x1 : Int32)  (h : f_X12_lot F  μ x1 = some r) : G p l e rm_X12_lot s m args below meth c D A 2 (MQ below (QI D 24 ad (shR ks ad) A r) args s 0 0 A) 24 ad (shR ks ad) μ 0 [(0, .ref (ad 0)), (1, .int x1)] [] := by
  refine g_aload_n 1 X 0 dX12_lot_0 rfl rfl ?_
  refine g_ldc 3 X m1350 dX12_lot_1 rfl ?_
  refine g_aload_n 4 X 0 dX12_lot_3 rfl rfl ?_
  refine g_geti 7 X fl_X12_248_12 (o12 rfl) rfl dX12_lot_4 h rfl (fun v1 h => ?_)
  refine g_imul 8 X dX12_lot_7 rfl ?_
  refine g_sipush 11 X dX12_lot_8 sp12345 rfl ?_
  refine g_iadd 12 X dX12_lot_11 rfl ?_
  refine g_puti 15 X fp_X12_248_12 (o12 rfl) rfl (Nat.le_of_ble_eq_true rfl) rfl rfl dX12_lot_12 h rfl (fun μ2 h => ?_)
  refine g_aload_n 16 X 0 dX12_lot_15 rfl rfl ?_
  refine g_geti 19 X fl_X12_248_12 (o12 rfl) rfl dX12_lot_16 h rfl (fun v3 h => ?_)
  refine g_bipush 21 X dX12_lot_19 bp16 rfl ?_
  refine g_iushr 22 X dX12_lot_21 rfl ?_
  refine g_topi h (fun v4 h => ?_)
  refine g_iload_n 23 X 1 dX12_lot_22 rfl rfl ?_
  refine g_irem 24 X dX12_lot_23 h rfl (fun h => ?_)
  refine g_topi h (fun v5 h => ?_)
  exact g_iret X hr dX12_lot_24 h
set_option maxRecDepth 100000 in
theorem c_X12_lot {l : Launch} {D : va_G} {ks : Nat → ClassId} {A : Nat → Prop} {ad : Nat → Nat} (hD : ∀ μ : Mem, va_D A (wsM 24 ad (shR ks ad) μ)) {F : Nat} {μ : Mem} {x1 : Int32} {r : Int32 × Mem}  (h : f_X12_lot F μ x1 = some r) : Met l yX12_lot (Cond.code yX12_lot cX12_lot 2 (some .int) :: wg) rm_X12_lot (PC D ks 24 ad (shR ks ad) μ [.ref (ad 0), .int x1]) (QI D 24 ad (shR ks ad) A r) 0 0 A := by
  refine met_of (by decide) (Nat.le_of_ble_eq_true rfl) hD ?_
  intro p e s m args below meth c X hr
  exact G.sub [0, 1] rfl (b_X12_lot_0 X hr  _ _ h)
