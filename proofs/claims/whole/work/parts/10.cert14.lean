abbrev rm_X12_write : Room := { frames := 2, cells := 0, slots := 0, locals := 46 }
set_option maxRecDepth 100000 in
set_option maxHeartbeats 4000000 in
theorem b_X12_write_92 {p : Program} {l : Launch} {e : Env} {s : State} {m : MethodId} {args : Array Value} {below : List Frame} {meth : Method} {c : Code} {D : va_G} {ks : Nat → ClassId} {A : Nat → Prop} {ad : Nat → Nat} (X : Cx p s m args meth c cX12_write 5 RX12 D ks A 24 ad (shR ks ad)) (hr : meth.sig.returnType = (some .int)) {F : Nat} {r : Int32 × Mem} {k38 : Mem → Int32 → Int32 → Int32 → Int32 → Option (Int32 × Mem)} (hk38 : ∀ (μ : Mem) (x1 : Int32) (x2 : Int32) (x3 : Int32) (x4 : Int32), k38 μ x1 x2 x3 x4 = some r → G p l e rm_X12_write s m args below meth c D A 5 (MQ below (QI D 24 ad (shR ks ad) A r) args s 0 0 A) 24 ad (shR ks ad) μ 38 [(0, .ref (ad 0)), (1, .int x1), (2, .int x2), (3, .int x3), (4, .int x4)] []) (μ : Mem) (x1 : Int32) (x2 : Int32) (x3 : Int32) (x4 : Int32)  (h : f_X12_write_b92 F k38 μ x1 x2 x3 x4 = some r) : G p l e rm_X12_write s m args below meth c D A 5 (MQ below (QI D 24 ad (shR ks ad) A r) args s 0 0 A) 24 ad (shR ks ad) μ 92 [(0, .ref (ad 0)), (1, .int x1), (2, .int x2), (3, .int x3), (4, .int x4)] [] := by
  refine g_iinc 95 X 4 dX12_write_92 ic1 rfl (by decide) rfl ?_
  refine g_goto 38 X dX12_write_95 (by decide) ?_
  exact G.sub [1, 2, 3, 4, 0] rfl (hk38 _ _ _ _ _ h)
set_option maxRecDepth 100000 in
set_option maxHeartbeats 4000000 in
theorem b_X12_write_38 {p : Program} {l : Launch} {e : Env} {s : State} {m : MethodId} {args : Array Value} {below : List Frame} {meth : Method} {c : Code} {D : va_G} {ks : Nat → ClassId} {A : Nat → Prop} {ad : Nat → Nat} (X : Cx p s m args meth c cX12_write 5 RX12 D ks A 24 ad (shR ks ad)) (hr : meth.sig.returnType = (some .int)) {F : Nat} {r : Int32 × Mem} : ∀ n : Nat, ∀ (μ : Mem) (x1 : Int32) (x2 : Int32) (x3 : Int32) (x4 : Int32), f_X12_write_b38 F  n μ x1 x2 x3 x4 = some r → G p l e rm_X12_write s m args below meth c D A 5 (MQ below (QI D 24 ad (shR ks ad) A r) args s 0 0 A) 24 ad (shR ks ad) μ 38 [(0, .ref (ad 0)), (1, .int x1), (2, .int x2), (3, .int x3), (4, .int x4)] [] := by
  intro n
  induction n with
  | zero =>
    intro _ _ _ _ _ h
    cases h
  | succ n ih =>
    intro μ x1 x2 x3 x4 h
    refine g_iload 40 X 4 dX12_write_38 rfl rfl ?_
    refine g_aload_n 41 X 0 dX12_write_40 rfl rfl ?_
    refine g_geti 44 X fl_X12_115_12 (o12 rfl) rfl dX12_write_41 h rfl (fun v1 h => ?_)
    refine g_icmp_ge 98 47 X dX12_write_44 (by decide) rfl h (fun h => ?_) (fun h => ?_)
    · refine g_iload_n 99 X 3 dX12_write_98 rfl rfl ?_
      exact g_iret X hr dX12_write_99 h
    · refine g_iload_n 48 X 3 dX12_write_47 rfl rfl ?_
      refine g_aload_n 49 X 0 dX12_write_48 rfl rfl ?_
      refine g_getr 52 X fl_X12_13_12 (o12 rfl) rfl dX12_write_49 rfl ?_
      refine g_iload_n 53 X 1 dX12_write_52 rfl rfl ?_
      refine g_iald 54 X (aiR (n := 4) (by decide) rfl) dX12_write_53 h rfl (fun v2 h => ?_)
      refine g_icmp_ge 98 57 X dX12_write_54 (by decide) rfl h (fun h => ?_) (fun h => ?_)
      · refine g_iload_n 99 X 3 dX12_write_98 rfl rfl ?_
        exact g_iret X hr dX12_write_99 h
      · refine g_iload_n 58 X 2 dX12_write_57 rfl rfl ?_
        refine g_iload 60 X 4 dX12_write_58 rfl rfl ?_
        refine g_ishr 61 X dX12_write_60 rfl ?_
        refine g_iconst 62 X dX12_write_61 ic1 rfl ?_
        refine g_iand 63 X dX12_write_62 rfl ?_
        refine g_iconst 64 X dX12_write_63 ic1 rfl ?_
        refine g_icmp_ne 92 67 X dX12_write_64 (by decide) rfl h (fun h => ?_) (fun h => ?_)
        · exact G.sub [0, 1, 2, 3, 4] rfl (b_X12_write_92 X hr ih _ _ _ _ _ h)
        · refine g_aload_n 68 X 0 dX12_write_67 rfl rfl ?_
          refine g_getr 71 X fl_X12_16_12 (o12 rfl) rfl dX12_write_68 rfl ?_
          refine g_bipush 73 X dX12_write_71 bp90 rfl ?_
          refine g_iload_n 74 X 1 dX12_write_73 rfl rfl ?_
          refine g_imul 75 X dX12_write_74 rfl ?_
          refine g_iload_n 76 X 3 dX12_write_75 rfl rfl ?_
          refine g_iadd 77 X dX12_write_76 rfl ?_
          refine g_aload_n 78 X 0 dX12_write_77 rfl rfl ?_
          refine g_getr 81 X fl_X12_7_12 (o12 rfl) rfl dX12_write_78 rfl ?_
          refine g_iload_n 82 X 1 dX12_write_81 rfl rfl ?_
          refine g_iald 83 X (aiR (n := 4) (by decide) rfl) dX12_write_82 h rfl (fun v3 h => ?_)
          refine g_iload 85 X 4 dX12_write_83 rfl rfl ?_
          refine g_ni 88 h (fun q e => r_S X cd_X12_110_X12_low ⟨rfl, rfl⟩ ⟨Nat.le_of_ble_eq_true rfl, Nat.le_of_ble_eq_true rfl⟩ (c_X12_low e) PC_blind (pn_pre X) rfl rfl (Nat.le_of_ble_eq_true rfl) dX12_write_85) rfl (fun v4 h => ?_)
          refine g_iast 89 X (aiR (n := 360) (by decide) rfl) dX12_write_88 h rfl (fun μ5 h => ?_)
          refine g_iinc 92 X 3 dX12_write_89 ic1 rfl (by decide) rfl ?_
          exact G.sub [1, 2, 3, 0, 4] rfl (b_X12_write_92 X hr ih _ _ _ _ _ h)
set_option maxRecDepth 100000 in
set_option maxHeartbeats 4000000 in
theorem b_X12_write_0 {p : Program} {l : Launch} {e : Env} {s : State} {m : MethodId} {args : Array Value} {below : List Frame} {meth : Method} {c : Code} {D : va_G} {ks : Nat → ClassId} {A : Nat → Prop} {ad : Nat → Nat} (X : Cx p s m args meth c cX12_write 5 RX12 D ks A 24 ad (shR ks ad)) (hr : meth.sig.returnType = (some .int)) {F : Nat} {r : Int32 × Mem} (μ : Mem) (x1 : Int32) (x2 : Int32)  (h : f_X12_write F  μ x1 x2 = some r) : G p l e rm_X12_write s m args below meth c D A 5 (MQ below (QI D 24 ad (shR ks ad) A r) args s 0 0 A) 24 ad (shR ks ad) μ 0 [(0, .ref (ad 0)), (1, .int x1), (2, .int x2)] [] := by
  refine g_iload_n 1 X 1 dX12_write_0 rfl rfl ?_
  refine g_ni 4 h (fun q e => r_S X cd_X12_96_X12_isSheet ⟨rfl, rfl⟩ ⟨Nat.le_of_ble_eq_true rfl, Nat.le_of_ble_eq_true rfl⟩ (c_X12_isSheet e) PC_blind (pn_pre X) rfl rfl (Nat.le_of_ble_eq_true rfl) dX12_write_1) rfl (fun v1 h => ?_)
  refine g_if_eq 15 7 X dX12_write_4 (by decide) rfl h (fun h => ?_) (fun h => ?_)
  · refine g_bipush 17 X dX12_write_15 bpm2 rfl ?_
    exact g_iret X hr dX12_write_17 h
  · refine g_aload_n 8 X 0 dX12_write_7 rfl rfl ?_
    refine g_iload_n 9 X 2 dX12_write_8 rfl rfl ?_
    refine g_ci 12 h (fun q e => r_V X cd_X12_266_X12_isDraw_X12 ⟨rfl, rfl⟩ ⟨Nat.le_of_ble_eq_true rfl, Nat.le_of_ble_eq_true rfl⟩ (c_X12_isDraw X.2.2.2.2  e) PC_blind (pc_pre X) (g_recv X (o12 rfl) rfl) rfl rfl (Nat.le_of_ble_eq_true rfl) dX12_write_9) rfl (fun v2 μ3 h => ?_)
    refine g_if_ne 18 15 X dX12_write_12 (by decide) rfl h (fun h => ?_) (fun h => ?_)
    · refine g_aload_n 19 X 0 dX12_write_18 rfl rfl ?_
      refine g_getr 22 X fl_X12_7_12 (o12 rfl) rfl dX12_write_19 rfl ?_
      refine g_iload_n 23 X 1 dX12_write_22 rfl rfl ?_
      refine g_iald 24 X (aiR (n := 4) (by decide) rfl) dX12_write_23 h rfl (fun v4 h => ?_)
      refine g_if_ge 33 27 X dX12_write_24 (by decide) rfl h (fun h => ?_) (fun h => ?_)
      · refine g_iconst 34 X dX12_write_33 ic0 rfl ?_
        refine g_istore_n 35 X dX12_write_34 (by decide) rfl ?_
        refine g_iconst 36 X dX12_write_35 ic0 rfl ?_
        refine g_istore 38 X dX12_write_36 (by decide) rfl ?_
        exact G.sub [2, 3, 4, 1, 0] rfl (b_X12_write_38 X hr  F _ _ _ _ _ h)
      · refine g_aload_n 28 X 0 dX12_write_27 rfl rfl ?_
        refine g_iconst 29 X dX12_write_28 ic1 rfl ?_
        refine g_ci 32 h (fun q e => r_V X cd_X12_102_X12_met_X12 ⟨rfl, rfl⟩ ⟨Nat.le_of_ble_eq_true rfl, Nat.le_of_ble_eq_true rfl⟩ (c_X12_met X.2.2.2.2  e) PC_blind (pc_pre X) (g_recv X (o12 rfl) rfl) rfl rfl (Nat.le_of_ble_eq_true rfl) dX12_write_29) rfl (fun v5 μ6 h => ?_)
        exact g_iret X hr dX12_write_32 h
    · refine g_bipush 17 X dX12_write_15 bpm2 rfl ?_
      exact g_iret X hr dX12_write_17 h
set_option maxRecDepth 100000 in
theorem c_X12_write {l : Launch} {D : va_G} {ks : Nat → ClassId} {A : Nat → Prop} {ad : Nat → Nat} (hD : ∀ μ : Mem, va_D A (wsM 24 ad (shR ks ad) μ)) {F : Nat} {μ : Mem} {x1 : Int32} {x2 : Int32} {r : Int32 × Mem}  (h : f_X12_write F μ x1 x2 = some r) : Met l yX12_write (Cond.code yX12_write cX12_write 5 (some .int) :: wg) rm_X12_write (PC D ks 24 ad (shR ks ad) μ [.ref (ad 0), .int x1, .int x2]) (QI D 24 ad (shR ks ad) A r) 0 0 A := by
  refine met_of (by decide) (Nat.le_of_ble_eq_true rfl) hD ?_
  intro p e s m args below meth c X hr
  exact G.sub [0, 1, 2] rfl (b_X12_write_0 X hr  _ _ _ h)
abbrev rm_X12_count : Room := { frames := 2, cells := 0, slots := 0, locals := 46 }
set_option maxRecDepth 100000 in
set_option maxHeartbeats 4000000 in
theorem b_X12_count_86 {p : Program} {l : Launch} {e : Env} {s : State} {m : MethodId} {args : Array Value} {below : List Frame} {meth : Method} {c : Code} {D : va_G} {ks : Nat → ClassId} {A : Nat → Prop} {ad : Nat → Nat} (X : Cx p s m args meth c cX12_count 4 RX12 D ks A 24 ad (shR ks ad)) (hr : meth.sig.returnType = (some .int)) {F : Nat} {r : Int32 × Mem} {k63 : Mem → Int32 → Int32 → Option (Int32 × Mem)} (hk63 : ∀ (μ : Mem) (x2 : Int32) (x3 : Int32), k63 μ x2 x3 = some r → G p l e rm_X12_count s m args below meth c D A 4 (MQ below (QI D 24 ad (shR ks ad) A r) args s 0 0 A) 24 ad (shR ks ad) μ 63 [(0, .ref (ad 0)), (2, .int x2), (3, .int x3)] []) (μ : Mem) (x3 : Int32) (z0 : Int32) (z1 : Int32)  (h : f_X12_count_b86 F k63 μ x3 z0 z1 = some r) : G p l e rm_X12_count s m args below meth c D A 4 (MQ below (QI D 24 ad (shR ks ad) A r) args s 0 0 A) 24 ad (shR ks ad) μ 86 [(0, .ref (ad 0)), (3, .int x3)] [.int z0, .int z1] := by
  refine g_iadd 87 X dX12_count_86 rfl ?_
  refine g_topi h (fun v1 h => ?_)
  refine g_istore_n 88 X dX12_count_87 (by decide) rfl ?_
  refine g_iinc 91 X 2 dX12_count_88 ic1 rfl (by decide) rfl ?_
  refine g_goto 63 X dX12_count_91 (by decide) ?_
  exact G.sub [2, 1, 0] rfl (hk63 _ _ _ h)
set_option maxRecDepth 100000 in
set_option maxHeartbeats 4000000 in
theorem b_X12_count_63 {p : Program} {l : Launch} {e : Env} {s : State} {m : MethodId} {args : Array Value} {below : List Frame} {meth : Method} {c : Code} {D : va_G} {ks : Nat → ClassId} {A : Nat → Prop} {ad : Nat → Nat} (X : Cx p s m args meth c cX12_count 4 RX12 D ks A 24 ad (shR ks ad)) (hr : meth.sig.returnType = (some .int)) {F : Nat} {r : Int32 × Mem} : ∀ n : Nat, ∀ (μ : Mem) (x2 : Int32) (x3 : Int32), f_X12_count_b63 F  n μ x2 x3 = some r → G p l e rm_X12_count s m args below meth c D A 4 (MQ below (QI D 24 ad (shR ks ad) A r) args s 0 0 A) 24 ad (shR ks ad) μ 63 [(0, .ref (ad 0)), (2, .int x2), (3, .int x3)] [] := by
  intro n
  induction n with
  | zero =>
    intro _ _ _ h
    cases h
  | succ n ih =>
    intro μ x2 x3 h
    refine g_iload_n 64 X 2 dX12_count_63 rfl rfl ?_
    refine g_aload_n 65 X 0 dX12_count_64 rfl rfl ?_
    refine g_geti 68 X fl_X12_115_12 (o12 rfl) rfl dX12_count_65 h rfl (fun v1 h => ?_)
    refine g_icmp_ge 94 71 X dX12_count_68 (by decide) rfl h (fun h => ?_) (fun h => ?_)
    · refine g_iload_n 95 X 1 dX12_count_94 rfl rfl ?_
      exact g_iret X hr dX12_count_95 h
    · refine g_iload_n 72 X 1 dX12_count_71 rfl rfl ?_
      refine g_aload_n 73 X 0 dX12_count_72 rfl rfl ?_
      refine g_iload_n 74 X 2 dX12_count_73 rfl rfl ?_
      refine g_ci 77 h (fun q e => r_V X cd_X12_134_X12_valueOf_X12 ⟨rfl, rfl⟩ ⟨Nat.le_of_ble_eq_true rfl, Nat.le_of_ble_eq_true rfl⟩ (c_X12_valueOf X.2.2.2.2  e) PC_blind (pc_pre X) (g_recv X (o12 rfl) rfl) rfl rfl (Nat.le_of_ble_eq_true rfl) dX12_count_74) rfl (fun v2 μ3 h => ?_)
      refine g_iconst 78 X dX12_count_77 icm1 rfl ?_
      refine g_icmp_ne 85 81 X dX12_count_78 (by decide) rfl h (fun h => ?_) (fun h => ?_)
      · refine g_iconst 86 X dX12_count_85 ic1 rfl ?_
        exact G.sub [0, 2] rfl (b_X12_count_86 X hr ih _ _ _ _ h)
      · refine g_iconst 82 X dX12_count_81 ic0 rfl ?_
        refine g_goto 86 X dX12_count_82 (by decide) ?_
        exact G.sub [0, 2] rfl (b_X12_count_86 X hr ih _ _ _ _ h)
set_option maxRecDepth 100000 in
set_option maxHeartbeats 4000000 in
theorem b_X12_count_0 {p : Program} {l : Launch} {e : Env} {s : State} {m : MethodId} {args : Array Value} {below : List Frame} {meth : Method} {c : Code} {D : va_G} {ks : Nat → ClassId} {A : Nat → Prop} {ad : Nat → Nat} (X : Cx p s m args meth c cX12_count 4 RX12 D ks A 24 ad (shR ks ad)) (hr : meth.sig.returnType = (some .int)) {F : Nat} {r : Int32 × Mem} (μ : Mem) (x1 : Int32)  (h : f_X12_count F  μ x1 = some r) : G p l e rm_X12_count s m args below meth c D A 4 (MQ below (QI D 24 ad (shR ks ad) A r) args s 0 0 A) 24 ad (shR ks ad) μ 0 [(0, .ref (ad 0)), (1, .int x1)] [] := by
  refine g_iconst 1 X dX12_count_0 ic0 rfl ?_
  refine g_istore_n 2 X dX12_count_1 (by decide) rfl ?_
  refine g_iload_n 3 X 2 dX12_count_2 rfl rfl ?_
  by_cases hc1 : x1 = 0
  · have h := if_t h hc1
    refine g_tin 56 X (off := 53) hc1 dX12_count_3 (by decide) (by decide) (by decide +kernel) (by decide) ?_
    refine g_aload_n 57 X 1 dX12_count_56 rfl rfl ?_
    refine g_geti 60 X fl_X12_115_12 (o12 rfl) rfl dX12_count_57 h rfl (fun v2 h => ?_)
    exact g_iret X hr dX12_count_60 h
  · have h := if_f h hc1
    by_cases hc3 : x1 = 1
    · have h := if_t h hc3
      refine g_tin 61 X (off := 58) hc3 dX12_count_3 (by decide) (by decide) (by decide +kernel) (by decide) ?_
      refine g_iconst 62 X dX12_count_61 ic0 rfl ?_
      refine g_istore_n 63 X dX12_count_62 (by decide) rfl ?_
      exact G.sub [2, 1, 0] rfl (b_X12_count_63 X hr  F _ _ _ h)
    · have h := if_f h hc3
      by_cases hc4 : x1 = 2
      · have h := if_t h hc4
        refine g_tin 96 X (off := 93) hc4 dX12_count_3 (by decide) (by decide) (by decide +kernel) (by decide) ?_
        refine g_aload_n 97 X 1 dX12_count_96 rfl rfl ?_
        refine g_geti 100 X fl_X12_128_12 (o12 rfl) rfl dX12_count_97 h rfl (fun v5 h => ?_)
        exact g_iret X hr dX12_count_100 h
      · have h := if_f h hc4
        by_cases hc6 : x1 = 3
        · have h := if_t h hc6
          refine g_tin 101 X (off := 98) hc6 dX12_count_3 (by decide) (by decide) (by decide +kernel) (by decide) ?_
          refine g_aload_n 102 X 1 dX12_count_101 rfl rfl ?_
          refine g_geti 105 X fl_X12_43_12 (o12 rfl) rfl dX12_count_102 h rfl (fun v7 h => ?_)
          exact g_iret X hr dX12_count_105 h
        · have h := if_f h hc6
          by_cases hc8 : x1 = 4
          · have h := if_t h hc8
            refine g_tin 106 X (off := 103) hc8 dX12_count_3 (by decide) (by decide) (by decide +kernel) (by decide) ?_
            refine g_aload_n 107 X 1 dX12_count_106 rfl rfl ?_
            refine g_getr 110 X fl_X12_50_12 (o12 rfl) rfl dX12_count_107 rfl ?_
            refine g_iload_n 111 X 2 dX12_count_110 rfl rfl ?_
            refine g_iconst 112 X dX12_count_111 ic4 rfl ?_
            refine g_isub 113 X dX12_count_112 rfl ?_
            refine g_iald 114 X (aiR (n := 4) (by decide) rfl) dX12_count_113 h rfl (fun v9 h => ?_)
            exact g_iret X hr dX12_count_114 h
          · have h := if_f h hc8
            by_cases hc10 : x1 = 5
            · have h := if_t h hc10
              refine g_tin 106 X (off := 103) hc10 dX12_count_3 (by decide) (by decide) (by decide +kernel) (by decide) ?_
              refine g_aload_n 107 X 1 dX12_count_106 rfl rfl ?_
              refine g_getr 110 X fl_X12_50_12 (o12 rfl) rfl dX12_count_107 rfl ?_
              refine g_iload_n 111 X 2 dX12_count_110 rfl rfl ?_
              refine g_iconst 112 X dX12_count_111 ic4 rfl ?_
              refine g_isub 113 X dX12_count_112 rfl ?_
              refine g_iald 114 X (aiR (n := 4) (by decide) rfl) dX12_count_113 h rfl (fun v11 h => ?_)
              exact g_iret X hr dX12_count_114 h
            · have h := if_f h hc10
              by_cases hc12 : x1 = 6
              · have h := if_t h hc12
                refine g_tin 106 X (off := 103) hc12 dX12_count_3 (by decide) (by decide) (by decide +kernel) (by decide) ?_
                refine g_aload_n 107 X 1 dX12_count_106 rfl rfl ?_
                refine g_getr 110 X fl_X12_50_12 (o12 rfl) rfl dX12_count_107 rfl ?_
                refine g_iload_n 111 X 2 dX12_count_110 rfl rfl ?_
                refine g_iconst 112 X dX12_count_111 ic4 rfl ?_
                refine g_isub 113 X dX12_count_112 rfl ?_
                refine g_iald 114 X (aiR (n := 4) (by decide) rfl) dX12_count_113 h rfl (fun v13 h => ?_)
                exact g_iret X hr dX12_count_114 h
              · have h := if_f h hc12
                by_cases hc14 : x1 = 7
                · have h := if_t h hc14
                  refine g_tin 106 X (off := 103) hc14 dX12_count_3 (by decide) (by decide) (by decide +kernel) (by decide) ?_
                  refine g_aload_n 107 X 1 dX12_count_106 rfl rfl ?_
                  refine g_getr 110 X fl_X12_50_12 (o12 rfl) rfl dX12_count_107 rfl ?_
                  refine g_iload_n 111 X 2 dX12_count_110 rfl rfl ?_
                  refine g_iconst 112 X dX12_count_111 ic4 rfl ?_
                  refine g_isub 113 X dX12_count_112 rfl ?_
                  refine g_iald 114 X (aiR (n := 4) (by decide) rfl) dX12_count_113 h rfl (fun v15 h => ?_)
                  exact g_iret X hr dX12_count_114 h
                · have h := if_f h hc14
                  by_cases hc16 : x1 = 8
                  · have h := if_t h hc16
                    refine g_tin 115 X (off := 112) hc16 dX12_count_3 (by decide) (by decide) (by decide +kernel) (by decide) ?_
                    refine g_aload_n 116 X 1 dX12_count_115 rfl rfl ?_
                    refine g_geti 119 X fl_X12_87_12 (o12 rfl) rfl dX12_count_116 h rfl (fun v17 h => ?_)
                    exact g_iret X hr dX12_count_119 h
                  · have h := if_f h hc16
                    by_cases hc18 : x1 = 9
                    · have h := if_t h hc18
                      refine g_tin 120 X (off := 117) hc18 dX12_count_3 (by decide) (by decide) (by decide +kernel) (by decide) ?_
                      refine g_aload_n 121 X 1 dX12_count_120 rfl rfl ?_
                      refine g_ci 124 h (fun q e => r_V X cd_X12_185_X12_clustersNow_X12 ⟨rfl, rfl⟩ ⟨Nat.le_of_ble_eq_true rfl, Nat.le_of_ble_eq_true rfl⟩ (c_X12_clustersNow X.2.2.2.2  e) PC_blind (pc_pre X) (g_recv X (o12 rfl) rfl) rfl rfl (Nat.le_of_ble_eq_true rfl) dX12_count_121) rfl (fun v19 μ20 h => ?_)
                      exact g_iret X hr dX12_count_124 h
                    · have h := if_f h hc18
                      have ehc1 := ne_ti hc1 (k := 0) (by decide)
                      have ehc3 := ne_ti hc3 (k := 1) (by decide)
                      have ehc4 := ne_ti hc4 (k := 2) (by decide)
                      have ehc6 := ne_ti hc6 (k := 3) (by decide)
                      have ehc8 := ne_ti hc8 (k := 4) (by decide)
                      have ehc10 := ne_ti hc10 (k := 5) (by decide)
                      have ehc12 := ne_ti hc12 (k := 6) (by decide)
                      have ehc14 := ne_ti hc14 (k := 7) (by decide)
                      have ehc16 := ne_ti hc16 (k := 8) (by decide)
                      have ehc18 := ne_ti hc18 (k := 9) (by decide)
                      refine g_tout 125 X dX12_count_3 (by omega) (by decide) ?_
                      refine g_bipush 127 X dX12_count_125 bpm2 rfl ?_
                      exact g_iret X hr dX12_count_127 h
set_option maxRecDepth 100000 in
theorem c_X12_count {l : Launch} {D : va_G} {ks : Nat → ClassId} {A : Nat → Prop} {ad : Nat → Nat} (hD : ∀ μ : Mem, va_D A (wsM 24 ad (shR ks ad) μ)) {F : Nat} {μ : Mem} {x1 : Int32} {r : Int32 × Mem}  (h : f_X12_count F μ x1 = some r) : Met l yX12_count (Cond.code yX12_count cX12_count 4 (some .int) :: wg) rm_X12_count (PC D ks 24 ad (shR ks ad) μ [.ref (ad 0), .int x1]) (QI D 24 ad (shR ks ad) A r) 0 0 A := by
  refine met_of (by decide) (Nat.le_of_ble_eq_true rfl) hD ?_
  intro p e s m args below meth c X hr
  exact G.sub [0, 1] rfl (b_X12_count_0 X hr  _ _ h)
abbrev rm_X12_digest : Room := { frames := 5, cells := 0, slots := 0, locals := 116 }
set_option maxRecDepth 100000 in
set_option maxHeartbeats 4000000 in
theorem b_X12_digest_220 {p : Program} {l : Launch} {e : Env} {s : State} {m : MethodId} {args : Array Value} {below : List Frame} {meth : Method} {c : Code} {D : va_G} {ks : Nat → ClassId} {A : Nat → Prop} {ad : Nat → Nat} (X : Cx p s m args meth c cX12_digest 6 RX12 D ks A 24 ad (shR ks ad)) (hr : meth.sig.returnType = (some .long)) {F : Nat} {r : Int64 × Mem} {k89 : Mem → Int64 → Int32 → Option (Int64 × Mem)} (hk89 : ∀ (μ : Mem) (x1 : Int64) (x3 : Int32), k89 μ x1 x3 = some r → G p l e rm_X12_digest s m args below meth c D A 6 (MQ below (QL D 24 ad (shR ks ad) A r) args s 0 0 A) 24 ad (shR ks ad) μ 89 [(0, .ref (ad 0)), (1, .long x1), (3, .int x3)] []) (μ : Mem) (x1 : Int64) (x3 : Int32)  (h : f_X12_digest_b220 F k89 μ x1 x3 = some r) : G p l e rm_X12_digest s m args below meth c D A 6 (MQ below (QL D 24 ad (shR ks ad) A r) args s 0 0 A) 24 ad (shR ks ad) μ 220 [(0, .ref (ad 0)), (1, .long x1), (3, .int x3)] [] := by
  refine g_iinc 223 X 2 dX12_digest_220 ic1 rfl (by decide) rfl ?_
  refine g_goto 89 X dX12_digest_223 (by decide) ?_
  exact G.sub [1, 2, 0] rfl (hk89 _ _ _ h)
set_option maxRecDepth 100000 in
set_option maxHeartbeats 4000000 in
theorem b_X12_digest_177 {p : Program} {l : Launch} {e : Env} {s : State} {m : MethodId} {args : Array Value} {below : List Frame} {meth : Method} {c : Code} {D : va_G} {ks : Nat → ClassId} {A : Nat → Prop} {ad : Nat → Nat} (X : Cx p s m args meth c cX12_digest 6 RX12 D ks A 24 ad (shR ks ad)) (hr : meth.sig.returnType = (some .long)) {F : Nat} {r : Int64 × Mem} {k89 : Mem → Int64 → Int32 → Option (Int64 × Mem)} (hk89 : ∀ (μ : Mem) (x1 : Int64) (x3 : Int32), k89 μ x1 x3 = some r → G p l e rm_X12_digest s m args below meth c D A 6 (MQ below (QL D 24 ad (shR ks ad) A r) args s 0 0 A) 24 ad (shR ks ad) μ 89 [(0, .ref (ad 0)), (1, .long x1), (3, .int x3)] []) : ∀ n : Nat, ∀ (μ : Mem) (x1 : Int64) (x3 : Int32) (x5 : Int32), f_X12_digest_b177 F k89 n μ x1 x3 x5 = some r → G p l e rm_X12_digest s m args below meth c D A 6 (MQ below (QL D 24 ad (shR ks ad) A r) args s 0 0 A) 24 ad (shR ks ad) μ 177 [(0, .ref (ad 0)), (1, .long x1), (3, .int x3), (5, .int x5)] [] := by
  intro n
  induction n with
  | zero =>
    intro _ _ _ _ h
    cases h
  | succ n ih =>
    intro μ x1 x3 x5 h
    refine g_iload 179 X 3 dX12_digest_177 rfl rfl ?_
    refine g_aload_n 180 X 0 dX12_digest_179 rfl rfl ?_
    refine g_geti 183 X fl_X12_115_12 (o12 rfl) rfl dX12_digest_180 h rfl (fun v1 h => ?_)
    refine g_icmp_ge 220 186 X dX12_digest_183 (by decide) rfl h (fun h => ?_) (fun h => ?_)
    · exact G.sub [0, 1, 2] rfl (b_X12_digest_220 X hr hk89 _ _ _ h)
    · refine g_aload_n 187 X 0 dX12_digest_186 rfl rfl ?_
      refine g_iload 189 X 3 dX12_digest_187 rfl rfl ?_
      refine g_cv 192 h (fun q e => r_V X cd_X12_230_X12_findShare_X12 ⟨rfl, rfl⟩ ⟨Nat.le_of_ble_eq_true rfl, Nat.le_of_ble_eq_true rfl⟩ (c_X12_findShare X.2.2.2.2  e) PC_blind (pc_pre X) (g_recv X (o12 rfl) rfl) rfl rfl (Nat.le_of_ble_eq_true rfl) dX12_digest_189) rfl (fun _ μ2 h => ?_)
      refine g_ldc2 195 X m1468 dX12_digest_192 rfl ?_
      refine g_lload_n 196 X 1 dX12_digest_195 rfl rfl ?_
      refine g_lmul 197 X dX12_digest_196 rfl ?_
      refine g_aload_n 198 X 0 dX12_digest_197 rfl rfl ?_
      refine g_getl 201 X fl_X12_210_12 (o12 rfl) rfl dX12_digest_198 h rfl (fun v3 h => ?_)
      refine g_ladd 202 X dX12_digest_201 rfl ?_
      refine g_topl h (fun v4 h => ?_)
      refine g_lstore_n 203 X dX12_digest_202 (by decide) rfl ?_
      refine g_ldc2 206 X m1468 dX12_digest_203 rfl ?_
      refine g_lload_n 207 X 0 dX12_digest_206 rfl rfl ?_
      refine g_lmul 208 X dX12_digest_207 rfl ?_
      refine g_aload_n 209 X 1 dX12_digest_208 rfl rfl ?_
      refine g_getl 212 X fl_X12_214_12 (o12 rfl) rfl dX12_digest_209 h rfl (fun v5 h => ?_)
      refine g_ladd 213 X dX12_digest_212 rfl ?_
      refine g_topl h (fun v6 h => ?_)
      refine g_lstore_n 214 X dX12_digest_213 (by decide) rfl ?_
      refine g_iinc 217 X 3 dX12_digest_214 ic1 rfl (by decide) rfl ?_
      refine g_goto 177 X dX12_digest_217 (by decide) ?_
      exact G.sub [2, 1, 3, 0] rfl (ih _ _ _ _ h)
set_option maxRecDepth 100000 in
set_option maxHeartbeats 4000000 in
theorem b_X12_digest_154 {p : Program} {l : Launch} {e : Env} {s : State} {m : MethodId} {args : Array Value} {below : List Frame} {meth : Method} {c : Code} {D : va_G} {ks : Nat → ClassId} {A : Nat → Prop} {ad : Nat → Nat} (X : Cx p s m args meth c cX12_digest 6 RX12 D ks A 24 ad (shR ks ad)) (hr : meth.sig.returnType = (some .long)) {F : Nat} {r : Int64 × Mem} {k89 : Mem → Int64 → Int32 → Option (Int64 × Mem)} (hk89 : ∀ (μ : Mem) (x1 : Int64) (x3 : Int32), k89 μ x1 x3 = some r → G p l e rm_X12_digest s m args below meth c D A 6 (MQ below (QL D 24 ad (shR ks ad) A r) args s 0 0 A) 24 ad (shR ks ad) μ 89 [(0, .ref (ad 0)), (1, .long x1), (3, .int x3)] []) (μ : Mem) (x3 : Int32) (x4 : Int32) (z0 : Int64) (z1 : Int64)  (h : f_X12_digest_b154 F k89 μ x3 x4 z0 z1 = some r) : G p l e rm_X12_digest s m args below meth c D A 6 (MQ below (QL D 24 ad (shR ks ad) A r) args s 0 0 A) 24 ad (shR ks ad) μ 154 [(0, .ref (ad 0)), (3, .int x3), (4, .int x4)] [.long z0, .long z1] := by
  refine g_ladd 155 X dX12_digest_154 rfl ?_
  refine g_topl h (fun v1 h => ?_)
  refine g_lstore_n 156 X dX12_digest_155 (by decide) rfl ?_
  refine g_iload 158 X 3 dX12_digest_156 rfl rfl ?_
  refine g_if_eq 220 161 X dX12_digest_158 (by decide) rfl h (fun h => ?_) (fun h => ?_)
  · exact G.sub [1, 0, 2] rfl (b_X12_digest_220 X hr hk89 _ _ _ h)
  · refine g_ldc2 164 X m1468 dX12_digest_161 rfl ?_
    refine g_lload_n 165 X 0 dX12_digest_164 rfl rfl ?_
    refine g_lmul 166 X dX12_digest_165 rfl ?_
    refine g_aload_n 167 X 1 dX12_digest_166 rfl rfl ?_
    refine g_iconst 168 X dX12_digest_167 ic1 rfl ?_
    refine g_ci 171 h (fun q e => r_V X cd_X12_263_X12_lotsNow_X12 ⟨rfl, rfl⟩ ⟨Nat.le_of_ble_eq_true rfl, Nat.le_of_ble_eq_true rfl⟩ (c_X12_lotsNow X.2.2.2.2  e) PC_blind (pc_pre X) (g_recv X (o12 rfl) rfl) rfl rfl (Nat.le_of_ble_eq_true rfl) dX12_digest_168) rfl (fun v2 μ3 h => ?_)
    refine g_i2l 172 X dX12_digest_171 rfl ?_
    refine g_ladd 173 X dX12_digest_172 rfl ?_
    refine g_topl h (fun v4 h => ?_)
    refine g_lstore_n 174 X dX12_digest_173 (by decide) rfl ?_
    refine g_iconst 175 X dX12_digest_174 ic0 rfl ?_
    refine g_istore 177 X dX12_digest_175 (by decide) rfl ?_
    exact G.sub [2, 1, 3, 0] rfl (b_X12_digest_177 X hr hk89 F _ _ _ _ h)
set_option maxRecDepth 100000 in
set_option maxHeartbeats 4000000 in
theorem b_X12_digest_129 {p : Program} {l : Launch} {e : Env} {s : State} {m : MethodId} {args : Array Value} {below : List Frame} {meth : Method} {c : Code} {D : va_G} {ks : Nat → ClassId} {A : Nat → Prop} {ad : Nat → Nat} (X : Cx p s m args meth c cX12_digest 6 RX12 D ks A 24 ad (shR ks ad)) (hr : meth.sig.returnType = (some .long)) {F : Nat} {r : Int64 × Mem} {k89 : Mem → Int64 → Int32 → Option (Int64 × Mem)} (hk89 : ∀ (μ : Mem) (x1 : Int64) (x3 : Int32), k89 μ x1 x3 = some r → G p l e rm_X12_digest s m args below meth c D A 6 (MQ below (QL D 24 ad (shR ks ad) A r) args s 0 0 A) 24 ad (shR ks ad) μ 89 [(0, .ref (ad 0)), (1, .long x1), (3, .int x3)] []) (μ : Mem) (x3 : Int32) (x4 : Int32) (z0 : Int32) (z1 : Int64)  (h : f_X12_digest_b129 F k89 μ x3 x4 z0 z1 = some r) : G p l e rm_X12_digest s m args below meth c D A 6 (MQ below (QL D 24 ad (shR ks ad) A r) args s 0 0 A) 24 ad (shR ks ad) μ 129 [(0, .ref (ad 0)), (3, .int x3), (4, .int x4)] [.int z0, .long z1] := by
  refine g_i2l 130 X dX12_digest_129 rfl ?_
  refine g_ladd 131 X dX12_digest_130 rfl ?_
  refine g_topl h (fun v1 h => ?_)
  refine g_lstore_n 132 X dX12_digest_131 (by decide) rfl ?_
  refine g_ldc2 135 X m1468 dX12_digest_132 rfl ?_
  refine g_lload_n 136 X 0 dX12_digest_135 rfl rfl ?_
  refine g_lmul 137 X dX12_digest_136 rfl ?_
  refine g_iload 139 X 3 dX12_digest_137 rfl rfl ?_
  refine g_if_eq 149 142 X dX12_digest_139 (by decide) rfl h (fun h => ?_) (fun h => ?_)
  · refine g_bipush 151 X dX12_digest_149 bpm3 rfl ?_
    refine g_nl 154 h (fun q e => r_S X cd_X12_198_X12_no ⟨rfl, rfl⟩ ⟨Nat.le_of_ble_eq_true rfl, Nat.le_of_ble_eq_true rfl⟩ (c_X12_no e) PC_blind (pn_pre X) rfl rfl (Nat.le_of_ble_eq_true rfl) dX12_digest_151) rfl (fun v2 h => ?_)
    exact G.sub [1, 2, 3] rfl (b_X12_digest_154 X hr hk89 _ _ _ _ _ h)
  · refine g_aload_n 143 X 1 dX12_digest_142 rfl rfl ?_
    refine g_cl 146 h (fun q e => r_V X cd_X12_202_X12_drawsNow_X12 ⟨rfl, rfl⟩ ⟨Nat.le_of_ble_eq_true rfl, Nat.le_of_ble_eq_true rfl⟩ (c_X12_drawsNow X.2.2.2.2  e) PC_blind (pc_pre X) (g_recv X (o12 rfl) rfl) rfl rfl (Nat.le_of_ble_eq_true rfl) dX12_digest_143) rfl (fun v3 μ4 h => ?_)
    refine g_goto 154 X dX12_digest_146 (by decide) ?_
    exact G.sub [1, 2, 3] rfl (b_X12_digest_154 X hr hk89 _ _ _ _ _ h)
set_option maxRecDepth 100000 in
set_option maxHeartbeats 4000000 in
theorem b_X12_digest_89 {p : Program} {l : Launch} {e : Env} {s : State} {m : MethodId} {args : Array Value} {below : List Frame} {meth : Method} {c : Code} {D : va_G} {ks : Nat → ClassId} {A : Nat → Prop} {ad : Nat → Nat} (X : Cx p s m args meth c cX12_digest 6 RX12 D ks A 24 ad (shR ks ad)) (hr : meth.sig.returnType = (some .long)) {F : Nat} {r : Int64 × Mem} : ∀ n : Nat, ∀ (μ : Mem) (x1 : Int64) (x3 : Int32), f_X12_digest_b89 F  n μ x1 x3 = some r → G p l e rm_X12_digest s m args below meth c D A 6 (MQ below (QL D 24 ad (shR ks ad) A r) args s 0 0 A) 24 ad (shR ks ad) μ 89 [(0, .ref (ad 0)), (1, .long x1), (3, .int x3)] [] := by
  intro n
  induction n with
  | zero =>
    intro _ _ _ h
    cases h
  | succ n ih =>
    intro μ x1 x3 h
    refine g_iload_n 90 X 2 dX12_digest_89 rfl rfl ?_
    refine g_iconst 91 X dX12_digest_90 ic4 rfl ?_
    refine g_icmp_ge 226 94 X dX12_digest_91 (by decide) rfl h (fun h => ?_) (fun h => ?_)
    · refine g_lload_n 227 X 1 dX12_digest_226 rfl rfl ?_
      exact g_lret X hr dX12_digest_227 h
    · refine g_ldc2 97 X m1468 dX12_digest_94 rfl ?_
      refine g_lload_n 98 X 1 dX12_digest_97 rfl rfl ?_
      refine g_lmul 99 X dX12_digest_98 rfl ?_
      refine g_aload_n 100 X 0 dX12_digest_99 rfl rfl ?_
      refine g_iload_n 101 X 2 dX12_digest_100 rfl rfl ?_
      refine g_ci 104 h (fun q e => r_V X cd_X12_173_X12_reads_X12 ⟨rfl, rfl⟩ ⟨Nat.le_of_ble_eq_true rfl, Nat.le_of_ble_eq_true rfl⟩ (c_X12_reads X.2.2.2.2  e) PC_blind (pc_pre X) (g_recv X (o12 rfl) rfl) rfl rfl (Nat.le_of_ble_eq_true rfl) dX12_digest_101) rfl (fun v1 μ2 h => ?_)
      refine g_i2l 105 X dX12_digest_104 rfl ?_
      refine g_ladd 106 X dX12_digest_105 rfl ?_
      refine g_topl h (fun v3 h => ?_)
      refine g_lstore_n 107 X dX12_digest_106 (by decide) rfl ?_
      refine g_aload_n 108 X 1 dX12_digest_107 rfl rfl ?_
      refine g_iload_n 109 X 2 dX12_digest_108 rfl rfl ?_
      refine g_ci 112 h (fun q e => r_V X cd_X12_188_X12_canBe_X12 ⟨rfl, rfl⟩ ⟨Nat.le_of_ble_eq_true rfl, Nat.le_of_ble_eq_true rfl⟩ (c_X12_canBe X.2.2.2.2  e) PC_blind (pc_pre X) (g_recv X (o12 rfl) rfl) rfl rfl (Nat.le_of_ble_eq_true rfl) dX12_digest_109) rfl (fun v4 μ5 h => ?_)
      refine g_istore 114 X dX12_digest_112 (by decide) rfl ?_
      refine g_ldc2 117 X m1468 dX12_digest_114 rfl ?_
      refine g_lload_n 118 X 1 dX12_digest_117 rfl rfl ?_
      refine g_lmul 119 X dX12_digest_118 rfl ?_
      refine g_iload 121 X 0 dX12_digest_119 rfl rfl ?_
      refine g_if_eq 128 124 X dX12_digest_121 (by decide) rfl h (fun h => ?_) (fun h => ?_)
      · refine g_iconst 129 X dX12_digest_128 ic0 rfl ?_
        exact G.sub [2, 3, 0] rfl (b_X12_digest_129 X hr ih _ _ _ _ _ h)
      · refine g_iconst 125 X dX12_digest_124 ic1 rfl ?_
        refine g_goto 129 X dX12_digest_125 (by decide) ?_
        exact G.sub [2, 3, 0] rfl (b_X12_digest_129 X hr ih _ _ _ _ _ h)
set_option maxRecDepth 100000 in
set_option maxHeartbeats 4000000 in
theorem b_X12_digest_54 {p : Program} {l : Launch} {e : Env} {s : State} {m : MethodId} {args : Array Value} {below : List Frame} {meth : Method} {c : Code} {D : va_G} {ks : Nat → ClassId} {A : Nat → Prop} {ad : Nat → Nat} (X : Cx p s m args meth c cX12_digest 6 RX12 D ks A 24 ad (shR ks ad)) (hr : meth.sig.returnType = (some .long)) {F : Nat} {r : Int64 × Mem} {k43 : Mem → Int64 → Int32 → Option (Int64 × Mem)} (hk43 : ∀ (μ : Mem) (x1 : Int64) (x3 : Int32), k43 μ x1 x3 = some r → G p l e rm_X12_digest s m args below meth c D A 6 (MQ below (QL D 24 ad (shR ks ad) A r) args s 0 0 A) 24 ad (shR ks ad) μ 43 [(0, .ref (ad 0)), (1, .long x1), (3, .int x3)] []) : ∀ n : Nat, ∀ (μ : Mem) (x1 : Int64) (x3 : Int32) (x4 : Int32), f_X12_digest_b54 F k43 n μ x1 x3 x4 = some r → G p l e rm_X12_digest s m args below meth c D A 6 (MQ below (QL D 24 ad (shR ks ad) A r) args s 0 0 A) 24 ad (shR ks ad) μ 54 [(0, .ref (ad 0)), (1, .long x1), (3, .int x3), (4, .int x4)] [] := by
  intro n
  induction n with
  | zero =>
    intro _ _ _ _ h
    cases h
  | succ n ih =>
    intro μ x1 x3 x4 h
    refine g_iload 56 X 3 dX12_digest_54 rfl rfl ?_
    refine g_iconst 57 X dX12_digest_56 ic5 rfl ?_
    refine g_icmp_ge 81 60 X dX12_digest_57 (by decide) rfl h (fun h => ?_) (fun h => ?_)
    · refine g_iinc 84 X 2 dX12_digest_81 ic1 rfl (by decide) rfl ?_
      refine g_goto 43 X dX12_digest_84 (by decide) ?_
      exact G.sub [1, 2, 0] rfl (hk43 _ _ _ h)
    · refine g_ldc2 63 X m1468 dX12_digest_60 rfl ?_
      refine g_lload_n 64 X 1 dX12_digest_63 rfl rfl ?_
      refine g_lmul 65 X dX12_digest_64 rfl ?_
      refine g_aload_n 66 X 0 dX12_digest_65 rfl rfl ?_
      refine g_iload_n 67 X 2 dX12_digest_66 rfl rfl ?_
      refine g_iload 69 X 3 dX12_digest_67 rfl rfl ?_
      refine g_ci 72 h (fun q e => r_V X cd_X12_324_X12_about_X12 ⟨rfl, rfl⟩ ⟨Nat.le_of_ble_eq_true rfl, Nat.le_of_ble_eq_true rfl⟩ (c_X12_about X.2.2.2.2  e) PC_blind (pc_pre X) (g_recv X (o12 rfl) rfl) rfl rfl (Nat.le_of_ble_eq_true rfl) dX12_digest_69) rfl (fun v1 μ2 h => ?_)
      refine g_i2l 73 X dX12_digest_72 rfl ?_
      refine g_ladd 74 X dX12_digest_73 rfl ?_
      refine g_topl h (fun v3 h => ?_)
      refine g_lstore_n 75 X dX12_digest_74 (by decide) rfl ?_
      refine g_iinc 78 X 3 dX12_digest_75 ic1 rfl (by decide) rfl ?_
      refine g_goto 54 X dX12_digest_78 (by decide) ?_
      exact G.sub [2, 1, 3, 0] rfl (ih _ _ _ _ h)
set_option maxRecDepth 100000 in
set_option maxHeartbeats 4000000 in
theorem b_X12_digest_43 {p : Program} {l : Launch} {e : Env} {s : State} {m : MethodId} {args : Array Value} {below : List Frame} {meth : Method} {c : Code} {D : va_G} {ks : Nat → ClassId} {A : Nat → Prop} {ad : Nat → Nat} (X : Cx p s m args meth c cX12_digest 6 RX12 D ks A 24 ad (shR ks ad)) (hr : meth.sig.returnType = (some .long)) {F : Nat} {r : Int64 × Mem} : ∀ n : Nat, ∀ (μ : Mem) (x1 : Int64) (x3 : Int32), f_X12_digest_b43 F  n μ x1 x3 = some r → G p l e rm_X12_digest s m args below meth c D A 6 (MQ below (QL D 24 ad (shR ks ad) A r) args s 0 0 A) 24 ad (shR ks ad) μ 43 [(0, .ref (ad 0)), (1, .long x1), (3, .int x3)] [] := by
  intro n
  induction n with
  | zero =>
    intro _ _ _ h
    cases h
  | succ n ih =>
    intro μ x1 x3 h
    refine g_iload_n 44 X 2 dX12_digest_43 rfl rfl ?_
    refine g_aload_n 45 X 0 dX12_digest_44 rfl rfl ?_
    refine g_geti 48 X fl_X12_115_12 (o12 rfl) rfl dX12_digest_45 h rfl (fun v1 h => ?_)
    refine g_icmp_ge 87 51 X dX12_digest_48 (by decide) rfl h (fun h => ?_) (fun h => ?_)
    · refine g_iconst 88 X dX12_digest_87 ic0 rfl ?_
      refine g_istore_n 89 X dX12_digest_88 (by decide) rfl ?_
      exact G.sub [1, 2, 0] rfl (b_X12_digest_89 X hr  F _ _ _ h)
    · refine g_iconst 52 X dX12_digest_51 ic0 rfl ?_
      refine g_istore 54 X dX12_digest_52 (by decide) rfl ?_
      exact G.sub [1, 2, 3, 0] rfl (b_X12_digest_54 X hr ih F _ _ _ _ h)
set_option maxRecDepth 100000 in
set_option maxHeartbeats 4000000 in
theorem b_X12_digest_34 {p : Program} {l : Launch} {e : Env} {s : State} {m : MethodId} {args : Array Value} {below : List Frame} {meth : Method} {c : Code} {D : va_G} {ks : Nat → ClassId} {A : Nat → Prop} {ad : Nat → Nat} (X : Cx p s m args meth c cX12_digest 6 RX12 D ks A 24 ad (shR ks ad)) (hr : meth.sig.returnType = (some .long)) {F : Nat} {r : Int64 × Mem} {k6 : Mem → Int64 → Int32 → Option (Int64 × Mem)} (hk6 : ∀ (μ : Mem) (x1 : Int64) (x3 : Int32), k6 μ x1 x3 = some r → G p l e rm_X12_digest s m args below meth c D A 6 (MQ below (QL D 24 ad (shR ks ad) A r) args s 0 0 A) 24 ad (shR ks ad) μ 6 [(0, .ref (ad 0)), (1, .long x1), (3, .int x3)] []) (μ : Mem) (x3 : Int32) (z0 : Int64)  (h : f_X12_digest_b34 F k6 μ x3 z0 = some r) : G p l e rm_X12_digest s m args below meth c D A 6 (MQ below (QL D 24 ad (shR ks ad) A r) args s 0 0 A) 24 ad (shR ks ad) μ 34 [(0, .ref (ad 0)), (3, .int x3)] [.long z0] := by
  refine g_lstore_n 35 X dX12_digest_34 (by decide) rfl ?_
  refine g_iinc 38 X 2 dX12_digest_35 ic1 rfl (by decide) rfl ?_
  refine g_goto 6 X dX12_digest_38 (by decide) ?_
  exact G.sub [2, 1, 0] rfl (hk6 _ _ _ h)
set_option maxRecDepth 100000 in
set_option maxHeartbeats 4000000 in
theorem b_X12_digest_6 {p : Program} {l : Launch} {e : Env} {s : State} {m : MethodId} {args : Array Value} {below : List Frame} {meth : Method} {c : Code} {D : va_G} {ks : Nat → ClassId} {A : Nat → Prop} {ad : Nat → Nat} (X : Cx p s m args meth c cX12_digest 6 RX12 D ks A 24 ad (shR ks ad)) (hr : meth.sig.returnType = (some .long)) {F : Nat} {r : Int64 × Mem} : ∀ n : Nat, ∀ (μ : Mem) (x1 : Int64) (x3 : Int32), f_X12_digest_b6 F  n μ x1 x3 = some r → G p l e rm_X12_digest s m args below meth c D A 6 (MQ below (QL D 24 ad (shR ks ad) A r) args s 0 0 A) 24 ad (shR ks ad) μ 6 [(0, .ref (ad 0)), (1, .long x1), (3, .int x3)] [] := by
  intro n
  induction n with
  | zero =>
    intro _ _ _ h
    cases h
  | succ n ih =>
    intro μ x1 x3 h
    refine g_iload_n 7 X 2 dX12_digest_6 rfl rfl ?_
    refine g_bipush 9 X dX12_digest_7 bp10 rfl ?_
    refine g_icmp_ge 41 12 X dX12_digest_9 (by decide) rfl h (fun h => ?_) (fun h => ?_)
    · refine g_iconst 42 X dX12_digest_41 ic0 rfl ?_
      refine g_istore_n 43 X dX12_digest_42 (by decide) rfl ?_
      exact G.sub [1, 2, 0] rfl (b_X12_digest_43 X hr  F _ _ _ h)
    · refine g_iload_n 13 X 2 dX12_digest_12 rfl rfl ?_
      refine g_bipush 15 X dX12_digest_13 bp8 rfl ?_
      refine g_icmp_ne 22 18 X dX12_digest_15 (by decide) rfl h (fun h => ?_) (fun h => ?_)
      · refine g_ldc2 25 X m1468 dX12_digest_22 rfl ?_
        refine g_lload_n 26 X 1 dX12_digest_25 rfl rfl ?_
        refine g_lmul 27 X dX12_digest_26 rfl ?_
        refine g_aload_n 28 X 0 dX12_digest_27 rfl rfl ?_
        refine g_iload_n 29 X 2 dX12_digest_28 rfl rfl ?_
        refine g_ci 32 h (fun q e => r_V X cd_X12_321_X12_count_X12 ⟨rfl, rfl⟩ ⟨Nat.le_of_ble_eq_true rfl, Nat.le_of_ble_eq_true rfl⟩ (c_X12_count X.2.2.2.2  e) PC_blind (pc_pre X) (g_recv X (o12 rfl) rfl) rfl rfl (Nat.le_of_ble_eq_true rfl) dX12_digest_29) rfl (fun v1 μ2 h => ?_)
        refine g_i2l 33 X dX12_digest_32 rfl ?_
        refine g_ladd 34 X dX12_digest_33 rfl ?_
        exact G.sub [0, 2] rfl (b_X12_digest_34 X hr ih _ _ _ h)
      · refine g_lload_n 19 X 1 dX12_digest_18 rfl rfl ?_
        refine g_goto 34 X dX12_digest_19 (by decide) ?_
        exact G.sub [0, 2] rfl (b_X12_digest_34 X hr ih _ _ _ h)
set_option maxRecDepth 100000 in
set_option maxHeartbeats 4000000 in
theorem b_X12_digest_0 {p : Program} {l : Launch} {e : Env} {s : State} {m : MethodId} {args : Array Value} {below : List Frame} {meth : Method} {c : Code} {D : va_G} {ks : Nat → ClassId} {A : Nat → Prop} {ad : Nat → Nat} (X : Cx p s m args meth c cX12_digest 6 RX12 D ks A 24 ad (shR ks ad)) (hr : meth.sig.returnType = (some .long)) {F : Nat} {r : Int64 × Mem} (μ : Mem)  (h : f_X12_digest F  μ = some r) : G p l e rm_X12_digest s m args below meth c D A 6 (MQ below (QL D 24 ad (shR ks ad) A r) args s 0 0 A) 24 ad (shR ks ad) μ 0 [(0, .ref (ad 0))] [] := by
  refine g_ldc2 3 X m1467 dX12_digest_0 rfl ?_
  refine g_lstore_n 4 X dX12_digest_3 (by decide) rfl ?_
  refine g_iconst 5 X dX12_digest_4 ic0 rfl ?_
  refine g_istore_n 6 X dX12_digest_5 (by decide) rfl ?_
  exact G.sub [2, 1, 0] rfl (b_X12_digest_6 X hr  F _ _ _ h)
set_option maxRecDepth 100000 in
theorem c_X12_digest {l : Launch} {D : va_G} {ks : Nat → ClassId} {A : Nat → Prop} {ad : Nat → Nat} (hD : ∀ μ : Mem, va_D A (wsM 24 ad (shR ks ad) μ)) {F : Nat} {μ : Mem} {r : Int64 × Mem}  (h : f_X12_digest F μ = some r) : Met l yX12_digest (Cond.code yX12_digest cX12_digest 6 (some .long) :: wg) rm_X12_digest (PC D ks 24 ad (shR ks ad) μ [.ref (ad 0)]) (QL D 24 ad (shR ks ad) A r) 0 0 A := by
  refine met_of (by decide) (Nat.le_of_ble_eq_true rfl) hD ?_
  intro p e s m args below meth c X hr
  exact G.sub [0] rfl (b_X12_digest_0 X hr  _ h)
