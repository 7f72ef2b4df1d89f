abbrev rm_X11_count : Room := { frames := 1, cells := 0, slots := 0, locals := 20 }
set_option maxRecDepth 100000 in
set_option maxHeartbeats 4000000 in
theorem b_X11_count_0 {p : Program} {l : Launch} {e : Env} {s : State} {m : MethodId} {args : Array Value} {below : List Frame} {meth : Method} {c : Code} {D : va_G} {ks : Nat → ClassId} {A : Nat → Prop} {ad : Nat → Nat} (X : Cx p s m args meth c cX11_count 2 RX11 D ks A 75 ad (shC ks ad)) (hr : meth.sig.returnType = (some .int)) {F : Nat} {r : Int32 × Mem} (μ : Mem) (x1 : Int32)  (h : f_X11_count F  μ x1 = some r) : G p l e rm_X11_count s m args below meth c D A 2 (MQ below (QI D 75 ad (shC ks ad) A r) args s 0 0 A) 75 ad (shC ks ad) μ 0 [(0, .ref (ad 0)), (1, .int x1)] [] := by
  refine g_iload_n 1 X 1 dX11_count_0 rfl rfl ?_
  by_cases hc1 : x1 = 0
  · have h := if_t h hc1
    refine g_tin 56 X (off := 55) hc1 dX11_count_1 (by decide) (by decide) (by decide +kernel) (by decide) ?_
    refine g_aload_n 57 X 0 dX11_count_56 rfl rfl ?_
    refine g_getr 60 X fl_X11_10_11 (o11 rfl) rfl dX11_count_57 rfl ?_
    refine g_geti 63 X fl_X11_130_6 (o6 rfl) rfl dX11_count_60 h rfl (fun v2 h => ?_)
    exact g_iret X hr dX11_count_63 h
  · have h := if_f h hc1
    by_cases hc3 : x1 = 1
    · have h := if_t h hc3
      refine g_tin 64 X (off := 63) hc3 dX11_count_1 (by decide) (by decide) (by decide +kernel) (by decide) ?_
      refine g_aload_n 65 X 0 dX11_count_64 rfl rfl ?_
      refine g_getr 68 X fl_X11_10_11 (o11 rfl) rfl dX11_count_65 rfl ?_
      refine g_geti 71 X fl_X11_200_6 (o6 rfl) rfl dX11_count_68 h rfl (fun v4 h => ?_)
      refine g_ni 74 h (fun q e => r_S X cd_X11_119_J6_bitCount_0f7a4 ⟨rfl, rfl⟩ ⟨Nat.le_of_ble_eq_true rfl, Nat.le_of_ble_eq_true rfl⟩ (c_J6_bitCount_0f7a4 e) PC_blind (pn_pre X) rfl rfl (Nat.le_of_ble_eq_true rfl) dX11_count_71) rfl (fun v5 h => ?_)
      exact g_iret X hr dX11_count_74 h
    · have h := if_f h hc3
      by_cases hc6 : x1 = 2
      · have h := if_t h hc6
        refine g_tin 75 X (off := 74) hc6 dX11_count_1 (by decide) (by decide) (by decide +kernel) (by decide) ?_
        refine g_aload_n 76 X 0 dX11_count_75 rfl rfl ?_
        refine g_getr 79 X fl_X11_21_11 (o11 rfl) rfl dX11_count_76 rfl ?_
        refine g_geti 82 X fl_X11_288_0 (o0 rfl) rfl dX11_count_79 h rfl (fun v7 h => ?_)
        exact g_iret X hr dX11_count_82 h
      · have h := if_f h hc6
        by_cases hc8 : x1 = 3
        · have h := if_t h hc8
          refine g_tin 83 X (off := 82) hc8 dX11_count_1 (by decide) (by decide) (by decide +kernel) (by decide) ?_
          refine g_aload_n 84 X 0 dX11_count_83 rfl rfl ?_
          refine g_getr 87 X fl_X11_21_11 (o11 rfl) rfl dX11_count_84 rfl ?_
          refine g_geti 90 X fl_X11_290_0 (o0 rfl) rfl dX11_count_87 h rfl (fun v9 h => ?_)
          exact g_iret X hr dX11_count_90 h
        · have h := if_f h hc8
          by_cases hc10 : x1 = 4
          · have h := if_t h hc10
            refine g_tin 91 X (off := 90) hc10 dX11_count_1 (by decide) (by decide) (by decide +kernel) (by decide) ?_
            refine g_aload_n 92 X 0 dX11_count_91 rfl rfl ?_
            refine g_getr 95 X fl_X11_27_11 (o11 rfl) rfl dX11_count_92 rfl ?_
            refine g_iload_n 96 X 1 dX11_count_95 rfl rfl ?_
            refine g_iconst 97 X dX11_count_96 ic4 rfl ?_
            refine g_isub 98 X dX11_count_97 rfl ?_
            refine g_aald (fn := fun p => 18 + 9 * p) 99 X arP rfl dX11_count_98 h rfl (fun hv11 h => ?_)
            refine g_geti 102 X fl_X11_293_5 (o5 (kPl hv11)) rfl dX11_count_99 h rfl (fun v12 h => ?_)
            exact g_iret X hr dX11_count_102 h
          · have h := if_f h hc10
            by_cases hc13 : x1 = 5
            · have h := if_t h hc13
              refine g_tin 91 X (off := 90) hc13 dX11_count_1 (by decide) (by decide) (by decide +kernel) (by decide) ?_
              refine g_aload_n 92 X 0 dX11_count_91 rfl rfl ?_
              refine g_getr 95 X fl_X11_27_11 (o11 rfl) rfl dX11_count_92 rfl ?_
              refine g_iload_n 96 X 1 dX11_count_95 rfl rfl ?_
              refine g_iconst 97 X dX11_count_96 ic4 rfl ?_
              refine g_isub 98 X dX11_count_97 rfl ?_
              refine g_aald (fn := fun p => 18 + 9 * p) 99 X arP rfl dX11_count_98 h rfl (fun hv14 h => ?_)
              refine g_geti 102 X fl_X11_293_5 (o5 (kPl hv14)) rfl dX11_count_99 h rfl (fun v15 h => ?_)
              exact g_iret X hr dX11_count_102 h
            · have h := if_f h hc13
              by_cases hc16 : x1 = 6
              · have h := if_t h hc16
                refine g_tin 91 X (off := 90) hc16 dX11_count_1 (by decide) (by decide) (by decide +kernel) (by decide) ?_
                refine g_aload_n 92 X 0 dX11_count_91 rfl rfl ?_
                refine g_getr 95 X fl_X11_27_11 (o11 rfl) rfl dX11_count_92 rfl ?_
                refine g_iload_n 96 X 1 dX11_count_95 rfl rfl ?_
                refine g_iconst 97 X dX11_count_96 ic4 rfl ?_
                refine g_isub 98 X dX11_count_97 rfl ?_
                refine g_aald (fn := fun p => 18 + 9 * p) 99 X arP rfl dX11_count_98 h rfl (fun hv17 h => ?_)
                refine g_geti 102 X fl_X11_293_5 (o5 (kPl hv17)) rfl dX11_count_99 h rfl (fun v18 h => ?_)
                exact g_iret X hr dX11_count_102 h
              · have h := if_f h hc16
                by_cases hc19 : x1 = 7
                · have h := if_t h hc19
                  refine g_tin 91 X (off := 90) hc19 dX11_count_1 (by decide) (by decide) (by decide +kernel) (by decide) ?_
                  refine g_aload_n 92 X 0 dX11_count_91 rfl rfl ?_
                  refine g_getr 95 X fl_X11_27_11 (o11 rfl) rfl dX11_count_92 rfl ?_
                  refine g_iload_n 96 X 1 dX11_count_95 rfl rfl ?_
                  refine g_iconst 97 X dX11_count_96 ic4 rfl ?_
                  refine g_isub 98 X dX11_count_97 rfl ?_
                  refine g_aald (fn := fun p => 18 + 9 * p) 99 X arP rfl dX11_count_98 h rfl (fun hv20 h => ?_)
                  refine g_geti 102 X fl_X11_293_5 (o5 (kPl hv20)) rfl dX11_count_99 h rfl (fun v21 h => ?_)
                  exact g_iret X hr dX11_count_102 h
                · have h := if_f h hc19
                  by_cases hc22 : x1 = 8
                  · have h := if_t h hc22
                    refine g_tin 103 X (off := 102) hc22 dX11_count_1 (by decide) (by decide) (by decide +kernel) (by decide) ?_
                    refine g_aload_n 104 X 0 dX11_count_103 rfl rfl ?_
                    refine g_geti 107 X fl_X11_269_11 (o11 rfl) rfl dX11_count_104 h rfl (fun v23 h => ?_)
                    exact g_iret X hr dX11_count_107 h
                  · have h := if_f h hc22
                    by_cases hc24 : x1 = 9
                    · have h := if_t h hc24
                      refine g_tin 108 X (off := 107) hc24 dX11_count_1 (by decide) (by decide) (by decide +kernel) (by decide) ?_
                      refine g_aload_n 109 X 0 dX11_count_108 rfl rfl ?_
                      refine g_getr 112 X fl_X11_10_11 (o11 rfl) rfl dX11_count_109 rfl ?_
                      refine g_geti 115 X fl_X11_294_6 (o6 rfl) rfl dX11_count_112 h rfl (fun v25 h => ?_)
                      refine g_ni 118 h (fun q e => r_S X cd_X11_119_J6_bitCount_0f7a4 ⟨rfl, rfl⟩ ⟨Nat.le_of_ble_eq_true rfl, Nat.le_of_ble_eq_true rfl⟩ (c_J6_bitCount_0f7a4 e) PC_blind (pn_pre X) rfl rfl (Nat.le_of_ble_eq_true rfl) dX11_count_115) rfl (fun v26 h => ?_)
                      exact g_iret X hr dX11_count_118 h
                    · have h := if_f h hc24
                      have ehc1 := ne_ti hc1 (k := 0) (by decide)
                      have ehc3 := ne_ti hc3 (k := 1) (by decide)
                      have ehc6 := ne_ti hc6 (k := 2) (by decide)
                      have ehc8 := ne_ti hc8 (k := 3) (by decide)
                      have ehc10 := ne_ti hc10 (k := 4) (by decide)
                      have ehc13 := ne_ti hc13 (k := 5) (by decide)
                      have ehc16 := ne_ti hc16 (k := 6) (by decide)
                      have ehc19 := ne_ti hc19 (k := 7) (by decide)
                      have ehc22 := ne_ti hc22 (k := 8) (by decide)
                      have ehc24 := ne_ti hc24 (k := 9) (by decide)
                      refine g_tout 119 X dX11_count_1 (by omega) (by decide) ?_
                      refine g_bipush 121 X dX11_count_119 bpm2 rfl ?_
                      exact g_iret X hr dX11_count_121 h
set_option maxRecDepth 100000 in
theorem c_X11_count {l : Launch} {D : va_G} {ks : Nat → ClassId} {A : Nat → Prop} {ad : Nat → Nat} (hD : ∀ μ : Mem, va_D A (wsM 75 ad (shC ks ad) μ)) {F : Nat} {μ : Mem} {x1 : Int32} {r : Int32 × Mem}  (h : f_X11_count F μ x1 = some r) : Met l yX11_count (Cond.code yX11_count cX11_count 2 (some .int) :: wg) rm_X11_count (PC D ks 75 ad (shC ks ad) μ [.ref (ad 0), .int x1]) (QI D 75 ad (shC ks ad) A r) 0 0 A := by
  refine met_of (by decide) (Nat.le_of_ble_eq_true rfl) hD ?_
  intro p e s m args below meth c X hr
  exact G.sub [0, 1] rfl (b_X11_count_0 X hr  _ _ h)
abbrev rm_X11_digestOfPlan : Room := { frames := 5, cells := 0, slots := 0, locals := 111 }
set_option maxRecDepth 100000 in
set_option maxHeartbeats 4000000 in
theorem b_X11_digestOfPlan_74 {p : Program} {l : Launch} {e : Env} {s : State} {m : MethodId} {args : Array Value} {below : List Frame} {meth : Method} {c : Code} {D : va_G} {ks : Nat → ClassId} {A : Nat → Prop} {ad : Nat → Nat} (X : Cx p s m args meth c cX11_digestOfPlan 7 RX11 D ks A 75 ad (shC ks ad)) (hr : meth.sig.returnType = (some .long)) {F : Nat} {r : Int64 × Mem} : ∀ n : Nat, ∀ (μ : Mem) (x3 : Int32) (x4 : Int64) (x6 : Int32), f_X11_digestOfPlan_b74 F  n μ x3 x4 x6 = some r → G p l e rm_X11_digestOfPlan s m args below meth c D A 7 (MQ below (QL D 75 ad (shC ks ad) A r) args s 0 0 A) 75 ad (shC ks ad) μ 74 [(0, .ref (ad 0)), (3, .int x3), (4, .long x4), (6, .int x6)] [] := by
  intro n
  induction n with
  | zero =>
    intro _ _ _ _ h
    cases h
  | succ n ih =>
    intro μ x3 x4 x6 h
    refine g_iload 76 X 3 dX11_digestOfPlan_74 rfl rfl ?_
    refine g_aload_n 77 X 0 dX11_digestOfPlan_76 rfl rfl ?_
    refine g_getr 80 X fl_X11_10_11 (o11 rfl) rfl dX11_digestOfPlan_77 rfl ?_
    refine g_geti 83 X fl_X11_130_6 (o6 rfl) rfl dX11_digestOfPlan_80 h rfl (fun v1 h => ?_)
    refine g_icmp_ge 126 86 X dX11_digestOfPlan_83 (by decide) rfl h (fun h => ?_) (fun h => ?_)
    · refine g_lload 128 X 2 dX11_digestOfPlan_126 rfl rfl ?_
      exact g_lret X hr dX11_digestOfPlan_128 h
    · refine g_ldc2 89 X m1009 dX11_digestOfPlan_86 rfl ?_
      refine g_lload 91 X 2 dX11_digestOfPlan_89 rfl rfl ?_
      refine g_lmul 92 X dX11_digestOfPlan_91 rfl ?_
      refine g_aload_n 93 X 0 dX11_digestOfPlan_92 rfl rfl ?_
      refine g_iload_n 94 X 1 dX11_digestOfPlan_93 rfl rfl ?_
      refine g_iload 96 X 3 dX11_digestOfPlan_94 rfl rfl ?_
      refine g_iconst 97 X dX11_digestOfPlan_96 ic0 rfl ?_
      refine g_cl 100 h (fun q e => r_V X cd_X11_322_X11_share_X11 ⟨rfl, rfl⟩ ⟨Nat.le_of_ble_eq_true rfl, Nat.le_of_ble_eq_true rfl⟩ (c_X11_share X.2.2.2.2  e) PC_blind (pc_pre X) (g_recv X (o11 rfl) rfl) rfl rfl (Nat.le_of_ble_eq_true rfl) dX11_digestOfPlan_97) rfl (fun v2 μ3 h => ?_)
      refine g_ladd 101 X dX11_digestOfPlan_100 rfl ?_
      refine g_topl h (fun v4 h => ?_)
      refine g_lstore 103 X dX11_digestOfPlan_101 (by decide) rfl ?_
      refine g_ldc2 106 X m1009 dX11_digestOfPlan_103 rfl ?_
      refine g_lload 108 X 0 dX11_digestOfPlan_106 rfl rfl ?_
      refine g_lmul 109 X dX11_digestOfPlan_108 rfl ?_
      refine g_aload_n 110 X 1 dX11_digestOfPlan_109 rfl rfl ?_
      refine g_iload_n 111 X 2 dX11_digestOfPlan_110 rfl rfl ?_
      refine g_iload 113 X 3 dX11_digestOfPlan_111 rfl rfl ?_
      refine g_iconst 114 X dX11_digestOfPlan_113 ic1 rfl ?_
      refine g_cl 117 h (fun q e => r_V X cd_X11_322_X11_share_X11 ⟨rfl, rfl⟩ ⟨Nat.le_of_ble_eq_true rfl, Nat.le_of_ble_eq_true rfl⟩ (c_X11_share X.2.2.2.2  e) PC_blind (pc_pre X) (g_recv X (o11 rfl) rfl) rfl rfl (Nat.le_of_ble_eq_true rfl) dX11_digestOfPlan_114) rfl (fun v5 μ6 h => ?_)
      refine g_ladd 118 X dX11_digestOfPlan_117 rfl ?_
      refine g_topl h (fun v7 h => ?_)
      refine g_lstore 120 X dX11_digestOfPlan_118 (by decide) rfl ?_
      refine g_iinc 123 X 3 dX11_digestOfPlan_120 ic1 rfl (by decide) rfl ?_
      refine g_goto 74 X dX11_digestOfPlan_123 (by decide) ?_
      exact G.sub [2, 3, 1, 0] rfl (ih _ _ _ _ h)
set_option maxRecDepth 100000 in
set_option maxHeartbeats 4000000 in
theorem b_X11_digestOfPlan_0 {p : Program} {l : Launch} {e : Env} {s : State} {m : MethodId} {args : Array Value} {below : List Frame} {meth : Method} {c : Code} {D : va_G} {ks : Nat → ClassId} {A : Nat → Prop} {ad : Nat → Nat} (X : Cx p s m args meth c cX11_digestOfPlan 7 RX11 D ks A 75 ad (shC ks ad)) (hr : meth.sig.returnType = (some .long)) {F : Nat} {r : Int64 × Mem} (μ : Mem) (x1 : Int64) (x3 : Int32)  (h : f_X11_digestOfPlan F  μ x1 x3 = some r) : G p l e rm_X11_digestOfPlan s m args below meth c D A 7 (MQ below (QL D 75 ad (shC ks ad) A r) args s 0 0 A) 75 ad (shC ks ad) μ 0 [(0, .ref (ad 0)), (1, .long x1), (3, .int x3)] [] := by
  refine g_ldc2 3 X m1009 dX11_digestOfPlan_0 rfl ?_
  refine g_lload_n 4 X 1 dX11_digestOfPlan_3 rfl rfl ?_
  refine g_lmul 5 X dX11_digestOfPlan_4 rfl ?_
  refine g_aload_n 6 X 0 dX11_digestOfPlan_5 rfl rfl ?_
  refine g_iload_n 7 X 2 dX11_digestOfPlan_6 rfl rfl ?_
  refine g_ci 10 h (fun q e => r_V X cd_X11_310_X11_fault_X11 ⟨rfl, rfl⟩ ⟨Nat.le_of_ble_eq_true rfl, Nat.le_of_ble_eq_true rfl⟩ (c_X11_fault X.2.2.2.2  e) PC_blind (pc_pre X) (g_recv X (o11 rfl) rfl) rfl rfl (Nat.le_of_ble_eq_true rfl) dX11_digestOfPlan_7) rfl (fun v1 μ2 h => ?_)
  refine g_i2l 11 X dX11_digestOfPlan_10 rfl ?_
  refine g_ladd 12 X dX11_digestOfPlan_11 rfl ?_
  refine g_topl h (fun v3 h => ?_)
  refine g_lstore 14 X dX11_digestOfPlan_12 (by decide) rfl ?_
  refine g_ldc2 17 X m1009 dX11_digestOfPlan_14 rfl ?_
  refine g_lload 19 X 0 dX11_digestOfPlan_17 rfl rfl ?_
  refine g_lmul 20 X dX11_digestOfPlan_19 rfl ?_
  refine g_aload_n 21 X 1 dX11_digestOfPlan_20 rfl rfl ?_
  refine g_iload_n 22 X 3 dX11_digestOfPlan_21 rfl rfl ?_
  refine g_ci 25 h (fun q e => r_V X cd_X11_313_X11_can_X11 ⟨rfl, rfl⟩ ⟨Nat.le_of_ble_eq_true rfl, Nat.le_of_ble_eq_true rfl⟩ (c_X11_can X.2.2.2.2  e) PC_blind (pc_pre X) (g_recv X (o11 rfl) rfl) rfl rfl (Nat.le_of_ble_eq_true rfl) dX11_digestOfPlan_22) rfl (fun v4 μ5 h => ?_)
  refine g_i2l 26 X dX11_digestOfPlan_25 rfl ?_
  refine g_ladd 27 X dX11_digestOfPlan_26 rfl ?_
  refine g_topl h (fun v6 h => ?_)
  refine g_lstore 29 X dX11_digestOfPlan_27 (by decide) rfl ?_
  refine g_ldc2 32 X m1009 dX11_digestOfPlan_29 rfl ?_
  refine g_lload 34 X 0 dX11_digestOfPlan_32 rfl rfl ?_
  refine g_lmul 35 X dX11_digestOfPlan_34 rfl ?_
  refine g_aload_n 36 X 1 dX11_digestOfPlan_35 rfl rfl ?_
  refine g_iload_n 37 X 3 dX11_digestOfPlan_36 rfl rfl ?_
  refine g_cl 40 h (fun q e => r_V X cd_X11_316_X11_draws_X11 ⟨rfl, rfl⟩ ⟨Nat.le_of_ble_eq_true rfl, Nat.le_of_ble_eq_true rfl⟩ (c_X11_draws X.2.2.2.2  e) PC_blind (pc_pre X) (g_recv X (o11 rfl) rfl) rfl rfl (Nat.le_of_ble_eq_true rfl) dX11_digestOfPlan_37) rfl (fun v7 μ8 h => ?_)
  refine g_ladd 41 X dX11_digestOfPlan_40 rfl ?_
  refine g_topl h (fun v9 h => ?_)
  refine g_lstore 43 X dX11_digestOfPlan_41 (by decide) rfl ?_
  refine g_aload_n 44 X 1 dX11_digestOfPlan_43 rfl rfl ?_
  refine g_iload_n 45 X 3 dX11_digestOfPlan_44 rfl rfl ?_
  refine g_ci 48 h (fun q e => r_V X cd_X11_313_X11_can_X11 ⟨rfl, rfl⟩ ⟨Nat.le_of_ble_eq_true rfl, Nat.le_of_ble_eq_true rfl⟩ (c_X11_can X.2.2.2.2  e) PC_blind (pc_pre X) (g_recv X (o11 rfl) rfl) rfl rfl (Nat.le_of_ble_eq_true rfl) dX11_digestOfPlan_45) rfl (fun v10 μ11 h => ?_)
  refine g_iconst 49 X dX11_digestOfPlan_48 ic1 rfl ?_
  refine g_icmp_eq 55 52 X dX11_digestOfPlan_49 (by decide) rfl h (fun h => ?_) (fun h => ?_)
  · refine g_ldc2 58 X m1009 dX11_digestOfPlan_55 rfl ?_
    refine g_lload 60 X 0 dX11_digestOfPlan_58 rfl rfl ?_
    refine g_lmul 61 X dX11_digestOfPlan_60 rfl ?_
    refine g_aload_n 62 X 1 dX11_digestOfPlan_61 rfl rfl ?_
    refine g_iload_n 63 X 3 dX11_digestOfPlan_62 rfl rfl ?_
    refine g_iconst 64 X dX11_digestOfPlan_63 ic1 rfl ?_
    refine g_ci 67 h (fun q e => r_V X cd_X11_319_X11_lots_X11 ⟨rfl, rfl⟩ ⟨Nat.le_of_ble_eq_true rfl, Nat.le_of_ble_eq_true rfl⟩ (c_X11_lots X.2.2.2.2  e) PC_blind (pc_pre X) (g_recv X (o11 rfl) rfl) rfl rfl (Nat.le_of_ble_eq_true rfl) dX11_digestOfPlan_64) rfl (fun v12 μ13 h => ?_)
    refine g_i2l 68 X dX11_digestOfPlan_67 rfl ?_
    refine g_ladd 69 X dX11_digestOfPlan_68 rfl ?_
    refine g_topl h (fun v14 h => ?_)
    refine g_lstore 71 X dX11_digestOfPlan_69 (by decide) rfl ?_
    refine g_iconst 72 X dX11_digestOfPlan_71 ic0 rfl ?_
    refine g_istore 74 X dX11_digestOfPlan_72 (by decide) rfl ?_
    exact G.sub [2, 4, 1, 0] rfl (b_X11_digestOfPlan_74 X hr  F _ _ _ _ h)
  · refine g_lload 54 X 0 dX11_digestOfPlan_52 rfl rfl ?_
    exact g_lret X hr dX11_digestOfPlan_54 h
set_option maxRecDepth 100000 in
theorem c_X11_digestOfPlan {l : Launch} {D : va_G} {ks : Nat → ClassId} {A : Nat → Prop} {ad : Nat → Nat} (hD : ∀ μ : Mem, va_D A (wsM 75 ad (shC ks ad) μ)) {F : Nat} {μ : Mem} {x1 : Int64} {x3 : Int32} {r : Int64 × Mem}  (h : f_X11_digestOfPlan F μ x1 x3 = some r) : Met l yX11_digestOfPlan (Cond.code yX11_digestOfPlan cX11_digestOfPlan 7 (some .long) :: wg) rm_X11_digestOfPlan (PC D ks 75 ad (shC ks ad) μ [.ref (ad 0), .long x1, .int x3]) (QL D 75 ad (shC ks ad) A r) 0 0 A := by
  refine met_of (by decide) (Nat.le_of_ble_eq_true rfl) hD ?_
  intro p e s m args below meth c X hr
  exact G.sub [0, 1, 2] rfl (b_X11_digestOfPlan_0 X hr  _ _ _ h)
abbrev rm_X11_digest : Room := { frames := 6, cells := 0, slots := 0, locals := 137 }
set_option maxRecDepth 100000 in
set_option maxHeartbeats 4000000 in
theorem b_X11_digest_88 {p : Program} {l : Launch} {e : Env} {s : State} {m : MethodId} {args : Array Value} {below : List Frame} {meth : Method} {c : Code} {D : va_G} {ks : Nat → ClassId} {A : Nat → Prop} {ad : Nat → Nat} (X : Cx p s m args meth c cX11_digest 5 RX11 D ks A 75 ad (shC ks ad)) (hr : meth.sig.returnType = (some .long)) {F : Nat} {r : Int64 × Mem} : ∀ n : Nat, ∀ (μ : Mem) (x1 : Int64) (x3 : Int32), f_X11_digest_b88 F  n μ x1 x3 = some r → G p l e rm_X11_digest s m args below meth c D A 5 (MQ below (QL D 75 ad (shC ks ad) A r) args s 0 0 A) 75 ad (shC ks ad) μ 88 [(0, .ref (ad 0)), (1, .long x1), (3, .int x3)] [] := by
  intro n
  induction n with
  | zero =>
    intro _ _ _ h
    cases h
  | succ n ih =>
    intro μ x1 x3 h
    refine g_iload_n 89 X 2 dX11_digest_88 rfl rfl ?_
    refine g_iconst 90 X dX11_digest_89 ic4 rfl ?_
    refine g_icmp_ge 106 93 X dX11_digest_90 (by decide) rfl h (fun h => ?_) (fun h => ?_)
    · refine g_lload_n 107 X 1 dX11_digest_106 rfl rfl ?_
      exact g_lret X hr dX11_digest_107 h
    · refine g_aload_n 94 X 0 dX11_digest_93 rfl rfl ?_
      refine g_lload_n 95 X 1 dX11_digest_94 rfl rfl ?_
      refine g_iload_n 96 X 2 dX11_digest_95 rfl rfl ?_
      refine g_cl 99 h (fun q e => r_V X cd_X11_306_X11_digestOfPlan_X11 ⟨rfl, rfl⟩ ⟨Nat.le_of_ble_eq_true rfl, Nat.le_of_ble_eq_true rfl⟩ (c_X11_digestOfPlan X.2.2.2.2  e) PC_blind (pc_pre X) (g_recv X (o11 rfl) rfl) rfl rfl (Nat.le_of_ble_eq_true rfl) dX11_digest_96) rfl (fun v1 μ2 h => ?_)
      refine g_lstore_n 100 X dX11_digest_99 (by decide) rfl ?_
      refine g_iinc 103 X 2 dX11_digest_100 ic1 rfl (by decide) rfl ?_
      refine g_goto 88 X dX11_digest_103 (by decide) ?_
      exact G.sub [2, 1, 0] rfl (ih _ _ _ h)
set_option maxRecDepth 100000 in
set_option maxHeartbeats 4000000 in
theorem b_X11_digest_53 {p : Program} {l : Launch} {e : Env} {s : State} {m : MethodId} {args : Array Value} {below : List Frame} {meth : Method} {c : Code} {D : va_G} {ks : Nat → ClassId} {A : Nat → Prop} {ad : Nat → Nat} (X : Cx p s m args meth c cX11_digest 5 RX11 D ks A 75 ad (shC ks ad)) (hr : meth.sig.returnType = (some .long)) {F : Nat} {r : Int64 × Mem} {k39 : Mem → Int64 → Int32 → Option (Int64 × Mem)} (hk39 : ∀ (μ : Mem) (x1 : Int64) (x3 : Int32), k39 μ x1 x3 = some r → G p l e rm_X11_digest s m args below meth c D A 5 (MQ below (QL D 75 ad (shC ks ad) A r) args s 0 0 A) 75 ad (shC ks ad) μ 39 [(0, .ref (ad 0)), (1, .long x1), (3, .int x3)] []) : ∀ n : Nat, ∀ (μ : Mem) (x1 : Int64) (x3 : Int32) (x4 : Int32), f_X11_digest_b53 F k39 n μ x1 x3 x4 = some r → G p l e rm_X11_digest s m args below meth c D A 5 (MQ below (QL D 75 ad (shC ks ad) A r) args s 0 0 A) 75 ad (shC ks ad) μ 53 [(0, .ref (ad 0)), (1, .long x1), (3, .int x3), (4, .int x4)] [] := by
  intro n
  induction n with
  | zero =>
    intro _ _ _ _ h
    cases h
  | succ n ih =>
    intro μ x1 x3 x4 h
    refine g_iload 55 X 3 dX11_digest_53 rfl rfl ?_
    refine g_iconst 56 X dX11_digest_55 ic4 rfl ?_
    refine g_icmp_gt 80 59 X dX11_digest_56 (by decide) rfl h (fun h => ?_) (fun h => ?_)
    · refine g_iinc 83 X 2 dX11_digest_80 ic1 rfl (by decide) rfl ?_
      refine g_goto 39 X dX11_digest_83 (by decide) ?_
      exact G.sub [1, 2, 0] rfl (hk39 _ _ _ h)
    · refine g_ldc2 62 X m1009 dX11_digest_59 rfl ?_
      refine g_lload_n 63 X 1 dX11_digest_62 rfl rfl ?_
      refine g_lmul 64 X dX11_digest_63 rfl ?_
      refine g_aload_n 65 X 0 dX11_digest_64 rfl rfl ?_
      refine g_iload_n 66 X 2 dX11_digest_65 rfl rfl ?_
      refine g_iload 68 X 3 dX11_digest_66 rfl rfl ?_
      refine g_ci 71 h (fun q e => r_V X cd_X11_303_X11_about_X11 ⟨rfl, rfl⟩ ⟨Nat.le_of_ble_eq_true rfl, Nat.le_of_ble_eq_true rfl⟩ (c_X11_about X.2.2.2.2  e) PC_blind (pc_pre X) (g_recv X (o11 rfl) rfl) rfl rfl (Nat.le_of_ble_eq_true rfl) dX11_digest_68) rfl (fun v1 μ2 h => ?_)
      refine g_i2l 72 X dX11_digest_71 rfl ?_
      refine g_ladd 73 X dX11_digest_72 rfl ?_
      refine g_topl h (fun v3 h => ?_)
      refine g_lstore_n 74 X dX11_digest_73 (by decide) rfl ?_
      refine g_iinc 77 X 3 dX11_digest_74 ic1 rfl (by decide) rfl ?_
      refine g_goto 53 X dX11_digest_77 (by decide) ?_
      exact G.sub [2, 1, 3, 0] rfl (ih _ _ _ _ h)
set_option maxRecDepth 100000 in
set_option maxHeartbeats 4000000 in
theorem b_X11_digest_39 {p : Program} {l : Launch} {e : Env} {s : State} {m : MethodId} {args : Array Value} {below : List Frame} {meth : Method} {c : Code} {D : va_G} {ks : Nat → ClassId} {A : Nat → Prop} {ad : Nat → Nat} (X : Cx p s m args meth c cX11_digest 5 RX11 D ks A 75 ad (shC ks ad)) (hr : meth.sig.returnType = (some .long)) {F : Nat} {r : Int64 × Mem} : ∀ n : Nat, ∀ (μ : Mem) (x1 : Int64) (x3 : Int32), f_X11_digest_b39 F  n μ x1 x3 = some r → G p l e rm_X11_digest s m args below meth c D A 5 (MQ below (QL D 75 ad (shC ks ad) A r) args s 0 0 A) 75 ad (shC ks ad) μ 39 [(0, .ref (ad 0)), (1, .long x1), (3, .int x3)] [] := by
  intro n
  induction n with
  | zero =>
    intro _ _ _ h
    cases h
  | succ n ih =>
    intro μ x1 x3 h
    refine g_iload_n 40 X 2 dX11_digest_39 rfl rfl ?_
    refine g_aload_n 41 X 0 dX11_digest_40 rfl rfl ?_
    refine g_getr 44 X fl_X11_10_11 (o11 rfl) rfl dX11_digest_41 rfl ?_
    refine g_geti 47 X fl_X11_130_6 (o6 rfl) rfl dX11_digest_44 h rfl (fun v1 h => ?_)
    refine g_icmp_ge 86 50 X dX11_digest_47 (by decide) rfl h (fun h => ?_) (fun h => ?_)
    · refine g_iconst 87 X dX11_digest_86 ic0 rfl ?_
      refine g_istore_n 88 X dX11_digest_87 (by decide) rfl ?_
      exact G.sub [1, 2, 0] rfl (b_X11_digest_88 X hr  F _ _ _ h)
    · refine g_iconst 51 X dX11_digest_50 ic0 rfl ?_
      refine g_istore 53 X dX11_digest_51 (by decide) rfl ?_
      exact G.sub [1, 2, 3, 0] rfl (b_X11_digest_53 X hr ih F _ _ _ _ h)
set_option maxRecDepth 100000 in
set_option maxHeartbeats 4000000 in
theorem b_X11_digest_31 {p : Program} {l : Launch} {e : Env} {s : State} {m : MethodId} {args : Array Value} {below : List Frame} {meth : Method} {c : Code} {D : va_G} {ks : Nat → ClassId} {A : Nat → Prop} {ad : Nat → Nat} (X : Cx p s m args meth c cX11_digest 5 RX11 D ks A 75 ad (shC ks ad)) (hr : meth.sig.returnType = (some .long)) {F : Nat} {r : Int64 × Mem} {k6 : Mem → Int64 → Int32 → Option (Int64 × Mem)} (hk6 : ∀ (μ : Mem) (x1 : Int64) (x3 : Int32), k6 μ x1 x3 = some r → G p l e rm_X11_digest s m args below meth c D A 5 (MQ below (QL D 75 ad (shC ks ad) A r) args s 0 0 A) 75 ad (shC ks ad) μ 6 [(0, .ref (ad 0)), (1, .long x1), (3, .int x3)] []) (μ : Mem) (x1 : Int64) (x3 : Int32)  (h : f_X11_digest_b31 F k6 μ x1 x3 = some r) : G p l e rm_X11_digest s m args below meth c D A 5 (MQ below (QL D 75 ad (shC ks ad) A r) args s 0 0 A) 75 ad (shC ks ad) μ 31 [(0, .ref (ad 0)), (1, .long x1), (3, .int x3)] [] := by
  refine g_iinc 34 X 2 dX11_digest_31 ic1 rfl (by decide) rfl ?_
  refine g_goto 6 X dX11_digest_34 (by decide) ?_
  exact G.sub [1, 2, 0] rfl (hk6 _ _ _ h)
set_option maxRecDepth 100000 in
set_option maxHeartbeats 4000000 in
theorem b_X11_digest_6 {p : Program} {l : Launch} {e : Env} {s : State} {m : MethodId} {args : Array Value} {below : List Frame} {meth : Method} {c : Code} {D : va_G} {ks : Nat → ClassId} {A : Nat → Prop} {ad : Nat → Nat} (X : Cx p s m args meth c cX11_digest 5 RX11 D ks A 75 ad (shC ks ad)) (hr : meth.sig.returnType = (some .long)) {F : Nat} {r : Int64 × Mem} : ∀ n : Nat, ∀ (μ : Mem) (x1 : Int64) (x3 : Int32), f_X11_digest_b6 F  n μ x1 x3 = some r → G p l e rm_X11_digest s m args below meth c D A 5 (MQ below (QL D 75 ad (shC ks ad) A r) args s 0 0 A) 75 ad (shC ks ad) μ 6 [(0, .ref (ad 0)), (1, .long x1), (3, .int x3)] [] := by
  intro n
  induction n with
  | zero =>
    intro _ _ _ h
    cases h
  | succ n ih =>
    intro μ x1 x3 h
    refine g_iload_n 7 X 2 dX11_digest_6 rfl rfl ?_
    refine g_bipush 9 X dX11_digest_7 bp9 rfl ?_
    refine g_icmp_gt 37 12 X dX11_digest_9 (by decide) rfl h (fun h => ?_) (fun h => ?_)
    · refine g_iconst 38 X dX11_digest_37 ic0 rfl ?_
      refine g_istore_n 39 X dX11_digest_38 (by decide) rfl ?_
      exact G.sub [1, 2, 0] rfl (b_X11_digest_39 X hr  F _ _ _ h)
    · refine g_iload_n 13 X 2 dX11_digest_12 rfl rfl ?_
      refine g_bipush 15 X dX11_digest_13 bp8 rfl ?_
      refine g_icmp_eq 31 18 X dX11_digest_15 (by decide) rfl h (fun h => ?_) (fun h => ?_)
      · exact G.sub [0, 1, 2] rfl (b_X11_digest_31 X hr ih _ _ _ h)
      · refine g_ldc2 21 X m1009 dX11_digest_18 rfl ?_
        refine g_lload_n 22 X 1 dX11_digest_21 rfl rfl ?_
        refine g_lmul 23 X dX11_digest_22 rfl ?_
        refine g_aload_n 24 X 0 dX11_digest_23 rfl rfl ?_
        refine g_iload_n 25 X 2 dX11_digest_24 rfl rfl ?_
        refine g_ci 28 h (fun q e => r_V X cd_X11_301_X11_count_X11 ⟨rfl, rfl⟩ ⟨Nat.le_of_ble_eq_true rfl, Nat.le_of_ble_eq_true rfl⟩ (c_X11_count X.2.2.2.2  e) PC_blind (pc_pre X) (g_recv X (o11 rfl) rfl) rfl rfl (Nat.le_of_ble_eq_true rfl) dX11_digest_25) rfl (fun v1 μ2 h => ?_)
        refine g_i2l 29 X dX11_digest_28 rfl ?_
        refine g_ladd 30 X dX11_digest_29 rfl ?_
        refine g_topl h (fun v3 h => ?_)
        refine g_lstore_n 31 X dX11_digest_30 (by decide) rfl ?_
        exact G.sub [1, 0, 2] rfl (b_X11_digest_31 X hr ih _ _ _ h)
set_option maxRecDepth 100000 in
set_option maxHeartbeats 4000000 in
theorem b_X11_digest_0 {p : Program} {l : Launch} {e : Env} {s : State} {m : MethodId} {args : Array Value} {below : List Frame} {meth : Method} {c : Code} {D : va_G} {ks : Nat → ClassId} {A : Nat → Prop} {ad : Nat → Nat} (X : Cx p s m args meth c cX11_digest 5 RX11 D ks A 75 ad (shC ks ad)) (hr : meth.sig.returnType = (some .long)) {F : Nat} {r : Int64 × Mem} (μ : Mem)  (h : f_X11_digest F  μ = some r) : G p l e rm_X11_digest s m args below meth c D A 5 (MQ below (QL D 75 ad (shC ks ad) A r) args s 0 0 A) 75 ad (shC ks ad) μ 0 [(0, .ref (ad 0))] [] := by
  refine g_ldc2 3 X m1008 dX11_digest_0 rfl ?_
  refine g_lstore_n 4 X dX11_digest_3 (by decide) rfl ?_
  refine g_iconst 5 X dX11_digest_4 ic0 rfl ?_
  refine g_istore_n 6 X dX11_digest_5 (by decide) rfl ?_
  exact G.sub [2, 1, 0] rfl (b_X11_digest_6 X hr  F _ _ _ h)
set_option maxRecDepth 100000 in
theorem c_X11_digest {l : Launch} {D : va_G} {ks : Nat → ClassId} {A : Nat → Prop} {ad : Nat → Nat} (hD : ∀ μ : Mem, va_D A (wsM 75 ad (shC ks ad) μ)) {F : Nat} {μ : Mem} {r : Int64 × Mem}  (h : f_X11_digest F μ = some r) : Met l yX11_digest (Cond.code yX11_digest cX11_digest 5 (some .long) :: wg) rm_X11_digest (PC D ks 75 ad (shC ks ad) μ [.ref (ad 0)]) (QL D 75 ad (shC ks ad) A r) 0 0 A := by
  refine met_of (by decide) (Nat.le_of_ble_eq_true rfl) hD ?_
  intro p e s m args below meth c X hr
  exact G.sub [0] rfl (b_X11_digest_0 X hr  _ h)
abbrev rm_X12_in : Room := { frames := 0, cells := 0, slots := 0, locals := 0 }
set_option maxRecDepth 100000 in
set_option maxHeartbeats 4000000 in
theorem b_X12_in_0 {p : Program} {l : Launch} {e : Env} {s : State} {m : MethodId} {args : Array Value} {below : List Frame} {meth : Method} {c : Code} {D : va_G} {ks : Nat → ClassId} (X : Cx p s m args meth c cX12_in 6 RX12 D ks (fun _ => False) 0 ad0 sh0) (hr : meth.sig.returnType = (some .boolean)) {F : Nat} {r : Int32} (x0 : Int64) (x2 : Int64) (x4 : Int64)  (h : f_X12_in F  x0 x2 x4 = some r) : G p l e rm_X12_in s m args below meth c D (fun _ => False) 6 (MQ below (QNi D r) args s 0 0 (fun _ => False)) 0 ad0 sh0 μ0 0 [(0, .long x0), (2, .long x2), (4, .long x4)] [] := by
  refine g_lload_n 1 X 0 dX12_in_0 rfl rfl ?_
  refine g_lload_n 2 X 1 dX12_in_1 rfl rfl ?_
  refine g_lcmp 3 X dX12_in_2 rfl ?_
  refine g_if_lt 17 6 X dX12_in_3 (by decide) rfl h (fun h => ?_) (fun h => ?_)
  · refine g_iconst 18 X dX12_in_17 ic0 rfl ?_
    exact gn_zret X hr nb0 dX12_in_18 h
  · refine g_lload_n 7 X 0 dX12_in_6 rfl rfl ?_
    refine g_lload 9 X 2 dX12_in_7 rfl rfl ?_
    refine g_lcmp 10 X dX12_in_9 rfl ?_
    refine g_if_gt 17 13 X dX12_in_10 (by decide) rfl h (fun h => ?_) (fun h => ?_)
    · refine g_iconst 18 X dX12_in_17 ic0 rfl ?_
      exact gn_zret X hr nb0 dX12_in_18 h
    · refine g_iconst 14 X dX12_in_13 ic1 rfl ?_
      refine g_goto 18 X dX12_in_14 (by decide) ?_
      exact gn_zret X hr nb1 dX12_in_18 h
set_option maxRecDepth 100000 in
theorem c_X12_in {l : Launch} {D : va_G} {ks : Nat → ClassId} {F : Nat} {x0 : Int64} {x2 : Int64} {x4 : Int64} {r : Int32}  (h : f_X12_in F x0 x2 x4 = some r) : Met l yX12_in (Cond.code yX12_in cX12_in 6 (some .boolean) :: wg) rm_X12_in (PN D ks [.long x0, .long x2, .long x4]) (QNi D r) 0 0 (fun _ => False) := by
  refine met_of (by decide) (Nat.le_of_ble_eq_true rfl) d0 ?_
  intro p e s m args below meth c X hr
  exact G.sub [0, 1, 2] rfl (b_X12_in_0 X hr  _ _ _ h)
abbrev rm_X12_no : Room := { frames := 0, cells := 0, slots := 0, locals := 0 }
set_option maxRecDepth 100000 in
set_option maxHeartbeats 4000000 in
theorem b_X12_no_0 {p : Program} {l : Launch} {e : Env} {s : State} {m : MethodId} {args : Array Value} {below : List Frame} {meth : Method} {c : Code} {D : va_G} {ks : Nat → ClassId} (X : Cx p s m args meth c cX12_no 1 RX12 D ks (fun _ => False) 0 ad0 sh0) (hr : meth.sig.returnType = (some .long)) {F : Nat} {r : Int64} (x0 : Int32)  (h : f_X12_no F  x0 = some r) : G p l e rm_X12_no s m args below meth c D (fun _ => False) 1 (MQ below (QNl D r) args s 0 0 (fun _ => False)) 0 ad0 sh0 μ0 0 [(0, .int x0)] [] := by
  refine g_ldc2 3 X m1276 dX12_no_0 rfl ?_
  refine g_iload_n 4 X 0 dX12_no_3 rfl rfl ?_
  refine g_i2l 5 X dX12_no_4 rfl ?_
  refine g_lsub 6 X dX12_no_5 rfl ?_
  exact gn_lret X hr dX12_no_6 h
set_option maxRecDepth 100000 in
theorem c_X12_no {l : Launch} {D : va_G} {ks : Nat → ClassId} {F : Nat} {x0 : Int32} {r : Int64}  (h : f_X12_no F x0 = some r) : Met l yX12_no (Cond.code yX12_no cX12_no 1 (some .long) :: wg) rm_X12_no (PN D ks [.int x0]) (QNl D r) 0 0 (fun _ => False) := by
  refine met_of (by decide) (Nat.le_of_ble_eq_true rfl) d0 ?_
  intro p e s m args below meth c X hr
  exact G.sub [0] rfl (b_X12_no_0 X hr  _ h)
abbrev rm_X12_met : Room := { frames := 0, cells := 0, slots := 0, locals := 0 }
set_option maxRecDepth 100000 in
set_option maxHeartbeats 4000000 in
theorem b_X12_met_0 {p : Program} {l : Launch} {e : Env} {s : State} {m : MethodId} {args : Array Value} {below : List Frame} {meth : Method} {c : Code} {D : va_G} {ks : Nat → ClassId} {A : Nat → Prop} {ad : Nat → Nat} (X : Cx p s m args meth c cX12_met 2 RX12 D ks A 24 ad (shR ks ad)) (hr : meth.sig.returnType = (some .int)) {F : Nat} {r : Int32 × Mem} (μ : Mem) (x1 : Int32)  (h : f_X12_met F  μ x1 = some r) : G p l e rm_X12_met s m args below meth c D A 2 (MQ below (QI D 24 ad (shR ks ad) A r) args s 0 0 A) 24 ad (shR ks ad) μ 0 [(0, .ref (ad 0)), (1, .int x1)] [] := by
  refine g_aload_n 1 X 0 dX12_met_0 rfl rfl ?_
  refine g_iload_n 2 X 1 dX12_met_1 rfl rfl ?_
  refine g_puti 5 X fp_X12_87_12 (o12 rfl) rfl (Nat.le_of_ble_eq_true rfl) rfl rfl dX12_met_2 h rfl (fun μ1 h => ?_)
  refine g_bipush 7 X dX12_met_5 bpm10 rfl ?_
  refine g_iload_n 8 X 1 dX12_met_7 rfl rfl ?_
  refine g_isub 9 X dX12_met_8 rfl ?_
  exact g_iret X hr dX12_met_9 h
set_option maxRecDepth 100000 in
theorem c_X12_met {l : Launch} {D : va_G} {ks : Nat → ClassId} {A : Nat → Prop} {ad : Nat → Nat} (hD : ∀ μ : Mem, va_D A (wsM 24 ad (shR ks ad) μ)) {F : Nat} {μ : Mem} {x1 : Int32} {r : Int32 × Mem}  (h : f_X12_met F μ x1 = some r) : Met l yX12_met (Cond.code yX12_met cX12_met 2 (some .int) :: wg) rm_X12_met (PC D ks 24 ad (shR ks ad) μ [.ref (ad 0), .int x1]) (QI D 24 ad (shR ks ad) A r) 0 0 A := by
  refine met_of (by decide) (Nat.le_of_ble_eq_true rfl) hD ?_
  intro p e s m args below meth c X hr
  exact G.sub [0, 1] rfl (b_X12_met_0 X hr  _ _ h)
abbrev rm_X12_isSheet : Room := { frames := 1, cells := 0, slots := 0, locals := 25 }
set_option maxRecDepth 100000 in
set_option maxHeartbeats 4000000 in
theorem b_X12_isSheet_0 {p : Program} {l : Launch} {e : Env} {s : State} {m : MethodId} {args : Array Value} {below : List Frame} {meth : Method} {c : Code} {D : va_G} {ks : Nat → ClassId} (X : Cx p s m args meth c cX12_isSheet 1 RX12 D ks (fun _ => False) 0 ad0 sh0) (hr : meth.sig.returnType = (some .boolean)) {F : Nat} {r : Int32} (x0 : Int32)  (h : f_X12_isSheet F  x0 = some r) : G p l e rm_X12_isSheet s m args below meth c D (fun _ => False) 1 (MQ below (QNi D r) args s 0 0 (fun _ => False)) 0 ad0 sh0 μ0 0 [(0, .int x0)] [] := by
  refine g_iload_n 1 X 0 dX12_isSheet_0 rfl rfl ?_
  refine g_i2l 2 X dX12_isSheet_1 rfl ?_
  refine g_lconst 3 X dX12_isSheet_2 lc0 rfl ?_
  refine g_ldc2 6 X m1144 dX12_isSheet_3 rfl ?_
  refine g_ni 9 h (fun q e => r_S X cd_X12_92_X12_in ⟨rfl, rfl⟩ ⟨Nat.le_of_ble_eq_true rfl, Nat.le_of_ble_eq_true rfl⟩ (c_X12_in e) PC_blind (pn_pre X) rfl rfl (Nat.le_of_ble_eq_true rfl) dX12_isSheet_6) rfl (fun v1 h => ?_)
  obtain ⟨hz, h⟩ := zk_some h
  exact gn_zret X hr hz dX12_isSheet_9 h
set_option maxRecDepth 100000 in
theorem c_X12_isSheet {l : Launch} {D : va_G} {ks : Nat → ClassId} {F : Nat} {x0 : Int32} {r : Int32}  (h : f_X12_isSheet F x0 = some r) : Met l yX12_isSheet (Cond.code yX12_isSheet cX12_isSheet 1 (some .boolean) :: wg) rm_X12_isSheet (PN D ks [.int x0]) (QNi D r) 0 0 (fun _ => False) := by
  refine met_of (by decide) (Nat.le_of_ble_eq_true rfl) d0 ?_
  intro p e s m args below meth c X hr
  exact G.sub [0] rfl (b_X12_isSheet_0 X hr  _ h)
abbrev rm_X12_sheet : Room := { frames := 2, cells := 0, slots := 0, locals := 45 }
set_option maxRecDepth 100000 in
set_option maxHeartbeats 4000000 in
theorem b_X12_sheet_55 {p : Program} {l : Launch} {e : Env} {s : State} {m : MethodId} {args : Array Value} {below : List Frame} {meth : Method} {c : Code} {D : va_G} {ks : Nat → ClassId} {A : Nat → Prop} {ad : Nat → Nat} (X : Cx p s m args meth c cX12_sheet 5 RX12 D ks A 24 ad (shR ks ad)) (hr : meth.sig.returnType = (some .int)) {F : Nat} {r : Int32 × Mem} : ∀ n : Nat, ∀ (μ : Mem) (x1 : Int32) (x3 : Int32) (x4 : Int32), f_X12_sheet_b55 F  n μ x1 x3 x4 = some r → G p l e rm_X12_sheet s m args below meth c D A 5 (MQ below (QI D 24 ad (shR ks ad) A r) args s 0 0 A) 24 ad (shR ks ad) μ 55 [(0, .ref (ad 0)), (1, .int x1), (3, .int x3), (4, .int x4)] [] := by
  intro n
  induction n with
  | zero =>
    intro _ _ _ _ h
    cases h
  | succ n ih =>
    intro μ x1 x3 x4 h
    refine g_iload 57 X 3 dX12_sheet_55 rfl rfl ?_
    refine g_iload_n 58 X 2 dX12_sheet_57 rfl rfl ?_
    refine g_icmp_ge 80 61 X dX12_sheet_58 (by decide) rfl h (fun h => ?_) (fun h => ?_)
    · refine g_iload_n 81 X 2 dX12_sheet_80 rfl rfl ?_
      exact g_iret X hr dX12_sheet_81 h
    · refine g_aload_n 62 X 0 dX12_sheet_61 rfl rfl ?_
      refine g_getr 65 X fl_X12_16_12 (o12 rfl) rfl dX12_sheet_62 rfl ?_
      refine g_bipush 67 X dX12_sheet_65 bp90 rfl ?_
      refine g_iload_n 68 X 1 dX12_sheet_67 rfl rfl ?_
      refine g_imul 69 X dX12_sheet_68 rfl ?_
      refine g_iload 71 X 3 dX12_sheet_69 rfl rfl ?_
      refine g_iadd 72 X dX12_sheet_71 rfl ?_
      refine g_iconst 73 X dX12_sheet_72 ic0 rfl ?_
      refine g_iast 74 X (aiR (n := 360) (by decide) rfl) dX12_sheet_73 h rfl (fun μ1 h => ?_)
      refine g_iinc 77 X 3 dX12_sheet_74 ic1 rfl (by decide) rfl ?_
      refine g_goto 55 X dX12_sheet_77 (by decide) ?_
      exact G.sub [1, 2, 3, 0] rfl (ih _ _ _ _ h)
set_option maxRecDepth 100000 in
set_option maxHeartbeats 4000000 in
theorem b_X12_sheet_0 {p : Program} {l : Launch} {e : Env} {s : State} {m : MethodId} {args : Array Value} {below : List Frame} {meth : Method} {c : Code} {D : va_G} {ks : Nat → ClassId} {A : Nat → Prop} {ad : Nat → Nat} (X : Cx p s m args meth c cX12_sheet 5 RX12 D ks A 24 ad (shR ks ad)) (hr : meth.sig.returnType = (some .int)) {F : Nat} {r : Int32 × Mem} (μ : Mem) (x1 : Int32) (x2 : Int32) (x3 : Int32)  (h : f_X12_sheet F  μ x1 x2 x3 = some r) : G p l e rm_X12_sheet s m args below meth c D A 5 (MQ below (QI D 24 ad (shR ks ad) A r) args s 0 0 A) 24 ad (shR ks ad) μ 0 [(0, .ref (ad 0)), (1, .int x1), (2, .int x2), (3, .int x3)] [] := by
  refine g_iload_n 1 X 1 dX12_sheet_0 rfl rfl ?_
  refine g_ni 4 h (fun q e => r_S X cd_X12_96_X12_isSheet ⟨rfl, rfl⟩ ⟨Nat.le_of_ble_eq_true rfl, Nat.le_of_ble_eq_true rfl⟩ (c_X12_isSheet e) PC_blind (pn_pre X) rfl rfl (Nat.le_of_ble_eq_true rfl) dX12_sheet_1) rfl (fun v1 h => ?_)
  refine g_if_eq 25 7 X dX12_sheet_4 (by decide) rfl h (fun h => ?_) (fun h => ?_)
  · refine g_bipush 27 X dX12_sheet_25 bpm2 rfl ?_
    exact g_iret X hr dX12_sheet_27 h
  · refine g_iload_n 8 X 2 dX12_sheet_7 rfl rfl ?_
    refine g_i2l 9 X dX12_sheet_8 rfl ?_
    refine g_lconst 10 X dX12_sheet_9 lc0 rfl ?_
    refine g_ldc2 13 X m1148 dX12_sheet_10 rfl ?_
    refine g_ni 16 h (fun q e => r_S X cd_X12_92_X12_in ⟨rfl, rfl⟩ ⟨Nat.le_of_ble_eq_true rfl, Nat.le_of_ble_eq_true rfl⟩ (c_X12_in e) PC_blind (pn_pre X) rfl rfl (Nat.le_of_ble_eq_true rfl) dX12_sheet_13) rfl (fun v2 h => ?_)
    refine g_if_eq 25 19 X dX12_sheet_16 (by decide) rfl h (fun h => ?_) (fun h => ?_)
    · refine g_bipush 27 X dX12_sheet_25 bpm2 rfl ?_
      exact g_iret X hr dX12_sheet_27 h
    · refine g_iload_n 20 X 3 dX12_sheet_19 rfl rfl ?_
      refine g_bipush 22 X dX12_sheet_20 bp90 rfl ?_
      refine g_icmp_le 28 25 X dX12_sheet_22 (by decide) rfl h (fun h => ?_) (fun h => ?_)
      · refine g_iload_n 29 X 3 dX12_sheet_28 rfl rfl ?_
        refine g_if_ge 38 32 X dX12_sheet_29 (by decide) rfl h (fun h => ?_) (fun h => ?_)
        · refine g_aload_n 39 X 0 dX12_sheet_38 rfl rfl ?_
          refine g_getr 42 X fl_X12_7_12 (o12 rfl) rfl dX12_sheet_39 rfl ?_
          refine g_iload_n 43 X 1 dX12_sheet_42 rfl rfl ?_
          refine g_iload_n 44 X 2 dX12_sheet_43 rfl rfl ?_
          refine g_iast 45 X (aiR (n := 4) (by decide) rfl) dX12_sheet_44 h rfl (fun μ3 h => ?_)
          refine g_aload_n 46 X 0 dX12_sheet_45 rfl rfl ?_
          refine g_getr 49 X fl_X12_13_12 (o12 rfl) rfl dX12_sheet_46 rfl ?_
          refine g_iload_n 50 X 1 dX12_sheet_49 rfl rfl ?_
          refine g_iload_n 51 X 3 dX12_sheet_50 rfl rfl ?_
          refine g_iast 52 X (aiR (n := 4) (by decide) rfl) dX12_sheet_51 h rfl (fun μ4 h => ?_)
          refine g_iconst 53 X dX12_sheet_52 ic0 rfl ?_
          refine g_istore 55 X dX12_sheet_53 (by decide) rfl ?_
          exact G.sub [1, 2, 4, 0] rfl (b_X12_sheet_55 X hr  F _ _ _ _ h)
        · refine g_aload_n 33 X 0 dX12_sheet_32 rfl rfl ?_
          refine g_iconst 34 X dX12_sheet_33 ic5 rfl ?_
          refine g_ci 37 h (fun q e => r_V X cd_X12_102_X12_met_X12 ⟨rfl, rfl⟩ ⟨Nat.le_of_ble_eq_true rfl, Nat.le_of_ble_eq_true rfl⟩ (c_X12_met X.2.2.2.2  e) PC_blind (pc_pre X) (g_recv X (o12 rfl) rfl) rfl rfl (Nat.le_of_ble_eq_true rfl) dX12_sheet_34) rfl (fun v5 μ6 h => ?_)
          exact g_iret X hr dX12_sheet_37 h
      · refine g_bipush 27 X dX12_sheet_25 bpm2 rfl ?_
        exact g_iret X hr dX12_sheet_27 h
set_option maxRecDepth 100000 in
theorem c_X12_sheet {l : Launch} {D : va_G} {ks : Nat → ClassId} {A : Nat → Prop} {ad : Nat → Nat} (hD : ∀ μ : Mem, va_D A (wsM 24 ad (shR ks ad) μ)) {F : Nat} {μ : Mem} {x1 : Int32} {x2 : Int32} {x3 : Int32} {r : Int32 × Mem}  (h : f_X12_sheet F μ x1 x2 x3 = some r) : Met l yX12_sheet (Cond.code yX12_sheet cX12_sheet 5 (some .int) :: wg) rm_X12_sheet (PC D ks 24 ad (shR ks ad) μ [.ref (ad 0), .int x1, .int x2, .int x3]) (QI D 24 ad (shR ks ad) A r) 0 0 A := by
  refine met_of (by decide) (Nat.le_of_ble_eq_true rfl) hD ?_
  intro p e s m args below meth c X hr
  exact G.sub [0, 1, 2, 3] rfl (b_X12_sheet_0 X hr  _ _ _ _ h)
abbrev rm_X12_lose : Room := { frames := 2, cells := 0, slots := 0, locals := 45 }
set_option maxRecDepth 100000 in
set_option maxHeartbeats 4000000 in
theorem b_X12_lose_0 {p : Program} {l : Launch} {e : Env} {s : State} {m : MethodId} {args : Array Value} {below : List Frame} {meth : Method} {c : Code} {D : va_G} {ks : Nat → ClassId} {A : Nat → Prop} {ad : Nat → Nat} (X : Cx p s m args meth c cX12_lose 2 RX12 D ks A 24 ad (shR ks ad)) (hr : meth.sig.returnType = (some .int)) {F : Nat} {r : Int32 × Mem} (μ : Mem) (x1 : Int32)  (h : f_X12_lose F  μ x1 = some r) : G p l e rm_X12_lose s m args below meth c D A 2 (MQ below (QI D 24 ad (shR ks ad) A r) args s 0 0 A) 24 ad (shR ks ad) μ 0 [(0, .ref (ad 0)), (1, .int x1)] [] := by
  refine g_iload_n 1 X 1 dX12_lose_0 rfl rfl ?_
  refine g_ni 4 h (fun q e => r_S X cd_X12_96_X12_isSheet ⟨rfl, rfl⟩ ⟨Nat.le_of_ble_eq_true rfl, Nat.le_of_ble_eq_true rfl⟩ (c_X12_isSheet e) PC_blind (pn_pre X) rfl rfl (Nat.le_of_ble_eq_true rfl) dX12_lose_1) rfl (fun v1 h => ?_)
  refine g_if_ne 10 7 X dX12_lose_4 (by decide) rfl h (fun h => ?_) (fun h => ?_)
  · refine g_aload_n 11 X 0 dX12_lose_10 rfl rfl ?_
    refine g_getr 14 X fl_X12_7_12 (o12 rfl) rfl dX12_lose_11 rfl ?_
    refine g_iload_n 15 X 1 dX12_lose_14 rfl rfl ?_
    refine g_iald 16 X (aiR (n := 4) (by decide) rfl) dX12_lose_15 h rfl (fun v2 h => ?_)
    refine g_if_ge 25 19 X dX12_lose_16 (by decide) rfl h (fun h => ?_) (fun h => ?_)
    · refine g_aload_n 26 X 0 dX12_lose_25 rfl rfl ?_
      refine g_getr 29 X fl_X12_7_12 (o12 rfl) rfl dX12_lose_26 rfl ?_
      refine g_iload_n 30 X 1 dX12_lose_29 rfl rfl ?_
      refine g_iconst 31 X dX12_lose_30 icm1 rfl ?_
      refine g_iast 32 X (aiR (n := 4) (by decide) rfl) dX12_lose_31 h rfl (fun μ3 h => ?_)
      refine g_aload_n 33 X 0 dX12_lose_32 rfl rfl ?_
      refine g_getr 36 X fl_X12_13_12 (o12 rfl) rfl dX12_lose_33 rfl ?_
      refine g_iload_n 37 X 1 dX12_lose_36 rfl rfl ?_
      refine g_iald 38 X (aiR (n := 4) (by decide) rfl) dX12_lose_37 h rfl (fun v4 h => ?_)
      exact g_iret X hr dX12_lose_38 h
    · refine g_aload_n 20 X 0 dX12_lose_19 rfl rfl ?_
      refine g_iconst 21 X dX12_lose_20 ic1 rfl ?_
      refine g_ci 24 h (fun q e => r_V X cd_X12_102_X12_met_X12 ⟨rfl, rfl⟩ ⟨Nat.le_of_ble_eq_true rfl, Nat.le_of_ble_eq_true rfl⟩ (c_X12_met X.2.2.2.2  e) PC_blind (pc_pre X) (g_recv X (o12 rfl) rfl) rfl rfl (Nat.le_of_ble_eq_true rfl) dX12_lose_21) rfl (fun v5 μ6 h => ?_)
      exact g_iret X hr dX12_lose_24 h
  · refine g_bipush 9 X dX12_lose_7 bpm2 rfl ?_
    exact g_iret X hr dX12_lose_9 h
set_option maxRecDepth 100000 in
theorem c_X12_lose {l : Launch} {D : va_G} {ks : Nat → ClassId} {A : Nat → Prop} {ad : Nat → Nat} (hD : ∀ μ : Mem, va_D A (wsM 24 ad (shR ks ad) μ)) {F : Nat} {μ : Mem} {x1 : Int32} {r : Int32 × Mem}  (h : f_X12_lose F μ x1 = some r) : Met l yX12_lose (Cond.code yX12_lose cX12_lose 2 (some .int) :: wg) rm_X12_lose (PC D ks 24 ad (shR ks ad) μ [.ref (ad 0), .int x1]) (QI D 24 ad (shR ks ad) A r) 0 0 A := by
  refine met_of (by decide) (Nat.le_of_ble_eq_true rfl) hD ?_
  intro p e s m args below meth c X hr
  exact G.sub [0, 1] rfl (b_X12_lose_0 X hr  _ _ h)
abbrev rm_X12_lacks : Room := { frames := 1, cells := 0, slots := 0, locals := 25 }
set_option maxRecDepth 100000 in
set_option maxHeartbeats 4000000 in
theorem b_X12_lacks_0 {p : Program} {l : Launch} {e : Env} {s : State} {m : MethodId} {args : Array Value} {below : List Frame} {meth : Method} {c : Code} {D : va_G} {ks : Nat → ClassId} {A : Nat → Prop} {ad : Nat → Nat} (X : Cx p s m args meth c cX12_lacks 4 RX12 D ks A 24 ad (shR ks ad)) (hr : meth.sig.returnType = (some .int)) {F : Nat} {r : Int32 × Mem} (μ : Mem) (x1 : Int32) (x2 : Int32) (x3 : Int32)  (h : f_X12_lacks F  μ x1 x2 x3 = some r) : G p l e rm_X12_lacks s m args below meth c D A 4 (MQ below (QI D 24 ad (shR ks ad) A r) args s 0 0 A) 24 ad (shR ks ad) μ 0 [(0, .ref (ad 0)), (1, .int x1), (2, .int x2), (3, .int x3)] [] := by
  refine g_aload_n 1 X 0 dX12_lacks_0 rfl rfl ?_
  refine g_getr 4 X fl_X12_7_12 (o12 rfl) rfl dX12_lacks_1 rfl ?_
  refine g_iload_n 5 X 1 dX12_lacks_4 rfl rfl ?_
  refine g_iald 6 X (aiR (n := 4) (by decide) rfl) dX12_lacks_5 h rfl (fun v1 h => ?_)
  refine g_if_ge 15 9 X dX12_lacks_6 (by decide) rfl h (fun h => ?_) (fun h => ?_)
  · refine g_aload_n 16 X 0 dX12_lacks_15 rfl rfl ?_
    refine g_getr 19 X fl_X12_7_12 (o12 rfl) rfl dX12_lacks_16 rfl ?_
    refine g_iload_n 20 X 1 dX12_lacks_19 rfl rfl ?_
    refine g_iald 21 X (aiR (n := 4) (by decide) rfl) dX12_lacks_20 h rfl (fun v2 h => ?_)
    refine g_iload_n 22 X 2 dX12_lacks_21 rfl rfl ?_
    refine g_icmp_eq 31 25 X dX12_lacks_22 (by decide) rfl h (fun h => ?_) (fun h => ?_)
    · refine g_iload_n 32 X 3 dX12_lacks_31 rfl rfl ?_
      refine g_i2l 33 X dX12_lacks_32 rfl ?_
      refine g_lconst 34 X dX12_lacks_33 lc0 rfl ?_
      refine g_aload_n 35 X 0 dX12_lacks_34 rfl rfl ?_
      refine g_getr 38 X fl_X12_13_12 (o12 rfl) rfl dX12_lacks_35 rfl ?_
      refine g_iload_n 39 X 1 dX12_lacks_38 rfl rfl ?_
      refine g_iald 40 X (aiR (n := 4) (by decide) rfl) dX12_lacks_39 h rfl (fun v3 h => ?_)
      refine g_iconst 41 X dX12_lacks_40 ic1 rfl ?_
      refine g_isub 42 X dX12_lacks_41 rfl ?_
      refine g_i2l 43 X dX12_lacks_42 rfl ?_
      refine g_ni 46 h (fun q e => r_S X cd_X12_92_X12_in ⟨rfl, rfl⟩ ⟨Nat.le_of_ble_eq_true rfl, Nat.le_of_ble_eq_true rfl⟩ (c_X12_in e) PC_blind (pn_pre X) rfl rfl (Nat.le_of_ble_eq_true rfl) dX12_lacks_43) rfl (fun v4 h => ?_)
      refine g_if_eq 53 49 X dX12_lacks_46 (by decide) rfl h (fun h => ?_) (fun h => ?_)
      · refine g_aload_n 54 X 0 dX12_lacks_53 rfl rfl ?_
        refine g_iconst 55 X dX12_lacks_54 ic2 rfl ?_
        refine g_ci 58 h (fun q e => r_V X cd_X12_102_X12_met_X12 ⟨rfl, rfl⟩ ⟨Nat.le_of_ble_eq_true rfl, Nat.le_of_ble_eq_true rfl⟩ (c_X12_met X.2.2.2.2  e) PC_blind (pc_pre X) (g_recv X (o12 rfl) rfl) rfl rfl (Nat.le_of_ble_eq_true rfl) dX12_lacks_55) rfl (fun v5 μ6 h => ?_)
        exact g_iret X hr dX12_lacks_58 h
      · refine g_iconst 50 X dX12_lacks_49 ic0 rfl ?_
        refine g_goto 58 X dX12_lacks_50 (by decide) ?_
        exact g_iret X hr dX12_lacks_58 h
    · refine g_aload_n 26 X 0 dX12_lacks_25 rfl rfl ?_
      refine g_iconst 27 X dX12_lacks_26 ic3 rfl ?_
      refine g_ci 30 h (fun q e => r_V X cd_X12_102_X12_met_X12 ⟨rfl, rfl⟩ ⟨Nat.le_of_ble_eq_true rfl, Nat.le_of_ble_eq_true rfl⟩ (c_X12_met X.2.2.2.2  e) PC_blind (pc_pre X) (g_recv X (o12 rfl) rfl) rfl rfl (Nat.le_of_ble_eq_true rfl) dX12_lacks_27) rfl (fun v7 μ8 h => ?_)
      exact g_iret X hr dX12_lacks_30 h
  · refine g_aload_n 10 X 0 dX12_lacks_9 rfl rfl ?_
    refine g_iconst 11 X dX12_lacks_10 ic1 rfl ?_
    refine g_ci 14 h (fun q e => r_V X cd_X12_102_X12_met_X12 ⟨rfl, rfl⟩ ⟨Nat.le_of_ble_eq_true rfl, Nat.le_of_ble_eq_true rfl⟩ (c_X12_met X.2.2.2.2  e) PC_blind (pc_pre X) (g_recv X (o12 rfl) rfl) rfl rfl (Nat.le_of_ble_eq_true rfl) dX12_lacks_11) rfl (fun v9 μ10 h => ?_)
    exact g_iret X hr dX12_lacks_14 h
set_option maxRecDepth 100000 in
theorem c_X12_lacks {l : Launch} {D : va_G} {ks : Nat → ClassId} {A : Nat → Prop} {ad : Nat → Nat} (hD : ∀ μ : Mem, va_D A (wsM 24 ad (shR ks ad) μ)) {F : Nat} {μ : Mem} {x1 : Int32} {x2 : Int32} {x3 : Int32} {r : Int32 × Mem}  (h : f_X12_lacks F μ x1 x2 x3 = some r) : Met l yX12_lacks (Cond.code yX12_lacks cX12_lacks 4 (some .int) :: wg) rm_X12_lacks (PC D ks 24 ad (shR ks ad) μ [.ref (ad 0), .int x1, .int x2, .int x3]) (QI D 24 ad (shR ks ad) A r) 0 0 A := by
  refine met_of (by decide) (Nat.le_of_ble_eq_true rfl) hD ?_
  intro p e s m args below meth c X hr
  exact G.sub [0, 1, 2, 3] rfl (b_X12_lacks_0 X hr  _ _ _ _ h)
abbrev rm_X12_low : Room := { frames := 0, cells := 0, slots := 0, locals := 0 }
set_option maxRecDepth 100000 in
set_option maxHeartbeats 4000000 in
theorem b_X12_low_0 {p : Program} {l : Launch} {e : Env} {s : State} {m : MethodId} {args : Array Value} {below : List Frame} {meth : Method} {c : Code} {D : va_G} {ks : Nat → ClassId} (X : Cx p s m args meth c cX12_low 2 RX12 D ks (fun _ => False) 0 ad0 sh0) (hr : meth.sig.returnType = (some .int)) {F : Nat} {r : Int32} (x0 : Int32) (x1 : Int32)  (h : f_X12_low F  x0 x1 = some r) : G p l e rm_X12_low s m args below meth c D (fun _ => False) 2 (MQ below (QNi D r) args s 0 0 (fun _ => False)) 0 ad0 sh0 μ0 0 [(0, .int x0), (1, .int x1)] [] := by
  refine g_iload_n 1 X 0 dX12_low_0 rfl rfl ?_
  refine g_if_ne 9 4 X dX12_low_1 (by decide) rfl h (fun h => ?_) (fun h => ?_)
  · refine g_iload_n 10 X 0 dX12_low_9 rfl rfl ?_
    refine g_iconst 11 X dX12_low_10 ic1 rfl ?_
    refine g_icmp_ne 19 14 X dX12_low_11 (by decide) rfl h (fun h => ?_) (fun h => ?_)
    · refine g_iload_n 20 X 1 dX12_low_19 rfl rfl ?_
      exact gn_iret X hr dX12_low_20 h
    · refine g_iload_n 15 X 1 dX12_low_14 rfl rfl ?_
      refine g_i2s 16 X dX12_low_15 rfl ?_
      refine g_goto 20 X dX12_low_16 (by decide) ?_
      exact gn_iret X hr dX12_low_20 h
  · refine g_iload_n 5 X 1 dX12_low_4 rfl rfl ?_
    refine g_i2b 6 X dX12_low_5 rfl ?_
    refine g_goto 20 X dX12_low_6 (by decide) ?_
    exact gn_iret X hr dX12_low_20 h
set_option maxRecDepth 100000 in
theorem c_X12_low {l : Launch} {D : va_G} {ks : Nat → ClassId} {F : Nat} {x0 : Int32} {x1 : Int32} {r : Int32}  (h : f_X12_low F x0 x1 = some r) : Met l yX12_low (Cond.code yX12_low cX12_low 2 (some .int) :: wg) rm_X12_low (PN D ks [.int x0, .int x1]) (QNi D r) 0 0 (fun _ => False) := by
  refine met_of (by decide) (Nat.le_of_ble_eq_true rfl) d0 ?_
  intro p e s m args below meth c X hr
  exact G.sub [0, 1] rfl (b_X12_low_0 X hr  _ _ h)
abbrev rm_X12_put : Room := { frames := 2, cells := 0, slots := 0, locals := 48 }
set_option maxRecDepth 100000 in
set_option maxHeartbeats 4000000 in
theorem b_X12_put_0 {p : Program} {l : Launch} {e : Env} {s : State} {m : MethodId} {args : Array Value} {below : List Frame} {meth : Method} {c : Code} {D : va_G} {ks : Nat → ClassId} {A : Nat → Prop} {ad : Nat → Nat} (X : Cx p s m args meth c cX12_put 6 RX12 D ks A 24 ad (shR ks ad)) (hr : meth.sig.returnType = (some .int)) {F : Nat} {r : Int32 × Mem} (μ : Mem) (x1 : Int32) (x2 : Int32) (x3 : Int32) (x4 : Int32)  (h : f_X12_put F  μ x1 x2 x3 x4 = some r) : G p l e rm_X12_put s m args below meth c D A 6 (MQ below (QI D 24 ad (shR ks ad) A r) args s 0 0 A) 24 ad (shR ks ad) μ 0 [(0, .ref (ad 0)), (1, .int x1), (2, .int x2), (3, .int x3), (4, .int x4)] [] := by
  refine g_iload_n 1 X 1 dX12_put_0 rfl rfl ?_
  refine g_ni 4 h (fun q e => r_S X cd_X12_96_X12_isSheet ⟨rfl, rfl⟩ ⟨Nat.le_of_ble_eq_true rfl, Nat.le_of_ble_eq_true rfl⟩ (c_X12_isSheet e) PC_blind (pn_pre X) rfl rfl (Nat.le_of_ble_eq_true rfl) dX12_put_1) rfl (fun v1 h => ?_)
  refine g_if_eq 19 7 X dX12_put_4 (by decide) rfl h (fun h => ?_) (fun h => ?_)
  · refine g_bipush 21 X dX12_put_19 bpm2 rfl ?_
    exact g_iret X hr dX12_put_21 h
  · refine g_iload_n 8 X 2 dX12_put_7 rfl rfl ?_
    refine g_i2l 9 X dX12_put_8 rfl ?_
    refine g_lconst 10 X dX12_put_9 lc0 rfl ?_
    refine g_ldc2 13 X m1148 dX12_put_10 rfl ?_
    refine g_ni 16 h (fun q e => r_S X cd_X12_92_X12_in ⟨rfl, rfl⟩ ⟨Nat.le_of_ble_eq_true rfl, Nat.le_of_ble_eq_true rfl⟩ (c_X12_in e) PC_blind (pn_pre X) rfl rfl (Nat.le_of_ble_eq_true rfl) dX12_put_13) rfl (fun v2 h => ?_)
    refine g_if_ne 22 19 X dX12_put_16 (by decide) rfl h (fun h => ?_) (fun h => ?_)
    · refine g_aload_n 23 X 0 dX12_put_22 rfl rfl ?_
      refine g_iload_n 24 X 1 dX12_put_23 rfl rfl ?_
      refine g_iload_n 25 X 2 dX12_put_24 rfl rfl ?_
      refine g_iload_n 26 X 3 dX12_put_25 rfl rfl ?_
      refine g_ci 29 h (fun q e => r_V X cd_X12_106_X12_lacks_X12 ⟨rfl, rfl⟩ ⟨Nat.le_of_ble_eq_true rfl, Nat.le_of_ble_eq_true rfl⟩ (c_X12_lacks X.2.2.2.2  e) PC_blind (pc_pre X) (g_recv X (o12 rfl) rfl) rfl rfl (Nat.le_of_ble_eq_true rfl) dX12_put_26) rfl (fun v3 μ4 h => ?_)
      refine g_istore 31 X dX12_put_29 (by decide) rfl ?_
      refine g_iload 33 X 0 dX12_put_31 rfl rfl ?_
      refine g_if_eq 39 36 X dX12_put_33 (by decide) rfl h (fun h => ?_) (fun h => ?_)
      · refine g_aload_n 40 X 1 dX12_put_39 rfl rfl ?_
        refine g_getr 43 X fl_X12_16_12 (o12 rfl) rfl dX12_put_40 rfl ?_
        refine g_bipush 45 X dX12_put_43 bp90 rfl ?_
        refine g_iload_n 46 X 2 dX12_put_45 rfl rfl ?_
        refine g_imul 47 X dX12_put_46 rfl ?_
        refine g_iload_n 48 X 4 dX12_put_47 rfl rfl ?_
        refine g_iadd 49 X dX12_put_48 rfl ?_
        refine g_iload_n 50 X 3 dX12_put_49 rfl rfl ?_
        refine g_iload 52 X 5 dX12_put_50 rfl rfl ?_
        refine g_ni 55 h (fun q e => r_S X cd_X12_110_X12_low ⟨rfl, rfl⟩ ⟨Nat.le_of_ble_eq_true rfl, Nat.le_of_ble_eq_true rfl⟩ (c_X12_low e) PC_blind (pn_pre X) rfl rfl (Nat.le_of_ble_eq_true rfl) dX12_put_52) rfl (fun v5 h => ?_)
        refine g_iast 56 X (aiR (n := 360) (by decide) rfl) dX12_put_55 h rfl (fun μ6 h => ?_)
        refine g_iconst 57 X dX12_put_56 ic1 rfl ?_
        exact g_iret X hr dX12_put_57 h
      · refine g_iload 38 X 0 dX12_put_36 rfl rfl ?_
        exact g_iret X hr dX12_put_38 h
    · refine g_bipush 21 X dX12_put_19 bpm2 rfl ?_
      exact g_iret X hr dX12_put_21 h
set_option maxRecDepth 100000 in
theorem c_X12_put {l : Launch} {D : va_G} {ks : Nat → ClassId} {A : Nat → Prop} {ad : Nat → Nat} (hD : ∀ μ : Mem, va_D A (wsM 24 ad (shR ks ad) μ)) {F : Nat} {μ : Mem} {x1 : Int32} {x2 : Int32} {x3 : Int32} {x4 : Int32} {r : Int32 × Mem}  (h : f_X12_put F μ x1 x2 x3 x4 = some r) : Met l yX12_put (Cond.code yX12_put cX12_put 6 (some .int) :: wg) rm_X12_put (PC D ks 24 ad (shR ks ad) μ [.ref (ad 0), .int x1, .int x2, .int x3, .int x4]) (QI D 24 ad (shR ks ad) A r) 0 0 A := by
  refine met_of (by decide) (Nat.le_of_ble_eq_true rfl) hD ?_
  intro p e s m args below meth c X hr
  exact G.sub [0, 1, 2, 3, 4] rfl (b_X12_put_0 X hr  _ _ _ _ _ h)
abbrev rm_X12_get : Room := { frames := 2, cells := 0, slots := 0, locals := 48 }
set_option maxRecDepth 100000 in
set_option maxHeartbeats 4000000 in
theorem b_X12_get_0 {p : Program} {l : Launch} {e : Env} {s : State} {m : MethodId} {args : Array Value} {below : List Frame} {meth : Method} {c : Code} {D : va_G} {ks : Nat → ClassId} {A : Nat → Prop} {ad : Nat → Nat} (X : Cx p s m args meth c cX12_get 4 RX12 D ks A 24 ad (shR ks ad)) (hr : meth.sig.returnType = (some .int)) {F : Nat} {r : Int32 × Mem} (μ : Mem) (x1 : Int32) (x2 : Int32) (x3 : Int32)  (h : f_X12_get F  μ x1 x2 x3 = some r) : G p l e rm_X12_get s m args below meth c D A 4 (MQ below (QI D 24 ad (shR ks ad) A r) args s 0 0 A) 24 ad (shR ks ad) μ 0 [(0, .ref (ad 0)), (1, .int x1), (2, .int x2), (3, .int x3)] [] := by
  refine g_iload_n 1 X 1 dX12_get_0 rfl rfl ?_
  refine g_ni 4 h (fun q e => r_S X cd_X12_96_X12_isSheet ⟨rfl, rfl⟩ ⟨Nat.le_of_ble_eq_true rfl, Nat.le_of_ble_eq_true rfl⟩ (c_X12_isSheet e) PC_blind (pn_pre X) rfl rfl (Nat.le_of_ble_eq_true rfl) dX12_get_1) rfl (fun v1 h => ?_)
  refine g_if_eq 29 7 X dX12_get_4 (by decide) rfl h (fun h => ?_) (fun h => ?_)
  · refine g_ldc 31 X m1172 dX12_get_29 rfl ?_
    exact g_iret X hr dX12_get_31 h
  · refine g_iload_n 8 X 2 dX12_get_7 rfl rfl ?_
    refine g_i2l 9 X dX12_get_8 rfl ?_
    refine g_lconst 10 X dX12_get_9 lc0 rfl ?_
    refine g_ldc2 13 X m1148 dX12_get_10 rfl ?_
    refine g_ni 16 h (fun q e => r_S X cd_X12_92_X12_in ⟨rfl, rfl⟩ ⟨Nat.le_of_ble_eq_true rfl, Nat.le_of_ble_eq_true rfl⟩ (c_X12_in e) PC_blind (pn_pre X) rfl rfl (Nat.le_of_ble_eq_true rfl) dX12_get_13) rfl (fun v2 h => ?_)
    refine g_if_eq 29 19 X dX12_get_16 (by decide) rfl h (fun h => ?_) (fun h => ?_)
    · refine g_ldc 31 X m1172 dX12_get_29 rfl ?_
      exact g_iret X hr dX12_get_31 h
    · refine g_aload_n 20 X 0 dX12_get_19 rfl rfl ?_
      refine g_iload_n 21 X 1 dX12_get_20 rfl rfl ?_
      refine g_iload_n 22 X 2 dX12_get_21 rfl rfl ?_
      refine g_iload_n 23 X 3 dX12_get_22 rfl rfl ?_
      refine g_ci 26 h (fun q e => r_V X cd_X12_106_X12_lacks_X12 ⟨rfl, rfl⟩ ⟨Nat.le_of_ble_eq_true rfl, Nat.le_of_ble_eq_true rfl⟩ (c_X12_lacks X.2.2.2.2  e) PC_blind (pc_pre X) (g_recv X (o12 rfl) rfl) rfl rfl (Nat.le_of_ble_eq_true rfl) dX12_get_23) rfl (fun v3 μ4 h => ?_)
      refine g_if_eq 32 29 X dX12_get_26 (by decide) rfl h (fun h => ?_) (fun h => ?_)
      · refine g_aload_n 33 X 0 dX12_get_32 rfl rfl ?_
        refine g_getr 36 X fl_X12_16_12 (o12 rfl) rfl dX12_get_33 rfl ?_
        refine g_bipush 38 X dX12_get_36 bp90 rfl ?_
        refine g_iload_n 39 X 1 dX12_get_38 rfl rfl ?_
        refine g_imul 40 X dX12_get_39 rfl ?_
        refine g_iload_n 41 X 3 dX12_get_40 rfl rfl ?_
        refine g_iadd 42 X dX12_get_41 rfl ?_
        refine g_iald 43 X (aiR (n := 360) (by decide) rfl) dX12_get_42 h rfl (fun v5 h => ?_)
        exact g_iret X hr dX12_get_43 h
      · refine g_ldc 31 X m1172 dX12_get_29 rfl ?_
        exact g_iret X hr dX12_get_31 h
set_option maxRecDepth 100000 in
theorem c_X12_get {l : Launch} {D : va_G} {ks : Nat → ClassId} {A : Nat → Prop} {ad : Nat → Nat} (hD : ∀ μ : Mem, va_D A (wsM 24 ad (shR ks ad) μ)) {F : Nat} {μ : Mem} {x1 : Int32} {x2 : Int32} {x3 : Int32} {r : Int32 × Mem}  (h : f_X12_get F μ x1 x2 x3 = some r) : Met l yX12_get (Cond.code yX12_get cX12_get 4 (some .int) :: wg) rm_X12_get (PC D ks 24 ad (shR ks ad) μ [.ref (ad 0), .int x1, .int x2, .int x3]) (QI D 24 ad (shR ks ad) A r) 0 0 A := by
  refine met_of (by decide) (Nat.le_of_ble_eq_true rfl) hD ?_
  intro p e s m args below meth c X hr
  exact G.sub [0, 1, 2, 3] rfl (b_X12_get_0 X hr  _ _ _ _ h)
abbrev rm_X12_copy : Room := { frames := 2, cells := 0, slots := 0, locals := 45 }
set_option maxRecDepth 100000 in
set_option maxHeartbeats 4000000 in
theorem b_X12_copy_157 {p : Program} {l : Launch} {e : Env} {s : State} {m : MethodId} {args : Array Value} {below : List Frame} {meth : Method} {c : Code} {D : va_G} {ks : Nat → ClassId} {A : Nat → Prop} {ad : Nat → Nat} (X : Cx p s m args meth c cX12_copy 7 RX12 D ks A 24 ad (shR ks ad)) (hr : meth.sig.returnType = (some .int)) {F : Nat} {r : Int32 × Mem} : ∀ n : Nat, ∀ (μ : Mem) (x3 : Int32) (x4 : Int32) (x5 : Int32) (x6 : Int32), f_X12_copy_b157 F  n μ x3 x4 x5 x6 = some r → G p l e rm_X12_copy s m args below meth c D A 7 (MQ below (QI D 24 ad (shR ks ad) A r) args s 0 0 A) 24 ad (shR ks ad) μ 157 [(0, .ref (ad 0)), (3, .int x3), (4, .int x4), (5, .int x5), (6, .int x6)] [] := by
  intro n
  induction n with
  | zero =>
    intro _ _ _ _ _ h
    cases h
  | succ n ih =>
    intro μ x3 x4 x5 x6 h
    refine g_iload 159 X 4 dX12_copy_157 rfl rfl ?_
    refine g_iload 161 X 3 dX12_copy_159 rfl rfl ?_
    refine g_icmp_ge 192 164 X dX12_copy_161 (by decide) rfl h (fun h => ?_) (fun h => ?_)
    · refine g_iconst 193 X dX12_copy_192 ic1 rfl ?_
      exact g_iret X hr dX12_copy_193 h
    · refine g_aload_n 165 X 0 dX12_copy_164 rfl rfl ?_
      refine g_getr 168 X fl_X12_16_12 (o12 rfl) rfl dX12_copy_165 rfl ?_
      refine g_bipush 170 X dX12_copy_168 bp90 rfl ?_
      refine g_iload_n 171 X 1 dX12_copy_170 rfl rfl ?_
      refine g_imul 172 X dX12_copy_171 rfl ?_
      refine g_iload 174 X 2 dX12_copy_172 rfl rfl ?_
      refine g_iadd 175 X dX12_copy_174 rfl ?_
      refine g_iload 177 X 4 dX12_copy_175 rfl rfl ?_
      refine g_iadd 178 X dX12_copy_177 rfl ?_
      refine g_aload_n 179 X 0 dX12_copy_178 rfl rfl ?_
      refine g_getr 182 X fl_X12_19_12 (o12 rfl) rfl dX12_copy_179 rfl ?_
      refine g_iload 184 X 4 dX12_copy_182 rfl rfl ?_
      refine g_iald 185 X (aiR (n := 90) (by decide) rfl) dX12_copy_184 h rfl (fun v1 h => ?_)
      refine g_iast 186 X (aiR (n := 360) (by decide) rfl) dX12_copy_185 h rfl (fun μ2 h => ?_)
      refine g_iinc 189 X 4 dX12_copy_186 ic1 rfl (by decide) rfl ?_
      refine g_goto 157 X dX12_copy_189 (by decide) ?_
      exact G.sub [1, 2, 3, 4, 0] rfl (ih _ _ _ _ _ h)
set_option maxRecDepth 100000 in
set_option maxHeartbeats 4000000 in
theorem b_X12_copy_120 {p : Program} {l : Launch} {e : Env} {s : State} {m : MethodId} {args : Array Value} {below : List Frame} {meth : Method} {c : Code} {D : va_G} {ks : Nat → ClassId} {A : Nat → Prop} {ad : Nat → Nat} (X : Cx p s m args meth c cX12_copy 7 RX12 D ks A 24 ad (shR ks ad)) (hr : meth.sig.returnType = (some .int)) {F : Nat} {r : Int32 × Mem} : ∀ n : Nat, ∀ (μ : Mem) (x1 : Int32) (x2 : Int32) (x3 : Int32) (x4 : Int32) (x5 : Int32) (x6 : Int32), f_X12_copy_b120 F  n μ x1 x2 x3 x4 x5 x6 = some r → G p l e rm_X12_copy s m args below meth c D A 7 (MQ below (QI D 24 ad (shR ks ad) A r) args s 0 0 A) 24 ad (shR ks ad) μ 120 [(0, .ref (ad 0)), (1, .int x1), (2, .int x2), (3, .int x3), (4, .int x4), (5, .int x5), (6, .int x6)] [] := by
  intro n
  induction n with
  | zero =>
    intro _ _ _ _ _ _ _ h
    cases h
  | succ n ih =>
    intro μ x1 x2 x3 x4 x5 x6 h
    refine g_iload 122 X 6 dX12_copy_120 rfl rfl ?_
    refine g_iload 124 X 5 dX12_copy_122 rfl rfl ?_
    refine g_icmp_ge 154 127 X dX12_copy_124 (by decide) rfl h (fun h => ?_) (fun h => ?_)
    · refine g_iconst 155 X dX12_copy_154 ic0 rfl ?_
      refine g_istore 157 X dX12_copy_155 (by decide) rfl ?_
      exact G.sub [1, 4, 5, 6, 0] rfl (b_X12_copy_157 X hr  F _ _ _ _ _ h)
    · refine g_aload_n 128 X 0 dX12_copy_127 rfl rfl ?_
      refine g_getr 131 X fl_X12_19_12 (o12 rfl) rfl dX12_copy_128 rfl ?_
      refine g_iload 133 X 6 dX12_copy_131 rfl rfl ?_
      refine g_aload_n 134 X 0 dX12_copy_133 rfl rfl ?_
      refine g_getr 137 X fl_X12_16_12 (o12 rfl) rfl dX12_copy_134 rfl ?_
      refine g_bipush 139 X dX12_copy_137 bp90 rfl ?_
      refine g_iload_n 140 X 1 dX12_copy_139 rfl rfl ?_
      refine g_imul 141 X dX12_copy_140 rfl ?_
      refine g_iload_n 142 X 2 dX12_copy_141 rfl rfl ?_
      refine g_iadd 143 X dX12_copy_142 rfl ?_
      refine g_iload 145 X 6 dX12_copy_143 rfl rfl ?_
      refine g_iadd 146 X dX12_copy_145 rfl ?_
      refine g_iald 147 X (aiR (n := 360) (by decide) rfl) dX12_copy_146 h rfl (fun v1 h => ?_)
      refine g_iast 148 X (aiR (n := 90) (by decide) rfl) dX12_copy_147 h rfl (fun μ2 h => ?_)
      refine g_iinc 151 X 6 dX12_copy_148 ic1 rfl (by decide) rfl ?_
      refine g_goto 120 X dX12_copy_151 (by decide) ?_
      exact G.sub [1, 2, 3, 4, 5, 6, 0] rfl (ih _ _ _ _ _ _ _ h)
set_option maxRecDepth 100000 in
set_option maxHeartbeats 4000000 in
theorem b_X12_copy_111 {p : Program} {l : Launch} {e : Env} {s : State} {m : MethodId} {args : Array Value} {below : List Frame} {meth : Method} {c : Code} {D : va_G} {ks : Nat → ClassId} {A : Nat → Prop} {ad : Nat → Nat} (X : Cx p s m args meth c cX12_copy 7 RX12 D ks A 24 ad (shR ks ad)) (hr : meth.sig.returnType = (some .int)) {F : Nat} {r : Int32 × Mem} (μ : Mem)  (h : f_X12_copy_b111 F  μ = some r) : G p l e rm_X12_copy s m args below meth c D A 7 (MQ below (QI D 24 ad (shR ks ad) A r) args s 0 0 A) 24 ad (shR ks ad) μ 111 [(0, .ref (ad 0))] [] := by
  refine g_aload_n 112 X 0 dX12_copy_111 rfl rfl ?_
  refine g_iconst 113 X dX12_copy_112 ic2 rfl ?_
  refine g_ci 116 h (fun q e => r_V X cd_X12_102_X12_met_X12 ⟨rfl, rfl⟩ ⟨Nat.le_of_ble_eq_true rfl, Nat.le_of_ble_eq_true rfl⟩ (c_X12_met X.2.2.2.2  e) PC_blind (pc_pre X) (g_recv X (o12 rfl) rfl) rfl rfl (Nat.le_of_ble_eq_true rfl) dX12_copy_113) rfl (fun v1 μ2 h => ?_)
  exact g_iret X hr dX12_copy_116 h
set_option maxRecDepth 100000 in
set_option maxHeartbeats 4000000 in
theorem b_X12_copy_35 {p : Program} {l : Launch} {e : Env} {s : State} {m : MethodId} {args : Array Value} {below : List Frame} {meth : Method} {c : Code} {D : va_G} {ks : Nat → ClassId} {A : Nat → Prop} {ad : Nat → Nat} (X : Cx p s m args meth c cX12_copy 7 RX12 D ks A 24 ad (shR ks ad)) (hr : meth.sig.returnType = (some .int)) {F : Nat} {r : Int32 × Mem} (μ : Mem)  (h : f_X12_copy_b35 F  μ = some r) : G p l e rm_X12_copy s m args below meth c D A 7 (MQ below (QI D 24 ad (shR ks ad) A r) args s 0 0 A) 24 ad (shR ks ad) μ 35 [(0, .ref (ad 0))] [] := by
  refine g_aload_n 36 X 0 dX12_copy_35 rfl rfl ?_
  refine g_iconst 37 X dX12_copy_36 ic1 rfl ?_
  refine g_ci 40 h (fun q e => r_V X cd_X12_102_X12_met_X12 ⟨rfl, rfl⟩ ⟨Nat.le_of_ble_eq_true rfl, Nat.le_of_ble_eq_true rfl⟩ (c_X12_met X.2.2.2.2  e) PC_blind (pc_pre X) (g_recv X (o12 rfl) rfl) rfl rfl (Nat.le_of_ble_eq_true rfl) dX12_copy_37) rfl (fun v1 μ2 h => ?_)
  exact g_iret X hr dX12_copy_40 h
set_option maxRecDepth 100000 in
set_option maxHeartbeats 4000000 in
theorem b_X12_copy_0 {p : Program} {l : Launch} {e : Env} {s : State} {m : MethodId} {args : Array Value} {below : List Frame} {meth : Method} {c : Code} {D : va_G} {ks : Nat → ClassId} {A : Nat → Prop} {ad : Nat → Nat} (X : Cx p s m args meth c cX12_copy 7 RX12 D ks A 24 ad (shR ks ad)) (hr : meth.sig.returnType = (some .int)) {F : Nat} {r : Int32 × Mem} (μ : Mem) (x1 : Int32) (x2 : Int32) (x3 : Int32) (x4 : Int32) (x5 : Int32)  (h : f_X12_copy F  μ x1 x2 x3 x4 x5 = some r) : G p l e rm_X12_copy s m args below meth c D A 7 (MQ below (QI D 24 ad (shR ks ad) A r) args s 0 0 A) 24 ad (shR ks ad) μ 0 [(0, .ref (ad 0)), (1, .int x1), (2, .int x2), (3, .int x3), (4, .int x4), (5, .int x5)] [] := by
  refine g_iload_n 1 X 1 dX12_copy_0 rfl rfl ?_
  refine g_ni 4 h (fun q e => r_S X cd_X12_96_X12_isSheet ⟨rfl, rfl⟩ ⟨Nat.le_of_ble_eq_true rfl, Nat.le_of_ble_eq_true rfl⟩ (c_X12_isSheet e) PC_blind (pn_pre X) rfl rfl (Nat.le_of_ble_eq_true rfl) dX12_copy_1) rfl (fun v1 h => ?_)
  refine g_if_eq 14 7 X dX12_copy_4 (by decide) rfl h (fun h => ?_) (fun h => ?_)
  · refine g_bipush 16 X dX12_copy_14 bpm2 rfl ?_
    exact g_iret X hr dX12_copy_16 h
  · refine g_iload_n 8 X 3 dX12_copy_7 rfl rfl ?_
    refine g_ni 11 h (fun q e => r_S X cd_X12_96_X12_isSheet ⟨rfl, rfl⟩ ⟨Nat.le_of_ble_eq_true rfl, Nat.le_of_ble_eq_true rfl⟩ (c_X12_isSheet e) PC_blind (pn_pre X) rfl rfl (Nat.le_of_ble_eq_true rfl) dX12_copy_8) rfl (fun v2 h => ?_)
    refine g_if_ne 17 14 X dX12_copy_11 (by decide) rfl h (fun h => ?_) (fun h => ?_)
    · refine g_aload_n 18 X 0 dX12_copy_17 rfl rfl ?_
      refine g_getr 21 X fl_X12_7_12 (o12 rfl) rfl dX12_copy_18 rfl ?_
      refine g_iload_n 22 X 1 dX12_copy_21 rfl rfl ?_
      refine g_iald 23 X (aiR (n := 4) (by decide) rfl) dX12_copy_22 h rfl (fun v3 h => ?_)
      refine g_if_lt 35 26 X dX12_copy_23 (by decide) rfl h (fun h => ?_) (fun h => ?_)
      · exact G.sub [0] rfl (b_X12_copy_35 X hr  _ h)
      · refine g_aload_n 27 X 0 dX12_copy_26 rfl rfl ?_
        refine g_getr 30 X fl_X12_7_12 (o12 rfl) rfl dX12_copy_27 rfl ?_
        refine g_iload_n 31 X 3 dX12_copy_30 rfl rfl ?_
        refine g_iald 32 X (aiR (n := 4) (by decide) rfl) dX12_copy_31 h rfl (fun v4 h => ?_)
        refine g_if_ge 41 35 X dX12_copy_32 (by decide) rfl h (fun h => ?_) (fun h => ?_)
        · refine g_aload_n 42 X 0 dX12_copy_41 rfl rfl ?_
          refine g_getr 45 X fl_X12_7_12 (o12 rfl) rfl dX12_copy_42 rfl ?_
          refine g_iload_n 46 X 1 dX12_copy_45 rfl rfl ?_
          refine g_iald 47 X (aiR (n := 4) (by decide) rfl) dX12_copy_46 h rfl (fun v5 h => ?_)
          refine g_aload_n 48 X 0 dX12_copy_47 rfl rfl ?_
          refine g_getr 51 X fl_X12_7_12 (o12 rfl) rfl dX12_copy_48 rfl ?_
          refine g_iload_n 52 X 3 dX12_copy_51 rfl rfl ?_
          refine g_iald 53 X (aiR (n := 4) (by decide) rfl) dX12_copy_52 h rfl (fun v6 h => ?_)
          refine g_icmp_eq 62 56 X dX12_copy_53 (by decide) rfl h (fun h => ?_) (fun h => ?_)
          · refine g_iload_n 63 X 2 dX12_copy_62 rfl rfl ?_
            refine g_if_lt 111 66 X dX12_copy_63 (by decide) rfl h (fun h => ?_) (fun h => ?_)
            · exact G.sub [0] rfl (b_X12_copy_111 X hr  _ h)
            · refine g_iload 68 X 4 dX12_copy_66 rfl rfl ?_
              refine g_if_lt 111 71 X dX12_copy_68 (by decide) rfl h (fun h => ?_) (fun h => ?_)
              · exact G.sub [0] rfl (b_X12_copy_111 X hr  _ h)
              · refine g_iload 73 X 5 dX12_copy_71 rfl rfl ?_
                refine g_if_lt 111 76 X dX12_copy_73 (by decide) rfl h (fun h => ?_) (fun h => ?_)
                · exact G.sub [0] rfl (b_X12_copy_111 X hr  _ h)
                · refine g_iload_n 77 X 2 dX12_copy_76 rfl rfl ?_
                  refine g_i2l 78 X dX12_copy_77 rfl ?_
                  refine g_iload 80 X 5 dX12_copy_78 rfl rfl ?_
                  refine g_i2l 81 X dX12_copy_80 rfl ?_
                  refine g_ladd 82 X dX12_copy_81 rfl ?_
                  refine g_aload_n 83 X 0 dX12_copy_82 rfl rfl ?_
                  refine g_getr 86 X fl_X12_13_12 (o12 rfl) rfl dX12_copy_83 rfl ?_
                  refine g_iload_n 87 X 1 dX12_copy_86 rfl rfl ?_
                  refine g_iald 88 X (aiR (n := 4) (by decide) rfl) dX12_copy_87 h rfl (fun v7 h => ?_)
                  refine g_i2l 89 X dX12_copy_88 rfl ?_
                  refine g_lcmp 90 X dX12_copy_89 rfl ?_
                  refine g_if_gt 111 93 X dX12_copy_90 (by decide) rfl h (fun h => ?_) (fun h => ?_)
                  · exact G.sub [0] rfl (b_X12_copy_111 X hr  _ h)
                  · refine g_iload 95 X 4 dX12_copy_93 rfl rfl ?_
                    refine g_i2l 96 X dX12_copy_95 rfl ?_
                    refine g_iload 98 X 5 dX12_copy_96 rfl rfl ?_
                    refine g_i2l 99 X dX12_copy_98 rfl ?_
                    refine g_ladd 100 X dX12_copy_99 rfl ?_
                    refine g_aload_n 101 X 0 dX12_copy_100 rfl rfl ?_
                    refine g_getr 104 X fl_X12_13_12 (o12 rfl) rfl dX12_copy_101 rfl ?_
                    refine g_iload_n 105 X 3 dX12_copy_104 rfl rfl ?_
                    refine g_iald 106 X (aiR (n := 4) (by decide) rfl) dX12_copy_105 h rfl (fun v8 h => ?_)
                    refine g_i2l 107 X dX12_copy_106 rfl ?_
                    refine g_lcmp 108 X dX12_copy_107 rfl ?_
                    refine g_if_le 117 111 X dX12_copy_108 (by decide) rfl h (fun h => ?_) (fun h => ?_)
                    · refine g_iconst 118 X dX12_copy_117 ic0 rfl ?_
                      refine g_istore 120 X dX12_copy_118 (by decide) rfl ?_
                      exact G.sub [1, 2, 3, 4, 5, 6, 0] rfl (b_X12_copy_120 X hr  F _ _ _ _ _ _ _ h)
                    · exact G.sub [0] rfl (b_X12_copy_111 X hr  _ h)
          · refine g_aload_n 57 X 0 dX12_copy_56 rfl rfl ?_
            refine g_iconst 58 X dX12_copy_57 ic4 rfl ?_
            refine g_ci 61 h (fun q e => r_V X cd_X12_102_X12_met_X12 ⟨rfl, rfl⟩ ⟨Nat.le_of_ble_eq_true rfl, Nat.le_of_ble_eq_true rfl⟩ (c_X12_met X.2.2.2.2  e) PC_blind (pc_pre X) (g_recv X (o12 rfl) rfl) rfl rfl (Nat.le_of_ble_eq_true rfl) dX12_copy_58) rfl (fun v9 μ10 h => ?_)
            exact g_iret X hr dX12_copy_61 h
        · exact G.sub [0] rfl (b_X12_copy_35 X hr  _ h)
    · refine g_bipush 16 X dX12_copy_14 bpm2 rfl ?_
      exact g_iret X hr dX12_copy_16 h
set_option maxRecDepth 100000 in
theorem c_X12_copy {l : Launch} {D : va_G} {ks : Nat → ClassId} {A : Nat → Prop} {ad : Nat → Nat} (hD : ∀ μ : Mem, va_D A (wsM 24 ad (shR ks ad) μ)) {F : Nat} {μ : Mem} {x1 : Int32} {x2 : Int32} {x3 : Int32} {x4 : Int32} {x5 : Int32} {r : Int32 × Mem}  (h : f_X12_copy F μ x1 x2 x3 x4 x5 = some r) : Met l yX12_copy (Cond.code yX12_copy cX12_copy 7 (some .int) :: wg) rm_X12_copy (PC D ks 24 ad (shR ks ad) μ [.ref (ad 0), .int x1, .int x2, .int x3, .int x4, .int x5]) (QI D 24 ad (shR ks ad) A r) 0 0 A := by
  refine met_of (by decide) (Nat.le_of_ble_eq_true rfl) hD ?_
  intro p e s m args below meth c X hr
  exact G.sub [0, 1, 2, 3, 4, 5] rfl (b_X12_copy_0 X hr  _ _ _ _ _ _ h)
abbrev rm_X12_isName : Room := { frames := 1, cells := 0, slots := 0, locals := 25 }
set_option maxRecDepth 100000 in
set_option maxHeartbeats 4000000 in
theorem b_X12_isName_0 {p : Program} {l : Launch} {e : Env} {s : State} {m : MethodId} {args : Array Value} {below : List Frame} {meth : Method} {c : Code} {D : va_G} {ks : Nat → ClassId} {A : Nat → Prop} {ad : Nat → Nat} (X : Cx p s m args meth c cX12_isName 2 RX12 D ks A 24 ad (shR ks ad)) (hr : meth.sig.returnType = (some .boolean)) {F : Nat} {r : Int32 × Mem} (μ : Mem) (x1 : Int32)  (h : f_X12_isName F  μ x1 = some r) : G p l e rm_X12_isName s m args below meth c D A 2 (MQ below (QI D 24 ad (shR ks ad) A r) args s 0 0 A) 24 ad (shR ks ad) μ 0 [(0, .ref (ad 0)), (1, .int x1)] [] := by
  refine g_iload_n 1 X 1 dX12_isName_0 rfl rfl ?_
  refine g_i2l 2 X dX12_isName_1 rfl ?_
  refine g_lconst 3 X dX12_isName_2 lc0 rfl ?_
  refine g_aload_n 4 X 0 dX12_isName_3 rfl rfl ?_
  refine g_geti 7 X fl_X12_115_12 (o12 rfl) rfl dX12_isName_4 h rfl (fun v1 h => ?_)
  refine g_iconst 8 X dX12_isName_7 ic1 rfl ?_
  refine g_isub 9 X dX12_isName_8 rfl ?_
  refine g_i2l 10 X dX12_isName_9 rfl ?_
  refine g_ni 13 h (fun q e => r_S X cd_X12_92_X12_in ⟨rfl, rfl⟩ ⟨Nat.le_of_ble_eq_true rfl, Nat.le_of_ble_eq_true rfl⟩ (c_X12_in e) PC_blind (pn_pre X) rfl rfl (Nat.le_of_ble_eq_true rfl) dX12_isName_10) rfl (fun v2 h => ?_)
  obtain ⟨hz, h⟩ := zk_some h
  exact g_zret X hr hz dX12_isName_13 h
set_option maxRecDepth 100000 in
theorem c_X12_isName {l : Launch} {D : va_G} {ks : Nat → ClassId} {A : Nat → Prop} {ad : Nat → Nat} (hD : ∀ μ : Mem, va_D A (wsM 24 ad (shR ks ad) μ)) {F : Nat} {μ : Mem} {x1 : Int32} {r : Int32 × Mem}  (h : f_X12_isName F μ x1 = some r) : Met l yX12_isName (Cond.code yX12_isName cX12_isName 2 (some .boolean) :: wg) rm_X12_isName (PC D ks 24 ad (shR ks ad) μ [.ref (ad 0), .int x1]) (QI D 24 ad (shR ks ad) A r) 0 0 A := by
  refine met_of (by decide) (Nat.le_of_ble_eq_true rfl) hD ?_
  intro p e s m args below meth c X hr
  exact G.sub [0, 1] rfl (b_X12_isName_0 X hr  _ _ h)
abbrev rm_X12_isDay : Room := { frames := 1, cells := 0, slots := 0, locals := 25 }
set_option maxRecDepth 100000 in
set_option maxHeartbeats 4000000 in
theorem b_X12_isDay_0 {p : Program} {l : Launch} {e : Env} {s : State} {m : MethodId} {args : Array Value} {below : List Frame} {meth : Method} {c : Code} {D : va_G} {ks : Nat → ClassId} (X : Cx p s m args meth c cX12_isDay 1 RX12 D ks (fun _ => False) 0 ad0 sh0) (hr : meth.sig.returnType = (some .boolean)) {F : Nat} {r : Int32} (x0 : Int32)  (h : f_X12_isDay F  x0 = some r) : G p l e rm_X12_isDay s m args below meth c D (fun _ => False) 1 (MQ below (QNi D r) args s 0 0 (fun _ => False)) 0 ad0 sh0 μ0 0 [(0, .int x0)] [] := by
  refine g_iload_n 1 X 0 dX12_isDay_0 rfl rfl ?_
  refine g_i2l 2 X dX12_isDay_1 rfl ?_
  refine g_lconst 3 X dX12_isDay_2 lc0 rfl ?_
  refine g_ldc2 6 X m1209 dX12_isDay_3 rfl ?_
  refine g_ni 9 h (fun q e => r_S X cd_X12_92_X12_in ⟨rfl, rfl⟩ ⟨Nat.le_of_ble_eq_true rfl, Nat.le_of_ble_eq_true rfl⟩ (c_X12_in e) PC_blind (pn_pre X) rfl rfl (Nat.le_of_ble_eq_true rfl) dX12_isDay_6) rfl (fun v1 h => ?_)
  obtain ⟨hz, h⟩ := zk_some h
  exact gn_zret X hr hz dX12_isDay_9 h
set_option maxRecDepth 100000 in
theorem c_X12_isDay {l : Launch} {D : va_G} {ks : Nat → ClassId} {F : Nat} {x0 : Int32} {r : Int32}  (h : f_X12_isDay F x0 = some r) : Met l yX12_isDay (Cond.code yX12_isDay cX12_isDay 1 (some .boolean) :: wg) rm_X12_isDay (PN D ks [.int x0]) (QNi D r) 0 0 (fun _ => False) := by
  refine met_of (by decide) (Nat.le_of_ble_eq_true rfl) d0 ?_
  intro p e s m args below meth c X hr
  exact G.sub [0] rfl (b_X12_isDay_0 X hr  _ h)
abbrev rm_X12_name : Room := { frames := 1, cells := 0, slots := 0, locals := 25 }
set_option maxRecDepth 100000 in
set_option maxHeartbeats 4000000 in
theorem b_X12_name_0 {p : Program} {l : Launch} {e : Env} {s : State} {m : MethodId} {args : Array Value} {below : List Frame} {meth : Method} {c : Code} {D : va_G} {ks : Nat → ClassId} {A : Nat → Prop} {ad : Nat → Nat} (X : Cx p s m args meth c cX12_name 5 RX12 D ks A 24 ad (shR ks ad)) (hr : meth.sig.returnType = (some .int)) {F : Nat} {r : Int32 × Mem} (μ : Mem) (x1 : Int32) (x2 : Int32) (x3 : Int32) (x4 : Int32)  (h : f_X12_name F  μ x1 x2 x3 x4 = some r) : G p l e rm_X12_name s m args below meth c D A 5 (MQ below (QI D 24 ad (shR ks ad) A r) args s 0 0 A) 24 ad (shR ks ad) μ 0 [(0, .ref (ad 0)), (1, .int x1), (2, .int x2), (3, .int x3), (4, .int x4)] [] := by
  refine g_iload_n 1 X 1 dX12_name_0 rfl rfl ?_
  refine g_i2l 2 X dX12_name_1 rfl ?_
  refine g_lconst 3 X dX12_name_2 lc0 rfl ?_
  refine g_ldc2 6 X m1144 dX12_name_3 rfl ?_
  refine g_ni 9 h (fun q e => r_S X cd_X12_92_X12_in ⟨rfl, rfl⟩ ⟨Nat.le_of_ble_eq_true rfl, Nat.le_of_ble_eq_true rfl⟩ (c_X12_in e) PC_blind (pn_pre X) rfl rfl (Nat.le_of_ble_eq_true rfl) dX12_name_6) rfl (fun v1 h => ?_)
  refine g_if_eq 49 12 X dX12_name_9 (by decide) rfl h (fun h => ?_) (fun h => ?_)
  · refine g_bipush 51 X dX12_name_49 bpm2 rfl ?_
    exact g_iret X hr dX12_name_51 h
  · refine g_iload_n 13 X 2 dX12_name_12 rfl rfl ?_
    refine g_i2l 14 X dX12_name_13 rfl ?_
    refine g_lconst 15 X dX12_name_14 lc0 rfl ?_
    refine g_ldc2 18 X m1181 dX12_name_15 rfl ?_
    refine g_ni 21 h (fun q e => r_S X cd_X12_92_X12_in ⟨rfl, rfl⟩ ⟨Nat.le_of_ble_eq_true rfl, Nat.le_of_ble_eq_true rfl⟩ (c_X12_in e) PC_blind (pn_pre X) rfl rfl (Nat.le_of_ble_eq_true rfl) dX12_name_18) rfl (fun v2 h => ?_)
    refine g_if_eq 49 24 X dX12_name_21 (by decide) rfl h (fun h => ?_) (fun h => ?_)
    · refine g_bipush 51 X dX12_name_49 bpm2 rfl ?_
      exact g_iret X hr dX12_name_51 h
    · refine g_iload_n 25 X 3 dX12_name_24 rfl rfl ?_
      refine g_i2l 26 X dX12_name_25 rfl ?_
      refine g_lconst 27 X dX12_name_26 lc1 rfl ?_
      refine g_ldc2 30 X m1182 dX12_name_27 rfl ?_
      refine g_ni 33 h (fun q e => r_S X cd_X12_92_X12_in ⟨rfl, rfl⟩ ⟨Nat.le_of_ble_eq_true rfl, Nat.le_of_ble_eq_true rfl⟩ (c_X12_in e) PC_blind (pn_pre X) rfl rfl (Nat.le_of_ble_eq_true rfl) dX12_name_30) rfl (fun v3 h => ?_)
      refine g_if_eq 49 36 X dX12_name_33 (by decide) rfl h (fun h => ?_) (fun h => ?_)
      · refine g_bipush 51 X dX12_name_49 bpm2 rfl ?_
        exact g_iret X hr dX12_name_51 h
      · refine g_iload 38 X 4 dX12_name_36 rfl rfl ?_
        refine g_i2l 39 X dX12_name_38 rfl ?_
        refine g_lconst 40 X dX12_name_39 lc0 rfl ?_
        refine g_ldc2 43 X m1148 dX12_name_40 rfl ?_
        refine g_ni 46 h (fun q e => r_S X cd_X12_92_X12_in ⟨rfl, rfl⟩ ⟨Nat.le_of_ble_eq_true rfl, Nat.le_of_ble_eq_true rfl⟩ (c_X12_in e) PC_blind (pn_pre X) rfl rfl (Nat.le_of_ble_eq_true rfl) dX12_name_43) rfl (fun v4 h => ?_)
        refine g_if_ne 52 49 X dX12_name_46 (by decide) rfl h (fun h => ?_) (fun h => ?_)
        · refine g_aload_n 53 X 0 dX12_name_52 rfl rfl ?_
          refine g_geti 56 X fl_X12_115_12 (o12 rfl) rfl dX12_name_53 h rfl (fun v5 h => ?_)
          refine g_bipush 58 X dX12_name_56 bp30 rfl ?_
          refine g_icmp_ne 64 61 X dX12_name_58 (by decide) rfl h (fun h => ?_) (fun h => ?_)
          · refine g_aload_n 65 X 0 dX12_name_64 rfl rfl ?_
            refine g_getr 68 X fl_X12_22_12 (o12 rfl) rfl dX12_name_65 rfl ?_
            refine g_aload_n 69 X 0 dX12_name_68 rfl rfl ?_
            refine g_geti 72 X fl_X12_115_12 (o12 rfl) rfl dX12_name_69 h rfl (fun v6 h => ?_)
            refine g_iload_n 73 X 1 dX12_name_72 rfl rfl ?_
            refine g_iast 74 X (aiR (n := 30) (by decide) rfl) dX12_name_73 h rfl (fun μ7 h => ?_)
            refine g_aload_n 75 X 0 dX12_name_74 rfl rfl ?_
            refine g_getr 78 X fl_X12_25_12 (o12 rfl) rfl dX12_name_75 rfl ?_
            refine g_aload_n 79 X 0 dX12_name_78 rfl rfl ?_
            refine g_geti 82 X fl_X12_115_12 (o12 rfl) rfl dX12_name_79 h rfl (fun v8 h => ?_)
            refine g_iload_n 83 X 2 dX12_name_82 rfl rfl ?_
            refine g_iast 84 X (aiR (n := 30) (by decide) rfl) dX12_name_83 h rfl (fun μ9 h => ?_)
            refine g_aload_n 85 X 0 dX12_name_84 rfl rfl ?_
            refine g_getr 88 X fl_X12_28_12 (o12 rfl) rfl dX12_name_85 rfl ?_
            refine g_aload_n 89 X 0 dX12_name_88 rfl rfl ?_
            refine g_geti 92 X fl_X12_115_12 (o12 rfl) rfl dX12_name_89 h rfl (fun v10 h => ?_)
            refine g_iload_n 93 X 3 dX12_name_92 rfl rfl ?_
            refine g_iast 94 X (aiR (n := 30) (by decide) rfl) dX12_name_93 h rfl (fun μ11 h => ?_)
            refine g_aload_n 95 X 0 dX12_name_94 rfl rfl ?_
            refine g_getr 98 X fl_X12_31_12 (o12 rfl) rfl dX12_name_95 rfl ?_
            refine g_aload_n 99 X 0 dX12_name_98 rfl rfl ?_
            refine g_geti 102 X fl_X12_115_12 (o12 rfl) rfl dX12_name_99 h rfl (fun v12 h => ?_)
            refine g_iload 104 X 4 dX12_name_102 rfl rfl ?_
            refine g_iast 105 X (aiR (n := 30) (by decide) rfl) dX12_name_104 h rfl (fun μ13 h => ?_)
            refine g_aload_n 106 X 0 dX12_name_105 rfl rfl ?_
            refine g_dup 107 X dX12_name_106 rfl rfl ?_
            refine g_geti 110 X fl_X12_115_12 (o12 rfl) rfl dX12_name_107 h rfl (fun v14 h => ?_)
            refine g_iconst 111 X dX12_name_110 ic1 rfl ?_
            refine g_iadd 112 X dX12_name_111 rfl ?_
            refine g_puti 115 X fp_X12_115_12 (o12 rfl) rfl (Nat.le_of_ble_eq_true rfl) rfl rfl dX12_name_112 h rfl (fun μ15 h => ?_)
            refine g_aload_n 116 X 0 dX12_name_115 rfl rfl ?_
            refine g_geti 119 X fl_X12_115_12 (o12 rfl) rfl dX12_name_116 h rfl (fun v16 h => ?_)
            refine g_iconst 120 X dX12_name_119 ic1 rfl ?_
            refine g_isub 121 X dX12_name_120 rfl ?_
            exact g_iret X hr dX12_name_121 h
          · refine g_bipush 63 X dX12_name_61 bpm4 rfl ?_
            exact g_iret X hr dX12_name_63 h
        · refine g_bipush 51 X dX12_name_49 bpm2 rfl ?_
          exact g_iret X hr dX12_name_51 h
set_option maxRecDepth 100000 in
theorem c_X12_name {l : Launch} {D : va_G} {ks : Nat → ClassId} {A : Nat → Prop} {ad : Nat → Nat} (hD : ∀ μ : Mem, va_D A (wsM 24 ad (shR ks ad) μ)) {F : Nat} {μ : Mem} {x1 : Int32} {x2 : Int32} {x3 : Int32} {x4 : Int32} {r : Int32 × Mem}  (h : f_X12_name F μ x1 x2 x3 x4 = some r) : Met l yX12_name (Cond.code yX12_name cX12_name 5 (some .int) :: wg) rm_X12_name (PC D ks 24 ad (shR ks ad) μ [.ref (ad 0), .int x1, .int x2, .int x3, .int x4]) (QI D 24 ad (shR ks ad) A r) 0 0 A := by
  refine met_of (by decide) (Nat.le_of_ble_eq_true rfl) hD ?_
  intro p e s m args below meth c X hr
  exact G.sub [0, 1, 2, 3, 4] rfl (b_X12_name_0 X hr  _ _ _ _ _ h)
