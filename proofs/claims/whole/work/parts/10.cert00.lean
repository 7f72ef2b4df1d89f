abbrev rm_X11_within : Room := { frames := 0, cells := 0, slots := 0, locals := 0 }
set_option maxRecDepth 100000 in
set_option maxHeartbeats 4000000 in
theorem b_X11_within_0 {p : Program} {l : Launch} {e : Env} {s : State} {m : MethodId} {args : Array Value} {below : List Frame} {meth : Method} {c : Code} {D : va_G} {ks : Nat → ClassId} (X : Cx p s m args meth c cX11_within 3 RX11 D ks (fun _ => False) 0 ad0 sh0) (hr : meth.sig.returnType = (some .boolean)) {F : Nat} {r : Int32} (x0 : Int32) (x1 : Int32) (x2 : Int32)  (h : f_X11_within F  x0 x1 x2 = some r) : G p l e rm_X11_within s m args below meth c D (fun _ => False) 3 (MQ below (QNi D r) args s 0 0 (fun _ => False)) 0 ad0 sh0 μ0 0 [(0, .int x0), (1, .int x1), (2, .int x2)] [] := by
  refine g_iload_n 1 X 0 dX11_within_0 rfl rfl ?_
  refine g_iload_n 2 X 1 dX11_within_1 rfl rfl ?_
  refine g_icmp_lt 14 5 X dX11_within_2 (by decide) rfl h (fun h => ?_) (fun h => ?_)
  · refine g_iconst 15 X dX11_within_14 ic0 rfl ?_
    exact gn_zret X hr nb0 dX11_within_15 h
  · refine g_iload_n 6 X 0 dX11_within_5 rfl rfl ?_
    refine g_iload_n 7 X 2 dX11_within_6 rfl rfl ?_
    refine g_icmp_gt 14 10 X dX11_within_7 (by decide) rfl h (fun h => ?_) (fun h => ?_)
    · refine g_iconst 15 X dX11_within_14 ic0 rfl ?_
      exact gn_zret X hr nb0 dX11_within_15 h
    · refine g_iconst 11 X dX11_within_10 ic1 rfl ?_
      refine g_goto 15 X dX11_within_11 (by decide) ?_
      exact gn_zret X hr nb1 dX11_within_15 h
set_option maxRecDepth 100000 in
theorem c_X11_within {l : Launch} {D : va_G} {ks : Nat → ClassId} {F : Nat} {x0 : Int32} {x1 : Int32} {x2 : Int32} {r : Int32}  (h : f_X11_within F x0 x1 x2 = some r) : Met l yX11_within (Cond.code yX11_within cX11_within 3 (some .boolean) :: wg) rm_X11_within (PN D ks [.int x0, .int x1, .int x2]) (QNi D r) 0 0 (fun _ => False) := by
  refine met_of (by decide) (Nat.le_of_ble_eq_true rfl) d0 ?_
  intro p e s m args below meth c X hr
  exact G.sub [0, 1, 2] rfl (b_X11_within_0 X hr  _ _ _ h)
abbrev rm_X6_layOnLine : Room := { frames := 0, cells := 0, slots := 0, locals := 0 }
set_option maxRecDepth 100000 in
set_option maxHeartbeats 4000000 in
theorem b_X6_layOnLine_12 {p : Program} {l : Launch} {e : Env} {s : State} {m : MethodId} {args : Array Value} {below : List Frame} {meth : Method} {c : Code} {D : va_G} {ks : Nat → ClassId} {A : Nat → Prop} {ad : Nat → Nat} (X : Cx p s m args meth c cX6_layOnLine 3 RX6 D ks A 75 ad (shC ks ad)) (hr : meth.sig.returnType = none) {F : Nat} {r : Unit × Mem} : ∀ n : Nat, ∀ (μ : Mem) (x1 : Int32) (x2 : Int32), f_X6_layOnLine_b12 F  n μ x1 x2 = some r → G p l e rm_X6_layOnLine s m args below meth c D A 3 (MQ below (QV D 75 ad (shC ks ad) A r) args s 0 0 A) 75 ad (shC ks ad) μ 12 [(0, .ref (ad 1)), (1, .int x1), (2, .int x2)] [] := by
  intro n
  induction n with
  | zero =>
    intro _ _ _ h
    cases h
  | succ n ih =>
    intro μ x1 x2 h
    refine g_iload_n 13 X 2 dX6_layOnLine_12 rfl rfl ?_
    refine g_aload_n 14 X 0 dX6_layOnLine_13 rfl rfl ?_
    refine g_getr 17 X fl_X6_18_6 (o6 rfl) rfl dX6_layOnLine_14 rfl ?_
    refine g_iload_n 18 X 1 dX6_layOnLine_17 rfl rfl ?_
    refine g_iald 19 X (aiC (n := 30) (by decide) rfl) dX6_layOnLine_18 h rfl (fun v1 h => ?_)
    refine g_icmp_ge 60 22 X dX6_layOnLine_19 (by decide) rfl h (fun h => ?_) (fun h => ?_)
    · exact g_vret X hr dX6_layOnLine_60 h
    · refine g_aload_n 23 X 0 dX6_layOnLine_22 rfl rfl ?_
      refine g_geti 26 X fl_X6_60_6 (o6 rfl) rfl dX6_layOnLine_23 h rfl (fun v2 h => ?_)
      refine g_aload_n 27 X 0 dX6_layOnLine_26 rfl rfl ?_
      refine g_getr 30 X fl_X6_39_6 (o6 rfl) rfl dX6_layOnLine_27 rfl ?_
      refine g_alen 31 X (aiC (n := 600) (by decide) rfl) rfl dX6_layOnLine_30 rfl ?_
      refine g_icmp_ge 60 34 X dX6_layOnLine_31 (by decide) rfl h (fun h => ?_) (fun h => ?_)
      · exact g_vret X hr dX6_layOnLine_60 h
      · refine g_aload_n 35 X 0 dX6_layOnLine_34 rfl rfl ?_
        refine g_getr 38 X fl_X6_39_6 (o6 rfl) rfl dX6_layOnLine_35 rfl ?_
        refine g_aload_n 39 X 0 dX6_layOnLine_38 rfl rfl ?_
        refine g_geti 42 X fl_X6_60_6 (o6 rfl) rfl dX6_layOnLine_39 h rfl (fun v3 h => ?_)
        refine g_iload_n 43 X 1 dX6_layOnLine_42 rfl rfl ?_
        refine g_iast 44 X (aiC (n := 600) (by decide) rfl) dX6_layOnLine_43 h rfl (fun μ4 h => ?_)
        refine g_aload_n 45 X 0 dX6_layOnLine_44 rfl rfl ?_
        refine g_dup 46 X dX6_layOnLine_45 rfl rfl ?_
        refine g_geti 49 X fl_X6_60_6 (o6 rfl) rfl dX6_layOnLine_46 h rfl (fun v5 h => ?_)
        refine g_iconst 50 X dX6_layOnLine_49 ic1 rfl ?_
        refine g_iadd 51 X dX6_layOnLine_50 rfl ?_
        refine g_puti 54 X fp_X6_60_6 (o6 rfl) rfl (Nat.le_of_ble_eq_true rfl) rfl rfl dX6_layOnLine_51 h rfl (fun μ6 h => ?_)
        refine g_iinc 57 X 2 dX6_layOnLine_54 ic1 rfl (by decide) rfl ?_
        refine g_goto 12 X dX6_layOnLine_57 (by decide) ?_
        exact G.sub [1, 2, 0] rfl (ih _ _ _ h)
set_option maxRecDepth 100000 in
set_option maxHeartbeats 4000000 in
theorem b_X6_layOnLine_0 {p : Program} {l : Launch} {e : Env} {s : State} {m : MethodId} {args : Array Value} {below : List Frame} {meth : Method} {c : Code} {D : va_G} {ks : Nat → ClassId} {A : Nat → Prop} {ad : Nat → Nat} (X : Cx p s m args meth c cX6_layOnLine 3 RX6 D ks A 75 ad (shC ks ad)) (hr : meth.sig.returnType = none) {F : Nat} {r : Unit × Mem} (μ : Mem) (x1 : Int32)  (h : f_X6_layOnLine F  μ x1 = some r) : G p l e rm_X6_layOnLine s m args below meth c D A 3 (MQ below (QV D 75 ad (shC ks ad) A r) args s 0 0 A) 75 ad (shC ks ad) μ 0 [(0, .ref (ad 1)), (1, .int x1)] [] := by
  refine g_aload_n 1 X 0 dX6_layOnLine_0 rfl rfl ?_
  refine g_getr 4 X fl_X6_36_6 (o6 rfl) rfl dX6_layOnLine_1 rfl ?_
  refine g_iload_n 5 X 1 dX6_layOnLine_4 rfl rfl ?_
  refine g_aload_n 6 X 0 dX6_layOnLine_5 rfl rfl ?_
  refine g_geti 9 X fl_X6_60_6 (o6 rfl) rfl dX6_layOnLine_6 h rfl (fun v1 h => ?_)
  refine g_iast 10 X (aiC (n := 30) (by decide) rfl) dX6_layOnLine_9 h rfl (fun μ2 h => ?_)
  refine g_iconst 11 X dX6_layOnLine_10 ic0 rfl ?_
  refine g_istore_n 12 X dX6_layOnLine_11 (by decide) rfl ?_
  exact G.sub [1, 2, 0] rfl (b_X6_layOnLine_12 X hr  F _ _ _ h)
set_option maxRecDepth 100000 in
theorem c_X6_layOnLine {l : Launch} {D : va_G} {ks : Nat → ClassId} {A : Nat → Prop} {ad : Nat → Nat} (hD : ∀ μ : Mem, va_D A (wsM 75 ad (shC ks ad) μ)) {F : Nat} {μ : Mem} {x1 : Int32} {r : Unit × Mem}  (h : f_X6_layOnLine F μ x1 = some r) : Met l yX6_layOnLine (Cond.code yX6_layOnLine cX6_layOnLine 3 none :: wg) rm_X6_layOnLine (PC D ks 75 ad (shC ks ad) μ [.ref (ad 1), .int x1]) (QV D 75 ad (shC ks ad) A r) 0 0 A := by
  refine met_of (by decide) (Nat.le_of_ble_eq_true rfl) hD ?_
  intro p e s m args below meth c X hr
  exact G.sub [0, 1] rfl (b_X6_layOnLine_0 X hr  _ _ h)
abbrev rm_X6_enter : Room := { frames := 1, cells := 0, slots := 0, locals := 22 }
set_option maxRecDepth 100000 in
set_option maxHeartbeats 4000000 in
theorem b_X6_enter_0 {p : Program} {l : Launch} {e : Env} {s : State} {m : MethodId} {args : Array Value} {below : List Frame} {meth : Method} {c : Code} {D : va_G} {ks : Nat → ClassId} {A : Nat → Prop} {ad : Nat → Nat} (X : Cx p s m args meth c cX6_enter 6 RX6 D ks A 75 ad (shC ks ad)) (hr : meth.sig.returnType = (some .int)) {F : Nat} {r : Int32 × Mem} (μ : Mem) (x1 : Int32) (x2 : Int32) (x3 : Int32) (x4 : Int32)  (h : f_X6_enter F  μ x1 x2 x3 x4 = some r) : G p l e rm_X6_enter s m args below meth c D A 6 (MQ below (QI D 75 ad (shC ks ad) A r) args s 0 0 A) 75 ad (shC ks ad) μ 0 [(0, .ref (ad 1)), (1, .int x1), (2, .int x2), (3, .int x3), (4, .int x4)] [] := by
  refine g_iload_n 1 X 1 dX6_enter_0 rfl rfl ?_
  refine g_iconst 2 X dX6_enter_1 ic0 rfl ?_
  refine g_iconst 3 X dX6_enter_2 ic3 rfl ?_
  refine g_ni 6 h (fun q e => r_SN X cd_X6_46_X11_within ⟨rfl, rfl⟩ ⟨Nat.le_of_ble_eq_true rfl, Nat.le_of_ble_eq_true rfl⟩ (c_X11_within e) PC_blind (pn_pre X) rfl rfl (Nat.le_of_ble_eq_true rfl) dX6_enter_3) rfl (fun v1 h => ?_)
  refine g_if_eq 39 9 X dX6_enter_6 (by decide) rfl h (fun h => ?_) (fun h => ?_)
  · refine g_bipush 41 X dX6_enter_39 bpm2 rfl ?_
    exact g_iret X hr dX6_enter_41 h
  · refine g_iload_n 10 X 2 dX6_enter_9 rfl rfl ?_
    refine g_iconst 11 X dX6_enter_10 ic0 rfl ?_
    refine g_bipush 13 X dX6_enter_11 bp7 rfl ?_
    refine g_ni 16 h (fun q e => r_SN X cd_X6_46_X11_within ⟨rfl, rfl⟩ ⟨Nat.le_of_ble_eq_true rfl, Nat.le_of_ble_eq_true rfl⟩ (c_X11_within e) PC_blind (pn_pre X) rfl rfl (Nat.le_of_ble_eq_true rfl) dX6_enter_13) rfl (fun v2 h => ?_)
    refine g_if_eq 39 19 X dX6_enter_16 (by decide) rfl h (fun h => ?_) (fun h => ?_)
    · refine g_bipush 41 X dX6_enter_39 bpm2 rfl ?_
      exact g_iret X hr dX6_enter_41 h
    · refine g_iload_n 20 X 3 dX6_enter_19 rfl rfl ?_
      refine g_iconst 21 X dX6_enter_20 ic1 rfl ?_
      refine g_bipush 23 X dX6_enter_21 bp20 rfl ?_
      refine g_ni 26 h (fun q e => r_SN X cd_X6_46_X11_within ⟨rfl, rfl⟩ ⟨Nat.le_of_ble_eq_true rfl, Nat.le_of_ble_eq_true rfl⟩ (c_X11_within e) PC_blind (pn_pre X) rfl rfl (Nat.le_of_ble_eq_true rfl) dX6_enter_23) rfl (fun v3 h => ?_)
      refine g_if_eq 39 29 X dX6_enter_26 (by decide) rfl h (fun h => ?_) (fun h => ?_)
      · refine g_bipush 41 X dX6_enter_39 bpm2 rfl ?_
        exact g_iret X hr dX6_enter_41 h
      · refine g_iload 31 X 4 dX6_enter_29 rfl rfl ?_
        refine g_iconst 32 X dX6_enter_31 ic0 rfl ?_
        refine g_iconst 33 X dX6_enter_32 ic2 rfl ?_
        refine g_ni 36 h (fun q e => r_SN X cd_X6_46_X11_within ⟨rfl, rfl⟩ ⟨Nat.le_of_ble_eq_true rfl, Nat.le_of_ble_eq_true rfl⟩ (c_X11_within e) PC_blind (pn_pre X) rfl rfl (Nat.le_of_ble_eq_true rfl) dX6_enter_33) rfl (fun v4 h => ?_)
        refine g_if_ne 42 39 X dX6_enter_36 (by decide) rfl h (fun h => ?_) (fun h => ?_)
        · refine g_aload_n 43 X 0 dX6_enter_42 rfl rfl ?_
          refine g_geti 46 X fl_X6_42_6 (o6 rfl) rfl dX6_enter_43 h rfl (fun v5 h => ?_)
          refine g_bipush 48 X dX6_enter_46 bp30 rfl ?_
          refine g_icmp_lt 54 51 X dX6_enter_48 (by decide) rfl h (fun h => ?_) (fun h => ?_)
          · refine g_aload_n 55 X 0 dX6_enter_54 rfl rfl ?_
            refine g_geti 58 X fl_X6_42_6 (o6 rfl) rfl dX6_enter_55 h rfl (fun v6 h => ?_)
            refine g_istore 60 X dX6_enter_58 (by decide) rfl ?_
            refine g_aload_n 61 X 1 dX6_enter_60 rfl rfl ?_
            refine g_dup 62 X dX6_enter_61 rfl rfl ?_
            refine g_geti 65 X fl_X6_42_6 (o6 rfl) rfl dX6_enter_62 h rfl (fun v7 h => ?_)
            refine g_iconst 66 X dX6_enter_65 ic1 rfl ?_
            refine g_iadd 67 X dX6_enter_66 rfl ?_
            refine g_puti 70 X fp_X6_42_6 (o6 rfl) rfl (Nat.le_of_ble_eq_true rfl) rfl rfl dX6_enter_67 h rfl (fun μ8 h => ?_)
            refine g_aload_n 71 X 1 dX6_enter_70 rfl rfl ?_
            refine g_getr 74 X fl_X6_9_6 (o6 rfl) rfl dX6_enter_71 rfl ?_
            refine g_iload 76 X 0 dX6_enter_74 rfl rfl ?_
            refine g_iload_n 77 X 2 dX6_enter_76 rfl rfl ?_
            refine g_iast 78 X (aiC (n := 30) (by decide) rfl) dX6_enter_77 h rfl (fun μ9 h => ?_)
            refine g_aload_n 79 X 1 dX6_enter_78 rfl rfl ?_
            refine g_getr 82 X fl_X6_15_6 (o6 rfl) rfl dX6_enter_79 rfl ?_
            refine g_iload 84 X 0 dX6_enter_82 rfl rfl ?_
            refine g_iload_n 85 X 3 dX6_enter_84 rfl rfl ?_
            refine g_iast 86 X (aiC (n := 30) (by decide) rfl) dX6_enter_85 h rfl (fun μ10 h => ?_)
            refine g_aload_n 87 X 1 dX6_enter_86 rfl rfl ?_
            refine g_getr 90 X fl_X6_18_6 (o6 rfl) rfl dX6_enter_87 rfl ?_
            refine g_iload 92 X 0 dX6_enter_90 rfl rfl ?_
            refine g_iload_n 93 X 4 dX6_enter_92 rfl rfl ?_
            refine g_iast 94 X (aiC (n := 30) (by decide) rfl) dX6_enter_93 h rfl (fun μ11 h => ?_)
            refine g_aload_n 95 X 1 dX6_enter_94 rfl rfl ?_
            refine g_getr 98 X fl_X6_21_6 (o6 rfl) rfl dX6_enter_95 rfl ?_
            refine g_iload 100 X 0 dX6_enter_98 rfl rfl ?_
            refine g_iload 102 X 5 dX6_enter_100 rfl rfl ?_
            refine g_iast 103 X (aiC (n := 30) (by decide) rfl) dX6_enter_102 h rfl (fun μ12 h => ?_)
            refine g_aload_n 104 X 1 dX6_enter_103 rfl rfl ?_
            refine g_getr 107 X fl_X6_24_6 (o6 rfl) rfl dX6_enter_104 rfl ?_
            refine g_iload 109 X 0 dX6_enter_107 rfl rfl ?_
            refine g_iconst 110 X dX6_enter_109 icm1 rfl ?_
            refine g_iast 111 X (aiC (n := 30) (by decide) rfl) dX6_enter_110 h rfl (fun μ13 h => ?_)
            refine g_aload_n 112 X 1 dX6_enter_111 rfl rfl ?_
            refine g_dup 113 X dX6_enter_112 rfl rfl ?_
            refine g_geti 116 X fl_X6_50_6 (o6 rfl) rfl dX6_enter_113 h rfl (fun v14 h => ?_)
            refine g_iconst 117 X dX6_enter_116 ic1 rfl ?_
            refine g_iload 119 X 0 dX6_enter_117 rfl rfl ?_
            refine g_ishl 120 X dX6_enter_119 rfl ?_
            refine g_ior 121 X dX6_enter_120 rfl ?_
            refine g_puti 124 X fp_X6_50_6 (o6 rfl) rfl (Nat.le_of_ble_eq_true rfl) rfl rfl dX6_enter_121 h rfl (fun μ15 h => ?_)
            refine g_aload_n 125 X 1 dX6_enter_124 rfl rfl ?_
            refine g_getr 128 X fl_X6_27_6 (o6 rfl) rfl dX6_enter_125 rfl ?_
            refine g_iload_n 129 X 2 dX6_enter_128 rfl rfl ?_
            refine g_dup2 130 X dX6_enter_129 rfl rfl rfl ?_
            refine g_iald 131 X (aiC (n := 4) (by decide) rfl) dX6_enter_130 h rfl (fun v16 h => ?_)
            refine g_iconst 132 X dX6_enter_131 ic1 rfl ?_
            refine g_iload 134 X 0 dX6_enter_132 rfl rfl ?_
            refine g_ishl 135 X dX6_enter_134 rfl ?_
            refine g_ior 136 X dX6_enter_135 rfl ?_
            refine g_iast 137 X (aiC (n := 4) (by decide) rfl) dX6_enter_136 h rfl (fun μ17 h => ?_)
            refine g_aload_n 138 X 1 dX6_enter_137 rfl rfl ?_
            refine g_getr 141 X fl_X6_30_6 (o6 rfl) rfl dX6_enter_138 rfl ?_
            refine g_iload_n 142 X 3 dX6_enter_141 rfl rfl ?_
            refine g_dup2 143 X dX6_enter_142 rfl rfl rfl ?_
            refine g_iald 144 X (aiC (n := 8) (by decide) rfl) dX6_enter_143 h rfl (fun v18 h => ?_)
            refine g_iconst 145 X dX6_enter_144 ic1 rfl ?_
            refine g_iload 147 X 0 dX6_enter_145 rfl rfl ?_
            refine g_ishl 148 X dX6_enter_147 rfl ?_
            refine g_ior 149 X dX6_enter_148 rfl ?_
            refine g_iast 150 X (aiC (n := 8) (by decide) rfl) dX6_enter_149 h rfl (fun μ19 h => ?_)
            refine g_aload_n 151 X 1 dX6_enter_150 rfl rfl ?_
            refine g_getr 154 X fl_X6_33_6 (o6 rfl) rfl dX6_enter_151 rfl ?_
            refine g_iload 156 X 5 dX6_enter_154 rfl rfl ?_
            refine g_dup2 157 X dX6_enter_156 rfl rfl rfl ?_
            refine g_iald 158 X (aiC (n := 3) (by decide) rfl) dX6_enter_157 h rfl (fun v20 h => ?_)
            refine g_iconst 159 X dX6_enter_158 ic1 rfl ?_
            refine g_iload 161 X 0 dX6_enter_159 rfl rfl ?_
            refine g_ishl 162 X dX6_enter_161 rfl ?_
            refine g_ior 163 X dX6_enter_162 rfl ?_
            refine g_iast 164 X (aiC (n := 3) (by decide) rfl) dX6_enter_163 h rfl (fun μ21 h => ?_)
            refine g_aload_n 165 X 1 dX6_enter_164 rfl rfl ?_
            refine g_dup 166 X dX6_enter_165 rfl rfl ?_
            refine g_geti 169 X fl_X6_53_6 (o6 rfl) rfl dX6_enter_166 h rfl (fun v22 h => ?_)
            refine g_iconst 170 X dX6_enter_169 ic1 rfl ?_
            refine g_iload_n 171 X 3 dX6_enter_170 rfl rfl ?_
            refine g_ishl 172 X dX6_enter_171 rfl ?_
            refine g_ior 173 X dX6_enter_172 rfl ?_
            refine g_puti 176 X fp_X6_53_6 (o6 rfl) rfl (Nat.le_of_ble_eq_true rfl) rfl rfl dX6_enter_173 h rfl (fun μ23 h => ?_)
            refine g_aload_n 177 X 1 dX6_enter_176 rfl rfl ?_
            refine g_iload 179 X 0 dX6_enter_177 rfl rfl ?_
            refine g_cv 182 h (fun q e => r_V X cd_X6_56_X6_layOnLine_X6 ⟨rfl, rfl⟩ ⟨Nat.le_of_ble_eq_true rfl, Nat.le_of_ble_eq_true rfl⟩ (c_X6_layOnLine X.2.2.2.2  e) PC_blind (pc_pre X) (g_recv X (o6 rfl) rfl) rfl rfl (Nat.le_of_ble_eq_true rfl) dX6_enter_179) rfl (fun _ μ24 h => ?_)
            refine g_iload 184 X 0 dX6_enter_182 rfl rfl ?_
            exact g_iret X hr dX6_enter_184 h
          · refine g_bipush 53 X dX6_enter_51 bpm4 rfl ?_
            exact g_iret X hr dX6_enter_53 h
        · refine g_bipush 41 X dX6_enter_39 bpm2 rfl ?_
          exact g_iret X hr dX6_enter_41 h
set_option maxRecDepth 100000 in
theorem c_X6_enter {l : Launch} {D : va_G} {ks : Nat → ClassId} {A : Nat → Prop} {ad : Nat → Nat} (hD : ∀ μ : Mem, va_D A (wsM 75 ad (shC ks ad) μ)) {F : Nat} {μ : Mem} {x1 : Int32} {x2 : Int32} {x3 : Int32} {x4 : Int32} {r : Int32 × Mem}  (h : f_X6_enter F μ x1 x2 x3 x4 = some r) : Met l yX6_enter (Cond.code yX6_enter cX6_enter 6 (some .int) :: wg) rm_X6_enter (PC D ks 75 ad (shC ks ad) μ [.ref (ad 1), .int x1, .int x2, .int x3, .int x4]) (QI D 75 ad (shC ks ad) A r) 0 0 A := by
  refine met_of (by decide) (Nat.le_of_ble_eq_true rfl) hD ?_
  intro p e s m args below meth c X hr
  exact G.sub [0, 1, 2, 3, 4] rfl (b_X6_enter_0 X hr  _ _ _ _ _ h)
abbrev rm_X11_name : Room := { frames := 2, cells := 0, slots := 0, locals := 47 }
set_option maxRecDepth 100000 in
set_option maxHeartbeats 4000000 in
theorem b_X11_name_0 {p : Program} {l : Launch} {e : Env} {s : State} {m : MethodId} {args : Array Value} {below : List Frame} {meth : Method} {c : Code} {D : va_G} {ks : Nat → ClassId} {A : Nat → Prop} {ad : Nat → Nat} (X : Cx p s m args meth c cX11_name 5 RX11 D ks A 75 ad (shC ks ad)) (hr : meth.sig.returnType = (some .int)) {F : Nat} {r : Int32 × Mem} (μ : Mem) (x1 : Int32) (x2 : Int32) (x3 : Int32) (x4 : Int32)  (h : f_X11_name F  μ x1 x2 x3 x4 = some r) : G p l e rm_X11_name s m args below meth c D A 5 (MQ below (QI D 75 ad (shC ks ad) A r) args s 0 0 A) 75 ad (shC ks ad) μ 0 [(0, .ref (ad 0)), (1, .int x1), (2, .int x2), (3, .int x3), (4, .int x4)] [] := by
  refine g_aload_n 1 X 0 dX11_name_0 rfl rfl ?_
  refine g_getr 4 X fl_X11_10_11 (o11 rfl) rfl dX11_name_1 rfl ?_
  refine g_iload_n 5 X 1 dX11_name_4 rfl rfl ?_
  refine g_iload_n 6 X 2 dX11_name_5 rfl rfl ?_
  refine g_iload_n 7 X 3 dX11_name_6 rfl rfl ?_
  refine g_iload 9 X 4 dX11_name_7 rfl rfl ?_
  refine g_ci 12 h (fun q e => r_V X cd_X11_63_X6_enter_X6 ⟨rfl, rfl⟩ ⟨Nat.le_of_ble_eq_true rfl, Nat.le_of_ble_eq_true rfl⟩ (c_X6_enter X.2.2.2.2  e) PC_blind (pc_pre X) (g_recv X (o6 rfl) rfl) rfl rfl (Nat.le_of_ble_eq_true rfl) dX11_name_9) rfl (fun v1 μ2 h => ?_)
  exact g_iret X hr dX11_name_12 h
set_option maxRecDepth 100000 in
theorem c_X11_name {l : Launch} {D : va_G} {ks : Nat → ClassId} {A : Nat → Prop} {ad : Nat → Nat} (hD : ∀ μ : Mem, va_D A (wsM 75 ad (shC ks ad) μ)) {F : Nat} {μ : Mem} {x1 : Int32} {x2 : Int32} {x3 : Int32} {x4 : Int32} {r : Int32 × Mem}  (h : f_X11_name F μ x1 x2 x3 x4 = some r) : Met l yX11_name (Cond.code yX11_name cX11_name 5 (some .int) :: wg) rm_X11_name (PC D ks 75 ad (shC ks ad) μ [.ref (ad 0), .int x1, .int x2, .int x3, .int x4]) (QI D 75 ad (shC ks ad) A r) 0 0 A := by
  refine met_of (by decide) (Nat.le_of_ble_eq_true rfl) hD ?_
  intro p e s m args below meth c X hr
  exact G.sub [0, 1, 2, 3, 4] rfl (b_X11_name_0 X hr  _ _ _ _ _ h)
abbrev rm_X11_isSheet : Room := { frames := 1, cells := 0, slots := 0, locals := 22 }
set_option maxRecDepth 100000 in
set_option maxHeartbeats 4000000 in
theorem b_X11_isSheet_0 {p : Program} {l : Launch} {e : Env} {s : State} {m : MethodId} {args : Array Value} {below : List Frame} {meth : Method} {c : Code} {D : va_G} {ks : Nat → ClassId} (X : Cx p s m args meth c cX11_isSheet 1 RX11 D ks (fun _ => False) 0 ad0 sh0) (hr : meth.sig.returnType = (some .boolean)) {F : Nat} {r : Int32} (x0 : Int32)  (h : f_X11_isSheet F  x0 = some r) : G p l e rm_X11_isSheet s m args below meth c D (fun _ => False) 1 (MQ below (QNi D r) args s 0 0 (fun _ => False)) 0 ad0 sh0 μ0 0 [(0, .int x0)] [] := by
  refine g_iload_n 1 X 0 dX11_isSheet_0 rfl rfl ?_
  refine g_iconst 2 X dX11_isSheet_1 ic0 rfl ?_
  refine g_iconst 3 X dX11_isSheet_2 ic3 rfl ?_
  refine g_ni 6 h (fun q e => r_S X cd_X11_105_X11_within ⟨rfl, rfl⟩ ⟨Nat.le_of_ble_eq_true rfl, Nat.le_of_ble_eq_true rfl⟩ (c_X11_within e) PC_blind (pn_pre X) rfl rfl (Nat.le_of_ble_eq_true rfl) dX11_isSheet_3) rfl (fun v1 h => ?_)
  obtain ⟨hz, h⟩ := zk_some h
  exact gn_zret X hr hz dX11_isSheet_6 h
set_option maxRecDepth 100000 in
theorem c_X11_isSheet {l : Launch} {D : va_G} {ks : Nat → ClassId} {F : Nat} {x0 : Int32} {r : Int32}  (h : f_X11_isSheet F x0 = some r) : Met l yX11_isSheet (Cond.code yX11_isSheet cX11_isSheet 1 (some .boolean) :: wg) rm_X11_isSheet (PN D ks [.int x0]) (QNi D r) 0 0 (fun _ => False) := by
  refine met_of (by decide) (Nat.le_of_ble_eq_true rfl) d0 ?_
  intro p e s m args below meth c X hr
  exact G.sub [0] rfl (b_X11_isSheet_0 X hr  _ h)
abbrev rm_X11_findingOf : Room := { frames := 0, cells := 0, slots := 0, locals := 0 }
set_option maxRecDepth 100000 in
set_option maxHeartbeats 4000000 in
theorem b_X11_findingOf_0 {p : Program} {l : Launch} {e : Env} {s : State} {m : MethodId} {args : Array Value} {below : List Frame} {meth : Method} {c : Code} {D : va_G} {ks : Nat → ClassId} {A : Nat → Prop} {ad : Nat → Nat} (X : Cx p s m args meth c cX11_findingOf 2 RX11 D ks A 75 ad (shC ks ad)) (hr : meth.sig.returnType = (some .int)) {F : Nat} {r : Int32 × Mem} (μ : Mem) (x1 : Int32)  (h : f_X11_findingOf F  μ x1 = some r) : G p l e rm_X11_findingOf s m args below meth c D A 2 (MQ below (QI D 75 ad (shC ks ad) A r) args s 0 0 A) 75 ad (shC ks ad) μ 0 [(0, .ref (ad 0)), (1, .int x1)] [] := by
  refine g_aload_n 1 X 0 dX11_findingOf_0 rfl rfl ?_
  refine g_iload_n 2 X 1 dX11_findingOf_1 rfl rfl ?_
  refine g_puti 5 X fp_X11_269_11 (o11 rfl) rfl (Nat.le_of_ble_eq_true rfl) rfl rfl dX11_findingOf_2 h rfl (fun μ1 h => ?_)
  refine g_bipush 7 X dX11_findingOf_5 bpm10 rfl ?_
  refine g_iload_n 8 X 1 dX11_findingOf_7 rfl rfl ?_
  refine g_isub 9 X dX11_findingOf_8 rfl ?_
  exact g_iret X hr dX11_findingOf_9 h
set_option maxRecDepth 100000 in
theorem c_X11_findingOf {l : Launch} {D : va_G} {ks : Nat → ClassId} {A : Nat → Prop} {ad : Nat → Nat} (hD : ∀ μ : Mem, va_D A (wsM 75 ad (shC ks ad) μ)) {F : Nat} {μ : Mem} {x1 : Int32} {r : Int32 × Mem}  (h : f_X11_findingOf F μ x1 = some r) : Met l yX11_findingOf (Cond.code yX11_findingOf cX11_findingOf 2 (some .int) :: wg) rm_X11_findingOf (PC D ks 75 ad (shC ks ad) μ [.ref (ad 0), .int x1]) (QI D 75 ad (shC ks ad) A r) 0 0 A := by
  refine met_of (by decide) (Nat.le_of_ble_eq_true rfl) hD ?_
  intro p e s m args below meth c X hr
  exact G.sub [0, 1] rfl (b_X11_findingOf_0 X hr  _ _ h)
abbrev rm_X11_read : Room := { frames := 2, cells := 0, slots := 0, locals := 47 }
set_option maxRecDepth 100000 in
set_option maxHeartbeats 4000000 in
theorem b_X11_read_35 {p : Program} {l : Launch} {e : Env} {s : State} {m : MethodId} {args : Array Value} {below : List Frame} {meth : Method} {c : Code} {D : va_G} {ks : Nat → ClassId} {A : Nat → Prop} {ad : Nat → Nat} (X : Cx p s m args meth c cX11_read 6 RX11 D ks A 75 ad (shC ks ad)) (hr : meth.sig.returnType = (some .int)) {F : Nat} {r : Int32 × Mem} : ∀ n : Nat, ∀ (μ : Mem) (x2 : Nat) (x3 : Int32) (x4 : Int32), (kindC x2 = 107) → f_X11_read_b35 F  n μ x2 x3 x4 = some r → G p l e rm_X11_read s m args below meth c D A 6 (MQ below (QI D 75 ad (shC ks ad) A r) args s 0 0 A) 75 ad (shC ks ad) μ 35 [(0, .ref (ad 0)), (2, .ref (ad x2)), (3, .int x3), (4, .int x4)] [] := by
  intro n
  induction n with
  | zero =>
    intro _ _ _ _ _ h
    cases h
  | succ n ih =>
    intro μ x2 x3 x4 kx2 h
    refine g_iload 37 X 3 dX11_read_35 rfl rfl ?_
    refine g_iconst 38 X dX11_read_37 ic3 rfl ?_
    refine g_iadd 39 X dX11_read_38 rfl ?_
    refine g_aload_n 40 X 1 dX11_read_39 rfl rfl ?_
    refine g_geti 43 X fl_X11_79_7 (o7 kx2) rfl dX11_read_40 h rfl (fun v1 h => ?_)
    refine g_icmp_ge 106 46 X dX11_read_43 (by decide) rfl h (fun h => ?_) (fun h => ?_)
    · refine g_iload_n 107 X 2 dX11_read_106 rfl rfl ?_
      exact g_iret X hr dX11_read_107 h
    · refine g_aload_n 47 X 0 dX11_read_46 rfl rfl ?_
      refine g_getr 50 X fl_X11_10_11 (o11 rfl) rfl dX11_read_47 rfl ?_
      refine g_aload_n 51 X 1 dX11_read_50 rfl rfl ?_
      refine g_getr 54 X fl_X11_83_7 (o7 kx2) rfl dX11_read_51 rfl ?_
      refine g_iload 56 X 3 dX11_read_54 rfl rfl ?_
      refine g_iald 57 X (aiC (n := 90) (by decide) (k7_items kx2)) dX11_read_56 h rfl (fun v2 h => ?_)
      refine g_aload_n 58 X 1 dX11_read_57 rfl rfl ?_
      refine g_getr 61 X fl_X11_83_7 (o7 kx2) rfl dX11_read_58 rfl ?_
      refine g_iload 63 X 3 dX11_read_61 rfl rfl ?_
      refine g_iconst 64 X dX11_read_63 ic1 rfl ?_
      refine g_iadd 65 X dX11_read_64 rfl ?_
      refine g_iald 66 X (aiC (n := 90) (by decide) (k7_items kx2)) dX11_read_65 h rfl (fun v3 h => ?_)
      refine g_aload_n 67 X 1 dX11_read_66 rfl rfl ?_
      refine g_getr 70 X fl_X11_83_7 (o7 kx2) rfl dX11_read_67 rfl ?_
      refine g_iload 72 X 3 dX11_read_70 rfl rfl ?_
      refine g_iconst 73 X dX11_read_72 ic2 rfl ?_
      refine g_iadd 74 X dX11_read_73 rfl ?_
      refine g_iald 75 X (aiC (n := 90) (by decide) (k7_items kx2)) dX11_read_74 h rfl (fun v4 h => ?_)
      refine g_aload_n 76 X 1 dX11_read_75 rfl rfl ?_
      refine g_getr 79 X fl_X11_83_7 (o7 kx2) rfl dX11_read_76 rfl ?_
      refine g_iload 81 X 3 dX11_read_79 rfl rfl ?_
      refine g_iconst 82 X dX11_read_81 ic3 rfl ?_
      refine g_iadd 83 X dX11_read_82 rfl ?_
      refine g_iald 84 X (aiC (n := 90) (by decide) (k7_items kx2)) dX11_read_83 h rfl (fun v5 h => ?_)
      refine g_ci 87 h (fun q e => r_V X cd_X11_63_X6_enter_X6 ⟨rfl, rfl⟩ ⟨Nat.le_of_ble_eq_true rfl, Nat.le_of_ble_eq_true rfl⟩ (c_X6_enter X.2.2.2.2  e) PC_blind (pc_pre X) (g_recv X (o6 rfl) rfl) rfl rfl (Nat.le_of_ble_eq_true rfl) dX11_read_84) rfl (fun v6 μ7 h => ?_)
      refine g_istore 89 X dX11_read_87 (by decide) rfl ?_
      refine g_iload 91 X 0 dX11_read_89 rfl rfl ?_
      refine g_if_ge 97 94 X dX11_read_91 (by decide) rfl h (fun h => ?_) (fun h => ?_)
      · refine g_iinc 100 X 3 dX11_read_97 ic1 rfl (by decide) rfl ?_
        refine g_iinc 103 X 4 dX11_read_100 ic4 rfl (by decide) rfl ?_
        refine g_goto 35 X dX11_read_103 (by decide) ?_
        exact G.sub [3, 4, 1, 0] rfl (ih _ _ _ _ kx2 h)
      · refine g_goto 106 X dX11_read_94 (by decide) ?_
        refine g_iload_n 107 X 3 dX11_read_106 rfl rfl ?_
        exact g_iret X hr dX11_read_107 h
set_option maxRecDepth 100000 in
set_option maxHeartbeats 4000000 in
theorem b_X11_read_0 {p : Program} {l : Launch} {e : Env} {s : State} {m : MethodId} {args : Array Value} {below : List Frame} {meth : Method} {c : Code} {D : va_G} {ks : Nat → ClassId} {A : Nat → Prop} {ad : Nat → Nat} (X : Cx p s m args meth c cX11_read 6 RX11 D ks A 75 ad (shC ks ad)) (hr : meth.sig.returnType = (some .int)) {F : Nat} {r : Int32 × Mem} (μ : Mem) (x1 : Int32)  (h : f_X11_read F  μ x1 = some r) : G p l e rm_X11_read s m args below meth c D A 6 (MQ below (QI D 75 ad (shC ks ad) A r) args s 0 0 A) 75 ad (shC ks ad) μ 0 [(0, .ref (ad 0)), (1, .int x1)] [] := by
  refine g_iload_n 1 X 1 dX11_read_0 rfl rfl ?_
  refine g_ni 4 h (fun q e => r_S X cd_X11_67_X11_isSheet ⟨rfl, rfl⟩ ⟨Nat.le_of_ble_eq_true rfl, Nat.le_of_ble_eq_true rfl⟩ (c_X11_isSheet e) PC_blind (pn_pre X) rfl rfl (Nat.le_of_ble_eq_true rfl) dX11_read_1) rfl (fun v1 h => ?_)
  refine g_if_ne 10 7 X dX11_read_4 (by decide) rfl h (fun h => ?_) (fun h => ?_)
  · refine g_aload_n 11 X 0 dX11_read_10 rfl rfl ?_
    refine g_getr 14 X fl_X11_33_11 (o11 rfl) rfl dX11_read_11 rfl ?_
    refine g_iload_n 15 X 1 dX11_read_14 rfl rfl ?_
    refine g_aald (fn := fun p => 55 + 2 * p) 16 X arS rfl dX11_read_15 h rfl (fun hv2 h => ?_)
    refine g_astore_n 17 X dX11_read_16 (by decide) rfl ?_
    refine g_aload_n 18 X 0 dX11_read_17 rfl rfl ?_
    refine g_geti 21 X fl_X11_71_7 (o7 (kSh hv2)) rfl dX11_read_18 h rfl (fun v3 h => ?_)
    refine g_if_eq 30 24 X dX11_read_21 (by decide) rfl h (fun h => ?_) (fun h => ?_)
    · refine g_iconst 31 X dX11_read_30 ic0 rfl ?_
      refine g_istore_n 32 X dX11_read_31 (by decide) rfl ?_
      refine g_iconst 33 X dX11_read_32 ic0 rfl ?_
      refine g_istore 35 X dX11_read_33 (by decide) rfl ?_
      exact G.sub [3, 2, 1, 0] rfl (b_X11_read_35 X hr  F _ _ _ _ (kSh hv2) h)
    · refine g_aload_n 25 X 1 dX11_read_24 rfl rfl ?_
      refine g_iconst 26 X dX11_read_25 ic1 rfl ?_
      refine g_ci 29 h (fun q e => r_V X cd_X11_75_X11_findingOf_X11 ⟨rfl, rfl⟩ ⟨Nat.le_of_ble_eq_true rfl, Nat.le_of_ble_eq_true rfl⟩ (c_X11_findingOf X.2.2.2.2  e) PC_blind (pc_pre X) (g_recv X (o11 rfl) rfl) rfl rfl (Nat.le_of_ble_eq_true rfl) dX11_read_26) rfl (fun v4 μ5 h => ?_)
      exact g_iret X hr dX11_read_29 h
  · refine g_bipush 9 X dX11_read_7 bpm2 rfl ?_
    exact g_iret X hr dX11_read_9 h
set_option maxRecDepth 100000 in
theorem c_X11_read {l : Launch} {D : va_G} {ks : Nat → ClassId} {A : Nat → Prop} {ad : Nat → Nat} (hD : ∀ μ : Mem, va_D A (wsM 75 ad (shC ks ad) μ)) {F : Nat} {μ : Mem} {x1 : Int32} {r : Int32 × Mem}  (h : f_X11_read F μ x1 = some r) : Met l yX11_read (Cond.code yX11_read cX11_read 6 (some .int) :: wg) rm_X11_read (PC D ks 75 ad (shC ks ad) μ [.ref (ad 0), .int x1]) (QI D 75 ad (shC ks ad) A r) 0 0 A := by
  refine met_of (by decide) (Nat.le_of_ble_eq_true rfl) hD ?_
  intro p e s m args below meth c X hr
  exact G.sub [0, 1] rfl (b_X11_read_0 X hr  _ _ h)
abbrev rm_X6_has : Room := { frames := 1, cells := 0, slots := 0, locals := 22 }
set_option maxRecDepth 100000 in
set_option maxHeartbeats 4000000 in
theorem b_X6_has_0 {p : Program} {l : Launch} {e : Env} {s : State} {m : MethodId} {args : Array Value} {below : List Frame} {meth : Method} {c : Code} {D : va_G} {ks : Nat → ClassId} {A : Nat → Prop} {ad : Nat → Nat} (X : Cx p s m args meth c cX6_has 2 RX6 D ks A 75 ad (shC ks ad)) (hr : meth.sig.returnType = (some .boolean)) {F : Nat} {r : Int32 × Mem} (μ : Mem) (x1 : Int32)  (h : f_X6_has F  μ x1 = some r) : G p l e rm_X6_has s m args below meth c D A 2 (MQ below (QI D 75 ad (shC ks ad) A r) args s 0 0 A) 75 ad (shC ks ad) μ 0 [(0, .ref (ad 1)), (1, .int x1)] [] := by
  refine g_iload_n 1 X 1 dX6_has_0 rfl rfl ?_
  refine g_iconst 2 X dX6_has_1 ic0 rfl ?_
  refine g_aload_n 3 X 0 dX6_has_2 rfl rfl ?_
  refine g_geti 6 X fl_X6_42_6 (o6 rfl) rfl dX6_has_3 h rfl (fun v1 h => ?_)
  refine g_iconst 7 X dX6_has_6 ic1 rfl ?_
  refine g_isub 8 X dX6_has_7 rfl ?_
  refine g_ni 11 h (fun q e => r_SN X cd_X6_46_X11_within ⟨rfl, rfl⟩ ⟨Nat.le_of_ble_eq_true rfl, Nat.le_of_ble_eq_true rfl⟩ (c_X11_within e) PC_blind (pn_pre X) rfl rfl (Nat.le_of_ble_eq_true rfl) dX6_has_8) rfl (fun v2 h => ?_)
  obtain ⟨hz, h⟩ := zk_some h
  exact g_zret X hr hz dX6_has_11 h
set_option maxRecDepth 100000 in
theorem c_X6_has {l : Launch} {D : va_G} {ks : Nat → ClassId} {A : Nat → Prop} {ad : Nat → Nat} (hD : ∀ μ : Mem, va_D A (wsM 75 ad (shC ks ad) μ)) {F : Nat} {μ : Mem} {x1 : Int32} {r : Int32 × Mem}  (h : f_X6_has F μ x1 = some r) : Met l yX6_has (Cond.code yX6_has cX6_has 2 (some .boolean) :: wg) rm_X6_has (PC D ks 75 ad (shC ks ad) μ [.ref (ad 1), .int x1]) (QI D 75 ad (shC ks ad) A r) 0 0 A := by
  refine met_of (by decide) (Nat.le_of_ble_eq_true rfl) hD ?_
  intro p e s m args below meth c X hr
  exact G.sub [0, 1] rfl (b_X6_has_0 X hr  _ _ h)
abbrev rm_X11_about : Room := { frames := 2, cells := 0, slots := 0, locals := 43 }
set_option maxRecDepth 100000 in
set_option maxHeartbeats 4000000 in
theorem b_X11_about_0 {p : Program} {l : Launch} {e : Env} {s : State} {m : MethodId} {args : Array Value} {below : List Frame} {meth : Method} {c : Code} {D : va_G} {ks : Nat → ClassId} {A : Nat → Prop} {ad : Nat → Nat} (X : Cx p s m args meth c cX11_about 3 RX11 D ks A 75 ad (shC ks ad)) (hr : meth.sig.returnType = (some .int)) {F : Nat} {r : Int32 × Mem} (μ : Mem) (x1 : Int32) (x2 : Int32)  (h : f_X11_about F  μ x1 x2 = some r) : G p l e rm_X11_about s m args below meth c D A 3 (MQ below (QI D 75 ad (shC ks ad) A r) args s 0 0 A) 75 ad (shC ks ad) μ 0 [(0, .ref (ad 0)), (1, .int x1), (2, .int x2)] [] := by
  refine g_aload_n 1 X 0 dX11_about_0 rfl rfl ?_
  refine g_getr 4 X fl_X11_10_11 (o11 rfl) rfl dX11_about_1 rfl ?_
  refine g_iload_n 5 X 1 dX11_about_4 rfl rfl ?_
  refine g_ci 8 h (fun q e => r_V X cd_X11_87_X6_has_X6 ⟨rfl, rfl⟩ ⟨Nat.le_of_ble_eq_true rfl, Nat.le_of_ble_eq_true rfl⟩ (c_X6_has X.2.2.2.2  e) PC_blind (pc_pre X) (g_recv X (o6 rfl) rfl) rfl rfl (Nat.le_of_ble_eq_true rfl) dX11_about_5) rfl (fun v1 μ2 h => ?_)
  refine g_if_ne 14 11 X dX11_about_8 (by decide) rfl h (fun h => ?_) (fun h => ?_)
  · refine g_iload_n 15 X 2 dX11_about_14 rfl rfl ?_
    by_cases hc3 : x2 = 0
    · have h := if_t h hc3
      refine g_tin 48 X (off := 33) hc3 dX11_about_15 (by decide) (by decide) (by decide +kernel) (by decide) ?_
      refine g_aload_n 49 X 0 dX11_about_48 rfl rfl ?_
      refine g_getr 52 X fl_X11_10_11 (o11 rfl) rfl dX11_about_49 rfl ?_
      refine g_getr 55 X fl_X11_90_6 (o6 rfl) rfl dX11_about_52 rfl ?_
      refine g_iload_n 56 X 1 dX11_about_55 rfl rfl ?_
      refine g_iald 57 X (aiC (n := 30) (by decide) rfl) dX11_about_56 h rfl (fun v4 h => ?_)
      exact g_iret X hr dX11_about_57 h
    · have h := if_f h hc3
      by_cases hc5 : x2 = 1
      · have h := if_t h hc5
        refine g_tin 58 X (off := 43) hc5 dX11_about_15 (by decide) (by decide) (by decide +kernel) (by decide) ?_
        refine g_aload_n 59 X 0 dX11_about_58 rfl rfl ?_
        refine g_getr 62 X fl_X11_10_11 (o11 rfl) rfl dX11_about_59 rfl ?_
        refine g_getr 65 X fl_X11_93_6 (o6 rfl) rfl dX11_about_62 rfl ?_
        refine g_iload_n 66 X 1 dX11_about_65 rfl rfl ?_
        refine g_iald 67 X (aiC (n := 30) (by decide) rfl) dX11_about_66 h rfl (fun v6 h => ?_)
        exact g_iret X hr dX11_about_67 h
      · have h := if_f h hc5
        by_cases hc7 : x2 = 2
        · have h := if_t h hc7
          refine g_tin 68 X (off := 53) hc7 dX11_about_15 (by decide) (by decide) (by decide +kernel) (by decide) ?_
          refine g_aload_n 69 X 0 dX11_about_68 rfl rfl ?_
          refine g_getr 72 X fl_X11_10_11 (o11 rfl) rfl dX11_about_69 rfl ?_
          refine g_getr 75 X fl_X11_96_6 (o6 rfl) rfl dX11_about_72 rfl ?_
          refine g_iload_n 76 X 1 dX11_about_75 rfl rfl ?_
          refine g_iald 77 X (aiC (n := 30) (by decide) rfl) dX11_about_76 h rfl (fun v8 h => ?_)
          exact g_iret X hr dX11_about_77 h
        · have h := if_f h hc7
          by_cases hc9 : x2 = 3
          · have h := if_t h hc9
            refine g_tin 78 X (off := 63) hc9 dX11_about_15 (by decide) (by decide) (by decide +kernel) (by decide) ?_
            refine g_aload_n 79 X 0 dX11_about_78 rfl rfl ?_
            refine g_getr 82 X fl_X11_10_11 (o11 rfl) rfl dX11_about_79 rfl ?_
            refine g_getr 85 X fl_X11_99_6 (o6 rfl) rfl dX11_about_82 rfl ?_
            refine g_iload_n 86 X 1 dX11_about_85 rfl rfl ?_
            refine g_iald 87 X (aiC (n := 30) (by decide) rfl) dX11_about_86 h rfl (fun v10 h => ?_)
            exact g_iret X hr dX11_about_87 h
          · have h := if_f h hc9
            by_cases hc11 : x2 = 4
            · have h := if_t h hc11
              refine g_tin 88 X (off := 73) hc11 dX11_about_15 (by decide) (by decide) (by decide +kernel) (by decide) ?_
              refine g_aload_n 89 X 0 dX11_about_88 rfl rfl ?_
              refine g_getr 92 X fl_X11_10_11 (o11 rfl) rfl dX11_about_89 rfl ?_
              refine g_getr 95 X fl_X11_102_6 (o6 rfl) rfl dX11_about_92 rfl ?_
              refine g_iload_n 96 X 1 dX11_about_95 rfl rfl ?_
              refine g_iald 97 X (aiC (n := 30) (by decide) rfl) dX11_about_96 h rfl (fun v12 h => ?_)
              exact g_iret X hr dX11_about_97 h
            · have h := if_f h hc11
              have ehc3 := ne_ti hc3 (k := 0) (by decide)
              have ehc5 := ne_ti hc5 (k := 1) (by decide)
              have ehc7 := ne_ti hc7 (k := 2) (by decide)
              have ehc9 := ne_ti hc9 (k := 3) (by decide)
              have ehc11 := ne_ti hc11 (k := 4) (by decide)
              refine g_tout 98 X dX11_about_15 (by omega) (by decide) ?_
              refine g_bipush 100 X dX11_about_98 bpm2 rfl ?_
              exact g_iret X hr dX11_about_100 h
  · refine g_bipush 13 X dX11_about_11 bpm2 rfl ?_
    exact g_iret X hr dX11_about_13 h
set_option maxRecDepth 100000 in
theorem c_X11_about {l : Launch} {D : va_G} {ks : Nat → ClassId} {A : Nat → Prop} {ad : Nat → Nat} (hD : ∀ μ : Mem, va_D A (wsM 75 ad (shC ks ad) μ)) {F : Nat} {μ : Mem} {x1 : Int32} {x2 : Int32} {r : Int32 × Mem}  (h : f_X11_about F μ x1 x2 = some r) : Met l yX11_about (Cond.code yX11_about cX11_about 3 (some .int) :: wg) rm_X11_about (PC D ks 75 ad (shC ks ad) μ [.ref (ad 0), .int x1, .int x2]) (QI D 75 ad (shC ks ad) A r) 0 0 A := by
  refine met_of (by decide) (Nat.le_of_ble_eq_true rfl) hD ?_
  intro p e s m args below meth c X hr
  exact G.sub [0, 1, 2] rfl (b_X11_about_0 X hr  _ _ _ h)
abbrev rm_X6_forgetValues : Room := { frames := 0, cells := 0, slots := 0, locals := 0 }
set_option maxRecDepth 100000 in
set_option maxHeartbeats 4000000 in
theorem b_X6_forgetValues_7 {p : Program} {l : Launch} {e : Env} {s : State} {m : MethodId} {args : Array Value} {below : List Frame} {meth : Method} {c : Code} {D : va_G} {ks : Nat → ClassId} {A : Nat → Prop} {ad : Nat → Nat} (X : Cx p s m args meth c cX6_forgetValues 2 RX6 D ks A 75 ad (shC ks ad)) (hr : meth.sig.returnType = none) {F : Nat} {r : Unit × Mem} : ∀ n : Nat, ∀ (μ : Mem) (x1 : Int32), f_X6_forgetValues_b7 F  n μ x1 = some r → G p l e rm_X6_forgetValues s m args below meth c D A 2 (MQ below (QV D 75 ad (shC ks ad) A r) args s 0 0 A) 75 ad (shC ks ad) μ 7 [(0, .ref (ad 1)), (1, .int x1)] [] := by
  intro n
  induction n with
  | zero =>
    intro _ _ h
    cases h
  | succ n ih =>
    intro μ x1 h
    refine g_iload_n 8 X 1 dX6_forgetValues_7 rfl rfl ?_
    refine g_aload_n 9 X 0 dX6_forgetValues_8 rfl rfl ?_
    refine g_geti 12 X fl_X6_42_6 (o6 rfl) rfl dX6_forgetValues_9 h rfl (fun v1 h => ?_)
    refine g_icmp_ge 28 15 X dX6_forgetValues_12 (by decide) rfl h (fun h => ?_) (fun h => ?_)
    · exact g_vret X hr dX6_forgetValues_28 h
    · refine g_aload_n 16 X 0 dX6_forgetValues_15 rfl rfl ?_
      refine g_getr 19 X fl_X6_24_6 (o6 rfl) rfl dX6_forgetValues_16 rfl ?_
      refine g_iload_n 20 X 1 dX6_forgetValues_19 rfl rfl ?_
      refine g_iconst 21 X dX6_forgetValues_20 icm1 rfl ?_
      refine g_iast 22 X (aiC (n := 30) (by decide) rfl) dX6_forgetValues_21 h rfl (fun μ2 h => ?_)
      refine g_iinc 25 X 1 dX6_forgetValues_22 ic1 rfl (by decide) rfl ?_
      refine g_goto 7 X dX6_forgetValues_25 (by decide) ?_
      exact G.sub [1, 0] rfl (ih _ _ h)
set_option maxRecDepth 100000 in
set_option maxHeartbeats 4000000 in
theorem b_X6_forgetValues_0 {p : Program} {l : Launch} {e : Env} {s : State} {m : MethodId} {args : Array Value} {below : List Frame} {meth : Method} {c : Code} {D : va_G} {ks : Nat → ClassId} {A : Nat → Prop} {ad : Nat → Nat} (X : Cx p s m args meth c cX6_forgetValues 2 RX6 D ks A 75 ad (shC ks ad)) (hr : meth.sig.returnType = none) {F : Nat} {r : Unit × Mem} (μ : Mem)  (h : f_X6_forgetValues F  μ = some r) : G p l e rm_X6_forgetValues s m args below meth c D A 2 (MQ below (QV D 75 ad (shC ks ad) A r) args s 0 0 A) 75 ad (shC ks ad) μ 0 [(0, .ref (ad 1))] [] := by
  refine g_aload_n 1 X 0 dX6_forgetValues_0 rfl rfl ?_
  refine g_iconst 2 X dX6_forgetValues_1 ic0 rfl ?_
  refine g_puti 5 X fp_X6_63_6 (o6 rfl) rfl (Nat.le_of_ble_eq_true rfl) rfl rfl dX6_forgetValues_2 h rfl (fun μ1 h => ?_)
  refine g_iconst 6 X dX6_forgetValues_5 ic0 rfl ?_
  refine g_istore_n 7 X dX6_forgetValues_6 (by decide) rfl ?_
  exact G.sub [1, 0] rfl (b_X6_forgetValues_7 X hr  F _ _ h)
set_option maxRecDepth 100000 in
theorem c_X6_forgetValues {l : Launch} {D : va_G} {ks : Nat → ClassId} {A : Nat → Prop} {ad : Nat → Nat} (hD : ∀ μ : Mem, va_D A (wsM 75 ad (shC ks ad) μ)) {F : Nat} {μ : Mem} {r : Unit × Mem}  (h : f_X6_forgetValues F μ = some r) : Met l yX6_forgetValues (Cond.code yX6_forgetValues cX6_forgetValues 2 none :: wg) rm_X6_forgetValues (PC D ks 75 ad (shC ks ad) μ [.ref (ad 1)]) (QV D 75 ad (shC ks ad) A r) 0 0 A := by
  refine met_of (by decide) (Nat.le_of_ble_eq_true rfl) hD ?_
  intro p e s m args below meth c X hr
  exact G.sub [0] rfl (b_X6_forgetValues_0 X hr  _ h)
abbrev rm_X6_hold : Room := { frames := 0, cells := 0, slots := 0, locals := 0 }
set_option maxRecDepth 100000 in
set_option maxHeartbeats 4000000 in
theorem b_X6_hold_0 {p : Program} {l : Launch} {e : Env} {s : State} {m : MethodId} {args : Array Value} {below : List Frame} {meth : Method} {c : Code} {D : va_G} {ks : Nat → ClassId} {A : Nat → Prop} {ad : Nat → Nat} (X : Cx p s m args meth c cX6_hold 3 RX6 D ks A 75 ad (shC ks ad)) (hr : meth.sig.returnType = none) {F : Nat} {r : Unit × Mem} (μ : Mem) (x1 : Int32) (x2 : Int32)  (h : f_X6_hold F  μ x1 x2 = some r) : G p l e rm_X6_hold s m args below meth c D A 3 (MQ below (QV D 75 ad (shC ks ad) A r) args s 0 0 A) 75 ad (shC ks ad) μ 0 [(0, .ref (ad 1)), (1, .int x1), (2, .int x2)] [] := by
  refine g_aload_n 1 X 0 dX6_hold_0 rfl rfl ?_
  refine g_getr 4 X fl_X6_24_6 (o6 rfl) rfl dX6_hold_1 rfl ?_
  refine g_iload_n 5 X 1 dX6_hold_4 rfl rfl ?_
  refine g_iload_n 6 X 2 dX6_hold_5 rfl rfl ?_
  refine g_iast 7 X (aiC (n := 30) (by decide) rfl) dX6_hold_6 h rfl (fun μ1 h => ?_)
  refine g_iload_n 8 X 2 dX6_hold_7 rfl rfl ?_
  refine g_iconst 9 X dX6_hold_8 icm1 rfl ?_
  refine g_icmp_ne 29 12 X dX6_hold_9 (by decide) rfl h (fun h => ?_) (fun h => ?_)
  · refine g_aload_n 30 X 0 dX6_hold_29 rfl rfl ?_
    refine g_dup 31 X dX6_hold_30 rfl rfl ?_
    refine g_geti 34 X fl_X6_63_6 (o6 rfl) rfl dX6_hold_31 h rfl (fun v2 h => ?_)
    refine g_iconst 35 X dX6_hold_34 ic1 rfl ?_
    refine g_iload_n 36 X 1 dX6_hold_35 rfl rfl ?_
    refine g_ishl 37 X dX6_hold_36 rfl ?_
    refine g_ior 38 X dX6_hold_37 rfl ?_
    refine g_puti 41 X fp_X6_63_6 (o6 rfl) rfl (Nat.le_of_ble_eq_true rfl) rfl rfl dX6_hold_38 h rfl (fun μ3 h => ?_)
    exact g_vret X hr dX6_hold_41 h
  · refine g_aload_n 13 X 0 dX6_hold_12 rfl rfl ?_
    refine g_dup 14 X dX6_hold_13 rfl rfl ?_
    refine g_geti 17 X fl_X6_63_6 (o6 rfl) rfl dX6_hold_14 h rfl (fun v4 h => ?_)
    refine g_iconst 18 X dX6_hold_17 ic1 rfl ?_
    refine g_iload_n 19 X 1 dX6_hold_18 rfl rfl ?_
    refine g_ishl 20 X dX6_hold_19 rfl ?_
    refine g_iconst 21 X dX6_hold_20 icm1 rfl ?_
    refine g_ixor 22 X dX6_hold_21 rfl ?_
    refine g_iand 23 X dX6_hold_22 rfl ?_
    refine g_puti 26 X fp_X6_63_6 (o6 rfl) rfl (Nat.le_of_ble_eq_true rfl) rfl rfl dX6_hold_23 h rfl (fun μ5 h => ?_)
    refine g_goto 41 X dX6_hold_26 (by decide) ?_
    exact g_vret X hr dX6_hold_41 h
set_option maxRecDepth 100000 in
theorem c_X6_hold {l : Launch} {D : va_G} {ks : Nat → ClassId} {A : Nat → Prop} {ad : Nat → Nat} (hD : ∀ μ : Mem, va_D A (wsM 75 ad (shC ks ad) μ)) {F : Nat} {μ : Mem} {x1 : Int32} {x2 : Int32} {r : Unit × Mem}  (h : f_X6_hold F μ x1 x2 = some r) : Met l yX6_hold (Cond.code yX6_hold cX6_hold 3 none :: wg) rm_X6_hold (PC D ks 75 ad (shC ks ad) μ [.ref (ad 1), .int x1, .int x2]) (QV D 75 ad (shC ks ad) A r) 0 0 A := by
  refine met_of (by decide) (Nat.le_of_ble_eq_true rfl) hD ?_
  intro p e s m args below meth c X hr
  exact G.sub [0, 1, 2] rfl (b_X6_hold_0 X hr  _ _ _ h)
abbrev rm_X0_settle : Room := { frames := 1, cells := 0, slots := 0, locals := 22 }
set_option maxRecDepth 100000 in
set_option maxHeartbeats 4000000 in
theorem b_X0_settle_99 {p : Program} {l : Launch} {e : Env} {s : State} {m : MethodId} {args : Array Value} {below : List Frame} {meth : Method} {c : Code} {D : va_G} {ks : Nat → ClassId} {A : Nat → Prop} {ad : Nat → Nat} (X : Cx p s m args meth c cX0_settle 3 RX0 D ks A 75 ad (shC ks ad)) (hr : meth.sig.returnType = none) {F : Nat} {r : Unit × Mem} {k30 : Mem → Int32 → Option (Unit × Mem)} (hk30 : ∀ (μ : Mem) (x1 : Int32), k30 μ x1 = some r → G p l e rm_X0_settle s m args below meth c D A 3 (MQ below (QV D 75 ad (shC ks ad) A r) args s 0 0 A) 75 ad (shC ks ad) μ 30 [(0, .ref (ad 12)), (1, .int x1)] []) (μ : Mem) (x1 : Int32)  (h : f_X0_settle_b99 F k30 μ x1 = some r) : G p l e rm_X0_settle s m args below meth c D A 3 (MQ below (QV D 75 ad (shC ks ad) A r) args s 0 0 A) 75 ad (shC ks ad) μ 99 [(0, .ref (ad 12)), (1, .int x1)] [] := by
  refine g_iinc 102 X 1 dX0_settle_99 ic1 rfl (by decide) rfl ?_
  refine g_goto 30 X dX0_settle_102 (by decide) ?_
  exact G.sub [1, 0] rfl (hk30 _ _ h)
set_option maxRecDepth 100000 in
set_option maxHeartbeats 4000000 in
theorem b_X0_settle_30 {p : Program} {l : Launch} {e : Env} {s : State} {m : MethodId} {args : Array Value} {below : List Frame} {meth : Method} {c : Code} {D : va_G} {ks : Nat → ClassId} {A : Nat → Prop} {ad : Nat → Nat} (X : Cx p s m args meth c cX0_settle 3 RX0 D ks A 75 ad (shC ks ad)) (hr : meth.sig.returnType = none) {F : Nat} {r : Unit × Mem} : ∀ n : Nat, ∀ (μ : Mem) (x1 : Int32), f_X0_settle_b30 F  n μ x1 = some r → G p l e rm_X0_settle s m args below meth c D A 3 (MQ below (QV D 75 ad (shC ks ad) A r) args s 0 0 A) 75 ad (shC ks ad) μ 30 [(0, .ref (ad 12)), (1, .int x1)] [] := by
  intro n
  induction n with
  | zero =>
    intro _ _ h
    cases h
  | succ n ih =>
    intro μ x1 h
    refine g_iload_n 31 X 1 dX0_settle_30 rfl rfl ?_
    refine g_aload_n 32 X 0 dX0_settle_31 rfl rfl ?_
    refine g_geti 35 X fl_X0_32_0 (o0 rfl) rfl dX0_settle_32 h rfl (fun v1 h => ?_)
    refine g_icmp_ge 105 38 X dX0_settle_35 (by decide) rfl h (fun h => ?_) (fun h => ?_)
    · exact g_vret X hr dX0_settle_105 h
    · refine g_aload_n 39 X 0 dX0_settle_38 rfl rfl ?_
      refine g_getr 42 X fl_X0_9_0 (o0 rfl) rfl dX0_settle_39 rfl ?_
      refine g_iload_n 43 X 1 dX0_settle_42 rfl rfl ?_
      refine g_iald 44 X (aiC (n := 120) (by decide) rfl) dX0_settle_43 h rfl (fun v2 h => ?_)
      refine g_istore_n 45 X dX0_settle_44 (by decide) rfl ?_
      refine g_aload_n 46 X 1 dX0_settle_45 rfl rfl ?_
      refine g_getr 49 X fl_X0_18_0 (o0 rfl) rfl dX0_settle_46 rfl ?_
      refine g_iload_n 50 X 2 dX0_settle_49 rfl rfl ?_
      refine g_iald 51 X (aiC (n := 120) (by decide) rfl) dX0_settle_50 h rfl (fun v3 h => ?_)
      refine g_aload_n 52 X 1 dX0_settle_51 rfl rfl ?_
      refine g_geti 55 X fl_X0_24_0 (o0 rfl) rfl dX0_settle_52 h rfl (fun v4 h => ?_)
      refine g_icmp_gt 99 58 X dX0_settle_55 (by decide) rfl h (fun h => ?_) (fun h => ?_)
      · exact G.sub [1, 2] rfl (b_X0_settle_99 X hr ih _ _ h)
      · refine g_aload_n 59 X 1 dX0_settle_58 rfl rfl ?_
        refine g_getr 62 X fl_X0_18_0 (o0 rfl) rfl dX0_settle_59 rfl ?_
        refine g_iload_n 63 X 2 dX0_settle_62 rfl rfl ?_
        refine g_iald 64 X (aiC (n := 120) (by decide) rfl) dX0_settle_63 h rfl (fun v5 h => ?_)
        refine g_aload_n 65 X 1 dX0_settle_64 rfl rfl ?_
        refine g_getr 68 X fl_X0_21_0 (o0 rfl) rfl dX0_settle_65 rfl ?_
        refine g_iload_n 69 X 0 dX0_settle_68 rfl rfl ?_
        refine g_iald 70 X (aiC (n := 30) (by decide) rfl) dX0_settle_69 h rfl (fun v6 h => ?_)
        refine g_icmp_lt 99 73 X dX0_settle_70 (by decide) rfl h (fun h => ?_) (fun h => ?_)
        · exact G.sub [1, 2] rfl (b_X0_settle_99 X hr ih _ _ h)
        · refine g_aload_n 74 X 1 dX0_settle_73 rfl rfl ?_
          refine g_getr 77 X fl_X0_21_0 (o0 rfl) rfl dX0_settle_74 rfl ?_
          refine g_iload_n 78 X 0 dX0_settle_77 rfl rfl ?_
          refine g_aload_n 79 X 1 dX0_settle_78 rfl rfl ?_
          refine g_getr 82 X fl_X0_18_0 (o0 rfl) rfl dX0_settle_79 rfl ?_
          refine g_iload_n 83 X 2 dX0_settle_82 rfl rfl ?_
          refine g_iald 84 X (aiC (n := 120) (by decide) rfl) dX0_settle_83 h rfl (fun v7 h => ?_)
          refine g_iast 85 X (aiC (n := 30) (by decide) rfl) dX0_settle_84 h rfl (fun μ8 h => ?_)
          refine g_aload_n 86 X 1 dX0_settle_85 rfl rfl ?_
          refine g_getr 89 X fl_X0_28_0 (o0 rfl) rfl dX0_settle_86 rfl ?_
          refine g_iload_n 90 X 0 dX0_settle_89 rfl rfl ?_
          refine g_aload_n 91 X 1 dX0_settle_90 rfl rfl ?_
          refine g_getr 94 X fl_X0_15_0 (o0 rfl) rfl dX0_settle_91 rfl ?_
          refine g_iload_n 95 X 2 dX0_settle_94 rfl rfl ?_
          refine g_iald 96 X (aiC (n := 120) (by decide) rfl) dX0_settle_95 h rfl (fun v9 h => ?_)
          refine g_cv 99 h (fun q e => r_V X cd_X0_43_X6_hold_X6 ⟨rfl, rfl⟩ ⟨Nat.le_of_ble_eq_true rfl, Nat.le_of_ble_eq_true rfl⟩ (c_X6_hold X.2.2.2.2  e) PC_blind (pc_pre X) (g_recv X (o6 rfl) rfl) rfl rfl (Nat.le_of_ble_eq_true rfl) dX0_settle_96) rfl (fun _ μ10 h => ?_)
          exact G.sub [1, 2] rfl (b_X0_settle_99 X hr ih _ _ h)
set_option maxRecDepth 100000 in
set_option maxHeartbeats 4000000 in
theorem b_X0_settle_9 {p : Program} {l : Launch} {e : Env} {s : State} {m : MethodId} {args : Array Value} {below : List Frame} {meth : Method} {c : Code} {D : va_G} {ks : Nat → ClassId} {A : Nat → Prop} {ad : Nat → Nat} (X : Cx p s m args meth c cX0_settle 3 RX0 D ks A 75 ad (shC ks ad)) (hr : meth.sig.returnType = none) {F : Nat} {r : Unit × Mem} : ∀ n : Nat, ∀ (μ : Mem) (x1 : Int32), f_X0_settle_b9 F  n μ x1 = some r → G p l e rm_X0_settle s m args below meth c D A 3 (MQ below (QV D 75 ad (shC ks ad) A r) args s 0 0 A) 75 ad (shC ks ad) μ 9 [(0, .ref (ad 12)), (1, .int x1)] [] := by
  intro n
  induction n with
  | zero =>
    intro _ _ h
    cases h
  | succ n ih =>
    intro μ x1 h
    refine g_iload_n 10 X 1 dX0_settle_9 rfl rfl ?_
    refine g_bipush 12 X dX0_settle_10 bp30 rfl ?_
    refine g_icmp_ge 28 15 X dX0_settle_12 (by decide) rfl h (fun h => ?_) (fun h => ?_)
    · refine g_iconst 29 X dX0_settle_28 ic0 rfl ?_
      refine g_istore_n 30 X dX0_settle_29 (by decide) rfl ?_
      exact G.sub [1, 0] rfl (b_X0_settle_30 X hr  F _ _ h)
    · refine g_aload_n 16 X 0 dX0_settle_15 rfl rfl ?_
      refine g_getr 19 X fl_X0_21_0 (o0 rfl) rfl dX0_settle_16 rfl ?_
      refine g_iload_n 20 X 1 dX0_settle_19 rfl rfl ?_
      refine g_iconst 21 X dX0_settle_20 ic0 rfl ?_
      refine g_iast 22 X (aiC (n := 30) (by decide) rfl) dX0_settle_21 h rfl (fun μ1 h => ?_)
      refine g_iinc 25 X 1 dX0_settle_22 ic1 rfl (by decide) rfl ?_
      refine g_goto 9 X dX0_settle_25 (by decide) ?_
      exact G.sub [1, 0] rfl (ih _ _ h)
set_option maxRecDepth 100000 in
set_option maxHeartbeats 4000000 in
theorem b_X0_settle_0 {p : Program} {l : Launch} {e : Env} {s : State} {m : MethodId} {args : Array Value} {below : List Frame} {meth : Method} {c : Code} {D : va_G} {ks : Nat → ClassId} {A : Nat → Prop} {ad : Nat → Nat} (X : Cx p s m args meth c cX0_settle 3 RX0 D ks A 75 ad (shC ks ad)) (hr : meth.sig.returnType = none) {F : Nat} {r : Unit × Mem} (μ : Mem)  (h : f_X0_settle F  μ = some r) : G p l e rm_X0_settle s m args below meth c D A 3 (MQ below (QV D 75 ad (shC ks ad) A r) args s 0 0 A) 75 ad (shC ks ad) μ 0 [(0, .ref (ad 12))] [] := by
  refine g_aload_n 1 X 0 dX0_settle_0 rfl rfl ?_
  refine g_getr 4 X fl_X0_28_0 (o0 rfl) rfl dX0_settle_1 rfl ?_
  refine g_cv 7 h (fun q e => r_V X cd_X0_38_X6_forgetValues_X6 ⟨rfl, rfl⟩ ⟨Nat.le_of_ble_eq_true rfl, Nat.le_of_ble_eq_true rfl⟩ (c_X6_forgetValues X.2.2.2.2  e) PC_blind (pc_pre X) (g_recv X (o6 rfl) rfl) rfl rfl (Nat.le_of_ble_eq_true rfl) dX0_settle_4) rfl (fun _ μ1 h => ?_)
  refine g_iconst 8 X dX0_settle_7 ic0 rfl ?_
  refine g_istore_n 9 X dX0_settle_8 (by decide) rfl ?_
  exact G.sub [1, 0] rfl (b_X0_settle_9 X hr  F _ _ h)
set_option maxRecDepth 100000 in
theorem c_X0_settle {l : Launch} {D : va_G} {ks : Nat → ClassId} {A : Nat → Prop} {ad : Nat → Nat} (hD : ∀ μ : Mem, va_D A (wsM 75 ad (shC ks ad) μ)) {F : Nat} {μ : Mem} {r : Unit × Mem}  (h : f_X0_settle F μ = some r) : Met l yX0_settle (Cond.code yX0_settle cX0_settle 3 none :: wg) rm_X0_settle (PC D ks 75 ad (shC ks ad) μ [.ref (ad 12)]) (QV D 75 ad (shC ks ad) A r) 0 0 A := by
  refine met_of (by decide) (Nat.le_of_ble_eq_true rfl) hD ?_
  intro p e s m args below meth c X hr
  exact G.sub [0] rfl (b_X0_settle_0 X hr  _ h)
abbrev rm_X0_tell : Room := { frames := 2, cells := 0, slots := 0, locals := 44 }
set_option maxRecDepth 100000 in
set_option maxHeartbeats 4000000 in
theorem b_X0_tell_0 {p : Program} {l : Launch} {e : Env} {s : State} {m : MethodId} {args : Array Value} {below : List Frame} {meth : Method} {c : Code} {D : va_G} {ks : Nat → ClassId} {A : Nat → Prop} {ad : Nat → Nat} (X : Cx p s m args meth c cX0_tell 4 RX0 D ks A 75 ad (shC ks ad)) (hr : meth.sig.returnType = (some .int)) {F : Nat} {r : Int32 × Mem} (μ : Mem) (x1 : Int32) (x2 : Int32) (x3 : Int32)  (h : f_X0_tell F  μ x1 x2 x3 = some r) : G p l e rm_X0_tell s m args below meth c D A 4 (MQ below (QI D 75 ad (shC ks ad) A r) args s 0 0 A) 75 ad (shC ks ad) μ 0 [(0, .ref (ad 12)), (1, .int x1), (2, .int x2), (3, .int x3)] [] := by
  refine g_aload_n 1 X 0 dX0_tell_0 rfl rfl ?_
  refine g_geti 4 X fl_X0_32_0 (o0 rfl) rfl dX0_tell_1 h rfl (fun v1 h => ?_)
  refine g_bipush 6 X dX0_tell_4 bp120 rfl ?_
  refine g_icmp_lt 12 9 X dX0_tell_6 (by decide) rfl h (fun h => ?_) (fun h => ?_)
  · refine g_aload_n 13 X 0 dX0_tell_12 rfl rfl ?_
    refine g_getr 16 X fl_X0_9_0 (o0 rfl) rfl dX0_tell_13 rfl ?_
    refine g_aload_n 17 X 0 dX0_tell_16 rfl rfl ?_
    refine g_geti 20 X fl_X0_32_0 (o0 rfl) rfl dX0_tell_17 h rfl (fun v2 h => ?_)
    refine g_iload_n 21 X 1 dX0_tell_20 rfl rfl ?_
    refine g_iast 22 X (aiC (n := 120) (by decide) rfl) dX0_tell_21 h rfl (fun μ3 h => ?_)
    refine g_aload_n 23 X 0 dX0_tell_22 rfl rfl ?_
    refine g_getr 26 X fl_X0_15_0 (o0 rfl) rfl dX0_tell_23 rfl ?_
    refine g_aload_n 27 X 0 dX0_tell_26 rfl rfl ?_
    refine g_geti 30 X fl_X0_32_0 (o0 rfl) rfl dX0_tell_27 h rfl (fun v4 h => ?_)
    refine g_iload_n 31 X 2 dX0_tell_30 rfl rfl ?_
    refine g_iast 32 X (aiC (n := 120) (by decide) rfl) dX0_tell_31 h rfl (fun μ5 h => ?_)
    refine g_aload_n 33 X 0 dX0_tell_32 rfl rfl ?_
    refine g_getr 36 X fl_X0_18_0 (o0 rfl) rfl dX0_tell_33 rfl ?_
    refine g_aload_n 37 X 0 dX0_tell_36 rfl rfl ?_
    refine g_geti 40 X fl_X0_32_0 (o0 rfl) rfl dX0_tell_37 h rfl (fun v6 h => ?_)
    refine g_iload_n 41 X 3 dX0_tell_40 rfl rfl ?_
    refine g_iast 42 X (aiC (n := 120) (by decide) rfl) dX0_tell_41 h rfl (fun μ7 h => ?_)
    refine g_aload_n 43 X 0 dX0_tell_42 rfl rfl ?_
    refine g_dup 44 X dX0_tell_43 rfl rfl ?_
    refine g_geti 47 X fl_X0_32_0 (o0 rfl) rfl dX0_tell_44 h rfl (fun v8 h => ?_)
    refine g_iconst 48 X dX0_tell_47 ic1 rfl ?_
    refine g_iadd 49 X dX0_tell_48 rfl ?_
    refine g_puti 52 X fp_X0_32_0 (o0 rfl) rfl (Nat.le_of_ble_eq_true rfl) rfl rfl dX0_tell_49 h rfl (fun μ9 h => ?_)
    refine g_aload_n 53 X 0 dX0_tell_52 rfl rfl ?_
    refine g_cv 56 h (fun q e => r_V X cd_X0_35_X0_settle_X0 ⟨rfl, rfl⟩ ⟨Nat.le_of_ble_eq_true rfl, Nat.le_of_ble_eq_true rfl⟩ (c_X0_settle X.2.2.2.2  e) PC_blind (pc_pre X) (g_recv X (o0 rfl) rfl) rfl rfl (Nat.le_of_ble_eq_true rfl) dX0_tell_53) rfl (fun _ μ10 h => ?_)
    refine g_aload_n 57 X 0 dX0_tell_56 rfl rfl ?_
    refine g_geti 60 X fl_X0_32_0 (o0 rfl) rfl dX0_tell_57 h rfl (fun v11 h => ?_)
    exact g_iret X hr dX0_tell_60 h
  · refine g_bipush 11 X dX0_tell_9 bpm4 rfl ?_
    exact g_iret X hr dX0_tell_11 h
set_option maxRecDepth 100000 in
theorem c_X0_tell {l : Launch} {D : va_G} {ks : Nat → ClassId} {A : Nat → Prop} {ad : Nat → Nat} (hD : ∀ μ : Mem, va_D A (wsM 75 ad (shC ks ad) μ)) {F : Nat} {μ : Mem} {x1 : Int32} {x2 : Int32} {x3 : Int32} {r : Int32 × Mem}  (h : f_X0_tell F μ x1 x2 x3 = some r) : Met l yX0_tell (Cond.code yX0_tell cX0_tell 4 (some .int) :: wg) rm_X0_tell (PC D ks 75 ad (shC ks ad) μ [.ref (ad 12), .int x1, .int x2, .int x3]) (QI D 75 ad (shC ks ad) A r) 0 0 A := by
  refine met_of (by decide) (Nat.le_of_ble_eq_true rfl) hD ?_
  intro p e s m args below meth c X hr
  exact G.sub [0, 1, 2, 3] rfl (b_X0_tell_0 X hr  _ _ _ _ h)
abbrev rm_X11_answer : Room := { frames := 3, cells := 0, slots := 0, locals := 67 }
set_option maxRecDepth 100000 in
set_option maxHeartbeats 4000000 in
theorem b_X11_answer_0 {p : Program} {l : Launch} {e : Env} {s : State} {m : MethodId} {args : Array Value} {below : List Frame} {meth : Method} {c : Code} {D : va_G} {ks : Nat → ClassId} {A : Nat → Prop} {ad : Nat → Nat} (X : Cx p s m args meth c cX11_answer 4 RX11 D ks A 75 ad (shC ks ad)) (hr : meth.sig.returnType = (some .int)) {F : Nat} {r : Int32 × Mem} (μ : Mem) (x1 : Int32) (x2 : Int32) (x3 : Int32)  (h : f_X11_answer F  μ x1 x2 x3 = some r) : G p l e rm_X11_answer s m args below meth c D A 4 (MQ below (QI D 75 ad (shC ks ad) A r) args s 0 0 A) 75 ad (shC ks ad) μ 0 [(0, .ref (ad 0)), (1, .int x1), (2, .int x2), (3, .int x3)] [] := by
  refine g_aload_n 1 X 0 dX11_answer_0 rfl rfl ?_
  refine g_getr 4 X fl_X11_10_11 (o11 rfl) rfl dX11_answer_1 rfl ?_
  refine g_iload_n 5 X 1 dX11_answer_4 rfl rfl ?_
  refine g_ci 8 h (fun q e => r_V X cd_X11_87_X6_has_X6 ⟨rfl, rfl⟩ ⟨Nat.le_of_ble_eq_true rfl, Nat.le_of_ble_eq_true rfl⟩ (c_X6_has X.2.2.2.2  e) PC_blind (pc_pre X) (g_recv X (o6 rfl) rfl) rfl rfl (Nat.le_of_ble_eq_true rfl) dX11_answer_5) rfl (fun v1 μ2 h => ?_)
  refine g_if_eq 33 11 X dX11_answer_8 (by decide) rfl h (fun h => ?_) (fun h => ?_)
  · refine g_bipush 35 X dX11_answer_33 bpm2 rfl ?_
    exact g_iret X hr dX11_answer_35 h
  · refine g_iload_n 12 X 2 dX11_answer_11 rfl rfl ?_
    refine g_iconst 13 X dX11_answer_12 icm1 rfl ?_
    refine g_sipush 16 X dX11_answer_13 sp10000 rfl ?_
    refine g_ni 19 h (fun q e => r_S X cd_X11_105_X11_within ⟨rfl, rfl⟩ ⟨Nat.le_of_ble_eq_true rfl, Nat.le_of_ble_eq_true rfl⟩ (c_X11_within e) PC_blind (pn_pre X) rfl rfl (Nat.le_of_ble_eq_true rfl) dX11_answer_16) rfl (fun v3 h => ?_)
    refine g_if_eq 33 22 X dX11_answer_19 (by decide) rfl h (fun h => ?_) (fun h => ?_)
    · refine g_bipush 35 X dX11_answer_33 bpm2 rfl ?_
      exact g_iret X hr dX11_answer_35 h
    · refine g_iload_n 23 X 3 dX11_answer_22 rfl rfl ?_
      refine g_iconst 24 X dX11_answer_23 ic0 rfl ?_
      refine g_sipush 27 X dX11_answer_24 sp399 rfl ?_
      refine g_ni 30 h (fun q e => r_S X cd_X11_105_X11_within ⟨rfl, rfl⟩ ⟨Nat.le_of_ble_eq_true rfl, Nat.le_of_ble_eq_true rfl⟩ (c_X11_within e) PC_blind (pn_pre X) rfl rfl (Nat.le_of_ble_eq_true rfl) dX11_answer_27) rfl (fun v4 h => ?_)
      refine g_if_ne 36 33 X dX11_answer_30 (by decide) rfl h (fun h => ?_) (fun h => ?_)
      · refine g_aload_n 37 X 0 dX11_answer_36 rfl rfl ?_
        refine g_getr 40 X fl_X11_21_11 (o11 rfl) rfl dX11_answer_37 rfl ?_
        refine g_iload_n 41 X 1 dX11_answer_40 rfl rfl ?_
        refine g_iload_n 42 X 2 dX11_answer_41 rfl rfl ?_
        refine g_iload_n 43 X 3 dX11_answer_42 rfl rfl ?_
        refine g_ci 46 h (fun q e => r_V X cd_X11_109_X0_tell_X0 ⟨rfl, rfl⟩ ⟨Nat.le_of_ble_eq_true rfl, Nat.le_of_ble_eq_true rfl⟩ (c_X0_tell X.2.2.2.2  e) PC_blind (pc_pre X) (g_recv X (o0 rfl) rfl) rfl rfl (Nat.le_of_ble_eq_true rfl) dX11_answer_43) rfl (fun v5 μ6 h => ?_)
        exact g_iret X hr dX11_answer_46 h
      · refine g_bipush 35 X dX11_answer_33 bpm2 rfl ?_
        exact g_iret X hr dX11_answer_35 h
set_option maxRecDepth 100000 in
theorem c_X11_answer {l : Launch} {D : va_G} {ks : Nat → ClassId} {A : Nat → Prop} {ad : Nat → Nat} (hD : ∀ μ : Mem, va_D A (wsM 75 ad (shC ks ad) μ)) {F : Nat} {μ : Mem} {x1 : Int32} {x2 : Int32} {x3 : Int32} {r : Int32 × Mem}  (h : f_X11_answer F μ x1 x2 x3 = some r) : Met l yX11_answer (Cond.code yX11_answer cX11_answer 4 (some .int) :: wg) rm_X11_answer (PC D ks 75 ad (shC ks ad) μ [.ref (ad 0), .int x1, .int x2, .int x3]) (QI D 75 ad (shC ks ad) A r) 0 0 A := by
  refine met_of (by decide) (Nat.le_of_ble_eq_true rfl) hD ?_
  intro p e s m args below meth c X hr
  exact G.sub [0, 1, 2, 3] rfl (b_X11_answer_0 X hr  _ _ _ _ h)
abbrev rm_X0_look : Room := { frames := 2, cells := 0, slots := 0, locals := 44 }
set_option maxRecDepth 100000 in
set_option maxHeartbeats 4000000 in
theorem b_X0_look_0 {p : Program} {l : Launch} {e : Env} {s : State} {m : MethodId} {args : Array Value} {below : List Frame} {meth : Method} {c : Code} {D : va_G} {ks : Nat → ClassId} {A : Nat → Prop} {ad : Nat → Nat} (X : Cx p s m args meth c cX0_look 3 RX0 D ks A 75 ad (shC ks ad)) (hr : meth.sig.returnType = (some .int)) {F : Nat} {r : Int32 × Mem} (μ : Mem) (x1 : Int32)  (h : f_X0_look F  μ x1 = some r) : G p l e rm_X0_look s m args below meth c D A 3 (MQ below (QI D 75 ad (shC ks ad) A r) args s 0 0 A) 75 ad (shC ks ad) μ 0 [(0, .ref (ad 12)), (1, .int x1)] [] := by
  refine g_aload_n 1 X 0 dX0_look_0 rfl rfl ?_
  refine g_geti 4 X fl_X0_24_0 (o0 rfl) rfl dX0_look_1 h rfl (fun v1 h => ?_)
  refine g_istore_n 5 X dX0_look_4 (by decide) rfl ?_
  refine g_aload_n 6 X 1 dX0_look_5 rfl rfl ?_
  refine g_iload_n 7 X 2 dX0_look_6 rfl rfl ?_
  refine g_puti 10 X fp_X0_24_0 (o0 rfl) rfl (Nat.le_of_ble_eq_true rfl) rfl rfl dX0_look_7 h rfl (fun μ2 h => ?_)
  refine g_aload_n 11 X 1 dX0_look_10 rfl rfl ?_
  refine g_cv 14 h (fun q e => r_V X cd_X0_35_X0_settle_X0 ⟨rfl, rfl⟩ ⟨Nat.le_of_ble_eq_true rfl, Nat.le_of_ble_eq_true rfl⟩ (c_X0_settle X.2.2.2.2  e) PC_blind (pc_pre X) (g_recv X (o0 rfl) rfl) rfl rfl (Nat.le_of_ble_eq_true rfl) dX0_look_11) rfl (fun _ μ3 h => ?_)
  refine g_iload_n 15 X 0 dX0_look_14 rfl rfl ?_
  exact g_iret X hr dX0_look_15 h
set_option maxRecDepth 100000 in
theorem c_X0_look {l : Launch} {D : va_G} {ks : Nat → ClassId} {A : Nat → Prop} {ad : Nat → Nat} (hD : ∀ μ : Mem, va_D A (wsM 75 ad (shC ks ad) μ)) {F : Nat} {μ : Mem} {x1 : Int32} {r : Int32 × Mem}  (h : f_X0_look F μ x1 = some r) : Met l yX0_look (Cond.code yX0_look cX0_look 3 (some .int) :: wg) rm_X0_look (PC D ks 75 ad (shC ks ad) μ [.ref (ad 12), .int x1]) (QI D 75 ad (shC ks ad) A r) 0 0 A := by
  refine met_of (by decide) (Nat.le_of_ble_eq_true rfl) hD ?_
  intro p e s m args below meth c X hr
  exact G.sub [0, 1] rfl (b_X0_look_0 X hr  _ _ h)
abbrev rm_X11_asOf : Room := { frames := 3, cells := 0, slots := 0, locals := 66 }
set_option maxRecDepth 100000 in
set_option maxHeartbeats 4000000 in
theorem b_X11_asOf_0 {p : Program} {l : Launch} {e : Env} {s : State} {m : MethodId} {args : Array Value} {below : List Frame} {meth : Method} {c : Code} {D : va_G} {ks : Nat → ClassId} {A : Nat → Prop} {ad : Nat → Nat} (X : Cx p s m args meth c cX11_asOf 2 RX11 D ks A 75 ad (shC ks ad)) (hr : meth.sig.returnType = (some .int)) {F : Nat} {r : Int32 × Mem} (μ : Mem) (x1 : Int32)  (h : f_X11_asOf F  μ x1 = some r) : G p l e rm_X11_asOf s m args below meth c D A 2 (MQ below (QI D 75 ad (shC ks ad) A r) args s 0 0 A) 75 ad (shC ks ad) μ 0 [(0, .ref (ad 0)), (1, .int x1)] [] := by
  refine g_iload_n 1 X 1 dX11_asOf_0 rfl rfl ?_
  refine g_iconst 2 X dX11_asOf_1 ic0 rfl ?_
  refine g_sipush 5 X dX11_asOf_2 sp399 rfl ?_
  refine g_ni 8 h (fun q e => r_S X cd_X11_105_X11_within ⟨rfl, rfl⟩ ⟨Nat.le_of_ble_eq_true rfl, Nat.le_of_ble_eq_true rfl⟩ (c_X11_within e) PC_blind (pn_pre X) rfl rfl (Nat.le_of_ble_eq_true rfl) dX11_asOf_5) rfl (fun v1 h => ?_)
  refine g_if_ne 14 11 X dX11_asOf_8 (by decide) rfl h (fun h => ?_) (fun h => ?_)
  · refine g_aload_n 15 X 0 dX11_asOf_14 rfl rfl ?_
    refine g_getr 18 X fl_X11_21_11 (o11 rfl) rfl dX11_asOf_15 rfl ?_
    refine g_iload_n 19 X 1 dX11_asOf_18 rfl rfl ?_
    refine g_ci 22 h (fun q e => r_V X cd_X11_113_X0_look_X0 ⟨rfl, rfl⟩ ⟨Nat.le_of_ble_eq_true rfl, Nat.le_of_ble_eq_true rfl⟩ (c_X0_look X.2.2.2.2  e) PC_blind (pc_pre X) (g_recv X (o0 rfl) rfl) rfl rfl (Nat.le_of_ble_eq_true rfl) dX11_asOf_19) rfl (fun v2 μ3 h => ?_)
    exact g_iret X hr dX11_asOf_22 h
  · refine g_bipush 13 X dX11_asOf_11 bpm2 rfl ?_
    exact g_iret X hr dX11_asOf_13 h
set_option maxRecDepth 100000 in
theorem c_X11_asOf {l : Launch} {D : va_G} {ks : Nat → ClassId} {A : Nat → Prop} {ad : Nat → Nat} (hD : ∀ μ : Mem, va_D A (wsM 75 ad (shC ks ad) μ)) {F : Nat} {μ : Mem} {x1 : Int32} {r : Int32 × Mem}  (h : f_X11_asOf F μ x1 = some r) : Met l yX11_asOf (Cond.code yX11_asOf cX11_asOf 2 (some .int) :: wg) rm_X11_asOf (PC D ks 75 ad (shC ks ad) μ [.ref (ad 0), .int x1]) (QI D 75 ad (shC ks ad) A r) 0 0 A := by
  refine met_of (by decide) (Nat.le_of_ble_eq_true rfl) hD ?_
  intro p e s m args below meth c X hr
  exact G.sub [0, 1] rfl (b_X11_asOf_0 X hr  _ _ h)
abbrev rm_J6_bitCount_0f7a4 : Room := { frames := 0, cells := 0, slots := 0, locals := 0 }
set_option maxRecDepth 100000 in
set_option maxHeartbeats 4000000 in
theorem b_J6_bitCount_0f7a4_0 {p : Program} {l : Launch} {e : Env} {s : State} {m : MethodId} {args : Array Value} {below : List Frame} {meth : Method} {c : Code} {D : va_G} {ks : Nat → ClassId} (X : Cx p s m args meth c cJ6_bitCount_0f7a4 1 RJ6 D ks (fun _ => False) 0 ad0 sh0) (hr : meth.sig.returnType = (some .int)) {F : Nat} {r : Int32} (x0 : Int32)  (h : f_J6_bitCount_0f7a4 F  x0 = some r) : G p l e rm_J6_bitCount_0f7a4 s m args below meth c D (fun _ => False) 1 (MQ below (QNi D r) args s 0 0 (fun _ => False)) 0 ad0 sh0 μ0 0 [(0, .int x0)] [] := by
  refine g_iload_n 1 X 0 dJ6_bitCount_0f7a4_0 rfl rfl ?_
  refine g_iload_n 2 X 0 dJ6_bitCount_0f7a4_1 rfl rfl ?_
  refine g_iconst 3 X dJ6_bitCount_0f7a4_2 ic1 rfl ?_
  refine g_iushr 4 X dJ6_bitCount_0f7a4_3 rfl ?_
  refine g_topi h (fun v1 h => ?_)
  refine g_ldcw 7 X m513 dJ6_bitCount_0f7a4_4 rfl ?_
  refine g_iand 8 X dJ6_bitCount_0f7a4_7 rfl ?_
  refine g_isub 9 X dJ6_bitCount_0f7a4_8 rfl ?_
  refine g_topi h (fun v2 h => ?_)
  refine g_istore_n 10 X dJ6_bitCount_0f7a4_9 (by decide) rfl ?_
  refine g_iload_n 11 X 0 dJ6_bitCount_0f7a4_10 rfl rfl ?_
  refine g_ldcw 14 X m514 dJ6_bitCount_0f7a4_11 rfl ?_
  refine g_iand 15 X dJ6_bitCount_0f7a4_14 rfl ?_
  refine g_iload_n 16 X 0 dJ6_bitCount_0f7a4_15 rfl rfl ?_
  refine g_iconst 17 X dJ6_bitCount_0f7a4_16 ic2 rfl ?_
  refine g_iushr 18 X dJ6_bitCount_0f7a4_17 rfl ?_
  refine g_topi h (fun v3 h => ?_)
  refine g_ldcw 21 X m514 dJ6_bitCount_0f7a4_18 rfl ?_
  refine g_iand 22 X dJ6_bitCount_0f7a4_21 rfl ?_
  refine g_iadd 23 X dJ6_bitCount_0f7a4_22 rfl ?_
  refine g_topi h (fun v4 h => ?_)
  refine g_istore_n 24 X dJ6_bitCount_0f7a4_23 (by decide) rfl ?_
  refine g_iload_n 25 X 0 dJ6_bitCount_0f7a4_24 rfl rfl ?_
  refine g_iload_n 26 X 0 dJ6_bitCount_0f7a4_25 rfl rfl ?_
  refine g_iconst 27 X dJ6_bitCount_0f7a4_26 ic4 rfl ?_
  refine g_iushr 28 X dJ6_bitCount_0f7a4_27 rfl ?_
  refine g_topi h (fun v5 h => ?_)
  refine g_iadd 29 X dJ6_bitCount_0f7a4_28 rfl ?_
  refine g_ldcw 32 X m515 dJ6_bitCount_0f7a4_29 rfl ?_
  refine g_iand 33 X dJ6_bitCount_0f7a4_32 rfl ?_
  refine g_topi h (fun v6 h => ?_)
  refine g_istore_n 34 X dJ6_bitCount_0f7a4_33 (by decide) rfl ?_
  refine g_iload_n 35 X 0 dJ6_bitCount_0f7a4_34 rfl rfl ?_
  refine g_iload_n 36 X 0 dJ6_bitCount_0f7a4_35 rfl rfl ?_
  refine g_bipush 38 X dJ6_bitCount_0f7a4_36 bp8 rfl ?_
  refine g_iushr 39 X dJ6_bitCount_0f7a4_38 rfl ?_
  refine g_topi h (fun v7 h => ?_)
  refine g_iadd 40 X dJ6_bitCount_0f7a4_39 rfl ?_
  refine g_topi h (fun v8 h => ?_)
  refine g_istore_n 41 X dJ6_bitCount_0f7a4_40 (by decide) rfl ?_
  refine g_iload_n 42 X 0 dJ6_bitCount_0f7a4_41 rfl rfl ?_
  refine g_iload_n 43 X 0 dJ6_bitCount_0f7a4_42 rfl rfl ?_
  refine g_bipush 45 X dJ6_bitCount_0f7a4_43 bp16 rfl ?_
  refine g_iushr 46 X dJ6_bitCount_0f7a4_45 rfl ?_
  refine g_topi h (fun v9 h => ?_)
  refine g_iadd 47 X dJ6_bitCount_0f7a4_46 rfl ?_
  refine g_topi h (fun v10 h => ?_)
  refine g_istore_n 48 X dJ6_bitCount_0f7a4_47 (by decide) rfl ?_
  refine g_iload_n 49 X 0 dJ6_bitCount_0f7a4_48 rfl rfl ?_
  refine g_bipush 51 X dJ6_bitCount_0f7a4_49 bp63 rfl ?_
  refine g_iand 52 X dJ6_bitCount_0f7a4_51 rfl ?_
  exact gn_iret X hr dJ6_bitCount_0f7a4_52 h
set_option maxRecDepth 100000 in
theorem c_J6_bitCount_0f7a4 {l : Launch} {D : va_G} {ks : Nat → ClassId} {F : Nat} {x0 : Int32} {r : Int32}  (h : f_J6_bitCount_0f7a4 F x0 = some r) : Met l yJ6_bitCount_0f7a4 (Cond.code yJ6_bitCount_0f7a4 cJ6_bitCount_0f7a4 1 (some .int) :: wg) rm_J6_bitCount_0f7a4 (PN D ks [.int x0]) (QNi D r) 0 0 (fun _ => False) := by
  refine met_of (by decide) (Nat.le_of_ble_eq_true rfl) d0 ?_
  intro p e s m args below meth c X hr
  exact G.sub [0] rfl (b_J6_bitCount_0f7a4_0 X hr  _ h)
abbrev rm_X11_many : Room := { frames := 1, cells := 0, slots := 0, locals := 22 }
set_option maxRecDepth 100000 in
set_option maxHeartbeats 4000000 in
theorem b_X11_many_81 {p : Program} {l : Launch} {e : Env} {s : State} {m : MethodId} {args : Array Value} {below : List Frame} {meth : Method} {c : Code} {D : va_G} {ks : Nat → ClassId} {A : Nat → Prop} {ad : Nat → Nat} (X : Cx p s m args meth c cX11_many 3 RX11 D ks A 75 ad (shC ks ad)) (hr : meth.sig.returnType = (some .int)) {F : Nat} {r : Int32 × Mem} (μ : Mem) (x1 : Int32) (x2 : Int32)  (h : f_X11_many_b81 F  μ x1 x2 = some r) : G p l e rm_X11_many s m args below meth c D A 3 (MQ below (QI D 75 ad (shC ks ad) A r) args s 0 0 A) 75 ad (shC ks ad) μ 81 [(0, .ref (ad 0)), (1, .int x1), (2, .int x2)] [] := by
  refine g_iload_n 82 X 1 dX11_many_81 rfl rfl ?_
  refine g_iconst 83 X dX11_many_82 ic3 rfl ?_
  refine g_icmp_ne 98 86 X dX11_many_83 (by decide) rfl h (fun h => ?_) (fun h => ?_)
  · refine g_bipush 100 X dX11_many_98 bpm2 rfl ?_
    exact g_iret X hr dX11_many_100 h
  · refine g_iload_n 87 X 2 dX11_many_86 rfl rfl ?_
    refine g_if_ne 98 90 X dX11_many_87 (by decide) rfl h (fun h => ?_) (fun h => ?_)
    · refine g_bipush 100 X dX11_many_98 bpm2 rfl ?_
      exact g_iret X hr dX11_many_100 h
    · refine g_aload_n 91 X 0 dX11_many_90 rfl rfl ?_
      refine g_getr 94 X fl_X11_10_11 (o11 rfl) rfl dX11_many_91 rfl ?_
      refine g_geti 97 X fl_X11_130_6 (o6 rfl) rfl dX11_many_94 h rfl (fun v1 h => ?_)
      exact g_iret X hr dX11_many_97 h
set_option maxRecDepth 100000 in
set_option maxHeartbeats 4000000 in
theorem b_X11_many_54 {p : Program} {l : Launch} {e : Env} {s : State} {m : MethodId} {args : Array Value} {below : List Frame} {meth : Method} {c : Code} {D : va_G} {ks : Nat → ClassId} {A : Nat → Prop} {ad : Nat → Nat} (X : Cx p s m args meth c cX11_many 3 RX11 D ks A 75 ad (shC ks ad)) (hr : meth.sig.returnType = (some .int)) {F : Nat} {r : Int32 × Mem} (μ : Mem) (x1 : Int32) (x2 : Int32)  (h : f_X11_many_b54 F  μ x1 x2 = some r) : G p l e rm_X11_many s m args below meth c D A 3 (MQ below (QI D 75 ad (shC ks ad) A r) args s 0 0 A) 75 ad (shC ks ad) μ 54 [(0, .ref (ad 0)), (1, .int x1), (2, .int x2)] [] := by
  refine g_iload_n 55 X 1 dX11_many_54 rfl rfl ?_
  refine g_iconst 56 X dX11_many_55 ic2 rfl ?_
  refine g_icmp_ne 81 59 X dX11_many_56 (by decide) rfl h (fun h => ?_) (fun h => ?_)
  · exact G.sub [0, 1, 2] rfl (b_X11_many_81 X hr  _ _ _ h)
  · refine g_iload_n 60 X 2 dX11_many_59 rfl rfl ?_
    refine g_iconst 61 X dX11_many_60 ic0 rfl ?_
    refine g_iconst 62 X dX11_many_61 ic2 rfl ?_
    refine g_ni 65 h (fun q e => r_S X cd_X11_105_X11_within ⟨rfl, rfl⟩ ⟨Nat.le_of_ble_eq_true rfl, Nat.le_of_ble_eq_true rfl⟩ (c_X11_within e) PC_blind (pn_pre X) rfl rfl (Nat.le_of_ble_eq_true rfl) dX11_many_62) rfl (fun v1 h => ?_)
    refine g_if_eq 81 68 X dX11_many_65 (by decide) rfl h (fun h => ?_) (fun h => ?_)
    · exact G.sub [0, 1, 2] rfl (b_X11_many_81 X hr  _ _ _ h)
    · refine g_aload_n 69 X 0 dX11_many_68 rfl rfl ?_
      refine g_getr 72 X fl_X11_10_11 (o11 rfl) rfl dX11_many_69 rfl ?_
      refine g_getr 75 X fl_X11_127_6 (o6 rfl) rfl dX11_many_72 rfl ?_
      refine g_iload_n 76 X 2 dX11_many_75 rfl rfl ?_
      refine g_iald 77 X (aiC (n := 3) (by decide) rfl) dX11_many_76 h rfl (fun v2 h => ?_)
      refine g_ni 80 h (fun q e => r_S X cd_X11_119_J6_bitCount_0f7a4 ⟨rfl, rfl⟩ ⟨Nat.le_of_ble_eq_true rfl, Nat.le_of_ble_eq_true rfl⟩ (c_J6_bitCount_0f7a4 e) PC_blind (pn_pre X) rfl rfl (Nat.le_of_ble_eq_true rfl) dX11_many_77) rfl (fun v3 h => ?_)
      exact g_iret X hr dX11_many_80 h
set_option maxRecDepth 100000 in
set_option maxHeartbeats 4000000 in
theorem b_X11_many_26 {p : Program} {l : Launch} {e : Env} {s : State} {m : MethodId} {args : Array Value} {below : List Frame} {meth : Method} {c : Code} {D : va_G} {ks : Nat → ClassId} {A : Nat → Prop} {ad : Nat → Nat} (X : Cx p s m args meth c cX11_many 3 RX11 D ks A 75 ad (shC ks ad)) (hr : meth.sig.returnType = (some .int)) {F : Nat} {r : Int32 × Mem} (μ : Mem) (x1 : Int32) (x2 : Int32)  (h : f_X11_many_b26 F  μ x1 x2 = some r) : G p l e rm_X11_many s m args below meth c D A 3 (MQ below (QI D 75 ad (shC ks ad) A r) args s 0 0 A) 75 ad (shC ks ad) μ 26 [(0, .ref (ad 0)), (1, .int x1), (2, .int x2)] [] := by
  refine g_iload_n 27 X 1 dX11_many_26 rfl rfl ?_
  refine g_iconst 28 X dX11_many_27 ic1 rfl ?_
  refine g_icmp_ne 54 31 X dX11_many_28 (by decide) rfl h (fun h => ?_) (fun h => ?_)
  · exact G.sub [0, 1, 2] rfl (b_X11_many_54 X hr  _ _ _ h)
  · refine g_iload_n 32 X 2 dX11_many_31 rfl rfl ?_
    refine g_iconst 33 X dX11_many_32 ic0 rfl ?_
    refine g_bipush 35 X dX11_many_33 bp7 rfl ?_
    refine g_ni 38 h (fun q e => r_S X cd_X11_105_X11_within ⟨rfl, rfl⟩ ⟨Nat.le_of_ble_eq_true rfl, Nat.le_of_ble_eq_true rfl⟩ (c_X11_within e) PC_blind (pn_pre X) rfl rfl (Nat.le_of_ble_eq_true rfl) dX11_many_35) rfl (fun v1 h => ?_)
    refine g_if_eq 54 41 X dX11_many_38 (by decide) rfl h (fun h => ?_) (fun h => ?_)
    · exact G.sub [0, 1, 2] rfl (b_X11_many_54 X hr  _ _ _ h)
    · refine g_aload_n 42 X 0 dX11_many_41 rfl rfl ?_
      refine g_getr 45 X fl_X11_10_11 (o11 rfl) rfl dX11_many_42 rfl ?_
      refine g_getr 48 X fl_X11_124_6 (o6 rfl) rfl dX11_many_45 rfl ?_
      refine g_iload_n 49 X 2 dX11_many_48 rfl rfl ?_
      refine g_iald 50 X (aiC (n := 8) (by decide) rfl) dX11_many_49 h rfl (fun v2 h => ?_)
      refine g_ni 53 h (fun q e => r_S X cd_X11_119_J6_bitCount_0f7a4 ⟨rfl, rfl⟩ ⟨Nat.le_of_ble_eq_true rfl, Nat.le_of_ble_eq_true rfl⟩ (c_J6_bitCount_0f7a4 e) PC_blind (pn_pre X) rfl rfl (Nat.le_of_ble_eq_true rfl) dX11_many_50) rfl (fun v3 h => ?_)
      exact g_iret X hr dX11_many_53 h
set_option maxRecDepth 100000 in
set_option maxHeartbeats 4000000 in
theorem b_X11_many_0 {p : Program} {l : Launch} {e : Env} {s : State} {m : MethodId} {args : Array Value} {below : List Frame} {meth : Method} {c : Code} {D : va_G} {ks : Nat → ClassId} {A : Nat → Prop} {ad : Nat → Nat} (X : Cx p s m args meth c cX11_many 3 RX11 D ks A 75 ad (shC ks ad)) (hr : meth.sig.returnType = (some .int)) {F : Nat} {r : Int32 × Mem} (μ : Mem) (x1 : Int32) (x2 : Int32)  (h : f_X11_many F  μ x1 x2 = some r) : G p l e rm_X11_many s m args below meth c D A 3 (MQ below (QI D 75 ad (shC ks ad) A r) args s 0 0 A) 75 ad (shC ks ad) μ 0 [(0, .ref (ad 0)), (1, .int x1), (2, .int x2)] [] := by
  refine g_iload_n 1 X 1 dX11_many_0 rfl rfl ?_
  refine g_if_ne 26 4 X dX11_many_1 (by decide) rfl h (fun h => ?_) (fun h => ?_)
  · exact G.sub [0, 1, 2] rfl (b_X11_many_26 X hr  _ _ _ h)
  · refine g_iload_n 5 X 2 dX11_many_4 rfl rfl ?_
    refine g_iconst 6 X dX11_many_5 ic0 rfl ?_
    refine g_iconst 7 X dX11_many_6 ic3 rfl ?_
    refine g_ni 10 h (fun q e => r_S X cd_X11_105_X11_within ⟨rfl, rfl⟩ ⟨Nat.le_of_ble_eq_true rfl, Nat.le_of_ble_eq_true rfl⟩ (c_X11_within e) PC_blind (pn_pre X) rfl rfl (Nat.le_of_ble_eq_true rfl) dX11_many_7) rfl (fun v1 h => ?_)
    refine g_if_eq 26 13 X dX11_many_10 (by decide) rfl h (fun h => ?_) (fun h => ?_)
    · exact G.sub [0, 1, 2] rfl (b_X11_many_26 X hr  _ _ _ h)
    · refine g_aload_n 14 X 0 dX11_many_13 rfl rfl ?_
      refine g_getr 17 X fl_X11_10_11 (o11 rfl) rfl dX11_many_14 rfl ?_
      refine g_getr 20 X fl_X11_116_6 (o6 rfl) rfl dX11_many_17 rfl ?_
      refine g_iload_n 21 X 2 dX11_many_20 rfl rfl ?_
      refine g_iald 22 X (aiC (n := 4) (by decide) rfl) dX11_many_21 h rfl (fun v2 h => ?_)
      refine g_ni 25 h (fun q e => r_S X cd_X11_119_J6_bitCount_0f7a4 ⟨rfl, rfl⟩ ⟨Nat.le_of_ble_eq_true rfl, Nat.le_of_ble_eq_true rfl⟩ (c_J6_bitCount_0f7a4 e) PC_blind (pn_pre X) rfl rfl (Nat.le_of_ble_eq_true rfl) dX11_many_22) rfl (fun v3 h => ?_)
      exact g_iret X hr dX11_many_25 h
set_option maxRecDepth 100000 in
theorem c_X11_many {l : Launch} {D : va_G} {ks : Nat → ClassId} {A : Nat → Prop} {ad : Nat → Nat} (hD : ∀ μ : Mem, va_D A (wsM 75 ad (shC ks ad) μ)) {F : Nat} {μ : Mem} {x1 : Int32} {x2 : Int32} {r : Int32 × Mem}  (h : f_X11_many F μ x1 x2 = some r) : Met l yX11_many (Cond.code yX11_many cX11_many 3 (some .int) :: wg) rm_X11_many (PC D ks 75 ad (shC ks ad) μ [.ref (ad 0), .int x1, .int x2]) (QI D 75 ad (shC ks ad) A r) 0 0 A := by
  refine met_of (by decide) (Nat.le_of_ble_eq_true rfl) hD ?_
  intro p e s m args below meth c X hr
  exact G.sub [0, 1, 2] rfl (b_X11_many_0 X hr  _ _ _ h)
abbrev rm_X11_isPlan : Room := { frames := 1, cells := 0, slots := 0, locals := 22 }
set_option maxRecDepth 100000 in
set_option maxHeartbeats 4000000 in
theorem b_X11_isPlan_0 {p : Program} {l : Launch} {e : Env} {s : State} {m : MethodId} {args : Array Value} {below : List Frame} {meth : Method} {c : Code} {D : va_G} {ks : Nat → ClassId} (X : Cx p s m args meth c cX11_isPlan 1 RX11 D ks (fun _ => False) 0 ad0 sh0) (hr : meth.sig.returnType = (some .boolean)) {F : Nat} {r : Int32} (x0 : Int32)  (h : f_X11_isPlan F  x0 = some r) : G p l e rm_X11_isPlan s m args below meth c D (fun _ => False) 1 (MQ below (QNi D r) args s 0 0 (fun _ => False)) 0 ad0 sh0 μ0 0 [(0, .int x0)] [] := by
  refine g_iload_n 1 X 0 dX11_isPlan_0 rfl rfl ?_
  refine g_iconst 2 X dX11_isPlan_1 ic0 rfl ?_
  refine g_iconst 3 X dX11_isPlan_2 ic3 rfl ?_
  refine g_ni 6 h (fun q e => r_S X cd_X11_105_X11_within ⟨rfl, rfl⟩ ⟨Nat.le_of_ble_eq_true rfl, Nat.le_of_ble_eq_true rfl⟩ (c_X11_within e) PC_blind (pn_pre X) rfl rfl (Nat.le_of_ble_eq_true rfl) dX11_isPlan_3) rfl (fun v1 h => ?_)
  obtain ⟨hz, h⟩ := zk_some h
  exact gn_zret X hr hz dX11_isPlan_6 h
set_option maxRecDepth 100000 in
theorem c_X11_isPlan {l : Launch} {D : va_G} {ks : Nat → ClassId} {F : Nat} {x0 : Int32} {r : Int32}  (h : f_X11_isPlan F x0 = some r) : Met l yX11_isPlan (Cond.code yX11_isPlan cX11_isPlan 1 (some .boolean) :: wg) rm_X11_isPlan (PN D ks [.int x0]) (QNi D r) 0 0 (fun _ => False) := by
  refine met_of (by decide) (Nat.le_of_ble_eq_true rfl) d0 ?_
  intro p e s m args below meth c X hr
  exact G.sub [0] rfl (b_X11_isPlan_0 X hr  _ h)
abbrev rm_X5_byteAt : Room := { frames := 1, cells := 0, slots := 0, locals := 22 }
set_option maxRecDepth 100000 in
set_option maxHeartbeats 4000000 in
theorem b_X5_byteAt_0 {p : Program} {l : Launch} {e : Env} {s : State} {m : MethodId} {args : Array Value} {below : List Frame} {meth : Method} {c : Code} {D : va_G} {ks : Nat → ClassId} {A : Nat → Prop} {ad : Nat → Nat} (X : Cx p s m args meth c cX5_byteAt 2 RX5 D ks A 75 ad (shC ks ad)) (hr : meth.sig.returnType = (some .int)) {F : Nat} {r : Int32 × Mem} (μ : Mem) (t : Nat) (x1 : Int32) (kt : kindC t = 105) (h : f_X5_byteAt F  μ t x1 = some r) : G p l e rm_X5_byteAt s m args below meth c D A 2 (MQ below (QI D 75 ad (shC ks ad) A r) args s 0 0 A) 75 ad (shC ks ad) μ 0 [(0, .ref (ad t)), (1, .int x1)] [] := by
  refine g_iload_n 1 X 1 dX5_byteAt_0 rfl rfl ?_
  refine g_iconst 2 X dX5_byteAt_1 ic0 rfl ?_
  refine g_aload_n 3 X 0 dX5_byteAt_2 rfl rfl ?_
  refine g_geti 6 X fl_X5_47_5 (o5 kt) rfl dX5_byteAt_3 h rfl (fun v1 h => ?_)
  refine g_iconst 7 X dX5_byteAt_6 ic1 rfl ?_
  refine g_isub 8 X dX5_byteAt_7 rfl ?_
  refine g_ni 11 h (fun q e => r_SN X cd_X5_78_X11_within ⟨rfl, rfl⟩ ⟨Nat.le_of_ble_eq_true rfl, Nat.le_of_ble_eq_true rfl⟩ (c_X11_within e) PC_blind (pn_pre X) rfl rfl (Nat.le_of_ble_eq_true rfl) dX5_byteAt_8) rfl (fun v2 h => ?_)
  refine g_if_eq 23 14 X dX5_byteAt_11 (by decide) rfl h (fun h => ?_) (fun h => ?_)
  · refine g_iconst 24 X dX5_byteAt_23 icm1 rfl ?_
    exact g_iret X hr dX5_byteAt_24 h
  · refine g_aload_n 15 X 0 dX5_byteAt_14 rfl rfl ?_
    refine g_getr 18 X fl_X5_9_5 (o5 kt) rfl dX5_byteAt_15 rfl ?_
    refine g_iload_n 19 X 1 dX5_byteAt_18 rfl rfl ?_
    refine g_iald 20 X (aiC (n := 20) (by decide) (k5_text kt)) dX5_byteAt_19 h rfl (fun v3 h => ?_)
    refine g_goto 24 X dX5_byteAt_20 (by decide) ?_
    exact g_iret X hr dX5_byteAt_24 h
set_option maxRecDepth 100000 in
theorem c_X5_byteAt {l : Launch} {D : va_G} {ks : Nat → ClassId} {A : Nat → Prop} {ad : Nat → Nat} (hD : ∀ μ : Mem, va_D A (wsM 75 ad (shC ks ad) μ)) {F : Nat} {μ : Mem} {t : Nat} {x1 : Int32} {r : Int32 × Mem} (kt : kindC t = 105) (h : f_X5_byteAt F μ t x1 = some r) : Met l yX5_byteAt (Cond.code yX5_byteAt cX5_byteAt 2 (some .int) :: wg) rm_X5_byteAt (PC D ks 75 ad (shC ks ad) μ [.ref (ad t), .int x1]) (QI D 75 ad (shC ks ad) A r) 0 0 A := by
  refine met_of (by decide) (Nat.le_of_ble_eq_true rfl) hD ?_
  intro p e s m args below meth c X hr
  exact G.sub [0, 1] rfl (b_X5_byteAt_0 X hr  _ _ _ kt h)
abbrev rm_X5_isFigure : Room := { frames := 2, cells := 0, slots := 0, locals := 43 }
set_option maxRecDepth 100000 in
set_option maxHeartbeats 4000000 in
theorem b_X5_isFigure_0 {p : Program} {l : Launch} {e : Env} {s : State} {m : MethodId} {args : Array Value} {below : List Frame} {meth : Method} {c : Code} {D : va_G} {ks : Nat → ClassId} {A : Nat → Prop} {ad : Nat → Nat} (X : Cx p s m args meth c cX5_isFigure 2 RX5 D ks A 75 ad (shC ks ad)) (hr : meth.sig.returnType = (some .boolean)) {F : Nat} {r : Int32 × Mem} (μ : Mem) (t : Nat) (x1 : Int32) (kt : kindC t = 105) (h : f_X5_isFigure F  μ t x1 = some r) : G p l e rm_X5_isFigure s m args below meth c D A 2 (MQ below (QI D 75 ad (shC ks ad) A r) args s 0 0 A) 75 ad (shC ks ad) μ 0 [(0, .ref (ad t)), (1, .int x1)] [] := by
  refine g_aload_n 1 X 0 dX5_isFigure_0 rfl rfl ?_
  refine g_iload_n 2 X 1 dX5_isFigure_1 rfl rfl ?_
  refine g_ci 5 h (fun q e => r_V X cd_X5_66_X5_byteAt_X5 ⟨rfl, rfl⟩ ⟨Nat.le_of_ble_eq_true rfl, Nat.le_of_ble_eq_true rfl⟩ (c_X5_byteAt X.2.2.2.2 kt e) PC_blind (pc_pre X) (g_recv X (o5 kt) rfl) rfl rfl (Nat.le_of_ble_eq_true rfl) dX5_isFigure_2) rfl (fun v1 μ2 h => ?_)
  refine g_bipush 7 X dX5_isFigure_5 bp48 rfl ?_
  refine g_bipush 9 X dX5_isFigure_7 bp57 rfl ?_
  refine g_ni 12 h (fun q e => r_SN X cd_X5_78_X11_within ⟨rfl, rfl⟩ ⟨Nat.le_of_ble_eq_true rfl, Nat.le_of_ble_eq_true rfl⟩ (c_X11_within e) PC_blind (pn_pre X) rfl rfl (Nat.le_of_ble_eq_true rfl) dX5_isFigure_9) rfl (fun v3 h => ?_)
  obtain ⟨hz, h⟩ := zk_some h
  exact g_zret X hr hz dX5_isFigure_12 h
set_option maxRecDepth 100000 in
theorem c_X5_isFigure {l : Launch} {D : va_G} {ks : Nat → ClassId} {A : Nat → Prop} {ad : Nat → Nat} (hD : ∀ μ : Mem, va_D A (wsM 75 ad (shC ks ad) μ)) {F : Nat} {μ : Mem} {t : Nat} {x1 : Int32} {r : Int32 × Mem} (kt : kindC t = 105) (h : f_X5_isFigure F μ t x1 = some r) : Met l yX5_isFigure (Cond.code yX5_isFigure cX5_isFigure 2 (some .boolean) :: wg) rm_X5_isFigure (PC D ks 75 ad (shC ks ad) μ [.ref (ad t), .int x1]) (QI D 75 ad (shC ks ad) A r) 0 0 A := by
  refine met_of (by decide) (Nat.le_of_ble_eq_true rfl) hD ?_
  intro p e s m args below meth c X hr
  exact G.sub [0, 1] rfl (b_X5_isFigure_0 X hr  _ _ _ kt h)
