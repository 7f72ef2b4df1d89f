abbrev rm_X12_parts : Room := { frames := 2, cells := 0, slots := 0, locals := 48 }
set_option maxRecDepth 100000 in
set_option maxHeartbeats 4000000 in
theorem b_X12_parts_173 {p : Program} {l : Launch} {e : Env} {s : State} {m : MethodId} {args : Array Value} {below : List Frame} {meth : Method} {c : Code} {D : va_G} {ks : Nat → ClassId} {A : Nat → Prop} {ad : Nat → Nat} (X : Cx p s m args meth c cX12_parts 12 RX12 D ks A 24 ad (shR ks ad)) (hr : meth.sig.returnType = none) {F : Nat} {r : Unit × Mem} {k126 : Mem → Int64 → Option (Unit × Mem)} (hk126 : ∀ (μ : Mem) (x7 : Int64), k126 μ x7 = some r → G p l e rm_X12_parts s m args below meth c D A 12 (MQ below (QV D 24 ad (shR ks ad) A r) args s 0 0 A) 24 ad (shR ks ad) μ 126 [(0, .ref (ad 0)), (7, .long x7)] []) {k139 : Mem → Int64 → Int32 → Int32 → Option (Unit × Mem)} (hk139 : ∀ (μ : Mem) (x7 : Int64) (x9 : Int32) (x10 : Int32), k139 μ x7 x9 x10 = some r → G p l e rm_X12_parts s m args below meth c D A 12 (MQ below (QV D 24 ad (shR ks ad) A r) args s 0 0 A) 24 ad (shR ks ad) μ 139 [(0, .ref (ad 0)), (7, .long x7), (9, .int x9), (10, .int x10)] []) (μ : Mem) (x7 : Int64) (x10 : Int32) (z0 : Int32)  (h : f_X12_parts_b173 F k126 k139 μ x7 x10 z0 = some r) : G p l e rm_X12_parts s m args below meth c D A 12 (MQ below (QV D 24 ad (shR ks ad) A r) args s 0 0 A) 24 ad (shR ks ad) μ 173 [(0, .ref (ad 0)), (7, .long x7), (10, .int x10)] [.int z0] := by
  refine g_istore 175 X dX12_parts_173 (by decide) rfl ?_
  refine g_iinc 178 X 3 dX12_parts_175 ic1 rfl (by decide) rfl ?_
  refine g_goto 139 X dX12_parts_178 (by decide) ?_
  exact G.sub [2, 3, 1, 0] rfl (hk139 _ _ _ _ h)
set_option maxRecDepth 100000 in
set_option maxHeartbeats 4000000 in
theorem b_X12_parts_139 {p : Program} {l : Launch} {e : Env} {s : State} {m : MethodId} {args : Array Value} {below : List Frame} {meth : Method} {c : Code} {D : va_G} {ks : Nat → ClassId} {A : Nat → Prop} {ad : Nat → Nat} (X : Cx p s m args meth c cX12_parts 12 RX12 D ks A 24 ad (shR ks ad)) (hr : meth.sig.returnType = none) {F : Nat} {r : Unit × Mem} {k126 : Mem → Int64 → Option (Unit × Mem)} (hk126 : ∀ (μ : Mem) (x7 : Int64), k126 μ x7 = some r → G p l e rm_X12_parts s m args below meth c D A 12 (MQ below (QV D 24 ad (shR ks ad) A r) args s 0 0 A) 24 ad (shR ks ad) μ 126 [(0, .ref (ad 0)), (7, .long x7)] []) : ∀ n : Nat, ∀ (μ : Mem) (x7 : Int64) (x9 : Int32) (x10 : Int32), f_X12_parts_b139 F k126 n μ x7 x9 x10 = some r → G p l e rm_X12_parts s m args below meth c D A 12 (MQ below (QV D 24 ad (shR ks ad) A r) args s 0 0 A) 24 ad (shR ks ad) μ 139 [(0, .ref (ad 0)), (7, .long x7), (9, .int x9), (10, .int x10)] [] := by
  intro n
  induction n with
  | zero =>
    intro _ _ _ _ h
    cases h
  | succ n ih =>
    intro μ x7 x9 x10 h
    refine g_iload 141 X 3 dX12_parts_139 rfl rfl ?_
    refine g_aload_n 142 X 0 dX12_parts_141 rfl rfl ?_
    refine g_geti 145 X fl_X12_115_12 (o12 rfl) rfl dX12_parts_142 h rfl (fun v1 h => ?_)
    refine g_icmp_ge 181 148 X dX12_parts_145 (by decide) rfl h (fun h => ?_) (fun h => ?_)
    · refine g_aload_n 182 X 0 dX12_parts_181 rfl rfl ?_
      refine g_getr 185 X fl_X12_69_12 (o12 rfl) rfl dX12_parts_182 rfl ?_
      refine g_iload 187 X 2 dX12_parts_185 rfl rfl ?_
      refine g_dup2 188 X dX12_parts_187 rfl rfl rfl ?_
      refine g_lald 189 X (ajR (n := 30) (by decide) rfl) dX12_parts_188 h rfl (fun v2 h => ?_)
      refine g_lconst 190 X dX12_parts_189 lc1 rfl ?_
      refine g_ladd 191 X dX12_parts_190 rfl ?_
      refine g_last 192 X (ajR (n := 30) (by decide) rfl) dX12_parts_191 h rfl (fun μ3 h => ?_)
      refine g_aload_n 193 X 0 dX12_parts_192 rfl rfl ?_
      refine g_getr 196 X fl_X12_76_12 (o12 rfl) rfl dX12_parts_193 rfl ?_
      refine g_iload 198 X 2 dX12_parts_196 rfl rfl ?_
      refine g_ldc2 201 X m1204 dX12_parts_198 rfl ?_
      refine g_last 202 X (ajR (n := 30) (by decide) rfl) dX12_parts_201 h rfl (fun μ4 h => ?_)
      refine g_lload 204 X 1 dX12_parts_202 rfl rfl ?_
      refine g_lconst 205 X dX12_parts_204 lc1 rfl ?_
      refine g_lsub 206 X dX12_parts_205 rfl ?_
      refine g_topl h (fun v5 h => ?_)
      refine g_lstore 208 X dX12_parts_206 (by decide) rfl ?_
      refine g_goto 126 X dX12_parts_208 (by decide) ?_
      exact G.sub [1, 0] rfl (hk126 _ _ h)
    · refine g_aload_n 149 X 0 dX12_parts_148 rfl rfl ?_
      refine g_getr 152 X fl_X12_76_12 (o12 rfl) rfl dX12_parts_149 rfl ?_
      refine g_iload 154 X 3 dX12_parts_152 rfl rfl ?_
      refine g_lald 155 X (ajR (n := 30) (by decide) rfl) dX12_parts_154 h rfl (fun v6 h => ?_)
      refine g_aload_n 156 X 0 dX12_parts_155 rfl rfl ?_
      refine g_getr 159 X fl_X12_76_12 (o12 rfl) rfl dX12_parts_156 rfl ?_
      refine g_iload 161 X 2 dX12_parts_159 rfl rfl ?_
      refine g_lald 162 X (ajR (n := 30) (by decide) rfl) dX12_parts_161 h rfl (fun v7 h => ?_)
      refine g_lcmp 163 X dX12_parts_162 rfl ?_
      refine g_if_le 171 166 X dX12_parts_163 (by decide) rfl h (fun h => ?_) (fun h => ?_)
      · refine g_iload 173 X 2 dX12_parts_171 rfl rfl ?_
        exact G.sub [0, 1, 3] rfl (b_X12_parts_173 X hr hk126 ih _ _ _ _ h)
      · refine g_iload 168 X 3 dX12_parts_166 rfl rfl ?_
        refine g_goto 173 X dX12_parts_168 (by decide) ?_
        exact G.sub [0, 1, 3] rfl (b_X12_parts_173 X hr hk126 ih _ _ _ _ h)
set_option maxRecDepth 100000 in
set_option maxHeartbeats 4000000 in
theorem b_X12_parts_126 {p : Program} {l : Launch} {e : Env} {s : State} {m : MethodId} {args : Array Value} {below : List Frame} {meth : Method} {c : Code} {D : va_G} {ks : Nat → ClassId} {A : Nat → Prop} {ad : Nat → Nat} (X : Cx p s m args meth c cX12_parts 12 RX12 D ks A 24 ad (shR ks ad)) (hr : meth.sig.returnType = none) {F : Nat} {r : Unit × Mem} : ∀ n : Nat, ∀ (μ : Mem) (x7 : Int64), f_X12_parts_b126 F  n μ x7 = some r → G p l e rm_X12_parts s m args below meth c D A 12 (MQ below (QV D 24 ad (shR ks ad) A r) args s 0 0 A) 24 ad (shR ks ad) μ 126 [(0, .ref (ad 0)), (7, .long x7)] [] := by
  intro n
  induction n with
  | zero =>
    intro _ _ h
    cases h
  | succ n ih =>
    intro μ x7 h
    refine g_lload 128 X 1 dX12_parts_126 rfl rfl ?_
    refine g_lconst 129 X dX12_parts_128 lc0 rfl ?_
    refine g_lcmp 130 X dX12_parts_129 rfl ?_
    refine g_if_le 211 133 X dX12_parts_130 (by decide) rfl h (fun h => ?_) (fun h => ?_)
    · exact g_vret X hr dX12_parts_211 h
    · refine g_iconst 134 X dX12_parts_133 ic0 rfl ?_
      refine g_istore 136 X dX12_parts_134 (by decide) rfl ?_
      refine g_iconst 137 X dX12_parts_136 ic1 rfl ?_
      refine g_istore 139 X dX12_parts_137 (by decide) rfl ?_
      exact G.sub [2, 3, 1, 0] rfl (b_X12_parts_139 X hr ih F _ _ _ _ h)
set_option maxRecDepth 100000 in
set_option maxHeartbeats 4000000 in
theorem b_X12_parts_120 {p : Program} {l : Launch} {e : Env} {s : State} {m : MethodId} {args : Array Value} {below : List Frame} {meth : Method} {c : Code} {D : va_G} {ks : Nat → ClassId} {A : Nat → Prop} {ad : Nat → Nat} (X : Cx p s m args meth c cX12_parts 12 RX12 D ks A 24 ad (shR ks ad)) (hr : meth.sig.returnType = none) {F : Nat} {r : Unit × Mem} {k44 : Mem → Int32 → Int32 → Int64 → Int64 → Int64 → Int32 → Option (Unit × Mem)} (hk44 : ∀ (μ : Mem) (x1 : Int32) (x2 : Int32) (x3 : Int64) (x5 : Int64) (x7 : Int64) (x9 : Int32), k44 μ x1 x2 x3 x5 x7 x9 = some r → G p l e rm_X12_parts s m args below meth c D A 12 (MQ below (QV D 24 ad (shR ks ad) A r) args s 0 0 A) 24 ad (shR ks ad) μ 44 [(0, .ref (ad 0)), (1, .int x1), (2, .int x2), (3, .long x3), (5, .long x5), (7, .long x7), (9, .int x9)] []) (μ : Mem) (x1 : Int32) (x2 : Int32) (x3 : Int64) (x5 : Int64) (x7 : Int64) (x9 : Int32)  (h : f_X12_parts_b120 F k44 μ x1 x2 x3 x5 x7 x9 = some r) : G p l e rm_X12_parts s m args below meth c D A 12 (MQ below (QV D 24 ad (shR ks ad) A r) args s 0 0 A) 24 ad (shR ks ad) μ 120 [(0, .ref (ad 0)), (1, .int x1), (2, .int x2), (3, .long x3), (5, .long x5), (7, .long x7), (9, .int x9)] [] := by
  refine g_iinc 123 X 6 dX12_parts_120 ic1 rfl (by decide) rfl ?_
  refine g_goto 44 X dX12_parts_123 (by decide) ?_
  exact G.sub [1, 2, 3, 4, 5, 6, 0] rfl (hk44 _ _ _ _ _ _ _ h)
set_option maxRecDepth 100000 in
set_option maxHeartbeats 4000000 in
theorem b_X12_parts_44 {p : Program} {l : Launch} {e : Env} {s : State} {m : MethodId} {args : Array Value} {below : List Frame} {meth : Method} {c : Code} {D : va_G} {ks : Nat → ClassId} {A : Nat → Prop} {ad : Nat → Nat} (X : Cx p s m args meth c cX12_parts 12 RX12 D ks A 24 ad (shR ks ad)) (hr : meth.sig.returnType = none) {F : Nat} {r : Unit × Mem} : ∀ n : Nat, ∀ (μ : Mem) (x1 : Int32) (x2 : Int32) (x3 : Int64) (x5 : Int64) (x7 : Int64) (x9 : Int32), f_X12_parts_b44 F  n μ x1 x2 x3 x5 x7 x9 = some r → G p l e rm_X12_parts s m args below meth c D A 12 (MQ below (QV D 24 ad (shR ks ad) A r) args s 0 0 A) 24 ad (shR ks ad) μ 44 [(0, .ref (ad 0)), (1, .int x1), (2, .int x2), (3, .long x3), (5, .long x5), (7, .long x7), (9, .int x9)] [] := by
  intro n
  induction n with
  | zero =>
    intro _ _ _ _ _ _ _ h
    cases h
  | succ n ih =>
    intro μ x1 x2 x3 x5 x7 x9 h
    refine g_iload 46 X 6 dX12_parts_44 rfl rfl ?_
    refine g_aload_n 47 X 0 dX12_parts_46 rfl rfl ?_
    refine g_geti 50 X fl_X12_115_12 (o12 rfl) rfl dX12_parts_47 h rfl (fun v1 h => ?_)
    refine g_icmp_ge 126 53 X dX12_parts_50 (by decide) rfl h (fun h => ?_) (fun h => ?_)
    · exact G.sub [0, 5] rfl (b_X12_parts_126 X hr  F _ _ h)
    · refine g_aload_n 54 X 0 dX12_parts_53 rfl rfl ?_
      refine g_getr 57 X fl_X12_76_12 (o12 rfl) rfl dX12_parts_54 rfl ?_
      refine g_iload 59 X 6 dX12_parts_57 rfl rfl ?_
      refine g_ldc2 62 X m1437 dX12_parts_59 rfl ?_
      refine g_last 63 X (ajR (n := 30) (by decide) rfl) dX12_parts_62 h rfl (fun μ2 h => ?_)
      refine g_aload_n 64 X 0 dX12_parts_63 rfl rfl ?_
      refine g_iload 66 X 6 dX12_parts_64 rfl rfl ?_
      refine g_iload_n 67 X 1 dX12_parts_66 rfl rfl ?_
      refine g_iload_n 68 X 2 dX12_parts_67 rfl rfl ?_
      refine g_ci 71 h (fun q e => r_V X cd_X12_292_X12_isOf_X12 ⟨rfl, rfl⟩ ⟨Nat.le_of_ble_eq_true rfl, Nat.le_of_ble_eq_true rfl⟩ (c_X12_isOf X.2.2.2.2  e) PC_blind (pc_pre X) (g_recv X (o12 rfl) rfl) rfl rfl (Nat.le_of_ble_eq_true rfl) dX12_parts_68) rfl (fun v3 μ4 h => ?_)
      refine g_if_eq 120 74 X dX12_parts_71 (by decide) rfl h (fun h => ?_) (fun h => ?_)
      · exact G.sub [0, 1, 2, 3, 4, 5, 6] rfl (b_X12_parts_120 X hr ih _ _ _ _ _ _ _ h)
      · refine g_lload 76 X 4 dX12_parts_74 rfl rfl ?_
        refine g_aload_n 77 X 0 dX12_parts_76 rfl rfl ?_
        refine g_getr 80 X fl_X12_69_12 (o12 rfl) rfl dX12_parts_77 rfl ?_
        refine g_iload 82 X 6 dX12_parts_80 rfl rfl ?_
        refine g_lald 83 X (ajR (n := 30) (by decide) rfl) dX12_parts_82 h rfl (fun v5 h => ?_)
        refine g_lmul 84 X dX12_parts_83 rfl ?_
        refine g_topl h (fun v6 h => ?_)
        refine g_lstore 86 X dX12_parts_84 (by decide) rfl ?_
        refine g_aload_n 87 X 1 dX12_parts_86 rfl rfl ?_
        refine g_getr 90 X fl_X12_69_12 (o12 rfl) rfl dX12_parts_87 rfl ?_
        refine g_iload 92 X 7 dX12_parts_90 rfl rfl ?_
        refine g_lload 94 X 0 dX12_parts_92 rfl rfl ?_
        refine g_lload_n 95 X 4 dX12_parts_94 rfl rfl ?_
        refine g_ldiv 96 X dX12_parts_95 h rfl (fun h => ?_)
        refine g_topl h (fun v7 h => ?_)
        refine g_last 97 X (ajR (n := 30) (by decide) rfl) dX12_parts_96 h rfl (fun μ8 h => ?_)
        refine g_aload_n 98 X 1 dX12_parts_97 rfl rfl ?_
        refine g_getr 101 X fl_X12_76_12 (o12 rfl) rfl dX12_parts_98 rfl ?_
        refine g_iload 103 X 7 dX12_parts_101 rfl rfl ?_
        refine g_lload 105 X 0 dX12_parts_103 rfl rfl ?_
        refine g_lload_n 106 X 4 dX12_parts_105 rfl rfl ?_
        refine g_lrem 107 X dX12_parts_106 h rfl (fun h => ?_)
        refine g_topl h (fun v9 h => ?_)
        refine g_last 108 X (ajR (n := 30) (by decide) rfl) dX12_parts_107 h rfl (fun μ10 h => ?_)
        refine g_lload 110 X 6 dX12_parts_108 rfl rfl ?_
        refine g_aload_n 111 X 1 dX12_parts_110 rfl rfl ?_
        refine g_getr 114 X fl_X12_69_12 (o12 rfl) rfl dX12_parts_111 rfl ?_
        refine g_iload 116 X 7 dX12_parts_114 rfl rfl ?_
        refine g_lald 117 X (ajR (n := 30) (by decide) rfl) dX12_parts_116 h rfl (fun v11 h => ?_)
        refine g_lsub 118 X dX12_parts_117 rfl ?_
        refine g_topl h (fun v12 h => ?_)
        refine g_lstore 120 X dX12_parts_118 (by decide) rfl ?_
        exact G.sub [2, 3, 4, 5, 6, 0, 7] rfl (b_X12_parts_120 X hr ih _ _ _ _ _ _ _ h)
set_option maxRecDepth 100000 in
set_option maxHeartbeats 4000000 in
theorem b_X12_parts_35 {p : Program} {l : Launch} {e : Env} {s : State} {m : MethodId} {args : Array Value} {below : List Frame} {meth : Method} {c : Code} {D : va_G} {ks : Nat → ClassId} {A : Nat → Prop} {ad : Nat → Nat} (X : Cx p s m args meth c cX12_parts 12 RX12 D ks A 24 ad (shR ks ad)) (hr : meth.sig.returnType = none) {F : Nat} {r : Unit × Mem} (μ : Mem) (x1 : Int32) (x2 : Int32) (x3 : Int64) (z0 : Int64)  (h : f_X12_parts_b35 F  μ x1 x2 x3 z0 = some r) : G p l e rm_X12_parts s m args below meth c D A 12 (MQ below (QV D 24 ad (shR ks ad) A r) args s 0 0 A) 24 ad (shR ks ad) μ 35 [(0, .ref (ad 0)), (1, .int x1), (2, .int x2), (3, .long x3)] [.long z0] := by
  refine g_lstore 37 X dX12_parts_35 (by decide) rfl ?_
  refine g_lload 39 X 0 dX12_parts_37 rfl rfl ?_
  refine g_lstore 41 X dX12_parts_39 (by decide) rfl ?_
  refine g_iconst 42 X dX12_parts_41 ic0 rfl ?_
  refine g_istore 44 X dX12_parts_42 (by decide) rfl ?_
  exact G.sub [3, 4, 5, 6, 2, 1, 0] rfl (b_X12_parts_44 X hr  F _ _ _ _ _ _ _ h)
set_option maxRecDepth 100000 in
set_option maxHeartbeats 4000000 in
theorem b_X12_parts_0 {p : Program} {l : Launch} {e : Env} {s : State} {m : MethodId} {args : Array Value} {below : List Frame} {meth : Method} {c : Code} {D : va_G} {ks : Nat → ClassId} {A : Nat → Prop} {ad : Nat → Nat} (X : Cx p s m args meth c cX12_parts 12 RX12 D ks A 24 ad (shR ks ad)) (hr : meth.sig.returnType = none) {F : Nat} {r : Unit × Mem} (μ : Mem) (x1 : Int32) (x2 : Int32)  (h : f_X12_parts F  μ x1 x2 = some r) : G p l e rm_X12_parts s m args below meth c D A 12 (MQ below (QV D 24 ad (shR ks ad) A r) args s 0 0 A) 24 ad (shR ks ad) μ 0 [(0, .ref (ad 0)), (1, .int x1), (2, .int x2)] [] := by
  refine g_aload_n 1 X 0 dX12_parts_0 rfl rfl ?_
  refine g_iload_n 2 X 1 dX12_parts_1 rfl rfl ?_
  refine g_iload_n 3 X 2 dX12_parts_2 rfl rfl ?_
  refine g_cl 6 h (fun q e => r_V X cd_X12_296_X12_weightOf_X12 ⟨rfl, rfl⟩ ⟨Nat.le_of_ble_eq_true rfl, Nat.le_of_ble_eq_true rfl⟩ (c_X12_weightOf X.2.2.2.2  e) PC_blind (pc_pre X) (g_recv X (o12 rfl) rfl) rfl rfl (Nat.le_of_ble_eq_true rfl) dX12_parts_3) rfl (fun v1 μ2 h => ?_)
  refine g_lstore_n 7 X dX12_parts_6 (by decide) rfl ?_
  refine g_lload_n 8 X 0 dX12_parts_7 rfl rfl ?_
  refine g_lconst 9 X dX12_parts_8 lc0 rfl ?_
  refine g_lcmp 10 X dX12_parts_9 rfl ?_
  refine g_if_ne 14 13 X dX12_parts_10 (by decide) rfl h (fun h => ?_) (fun h => ?_)
  · refine g_iload_n 15 X 2 dX12_parts_14 rfl rfl ?_
    refine g_if_ne 28 18 X dX12_parts_15 (by decide) rfl h (fun h => ?_) (fun h => ?_)
    · refine g_aload_n 29 X 1 dX12_parts_28 rfl rfl ?_
      refine g_getr 32 X fl_X12_66_12 (o12 rfl) rfl dX12_parts_29 rfl ?_
      refine g_iload_n 33 X 3 dX12_parts_32 rfl rfl ?_
      refine g_iald 34 X (aiR (n := 3) (by decide) rfl) dX12_parts_33 h rfl (fun v3 h => ?_)
      refine g_i2l 35 X dX12_parts_34 rfl ?_
      exact G.sub [1, 2, 3, 0] rfl (b_X12_parts_35 X hr  _ _ _ _ _ h)
    · refine g_aload_n 19 X 1 dX12_parts_18 rfl rfl ?_
      refine g_getr 22 X fl_X12_63_12 (o12 rfl) rfl dX12_parts_19 rfl ?_
      refine g_iload_n 23 X 3 dX12_parts_22 rfl rfl ?_
      refine g_iald 24 X (aiR (n := 4) (by decide) rfl) dX12_parts_23 h rfl (fun v4 h => ?_)
      refine g_i2l 25 X dX12_parts_24 rfl ?_
      refine g_goto 35 X dX12_parts_25 (by decide) ?_
      exact G.sub [1, 2, 3, 0] rfl (b_X12_parts_35 X hr  _ _ _ _ _ h)
  · exact g_vret X hr dX12_parts_13 h
set_option maxRecDepth 100000 in
theorem c_X12_parts {l : Launch} {D : va_G} {ks : Nat → ClassId} {A : Nat → Prop} {ad : Nat → Nat} (hD : ∀ μ : Mem, va_D A (wsM 24 ad (shR ks ad) μ)) {F : Nat} {μ : Mem} {x1 : Int32} {x2 : Int32} {r : Unit × Mem}  (h : f_X12_parts F μ x1 x2 = some r) : Met l yX12_parts (Cond.code yX12_parts cX12_parts 12 none :: wg) rm_X12_parts (PC D ks 24 ad (shR ks ad) μ [.ref (ad 0), .int x1, .int x2]) (QV D 24 ad (shR ks ad) A r) 0 0 A := by
  refine met_of (by decide) (Nat.le_of_ble_eq_true rfl) hD ?_
  intro p e s m args below meth c X hr
  exact G.sub [0, 1, 2] rfl (b_X12_parts_0 X hr  _ _ _ h)
abbrev rm_X12_findWeights : Room := { frames := 5, cells := 0, slots := 0, locals := 116 }
set_option maxRecDepth 100000 in
set_option maxHeartbeats 4000000 in
theorem b_X12_findWeights_117 {p : Program} {l : Launch} {e : Env} {s : State} {m : MethodId} {args : Array Value} {below : List Frame} {meth : Method} {c : Code} {D : va_G} {ks : Nat → ClassId} {A : Nat → Prop} {ad : Nat → Nat} (X : Cx p s m args meth c cX12_findWeights 5 RX12 D ks A 24 ad (shR ks ad)) (hr : meth.sig.returnType = none) {F : Nat} {r : Unit × Mem} {k87 : Mem → Int32 → Int32 → Option (Unit × Mem)} (hk87 : ∀ (μ : Mem) (x2 : Int32) (x3 : Int32), k87 μ x2 x3 = some r → G p l e rm_X12_findWeights s m args below meth c D A 5 (MQ below (QV D 24 ad (shR ks ad) A r) args s 0 0 A) 24 ad (shR ks ad) μ 87 [(0, .ref (ad 0)), (2, .int x2), (3, .int x3)] []) : ∀ n : Nat, ∀ (μ : Mem) (x2 : Int32) (x3 : Int32) (x4 : Int32), f_X12_findWeights_b117 F k87 n μ x2 x3 x4 = some r → G p l e rm_X12_findWeights s m args below meth c D A 5 (MQ below (QV D 24 ad (shR ks ad) A r) args s 0 0 A) 24 ad (shR ks ad) μ 117 [(0, .ref (ad 0)), (2, .int x2), (3, .int x3), (4, .int x4)] [] := by
  intro n
  induction n with
  | zero =>
    intro _ _ _ _ h
    cases h
  | succ n ih =>
    intro μ x2 x3 x4 h
    refine g_iload 119 X 3 dX12_findWeights_117 rfl rfl ?_
    refine g_iconst 120 X dX12_findWeights_119 ic3 rfl ?_
    refine g_icmp_ge 136 123 X dX12_findWeights_120 (by decide) rfl h (fun h => ?_) (fun h => ?_)
    · refine g_iinc 139 X 2 dX12_findWeights_136 ic1 rfl (by decide) rfl ?_
      refine g_goto 87 X dX12_findWeights_139 (by decide) ?_
      exact G.sub [1, 2, 0] rfl (hk87 _ _ _ h)
    · refine g_aload_n 124 X 0 dX12_findWeights_123 rfl rfl ?_
      refine g_iconst 125 X dX12_findWeights_124 ic1 rfl ?_
      refine g_iload 127 X 3 dX12_findWeights_125 rfl rfl ?_
      refine g_cv 130 h (fun q e => r_V X cd_X12_303_X12_parts_X12 ⟨rfl, rfl⟩ ⟨Nat.le_of_ble_eq_true rfl, Nat.le_of_ble_eq_true rfl⟩ (c_X12_parts X.2.2.2.2  e) PC_blind (pc_pre X) (g_recv X (o12 rfl) rfl) rfl rfl (Nat.le_of_ble_eq_true rfl) dX12_findWeights_127) rfl (fun _ μ1 h => ?_)
      refine g_iinc 133 X 3 dX12_findWeights_130 ic1 rfl (by decide) rfl ?_
      refine g_goto 117 X dX12_findWeights_133 (by decide) ?_
      exact G.sub [1, 2, 3, 0] rfl (ih _ _ _ _ h)
set_option maxRecDepth 100000 in
set_option maxHeartbeats 4000000 in
theorem b_X12_findWeights_95 {p : Program} {l : Launch} {e : Env} {s : State} {m : MethodId} {args : Array Value} {below : List Frame} {meth : Method} {c : Code} {D : va_G} {ks : Nat → ClassId} {A : Nat → Prop} {ad : Nat → Nat} (X : Cx p s m args meth c cX12_findWeights 5 RX12 D ks A 24 ad (shR ks ad)) (hr : meth.sig.returnType = none) {F : Nat} {r : Unit × Mem} {k87 : Mem → Int32 → Int32 → Option (Unit × Mem)} (hk87 : ∀ (μ : Mem) (x2 : Int32) (x3 : Int32), k87 μ x2 x3 = some r → G p l e rm_X12_findWeights s m args below meth c D A 5 (MQ below (QV D 24 ad (shR ks ad) A r) args s 0 0 A) 24 ad (shR ks ad) μ 87 [(0, .ref (ad 0)), (2, .int x2), (3, .int x3)] []) : ∀ n : Nat, ∀ (μ : Mem) (x2 : Int32) (x3 : Int32) (x4 : Int32), f_X12_findWeights_b95 F k87 n μ x2 x3 x4 = some r → G p l e rm_X12_findWeights s m args below meth c D A 5 (MQ below (QV D 24 ad (shR ks ad) A r) args s 0 0 A) 24 ad (shR ks ad) μ 95 [(0, .ref (ad 0)), (2, .int x2), (3, .int x3), (4, .int x4)] [] := by
  intro n
  induction n with
  | zero =>
    intro _ _ _ _ h
    cases h
  | succ n ih =>
    intro μ x2 x3 x4 h
    refine g_iload 97 X 3 dX12_findWeights_95 rfl rfl ?_
    refine g_iconst 98 X dX12_findWeights_97 ic4 rfl ?_
    refine g_icmp_ge 114 101 X dX12_findWeights_98 (by decide) rfl h (fun h => ?_) (fun h => ?_)
    · refine g_iconst 115 X dX12_findWeights_114 ic0 rfl ?_
      refine g_istore 117 X dX12_findWeights_115 (by decide) rfl ?_
      exact G.sub [1, 2, 3, 0] rfl (b_X12_findWeights_117 X hr hk87 F _ _ _ _ h)
    · refine g_aload_n 102 X 0 dX12_findWeights_101 rfl rfl ?_
      refine g_iconst 103 X dX12_findWeights_102 ic0 rfl ?_
      refine g_iload 105 X 3 dX12_findWeights_103 rfl rfl ?_
      refine g_cv 108 h (fun q e => r_V X cd_X12_303_X12_parts_X12 ⟨rfl, rfl⟩ ⟨Nat.le_of_ble_eq_true rfl, Nat.le_of_ble_eq_true rfl⟩ (c_X12_parts X.2.2.2.2  e) PC_blind (pc_pre X) (g_recv X (o12 rfl) rfl) rfl rfl (Nat.le_of_ble_eq_true rfl) dX12_findWeights_105) rfl (fun _ μ1 h => ?_)
      refine g_iinc 111 X 3 dX12_findWeights_108 ic1 rfl (by decide) rfl ?_
      refine g_goto 95 X dX12_findWeights_111 (by decide) ?_
      exact G.sub [1, 2, 3, 0] rfl (ih _ _ _ _ h)
set_option maxRecDepth 100000 in
set_option maxHeartbeats 4000000 in
theorem b_X12_findWeights_87 {p : Program} {l : Launch} {e : Env} {s : State} {m : MethodId} {args : Array Value} {below : List Frame} {meth : Method} {c : Code} {D : va_G} {ks : Nat → ClassId} {A : Nat → Prop} {ad : Nat → Nat} (X : Cx p s m args meth c cX12_findWeights 5 RX12 D ks A 24 ad (shR ks ad)) (hr : meth.sig.returnType = none) {F : Nat} {r : Unit × Mem} : ∀ n : Nat, ∀ (μ : Mem) (x2 : Int32) (x3 : Int32), f_X12_findWeights_b87 F  n μ x2 x3 = some r → G p l e rm_X12_findWeights s m args below meth c D A 5 (MQ below (QV D 24 ad (shR ks ad) A r) args s 0 0 A) 24 ad (shR ks ad) μ 87 [(0, .ref (ad 0)), (2, .int x2), (3, .int x3)] [] := by
  intro n
  induction n with
  | zero =>
    intro _ _ _ h
    cases h
  | succ n ih =>
    intro μ x2 x3 h
    refine g_iload_n 88 X 2 dX12_findWeights_87 rfl rfl ?_
    refine g_iload_n 89 X 1 dX12_findWeights_88 rfl rfl ?_
    refine g_icmp_ge 142 92 X dX12_findWeights_89 (by decide) rfl h (fun h => ?_) (fun h => ?_)
    · exact g_vret X hr dX12_findWeights_142 h
    · refine g_iconst 93 X dX12_findWeights_92 ic0 rfl ?_
      refine g_istore 95 X dX12_findWeights_93 (by decide) rfl ?_
      exact G.sub [1, 2, 3, 0] rfl (b_X12_findWeights_95 X hr ih F _ _ _ _ h)
set_option maxRecDepth 100000 in
set_option maxHeartbeats 4000000 in
theorem b_X12_findWeights_79 {p : Program} {l : Launch} {e : Env} {s : State} {m : MethodId} {args : Array Value} {below : List Frame} {meth : Method} {c : Code} {D : va_G} {ks : Nat → ClassId} {A : Nat → Prop} {ad : Nat → Nat} (X : Cx p s m args meth c cX12_findWeights 5 RX12 D ks A 24 ad (shR ks ad)) (hr : meth.sig.returnType = none) {F : Nat} {r : Unit × Mem} {k2 : Mem → Int32 → Int32 → Int32 → Option (Unit × Mem)} (hk2 : ∀ (μ : Mem) (x1 : Int32) (x2 : Int32) (x3 : Int32), k2 μ x1 x2 x3 = some r → G p l e rm_X12_findWeights s m args below meth c D A 5 (MQ below (QV D 24 ad (shR ks ad) A r) args s 0 0 A) 24 ad (shR ks ad) μ 2 [(0, .ref (ad 0)), (1, .int x1), (2, .int x2), (3, .int x3)] []) (μ : Mem) (x1 : Int32) (x2 : Int32) (x3 : Int32)  (h : f_X12_findWeights_b79 F k2 μ x1 x2 x3 = some r) : G p l e rm_X12_findWeights s m args below meth c D A 5 (MQ below (QV D 24 ad (shR ks ad) A r) args s 0 0 A) 24 ad (shR ks ad) μ 79 [(0, .ref (ad 0)), (1, .int x1), (2, .int x2), (3, .int x3)] [] := by
  refine g_iinc 82 X 3 dX12_findWeights_79 ic1 rfl (by decide) rfl ?_
  refine g_goto 2 X dX12_findWeights_82 (by decide) ?_
  exact G.sub [1, 2, 3, 0] rfl (hk2 _ _ _ _ h)
set_option maxRecDepth 100000 in
set_option maxHeartbeats 4000000 in
theorem b_X12_findWeights_38 {p : Program} {l : Launch} {e : Env} {s : State} {m : MethodId} {args : Array Value} {below : List Frame} {meth : Method} {c : Code} {D : va_G} {ks : Nat → ClassId} {A : Nat → Prop} {ad : Nat → Nat} (X : Cx p s m args meth c cX12_findWeights 5 RX12 D ks A 24 ad (shR ks ad)) (hr : meth.sig.returnType = none) {F : Nat} {r : Unit × Mem} {k2 : Mem → Int32 → Int32 → Int32 → Option (Unit × Mem)} (hk2 : ∀ (μ : Mem) (x1 : Int32) (x2 : Int32) (x3 : Int32), k2 μ x1 x2 x3 = some r → G p l e rm_X12_findWeights s m args below meth c D A 5 (MQ below (QV D 24 ad (shR ks ad) A r) args s 0 0 A) 24 ad (shR ks ad) μ 2 [(0, .ref (ad 0)), (1, .int x1), (2, .int x2), (3, .int x3)] []) (μ : Mem) (x1 : Int32) (x2 : Int32) (x3 : Int32) (z0 : Int32) (z1 : Int32)  (h : f_X12_findWeights_b38 F k2 μ x1 x2 x3 z0 z1 = some r) : G p l e rm_X12_findWeights s m args below meth c D A 5 (MQ below (QV D 24 ad (shR ks ad) A r) args s 0 0 A) 24 ad (shR ks ad) μ 38 [(0, .ref (ad 0)), (1, .int x1), (2, .int x2), (3, .int x3)] [.int z0, .int z1, .ref (ad 20)] := by
  refine g_zast 39 X (azR (n := 30) (by decide) rfl) dX12_findWeights_38 h rfl (fun μ1 h => ?_)
  refine g_aload_n 40 X 0 dX12_findWeights_39 rfl rfl ?_
  refine g_getr 43 X fl_X12_69_12 (o12 rfl) rfl dX12_findWeights_40 rfl ?_
  refine g_iload_n 44 X 3 dX12_findWeights_43 rfl rfl ?_
  refine g_lconst 45 X dX12_findWeights_44 lc0 rfl ?_
  refine g_last 46 X (ajR (n := 30) (by decide) rfl) dX12_findWeights_45 h rfl (fun μ2 h => ?_)
  refine g_aload_n 47 X 0 dX12_findWeights_46 rfl rfl ?_
  refine g_getr 50 X fl_X12_72_12 (o12 rfl) rfl dX12_findWeights_47 rfl ?_
  refine g_iload_n 51 X 3 dX12_findWeights_50 rfl rfl ?_
  refine g_zald 52 X (azR (n := 30) (by decide) rfl) dX12_findWeights_51 h rfl (fun v3 h => ?_)
  refine g_if_eq 79 55 X dX12_findWeights_52 (by decide) rfl h (fun h => ?_) (fun h => ?_)
  · exact G.sub [0, 1, 2, 3] rfl (b_X12_findWeights_79 X hr hk2 _ _ _ _ h)
  · refine g_aload_n 56 X 0 dX12_findWeights_55 rfl rfl ?_
    refine g_iload_n 57 X 3 dX12_findWeights_56 rfl rfl ?_
    refine g_cv 60 h (fun q e => r_V X cd_X12_230_X12_findShare_X12 ⟨rfl, rfl⟩ ⟨Nat.le_of_ble_eq_true rfl, Nat.le_of_ble_eq_true rfl⟩ (c_X12_findShare X.2.2.2.2  e) PC_blind (pc_pre X) (g_recv X (o12 rfl) rfl) rfl rfl (Nat.le_of_ble_eq_true rfl) dX12_findWeights_57) rfl (fun _ μ4 h => ?_)
    refine g_aload_n 61 X 0 dX12_findWeights_60 rfl rfl ?_
    refine g_getr 64 X fl_X12_69_12 (o12 rfl) rfl dX12_findWeights_61 rfl ?_
    refine g_iload_n 65 X 3 dX12_findWeights_64 rfl rfl ?_
    refine g_ldc2 68 X m1424 dX12_findWeights_65 rfl ?_
    refine g_aload_n 69 X 0 dX12_findWeights_68 rfl rfl ?_
    refine g_getl 72 X fl_X12_214_12 (o12 rfl) rfl dX12_findWeights_69 h rfl (fun v5 h => ?_)
    refine g_lmul 73 X dX12_findWeights_72 rfl ?_
    refine g_aload_n 74 X 0 dX12_findWeights_73 rfl rfl ?_
    refine g_getl 77 X fl_X12_210_12 (o12 rfl) rfl dX12_findWeights_74 h rfl (fun v6 h => ?_)
    refine g_ldiv 78 X dX12_findWeights_77 h rfl (fun h => ?_)
    refine g_topl h (fun v7 h => ?_)
    refine g_last 79 X (ajR (n := 30) (by decide) rfl) dX12_findWeights_78 h rfl (fun μ8 h => ?_)
    exact G.sub [0, 1, 2, 3] rfl (b_X12_findWeights_79 X hr hk2 _ _ _ _ h)
set_option maxRecDepth 100000 in
set_option maxHeartbeats 4000000 in
theorem b_X12_findWeights_37 {p : Program} {l : Launch} {e : Env} {s : State} {m : MethodId} {args : Array Value} {below : List Frame} {meth : Method} {c : Code} {D : va_G} {ks : Nat → ClassId} {A : Nat → Prop} {ad : Nat → Nat} (X : Cx p s m args meth c cX12_findWeights 5 RX12 D ks A 24 ad (shR ks ad)) (hr : meth.sig.returnType = none) {F : Nat} {r : Unit × Mem} {k2 : Mem → Int32 → Int32 → Int32 → Option (Unit × Mem)} (hk2 : ∀ (μ : Mem) (x1 : Int32) (x2 : Int32) (x3 : Int32), k2 μ x1 x2 x3 = some r → G p l e rm_X12_findWeights s m args below meth c D A 5 (MQ below (QV D 24 ad (shR ks ad) A r) args s 0 0 A) 24 ad (shR ks ad) μ 2 [(0, .ref (ad 0)), (1, .int x1), (2, .int x2), (3, .int x3)] []) (μ : Mem) (x1 : Int32) (x2 : Int32) (x3 : Int32) (z0 : Int32)  (h : f_X12_findWeights_b37 F k2 μ x1 x2 x3 z0 = some r) : G p l e rm_X12_findWeights s m args below meth c D A 5 (MQ below (QV D 24 ad (shR ks ad) A r) args s 0 0 A) 24 ad (shR ks ad) μ 37 [(0, .ref (ad 0)), (1, .int x1), (2, .int x2), (3, .int x3)] [.int z0, .ref (ad 20)] := by
  refine g_iconst 38 X dX12_findWeights_37 ic0 rfl ?_
  exact G.sub [0, 1, 2, 3] rfl (b_X12_findWeights_38 X hr hk2 _ _ _ _ _ _ h)
set_option maxRecDepth 100000 in
set_option maxHeartbeats 4000000 in
theorem b_X12_findWeights_2 {p : Program} {l : Launch} {e : Env} {s : State} {m : MethodId} {args : Array Value} {below : List Frame} {meth : Method} {c : Code} {D : va_G} {ks : Nat → ClassId} {A : Nat → Prop} {ad : Nat → Nat} (X : Cx p s m args meth c cX12_findWeights 5 RX12 D ks A 24 ad (shR ks ad)) (hr : meth.sig.returnType = none) {F : Nat} {r : Unit × Mem} : ∀ n : Nat, ∀ (μ : Mem) (x1 : Int32) (x2 : Int32) (x3 : Int32), f_X12_findWeights_b2 F  n μ x1 x2 x3 = some r → G p l e rm_X12_findWeights s m args below meth c D A 5 (MQ below (QV D 24 ad (shR ks ad) A r) args s 0 0 A) 24 ad (shR ks ad) μ 2 [(0, .ref (ad 0)), (1, .int x1), (2, .int x2), (3, .int x3)] [] := by
  intro n
  induction n with
  | zero =>
    intro _ _ _ _ h
    cases h
  | succ n ih =>
    intro μ x1 x2 x3 h
    refine g_iload_n 3 X 3 dX12_findWeights_2 rfl rfl ?_
    refine g_aload_n 4 X 0 dX12_findWeights_3 rfl rfl ?_
    refine g_geti 7 X fl_X12_115_12 (o12 rfl) rfl dX12_findWeights_4 h rfl (fun v1 h => ?_)
    refine g_icmp_ge 85 10 X dX12_findWeights_7 (by decide) rfl h (fun h => ?_) (fun h => ?_)
    · refine g_iconst 86 X dX12_findWeights_85 ic0 rfl ?_
      refine g_istore_n 87 X dX12_findWeights_86 (by decide) rfl ?_
      exact G.sub [1, 3, 0] rfl (b_X12_findWeights_87 X hr  F _ _ _ h)
    · refine g_aload_n 11 X 0 dX12_findWeights_10 rfl rfl ?_
      refine g_getr 14 X fl_X12_72_12 (o12 rfl) rfl dX12_findWeights_11 rfl ?_
      refine g_iload_n 15 X 3 dX12_findWeights_14 rfl rfl ?_
      refine g_iload_n 16 X 1 dX12_findWeights_15 rfl rfl ?_
      refine g_iload_n 17 X 3 dX12_findWeights_16 rfl rfl ?_
      refine g_ishr 18 X dX12_findWeights_17 rfl ?_
      refine g_iconst 19 X dX12_findWeights_18 ic1 rfl ?_
      refine g_iand 20 X dX12_findWeights_19 rfl ?_
      refine g_iconst 21 X dX12_findWeights_20 ic1 rfl ?_
      refine g_icmp_ne 37 24 X dX12_findWeights_21 (by decide) rfl h (fun h => ?_) (fun h => ?_)
      · exact G.sub [0, 1, 2, 3] rfl (b_X12_findWeights_37 X hr ih _ _ _ _ _ h)
      · refine g_aload_n 25 X 0 dX12_findWeights_24 rfl rfl ?_
        refine g_iload_n 26 X 3 dX12_findWeights_25 rfl rfl ?_
        refine g_ci 29 h (fun q e => r_V X cd_X12_134_X12_valueOf_X12 ⟨rfl, rfl⟩ ⟨Nat.le_of_ble_eq_true rfl, Nat.le_of_ble_eq_true rfl⟩ (c_X12_valueOf X.2.2.2.2  e) PC_blind (pc_pre X) (g_recv X (o12 rfl) rfl) rfl rfl (Nat.le_of_ble_eq_true rfl) dX12_findWeights_26) rfl (fun v2 μ3 h => ?_)
        refine g_iconst 30 X dX12_findWeights_29 icm1 rfl ?_
        refine g_icmp_eq 37 33 X dX12_findWeights_30 (by decide) rfl h (fun h => ?_) (fun h => ?_)
        · exact G.sub [0, 1, 2, 3] rfl (b_X12_findWeights_37 X hr ih _ _ _ _ _ h)
        · refine g_iconst 34 X dX12_findWeights_33 ic1 rfl ?_
          refine g_goto 38 X dX12_findWeights_34 (by decide) ?_
          exact G.sub [0, 1, 2, 3] rfl (b_X12_findWeights_38 X hr ih _ _ _ _ _ _ h)
set_option maxRecDepth 100000 in
set_option maxHeartbeats 4000000 in
theorem b_X12_findWeights_0 {p : Program} {l : Launch} {e : Env} {s : State} {m : MethodId} {args : Array Value} {below : List Frame} {meth : Method} {c : Code} {D : va_G} {ks : Nat → ClassId} {A : Nat → Prop} {ad : Nat → Nat} (X : Cx p s m args meth c cX12_findWeights 5 RX12 D ks A 24 ad (shR ks ad)) (hr : meth.sig.returnType = none) {F : Nat} {r : Unit × Mem} (μ : Mem) (x1 : Int32) (x2 : Int32)  (h : f_X12_findWeights F  μ x1 x2 = some r) : G p l e rm_X12_findWeights s m args below meth c D A 5 (MQ below (QV D 24 ad (shR ks ad) A r) args s 0 0 A) 24 ad (shR ks ad) μ 0 [(0, .ref (ad 0)), (1, .int x1), (2, .int x2)] [] := by
  refine g_iconst 1 X dX12_findWeights_0 ic0 rfl ?_
  refine g_istore_n 2 X dX12_findWeights_1 (by decide) rfl ?_
  exact G.sub [1, 2, 3, 0] rfl (b_X12_findWeights_2 X hr  F _ _ _ _ h)
set_option maxRecDepth 100000 in
theorem c_X12_findWeights {l : Launch} {D : va_G} {ks : Nat → ClassId} {A : Nat → Prop} {ad : Nat → Nat} (hD : ∀ μ : Mem, va_D A (wsM 24 ad (shR ks ad) μ)) {F : Nat} {μ : Mem} {x1 : Int32} {x2 : Int32} {r : Unit × Mem}  (h : f_X12_findWeights F μ x1 x2 = some r) : Met l yX12_findWeights (Cond.code yX12_findWeights cX12_findWeights 5 none :: wg) rm_X12_findWeights (PC D ks 24 ad (shR ks ad) μ [.ref (ad 0), .int x1, .int x2]) (QV D 24 ad (shR ks ad) A r) 0 0 A := by
  refine met_of (by decide) (Nat.le_of_ble_eq_true rfl) hD ?_
  intro p e s m args below meth c X hr
  exact G.sub [0, 1, 2] rfl (b_X12_findWeights_0 X hr  _ _ _ h)
abbrev rm_X12_weight : Room := { frames := 6, cells := 0, slots := 0, locals := 140 }
set_option maxRecDepth 100000 in
set_option maxHeartbeats 4000000 in
theorem b_X12_weight_0 {p : Program} {l : Launch} {e : Env} {s : State} {m : MethodId} {args : Array Value} {below : List Frame} {meth : Method} {c : Code} {D : va_G} {ks : Nat → ClassId} {A : Nat → Prop} {ad : Nat → Nat} (X : Cx p s m args meth c cX12_weight 6 RX12 D ks A 24 ad (shR ks ad)) (hr : meth.sig.returnType = (some .int)) {F : Nat} {r : Int32 × Mem} (μ : Mem) (x1 : Int32) (x2 : Int32) (x3 : Int32) (x4 : Int32)  (h : f_X12_weight F  μ x1 x2 x3 x4 = some r) : G p l e rm_X12_weight s m args below meth c D A 6 (MQ below (QI D 24 ad (shR ks ad) A r) args s 0 0 A) 24 ad (shR ks ad) μ 0 [(0, .ref (ad 0)), (1, .int x1), (2, .int x2), (3, .int x3), (4, .int x4)] [] := by
  refine g_iload_n 1 X 3 dX12_weight_0 rfl rfl ?_
  refine g_i2l 2 X dX12_weight_1 rfl ?_
  refine g_lconst 3 X dX12_weight_2 lc0 rfl ?_
  refine g_ldc2 6 X m1260 dX12_weight_3 rfl ?_
  refine g_ni 9 h (fun q e => r_S X cd_X12_92_X12_in ⟨rfl, rfl⟩ ⟨Nat.le_of_ble_eq_true rfl, Nat.le_of_ble_eq_true rfl⟩ (c_X12_in e) PC_blind (pn_pre X) rfl rfl (Nat.le_of_ble_eq_true rfl) dX12_weight_6) rfl (fun v1 h => ?_)
  refine g_if_eq 21 12 X dX12_weight_9 (by decide) rfl h (fun h => ?_) (fun h => ?_)
  · refine g_bipush 23 X dX12_weight_21 bpm2 rfl ?_
    exact g_iret X hr dX12_weight_23 h
  · refine g_aload_n 13 X 0 dX12_weight_12 rfl rfl ?_
    refine g_iload 15 X 4 dX12_weight_13 rfl rfl ?_
    refine g_ci 18 h (fun q e => r_V X cd_X12_131_X12_isName_X12 ⟨rfl, rfl⟩ ⟨Nat.le_of_ble_eq_true rfl, Nat.le_of_ble_eq_true rfl⟩ (c_X12_isName X.2.2.2.2  e) PC_blind (pc_pre X) (g_recv X (o12 rfl) rfl) rfl rfl (Nat.le_of_ble_eq_true rfl) dX12_weight_15) rfl (fun v2 μ3 h => ?_)
    refine g_if_ne 24 21 X dX12_weight_18 (by decide) rfl h (fun h => ?_) (fun h => ?_)
    · refine g_aload_n 25 X 0 dX12_weight_24 rfl rfl ?_
      refine g_iload_n 26 X 1 dX12_weight_25 rfl rfl ?_
      refine g_iload_n 27 X 2 dX12_weight_26 rfl rfl ?_
      refine g_ci 30 h (fun q e => r_V X cd_X12_278_X12_without_X12 ⟨rfl, rfl⟩ ⟨Nat.le_of_ble_eq_true rfl, Nat.le_of_ble_eq_true rfl⟩ (c_X12_without X.2.2.2.2  e) PC_blind (pc_pre X) (g_recv X (o12 rfl) rfl) rfl rfl (Nat.le_of_ble_eq_true rfl) dX12_weight_27) rfl (fun v4 μ5 h => ?_)
      refine g_istore 32 X dX12_weight_30 (by decide) rfl ?_
      refine g_iload 34 X 0 dX12_weight_32 rfl rfl ?_
      refine g_if_eq 40 37 X dX12_weight_34 (by decide) rfl h (fun h => ?_) (fun h => ?_)
      · refine g_aload_n 41 X 1 dX12_weight_40 rfl rfl ?_
        refine g_iload_n 42 X 3 dX12_weight_41 rfl rfl ?_
        refine g_iload_n 43 X 4 dX12_weight_42 rfl rfl ?_
        refine g_cv 46 h (fun q e => r_V X cd_X12_306_X12_findWeights_X12 ⟨rfl, rfl⟩ ⟨Nat.le_of_ble_eq_true rfl, Nat.le_of_ble_eq_true rfl⟩ (c_X12_findWeights X.2.2.2.2  e) PC_blind (pc_pre X) (g_recv X (o12 rfl) rfl) rfl rfl (Nat.le_of_ble_eq_true rfl) dX12_weight_43) rfl (fun _ μ6 h => ?_)
        refine g_aload_n 47 X 1 dX12_weight_46 rfl rfl ?_
        refine g_getr 50 X fl_X12_69_12 (o12 rfl) rfl dX12_weight_47 rfl ?_
        refine g_iload 52 X 5 dX12_weight_50 rfl rfl ?_
        refine g_lald 53 X (ajR (n := 30) (by decide) rfl) dX12_weight_52 h rfl (fun v7 h => ?_)
        refine g_l2i 54 X dX12_weight_53 rfl ?_
        exact g_iret X hr dX12_weight_54 h
      · refine g_iload 39 X 0 dX12_weight_37 rfl rfl ?_
        exact g_iret X hr dX12_weight_39 h
    · refine g_bipush 23 X dX12_weight_21 bpm2 rfl ?_
      exact g_iret X hr dX12_weight_23 h
set_option maxRecDepth 100000 in
theorem c_X12_weight {l : Launch} {D : va_G} {ks : Nat → ClassId} {A : Nat → Prop} {ad : Nat → Nat} (hD : ∀ μ : Mem, va_D A (wsM 24 ad (shR ks ad) μ)) {F : Nat} {μ : Mem} {x1 : Int32} {x2 : Int32} {x3 : Int32} {x4 : Int32} {r : Int32 × Mem}  (h : f_X12_weight F μ x1 x2 x3 x4 = some r) : Met l yX12_weight (Cond.code yX12_weight cX12_weight 6 (some .int) :: wg) rm_X12_weight (PC D ks 24 ad (shR ks ad) μ [.ref (ad 0), .int x1, .int x2, .int x3, .int x4]) (QI D 24 ad (shR ks ad) A r) 0 0 A := by
  refine met_of (by decide) (Nat.le_of_ble_eq_true rfl) hD ?_
  intro p e s m args below meth c X hr
  exact G.sub [0, 1, 2, 3, 4] rfl (b_X12_weight_0 X hr  _ _ _ _ _ h)
abbrev rm_X12_amount : Room := { frames := 0, cells := 0, slots := 0, locals := 0 }
set_option maxRecDepth 100000 in
set_option maxHeartbeats 4000000 in
theorem b_X12_amount_0 {p : Program} {l : Launch} {e : Env} {s : State} {m : MethodId} {args : Array Value} {below : List Frame} {meth : Method} {c : Code} {D : va_G} {ks : Nat → ClassId} (X : Cx p s m args meth c cX12_amount 2 RX12 D ks (fun _ => False) 0 ad0 sh0) (hr : meth.sig.returnType = (some .long)) {F : Nat} {r : Int64} (x0 : Int64)  (h : f_X12_amount F  x0 = some r) : G p l e rm_X12_amount s m args below meth c D (fun _ => False) 2 (MQ below (QNl D r) args s 0 0 (fun _ => False)) 0 ad0 sh0 μ0 0 [(0, .long x0)] [] := by
  refine g_lload_n 1 X 0 dX12_amount_0 rfl rfl ?_
  refine g_lconst 2 X dX12_amount_1 lc0 rfl ?_
  refine g_lcmp 3 X dX12_amount_2 rfl ?_
  refine g_if_ge 11 6 X dX12_amount_3 (by decide) rfl h (fun h => ?_) (fun h => ?_)
  · refine g_lload_n 12 X 0 dX12_amount_11 rfl rfl ?_
    exact gn_lret X hr dX12_amount_12 h
  · refine g_lload_n 7 X 0 dX12_amount_6 rfl rfl ?_
    refine g_lneg 8 X dX12_amount_7 rfl ?_
    refine g_goto 12 X dX12_amount_8 (by decide) ?_
    exact gn_lret X hr dX12_amount_12 h
set_option maxRecDepth 100000 in
theorem c_X12_amount {l : Launch} {D : va_G} {ks : Nat → ClassId} {F : Nat} {x0 : Int64} {r : Int64}  (h : f_X12_amount F x0 = some r) : Met l yX12_amount (Cond.code yX12_amount cX12_amount 2 (some .long) :: wg) rm_X12_amount (PN D ks [.long x0]) (QNl D r) 0 0 (fun _ => False) := by
  refine met_of (by decide) (Nat.le_of_ble_eq_true rfl) d0 ?_
  intro p e s m args below meth c X hr
  exact G.sub [0] rfl (b_X12_amount_0 X hr  _ h)
abbrev rm_X12_led : Room := { frames := 6, cells := 0, slots := 0, locals := 140 }
set_option maxRecDepth 100000 in
set_option maxHeartbeats 4000000 in
theorem b_X12_led_159 {p : Program} {l : Launch} {e : Env} {s : State} {m : MethodId} {args : Array Value} {below : List Frame} {meth : Method} {c : Code} {D : va_G} {ks : Nat → ClassId} {A : Nat → Prop} {ad : Nat → Nat} (X : Cx p s m args meth c cX12_led 9 RX12 D ks A 24 ad (shR ks ad)) (hr : meth.sig.returnType = (some .int)) {F : Nat} {r : Int32 × Mem} : ∀ n : Nat, ∀ (μ : Mem) (x6 : Int64) (x8 : Int32), f_X12_led_b159 F  n μ x6 x8 = some r → G p l e rm_X12_led s m args below meth c D A 9 (MQ below (QI D 24 ad (shR ks ad) A r) args s 0 0 A) 24 ad (shR ks ad) μ 159 [(0, .ref (ad 0)), (6, .long x6), (8, .int x8)] [] := by
  intro n
  induction n with
  | zero =>
    intro _ _ _ h
    cases h
  | succ n ih =>
    intro μ x6 x8 h
    refine g_iload 161 X 2 dX12_led_159 rfl rfl ?_
    refine g_iconst 162 X dX12_led_161 ic3 rfl ?_
    refine g_icmp_ge 195 165 X dX12_led_162 (by decide) rfl h (fun h => ?_) (fun h => ?_)
    · refine g_lload 197 X 1 dX12_led_195 rfl rfl ?_
      refine g_l2i 198 X dX12_led_197 rfl ?_
      exact g_iret X hr dX12_led_198 h
    · refine g_lload 167 X 1 dX12_led_165 rfl rfl ?_
      refine g_aload_n 168 X 0 dX12_led_167 rfl rfl ?_
      refine g_iconst 169 X dX12_led_168 ic1 rfl ?_
      refine g_iload 171 X 2 dX12_led_169 rfl rfl ?_
      refine g_cl 174 h (fun q e => r_V X cd_X12_296_X12_weightOf_X12 ⟨rfl, rfl⟩ ⟨Nat.le_of_ble_eq_true rfl, Nat.le_of_ble_eq_true rfl⟩ (c_X12_weightOf X.2.2.2.2  e) PC_blind (pc_pre X) (g_recv X (o12 rfl) rfl) rfl rfl (Nat.le_of_ble_eq_true rfl) dX12_led_171) rfl (fun v1 μ2 h => ?_)
      refine g_aload_n 175 X 0 dX12_led_174 rfl rfl ?_
      refine g_getr 178 X fl_X12_66_12 (o12 rfl) rfl dX12_led_175 rfl ?_
      refine g_iload 180 X 2 dX12_led_178 rfl rfl ?_
      refine g_iald 181 X (aiR (n := 3) (by decide) rfl) dX12_led_180 h rfl (fun v3 h => ?_)
      refine g_i2l 182 X dX12_led_181 rfl ?_
      refine g_lsub 183 X dX12_led_182 rfl ?_
      refine g_nl 186 h (fun q e => r_S X cd_X12_309_X12_amount ⟨rfl, rfl⟩ ⟨Nat.le_of_ble_eq_true rfl, Nat.le_of_ble_eq_true rfl⟩ (c_X12_amount e) PC_blind (pn_pre X) rfl rfl (Nat.le_of_ble_eq_true rfl) dX12_led_183) rfl (fun v4 h => ?_)
      refine g_ladd 187 X dX12_led_186 rfl ?_
      refine g_topl h (fun v5 h => ?_)
      refine g_lstore 189 X dX12_led_187 (by decide) rfl ?_
      refine g_iinc 192 X 2 dX12_led_189 ic1 rfl (by decide) rfl ?_
      refine g_goto 159 X dX12_led_192 (by decide) ?_
      exact G.sub [2, 1, 0] rfl (ih _ _ _ h)
set_option maxRecDepth 100000 in
set_option maxHeartbeats 4000000 in
theorem b_X12_led_120 {p : Program} {l : Launch} {e : Env} {s : State} {m : MethodId} {args : Array Value} {below : List Frame} {meth : Method} {c : Code} {D : va_G} {ks : Nat → ClassId} {A : Nat → Prop} {ad : Nat → Nat} (X : Cx p s m args meth c cX12_led 9 RX12 D ks A 24 ad (shR ks ad)) (hr : meth.sig.returnType = (some .int)) {F : Nat} {r : Int32 × Mem} : ∀ n : Nat, ∀ (μ : Mem) (x6 : Int64) (x8 : Int32), f_X12_led_b120 F  n μ x6 x8 = some r → G p l e rm_X12_led s m args below meth c D A 9 (MQ below (QI D 24 ad (shR ks ad) A r) args s 0 0 A) 24 ad (shR ks ad) μ 120 [(0, .ref (ad 0)), (6, .long x6), (8, .int x8)] [] := by
  intro n
  induction n with
  | zero =>
    intro _ _ _ h
    cases h
  | succ n ih =>
    intro μ x6 x8 h
    refine g_iload 122 X 2 dX12_led_120 rfl rfl ?_
    refine g_iconst 123 X dX12_led_122 ic4 rfl ?_
    refine g_icmp_ge 156 126 X dX12_led_123 (by decide) rfl h (fun h => ?_) (fun h => ?_)
    · refine g_iconst 157 X dX12_led_156 ic0 rfl ?_
      refine g_istore 159 X dX12_led_157 (by decide) rfl ?_
      exact G.sub [1, 2, 0] rfl (b_X12_led_159 X hr  F _ _ _ h)
    · refine g_lload 128 X 1 dX12_led_126 rfl rfl ?_
      refine g_aload_n 129 X 0 dX12_led_128 rfl rfl ?_
      refine g_iconst 130 X dX12_led_129 ic0 rfl ?_
      refine g_iload 132 X 2 dX12_led_130 rfl rfl ?_
      refine g_cl 135 h (fun q e => r_V X cd_X12_296_X12_weightOf_X12 ⟨rfl, rfl⟩ ⟨Nat.le_of_ble_eq_true rfl, Nat.le_of_ble_eq_true rfl⟩ (c_X12_weightOf X.2.2.2.2  e) PC_blind (pc_pre X) (g_recv X (o12 rfl) rfl) rfl rfl (Nat.le_of_ble_eq_true rfl) dX12_led_132) rfl (fun v1 μ2 h => ?_)
      refine g_aload_n 136 X 0 dX12_led_135 rfl rfl ?_
      refine g_getr 139 X fl_X12_63_12 (o12 rfl) rfl dX12_led_136 rfl ?_
      refine g_iload 141 X 2 dX12_led_139 rfl rfl ?_
      refine g_iald 142 X (aiR (n := 4) (by decide) rfl) dX12_led_141 h rfl (fun v3 h => ?_)
      refine g_i2l 143 X dX12_led_142 rfl ?_
      refine g_lsub 144 X dX12_led_143 rfl ?_
      refine g_nl 147 h (fun q e => r_S X cd_X12_309_X12_amount ⟨rfl, rfl⟩ ⟨Nat.le_of_ble_eq_true rfl, Nat.le_of_ble_eq_true rfl⟩ (c_X12_amount e) PC_blind (pn_pre X) rfl rfl (Nat.le_of_ble_eq_true rfl) dX12_led_144) rfl (fun v4 h => ?_)
      refine g_ladd 148 X dX12_led_147 rfl ?_
      refine g_topl h (fun v5 h => ?_)
      refine g_lstore 150 X dX12_led_148 (by decide) rfl ?_
      refine g_iinc 153 X 2 dX12_led_150 ic1 rfl (by decide) rfl ?_
      refine g_goto 120 X dX12_led_153 (by decide) ?_
      exact G.sub [2, 1, 0] rfl (ih _ _ _ h)
set_option maxRecDepth 100000 in
set_option maxHeartbeats 4000000 in
theorem b_X12_led_100 {p : Program} {l : Launch} {e : Env} {s : State} {m : MethodId} {args : Array Value} {below : List Frame} {meth : Method} {c : Code} {D : va_G} {ks : Nat → ClassId} {A : Nat → Prop} {ad : Nat → Nat} (X : Cx p s m args meth c cX12_led 9 RX12 D ks A 24 ad (shR ks ad)) (hr : meth.sig.returnType = (some .int)) {F : Nat} {r : Int32 × Mem} {k60 : Mem → Int64 → Int32 → Option (Int32 × Mem)} (hk60 : ∀ (μ : Mem) (x6 : Int64) (x8 : Int32), k60 μ x6 x8 = some r → G p l e rm_X12_led s m args below meth c D A 9 (MQ below (QI D 24 ad (shR ks ad) A r) args s 0 0 A) 24 ad (shR ks ad) μ 60 [(0, .ref (ad 0)), (6, .long x6), (8, .int x8)] []) (μ : Mem) (x8 : Int32) (z0 : Int64) (z1 : Int64)  (h : f_X12_led_b100 F k60 μ x8 z0 z1 = some r) : G p l e rm_X12_led s m args below meth c D A 9 (MQ below (QI D 24 ad (shR ks ad) A r) args s 0 0 A) 24 ad (shR ks ad) μ 100 [(0, .ref (ad 0)), (8, .int x8)] [.long z0, .long z1] := by
  refine g_ladd 101 X dX12_led_100 rfl ?_
  refine g_topl h (fun v1 h => ?_)
  refine g_lstore 103 X dX12_led_101 (by decide) rfl ?_
  refine g_iinc 106 X 2 dX12_led_103 ic1 rfl (by decide) rfl ?_
  refine g_goto 60 X dX12_led_106 (by decide) ?_
  exact G.sub [2, 1, 0] rfl (hk60 _ _ _ h)
set_option maxRecDepth 100000 in
set_option maxHeartbeats 4000000 in
theorem b_X12_led_60 {p : Program} {l : Launch} {e : Env} {s : State} {m : MethodId} {args : Array Value} {below : List Frame} {meth : Method} {c : Code} {D : va_G} {ks : Nat → ClassId} {A : Nat → Prop} {ad : Nat → Nat} (X : Cx p s m args meth c cX12_led 9 RX12 D ks A 24 ad (shR ks ad)) (hr : meth.sig.returnType = (some .int)) {F : Nat} {r : Int32 × Mem} : ∀ n : Nat, ∀ (μ : Mem) (x6 : Int64) (x8 : Int32), f_X12_led_b60 F  n μ x6 x8 = some r → G p l e rm_X12_led s m args below meth c D A 9 (MQ below (QI D 24 ad (shR ks ad) A r) args s 0 0 A) 24 ad (shR ks ad) μ 60 [(0, .ref (ad 0)), (6, .long x6), (8, .int x8)] [] := by
  intro n
  induction n with
  | zero =>
    intro _ _ _ h
    cases h
  | succ n ih =>
    intro μ x6 x8 h
    refine g_iload 62 X 2 dX12_led_60 rfl rfl ?_
    refine g_aload_n 63 X 0 dX12_led_62 rfl rfl ?_
    refine g_geti 66 X fl_X12_115_12 (o12 rfl) rfl dX12_led_63 h rfl (fun v1 h => ?_)
    refine g_icmp_ge 109 69 X dX12_led_66 (by decide) rfl h (fun h => ?_) (fun h => ?_)
    · refine g_lload 111 X 1 dX12_led_109 rfl rfl ?_
      refine g_ldc2 114 X m1424 dX12_led_111 rfl ?_
      refine g_ldiv 115 X dX12_led_114 h rfl (fun h => ?_)
      refine g_topl h (fun v2 h => ?_)
      refine g_l2i 116 X dX12_led_115 rfl ?_
      exact g_iret X hr dX12_led_116 h
    · refine g_lload 71 X 1 dX12_led_69 rfl rfl ?_
      refine g_aload_n 72 X 0 dX12_led_71 rfl rfl ?_
      refine g_getr 75 X fl_X12_72_12 (o12 rfl) rfl dX12_led_72 rfl ?_
      refine g_iload 77 X 2 dX12_led_75 rfl rfl ?_
      refine g_zald 78 X (azR (n := 30) (by decide) rfl) dX12_led_77 h rfl (fun v3 h => ?_)
      refine g_if_eq 99 81 X dX12_led_78 (by decide) rfl h (fun h => ?_) (fun h => ?_)
      · refine g_lconst 100 X dX12_led_99 lc0 rfl ?_
        exact G.sub [0, 2] rfl (b_X12_led_100 X hr ih _ _ _ _ h)
      · refine g_aload_n 82 X 0 dX12_led_81 rfl rfl ?_
        refine g_getr 85 X fl_X12_69_12 (o12 rfl) rfl dX12_led_82 rfl ?_
        refine g_iload 87 X 2 dX12_led_85 rfl rfl ?_
        refine g_lald 88 X (ajR (n := 30) (by decide) rfl) dX12_led_87 h rfl (fun v4 h => ?_)
        refine g_aload_n 89 X 0 dX12_led_88 rfl rfl ?_
        refine g_iload 91 X 2 dX12_led_89 rfl rfl ?_
        refine g_ci 94 h (fun q e => r_V X cd_X12_134_X12_valueOf_X12 ⟨rfl, rfl⟩ ⟨Nat.le_of_ble_eq_true rfl, Nat.le_of_ble_eq_true rfl⟩ (c_X12_valueOf X.2.2.2.2  e) PC_blind (pc_pre X) (g_recv X (o12 rfl) rfl) rfl rfl (Nat.le_of_ble_eq_true rfl) dX12_led_91) rfl (fun v5 μ6 h => ?_)
        refine g_i2l 95 X dX12_led_94 rfl ?_
        refine g_lmul 96 X dX12_led_95 rfl ?_
        refine g_goto 100 X dX12_led_96 (by decide) ?_
        exact G.sub [0, 2] rfl (b_X12_led_100 X hr ih _ _ _ _ h)
set_option maxRecDepth 100000 in
set_option maxHeartbeats 4000000 in
theorem b_X12_led_0 {p : Program} {l : Launch} {e : Env} {s : State} {m : MethodId} {args : Array Value} {below : List Frame} {meth : Method} {c : Code} {D : va_G} {ks : Nat → ClassId} {A : Nat → Prop} {ad : Nat → Nat} (X : Cx p s m args meth c cX12_led 9 RX12 D ks A 24 ad (shR ks ad)) (hr : meth.sig.returnType = (some .int)) {F : Nat} {r : Int32 × Mem} (μ : Mem) (x1 : Int32) (x2 : Int32) (x3 : Int32) (x4 : Int32)  (h : f_X12_led F  μ x1 x2 x3 x4 = some r) : G p l e rm_X12_led s m args below meth c D A 9 (MQ below (QI D 24 ad (shR ks ad) A r) args s 0 0 A) 24 ad (shR ks ad) μ 0 [(0, .ref (ad 0)), (1, .int x1), (2, .int x2), (3, .int x3), (4, .int x4)] [] := by
  refine g_iload_n 1 X 3 dX12_led_0 rfl rfl ?_
  refine g_i2l 2 X dX12_led_1 rfl ?_
  refine g_lconst 3 X dX12_led_2 lc0 rfl ?_
  refine g_ldc2 6 X m1260 dX12_led_3 rfl ?_
  refine g_ni 9 h (fun q e => r_S X cd_X12_92_X12_in ⟨rfl, rfl⟩ ⟨Nat.le_of_ble_eq_true rfl, Nat.le_of_ble_eq_true rfl⟩ (c_X12_in e) PC_blind (pn_pre X) rfl rfl (Nat.le_of_ble_eq_true rfl) dX12_led_6) rfl (fun v1 h => ?_)
  refine g_if_eq 23 12 X dX12_led_9 (by decide) rfl h (fun h => ?_) (fun h => ?_)
  · refine g_bipush 25 X dX12_led_23 bpm2 rfl ?_
    exact g_iret X hr dX12_led_25 h
  · refine g_iload 14 X 4 dX12_led_12 rfl rfl ?_
    refine g_i2l 15 X dX12_led_14 rfl ?_
    refine g_lconst 16 X dX12_led_15 lc0 rfl ?_
    refine g_lconst 17 X dX12_led_16 lc1 rfl ?_
    refine g_ni 20 h (fun q e => r_S X cd_X12_92_X12_in ⟨rfl, rfl⟩ ⟨Nat.le_of_ble_eq_true rfl, Nat.le_of_ble_eq_true rfl⟩ (c_X12_in e) PC_blind (pn_pre X) rfl rfl (Nat.le_of_ble_eq_true rfl) dX12_led_17) rfl (fun v2 h => ?_)
    refine g_if_ne 26 23 X dX12_led_20 (by decide) rfl h (fun h => ?_) (fun h => ?_)
    · refine g_aload_n 27 X 0 dX12_led_26 rfl rfl ?_
      refine g_iload_n 28 X 1 dX12_led_27 rfl rfl ?_
      refine g_iload_n 29 X 2 dX12_led_28 rfl rfl ?_
      refine g_ci 32 h (fun q e => r_V X cd_X12_278_X12_without_X12 ⟨rfl, rfl⟩ ⟨Nat.le_of_ble_eq_true rfl, Nat.le_of_ble_eq_true rfl⟩ (c_X12_without X.2.2.2.2  e) PC_blind (pc_pre X) (g_recv X (o12 rfl) rfl) rfl rfl (Nat.le_of_ble_eq_true rfl) dX12_led_29) rfl (fun v3 μ4 h => ?_)
      refine g_istore 34 X dX12_led_32 (by decide) rfl ?_
      refine g_iload 36 X 0 dX12_led_34 rfl rfl ?_
      refine g_if_eq 42 39 X dX12_led_36 (by decide) rfl h (fun h => ?_) (fun h => ?_)
      · refine g_aload_n 43 X 1 dX12_led_42 rfl rfl ?_
        refine g_iload_n 44 X 3 dX12_led_43 rfl rfl ?_
        refine g_iload_n 45 X 4 dX12_led_44 rfl rfl ?_
        refine g_cv 48 h (fun q e => r_V X cd_X12_306_X12_findWeights_X12 ⟨rfl, rfl⟩ ⟨Nat.le_of_ble_eq_true rfl, Nat.le_of_ble_eq_true rfl⟩ (c_X12_findWeights X.2.2.2.2  e) PC_blind (pc_pre X) (g_recv X (o12 rfl) rfl) rfl rfl (Nat.le_of_ble_eq_true rfl) dX12_led_45) rfl (fun _ μ5 h => ?_)
        refine g_lconst 49 X dX12_led_48 lc0 rfl ?_
        refine g_lstore 51 X dX12_led_49 (by decide) rfl ?_
        refine g_iload 53 X 6 dX12_led_51 rfl rfl ?_
        refine g_iconst 54 X dX12_led_53 ic1 rfl ?_
        refine g_icmp_ne 117 57 X dX12_led_54 (by decide) rfl h (fun h => ?_) (fun h => ?_)
        · refine g_iconst 118 X dX12_led_117 ic0 rfl ?_
          refine g_istore 120 X dX12_led_118 (by decide) rfl ?_
          exact G.sub [3, 1, 0] rfl (b_X12_led_120 X hr  F _ _ _ h)
        · refine g_iconst 58 X dX12_led_57 ic0 rfl ?_
          refine g_istore 60 X dX12_led_58 (by decide) rfl ?_
          exact G.sub [3, 1, 0] rfl (b_X12_led_60 X hr  F _ _ _ h)
      · refine g_iload 41 X 0 dX12_led_39 rfl rfl ?_
        exact g_iret X hr dX12_led_41 h
    · refine g_bipush 25 X dX12_led_23 bpm2 rfl ?_
      exact g_iret X hr dX12_led_25 h
set_option maxRecDepth 100000 in
theorem c_X12_led {l : Launch} {D : va_G} {ks : Nat → ClassId} {A : Nat → Prop} {ad : Nat → Nat} (hD : ∀ μ : Mem, va_D A (wsM 24 ad (shR ks ad) μ)) {F : Nat} {μ : Mem} {x1 : Int32} {x2 : Int32} {x3 : Int32} {x4 : Int32} {r : Int32 × Mem}  (h : f_X12_led F μ x1 x2 x3 x4 = some r) : Met l yX12_led (Cond.code yX12_led cX12_led 9 (some .int) :: wg) rm_X12_led (PC D ks 24 ad (shR ks ad) μ [.ref (ad 0), .int x1, .int x2, .int x3, .int x4]) (QI D 24 ad (shR ks ad) A r) 0 0 A := by
  refine met_of (by decide) (Nat.le_of_ble_eq_true rfl) hD ?_
  intro p e s m args below meth c X hr
  exact G.sub [0, 1, 2, 3, 4] rfl (b_X12_led_0 X hr  _ _ _ _ _ h)
abbrev rm_X12_cost : Room := { frames := 1, cells := 0, slots := 0, locals := 25 }
set_option maxRecDepth 100000 in
set_option maxHeartbeats 4000000 in
theorem b_X12_cost_0 {p : Program} {l : Launch} {e : Env} {s : State} {m : MethodId} {args : Array Value} {below : List Frame} {meth : Method} {c : Code} {D : va_G} {ks : Nat → ClassId} {A : Nat → Prop} {ad : Nat → Nat} (X : Cx p s m args meth c cX12_cost 4 RX12 D ks A 24 ad (shR ks ad)) (hr : meth.sig.returnType = (some .int)) {F : Nat} {r : Int32 × Mem} (μ : Mem) (x1 : Int32) (x2 : Int32)  (h : f_X12_cost F  μ x1 x2 = some r) : G p l e rm_X12_cost s m args below meth c D A 4 (MQ below (QI D 24 ad (shR ks ad) A r) args s 0 0 A) 24 ad (shR ks ad) μ 0 [(0, .ref (ad 0)), (1, .int x1), (2, .int x2)] [] := by
  refine g_iload_n 1 X 1 dX12_cost_0 rfl rfl ?_
  refine g_i2l 2 X dX12_cost_1 rfl ?_
  refine g_lconst 3 X dX12_cost_2 lc0 rfl ?_
  refine g_ldc2 6 X m1181 dX12_cost_3 rfl ?_
  refine g_ni 9 h (fun q e => r_S X cd_X12_92_X12_in ⟨rfl, rfl⟩ ⟨Nat.le_of_ble_eq_true rfl, Nat.le_of_ble_eq_true rfl⟩ (c_X12_in e) PC_blind (pn_pre X) rfl rfl (Nat.le_of_ble_eq_true rfl) dX12_cost_6) rfl (fun v1 h => ?_)
  refine g_if_eq 24 12 X dX12_cost_9 (by decide) rfl h (fun h => ?_) (fun h => ?_)
  · refine g_bipush 26 X dX12_cost_24 bpm2 rfl ?_
    exact g_iret X hr dX12_cost_26 h
  · refine g_iload_n 13 X 2 dX12_cost_12 rfl rfl ?_
    refine g_i2l 14 X dX12_cost_13 rfl ?_
    refine g_lconst 15 X dX12_cost_14 lc0 rfl ?_
    refine g_ldc2 18 X m1449 dX12_cost_15 rfl ?_
    refine g_ni 21 h (fun q e => r_S X cd_X12_92_X12_in ⟨rfl, rfl⟩ ⟨Nat.le_of_ble_eq_true rfl, Nat.le_of_ble_eq_true rfl⟩ (c_X12_in e) PC_blind (pn_pre X) rfl rfl (Nat.le_of_ble_eq_true rfl) dX12_cost_18) rfl (fun v2 h => ?_)
    refine g_if_ne 27 24 X dX12_cost_21 (by decide) rfl h (fun h => ?_) (fun h => ?_)
    · refine g_aload_n 28 X 0 dX12_cost_27 rfl rfl ?_
      refine g_getr 31 X fl_X12_79_12 (o12 rfl) rfl dX12_cost_28 rfl ?_
      refine g_iload_n 32 X 1 dX12_cost_31 rfl rfl ?_
      refine g_iald 33 X (aiR (n := 8) (by decide) rfl) dX12_cost_32 h rfl (fun v3 h => ?_)
      refine g_istore_n 34 X dX12_cost_33 (by decide) rfl ?_
      refine g_aload_n 35 X 1 dX12_cost_34 rfl rfl ?_
      refine g_getr 38 X fl_X12_79_12 (o12 rfl) rfl dX12_cost_35 rfl ?_
      refine g_iload_n 39 X 2 dX12_cost_38 rfl rfl ?_
      refine g_iload_n 40 X 3 dX12_cost_39 rfl rfl ?_
      refine g_iast 41 X (aiR (n := 8) (by decide) rfl) dX12_cost_40 h rfl (fun μ4 h => ?_)
      refine g_iload_n 42 X 0 dX12_cost_41 rfl rfl ?_
      exact g_iret X hr dX12_cost_42 h
    · refine g_bipush 26 X dX12_cost_24 bpm2 rfl ?_
      exact g_iret X hr dX12_cost_26 h
set_option maxRecDepth 100000 in
theorem c_X12_cost {l : Launch} {D : va_G} {ks : Nat → ClassId} {A : Nat → Prop} {ad : Nat → Nat} (hD : ∀ μ : Mem, va_D A (wsM 24 ad (shR ks ad) μ)) {F : Nat} {μ : Mem} {x1 : Int32} {x2 : Int32} {r : Int32 × Mem}  (h : f_X12_cost F μ x1 x2 = some r) : Met l yX12_cost (Cond.code yX12_cost cX12_cost 4 (some .int) :: wg) rm_X12_cost (PC D ks 24 ad (shR ks ad) μ [.ref (ad 0), .int x1, .int x2]) (QI D 24 ad (shR ks ad) A r) 0 0 A := by
  refine met_of (by decide) (Nat.le_of_ble_eq_true rfl) hD ?_
  intro p e s m args below meth c X hr
  exact G.sub [0, 1, 2] rfl (b_X12_cost_0 X hr  _ _ _ h)
abbrev rm_X12_again : Room := { frames := 5, cells := 0, slots := 0, locals := 118 }
set_option maxRecDepth 100000 in
set_option maxHeartbeats 4000000 in
theorem b_X12_again_304 {p : Program} {l : Launch} {e : Env} {s : State} {m : MethodId} {args : Array Value} {below : List Frame} {meth : Method} {c : Code} {D : va_G} {ks : Nat → ClassId} {A : Nat → Prop} {ad : Nat → Nat} (X : Cx p s m args meth c cX12_again 16 RX12 D ks A 24 ad (shR ks ad)) (hr : meth.sig.returnType = (some .int)) {F : Nat} {r : Int32 × Mem} {k169 : Mem → Int32 → Int32 → Int32 → Int32 → Int64 → Int32 → Int32 → Option (Int32 × Mem)} (hk169 : ∀ (μ : Mem) (x3 : Int32) (x4 : Int32) (x6 : Int32) (x7 : Int32) (x8 : Int64) (x10 : Int32) (x11 : Int32), k169 μ x3 x4 x6 x7 x8 x10 x11 = some r → G p l e rm_X12_again s m args below meth c D A 16 (MQ below (QI D 24 ad (shR ks ad) A r) args s 0 0 A) 24 ad (shR ks ad) μ 169 [(0, .ref (ad 0)), (3, .int x3), (4, .int x4), (6, .int x6), (7, .int x7), (8, .long x8), (10, .int x10), (11, .int x11)] []) (μ : Mem) (x3 : Int32) (x4 : Int32) (x6 : Int32) (x7 : Int32) (x8 : Int64) (x10 : Int32) (x11 : Int32)  (h : f_X12_again_b304 F k169 μ x3 x4 x6 x7 x8 x10 x11 = some r) : G p l e rm_X12_again s m args below meth c D A 16 (MQ below (QI D 24 ad (shR ks ad) A r) args s 0 0 A) 24 ad (shR ks ad) μ 304 [(0, .ref (ad 0)), (3, .int x3), (4, .int x4), (6, .int x6), (7, .int x7), (8, .long x8), (10, .int x10), (11, .int x11)] [] := by
  refine g_iinc 307 X 7 dX12_again_304 ic1 rfl (by decide) rfl ?_
  refine g_goto 169 X dX12_again_307 (by decide) ?_
  exact G.sub [1, 2, 3, 4, 5, 6, 7, 0] rfl (hk169 _ _ _ _ _ _ _ _ h)
set_option maxRecDepth 100000 in
set_option maxHeartbeats 4000000 in
theorem b_X12_again_292 {p : Program} {l : Launch} {e : Env} {s : State} {m : MethodId} {args : Array Value} {below : List Frame} {meth : Method} {c : Code} {D : va_G} {ks : Nat → ClassId} {A : Nat → Prop} {ad : Nat → Nat} (X : Cx p s m args meth c cX12_again 16 RX12 D ks A 24 ad (shR ks ad)) (hr : meth.sig.returnType = (some .int)) {F : Nat} {r : Int32 × Mem} {k169 : Mem → Int32 → Int32 → Int32 → Int32 → Int64 → Int32 → Int32 → Option (Int32 × Mem)} (hk169 : ∀ (μ : Mem) (x3 : Int32) (x4 : Int32) (x6 : Int32) (x7 : Int32) (x8 : Int64) (x10 : Int32) (x11 : Int32), k169 μ x3 x4 x6 x7 x8 x10 x11 = some r → G p l e rm_X12_again s m args below meth c D A 16 (MQ below (QI D 24 ad (shR ks ad) A r) args s 0 0 A) 24 ad (shR ks ad) μ 169 [(0, .ref (ad 0)), (3, .int x3), (4, .int x4), (6, .int x6), (7, .int x7), (8, .long x8), (10, .int x10), (11, .int x11)] []) (μ : Mem) (x3 : Int32) (x4 : Int32) (x6 : Int32) (x11 : Int32) (x12 : Int64) (x14 : Int32)  (h : f_X12_again_b292 F k169 μ x3 x4 x6 x11 x12 x14 = some r) : G p l e rm_X12_again s m args below meth c D A 16 (MQ below (QI D 24 ad (shR ks ad) A r) args s 0 0 A) 24 ad (shR ks ad) μ 292 [(0, .ref (ad 0)), (3, .int x3), (4, .int x4), (6, .int x6), (11, .int x11), (12, .long x12), (14, .int x14)] [] := by
  refine g_iload 294 X 4 dX12_again_292 rfl rfl ?_
  refine g_istore 296 X dX12_again_294 (by decide) rfl ?_
  refine g_lload 298 X 6 dX12_again_296 rfl rfl ?_
  refine g_lstore 300 X dX12_again_298 (by decide) rfl ?_
  refine g_iload 302 X 8 dX12_again_300 rfl rfl ?_
  refine g_istore 304 X dX12_again_302 (by decide) rfl ?_
  exact G.sub [3, 4, 5, 6, 2, 1, 0, 7] rfl (b_X12_again_304 X hr hk169 _ _ _ _ _ _ _ _ h)
set_option maxRecDepth 100000 in
set_option maxHeartbeats 4000000 in
theorem b_X12_again_254 {p : Program} {l : Launch} {e : Env} {s : State} {m : MethodId} {args : Array Value} {below : List Frame} {meth : Method} {c : Code} {D : va_G} {ks : Nat → ClassId} {A : Nat → Prop} {ad : Nat → Nat} (X : Cx p s m args meth c cX12_again 16 RX12 D ks A 24 ad (shR ks ad)) (hr : meth.sig.returnType = (some .int)) {F : Nat} {r : Int32 × Mem} {k169 : Mem → Int32 → Int32 → Int32 → Int32 → Int64 → Int32 → Int32 → Option (Int32 × Mem)} (hk169 : ∀ (μ : Mem) (x3 : Int32) (x4 : Int32) (x6 : Int32) (x7 : Int32) (x8 : Int64) (x10 : Int32) (x11 : Int32), k169 μ x3 x4 x6 x7 x8 x10 x11 = some r → G p l e rm_X12_again s m args below meth c D A 16 (MQ below (QI D 24 ad (shR ks ad) A r) args s 0 0 A) 24 ad (shR ks ad) μ 169 [(0, .ref (ad 0)), (3, .int x3), (4, .int x4), (6, .int x6), (7, .int x7), (8, .long x8), (10, .int x10), (11, .int x11)] []) {k196 : Mem → Int32 → Int32 → Int32 → Int32 → Int64 → Int32 → Int32 → Int64 → Int32 → Int32 → Option (Int32 × Mem)} (hk196 : ∀ (μ : Mem) (x3 : Int32) (x4 : Int32) (x6 : Int32) (x7 : Int32) (x8 : Int64) (x10 : Int32) (x11 : Int32) (x12 : Int64) (x14 : Int32) (x15 : Int32), k196 μ x3 x4 x6 x7 x8 x10 x11 x12 x14 x15 = some r → G p l e rm_X12_again s m args below meth c D A 16 (MQ below (QI D 24 ad (shR ks ad) A r) args s 0 0 A) 24 ad (shR ks ad) μ 196 [(0, .ref (ad 0)), (3, .int x3), (4, .int x4), (6, .int x6), (7, .int x7), (8, .long x8), (10, .int x10), (11, .int x11), (12, .long x12), (14, .int x14), (15, .int x15)] []) (μ : Mem) (x3 : Int32) (x4 : Int32) (x6 : Int32) (x7 : Int32) (x8 : Int64) (x10 : Int32) (x11 : Int32) (x12 : Int64) (x15 : Int32) (z0 : Int32) (z1 : Int32)  (h : f_X12_again_b254 F k169 k196 μ x3 x4 x6 x7 x8 x10 x11 x12 x15 z0 z1 = some r) : G p l e rm_X12_again s m args below meth c D A 16 (MQ below (QI D 24 ad (shR ks ad) A r) args s 0 0 A) 24 ad (shR ks ad) μ 254 [(0, .ref (ad 0)), (3, .int x3), (4, .int x4), (6, .int x6), (7, .int x7), (8, .long x8), (10, .int x10), (11, .int x11), (12, .long x12), (15, .int x15)] [.int z0, .int z1] := by
  refine g_iadd 255 X dX12_again_254 rfl ?_
  refine g_topi h (fun v1 h => ?_)
  refine g_istore 257 X dX12_again_255 (by decide) rfl ?_
  refine g_iinc 260 X 10 dX12_again_257 ic1 rfl (by decide) rfl ?_
  refine g_goto 196 X dX12_again_260 (by decide) ?_
  exact G.sub [2, 3, 4, 5, 6, 7, 8, 9, 10, 1, 0] rfl (hk196 _ _ _ _ _ _ _ _ _ _ _ h)
set_option maxRecDepth 100000 in
set_option maxHeartbeats 4000000 in
theorem b_X12_again_227 {p : Program} {l : Launch} {e : Env} {s : State} {m : MethodId} {args : Array Value} {below : List Frame} {meth : Method} {c : Code} {D : va_G} {ks : Nat → ClassId} {A : Nat → Prop} {ad : Nat → Nat} (X : Cx p s m args meth c cX12_again 16 RX12 D ks A 24 ad (shR ks ad)) (hr : meth.sig.returnType = (some .int)) {F : Nat} {r : Int32 × Mem} {k169 : Mem → Int32 → Int32 → Int32 → Int32 → Int64 → Int32 → Int32 → Option (Int32 × Mem)} (hk169 : ∀ (μ : Mem) (x3 : Int32) (x4 : Int32) (x6 : Int32) (x7 : Int32) (x8 : Int64) (x10 : Int32) (x11 : Int32), k169 μ x3 x4 x6 x7 x8 x10 x11 = some r → G p l e rm_X12_again s m args below meth c D A 16 (MQ below (QI D 24 ad (shR ks ad) A r) args s 0 0 A) 24 ad (shR ks ad) μ 169 [(0, .ref (ad 0)), (3, .int x3), (4, .int x4), (6, .int x6), (7, .int x7), (8, .long x8), (10, .int x10), (11, .int x11)] []) {k196 : Mem → Int32 → Int32 → Int32 → Int32 → Int64 → Int32 → Int32 → Int64 → Int32 → Int32 → Option (Int32 × Mem)} (hk196 : ∀ (μ : Mem) (x3 : Int32) (x4 : Int32) (x6 : Int32) (x7 : Int32) (x8 : Int64) (x10 : Int32) (x11 : Int32) (x12 : Int64) (x14 : Int32) (x15 : Int32), k196 μ x3 x4 x6 x7 x8 x10 x11 x12 x14 x15 = some r → G p l e rm_X12_again s m args below meth c D A 16 (MQ below (QI D 24 ad (shR ks ad) A r) args s 0 0 A) 24 ad (shR ks ad) μ 196 [(0, .ref (ad 0)), (3, .int x3), (4, .int x4), (6, .int x6), (7, .int x7), (8, .long x8), (10, .int x10), (11, .int x11), (12, .long x12), (14, .int x14), (15, .int x15)] []) (μ : Mem) (x3 : Int32) (x4 : Int32) (x6 : Int32) (x7 : Int32) (x8 : Int64) (x10 : Int32) (x11 : Int32) (x14 : Int32) (x15 : Int32) (z0 : Int64) (z1 : Int64)  (h : f_X12_again_b227 F k169 k196 μ x3 x4 x6 x7 x8 x10 x11 x14 x15 z0 z1 = some r) : G p l e rm_X12_again s m args below meth c D A 16 (MQ below (QI D 24 ad (shR ks ad) A r) args s 0 0 A) 24 ad (shR ks ad) μ 227 [(0, .ref (ad 0)), (3, .int x3), (4, .int x4), (6, .int x6), (7, .int x7), (8, .long x8), (10, .int x10), (11, .int x11), (14, .int x14), (15, .int x15)] [.long z0, .long z1] := by
  refine g_ladd 228 X dX12_again_227 rfl ?_
  refine g_topl h (fun v1 h => ?_)
  refine g_lstore 230 X dX12_again_228 (by decide) rfl ?_
  refine g_iload 232 X 9 dX12_again_230 rfl rfl ?_
  refine g_iload 234 X 8 dX12_again_232 rfl rfl ?_
  refine g_iload 236 X 10 dX12_again_234 rfl rfl ?_
  refine g_ishr 237 X dX12_again_236 rfl ?_
  refine g_iconst 238 X dX12_again_237 ic1 rfl ?_
  refine g_iand 239 X dX12_again_238 rfl ?_
  refine g_iconst 240 X dX12_again_239 ic1 rfl ?_
  refine g_icmp_ne 253 243 X dX12_again_240 (by decide) rfl h (fun h => ?_) (fun h => ?_)
  · refine g_iconst 254 X dX12_again_253 ic0 rfl ?_
    exact G.sub [1, 2, 3, 4, 5, 6, 7, 8, 0, 10] rfl (b_X12_again_254 X hr hk169 hk196 _ _ _ _ _ _ _ _ _ _ _ _ h)
  · refine g_aload_n 244 X 1 dX12_again_243 rfl rfl ?_
    refine g_getr 247 X fl_X12_79_12 (o12 rfl) rfl dX12_again_244 rfl ?_
    refine g_iload 249 X 10 dX12_again_247 rfl rfl ?_
    refine g_iald 250 X (aiR (n := 8) (by decide) rfl) dX12_again_249 h rfl (fun v2 h => ?_)
    refine g_goto 254 X dX12_again_250 (by decide) ?_
    exact G.sub [1, 2, 3, 4, 5, 6, 7, 8, 0, 10] rfl (b_X12_again_254 X hr hk169 hk196 _ _ _ _ _ _ _ _ _ _ _ _ h)
set_option maxRecDepth 100000 in
set_option maxHeartbeats 4000000 in
theorem b_X12_again_196 {p : Program} {l : Launch} {e : Env} {s : State} {m : MethodId} {args : Array Value} {below : List Frame} {meth : Method} {c : Code} {D : va_G} {ks : Nat → ClassId} {A : Nat → Prop} {ad : Nat → Nat} (X : Cx p s m args meth c cX12_again 16 RX12 D ks A 24 ad (shR ks ad)) (hr : meth.sig.returnType = (some .int)) {F : Nat} {r : Int32 × Mem} {k169 : Mem → Int32 → Int32 → Int32 → Int32 → Int64 → Int32 → Int32 → Option (Int32 × Mem)} (hk169 : ∀ (μ : Mem) (x3 : Int32) (x4 : Int32) (x6 : Int32) (x7 : Int32) (x8 : Int64) (x10 : Int32) (x11 : Int32), k169 μ x3 x4 x6 x7 x8 x10 x11 = some r → G p l e rm_X12_again s m args below meth c D A 16 (MQ below (QI D 24 ad (shR ks ad) A r) args s 0 0 A) 24 ad (shR ks ad) μ 169 [(0, .ref (ad 0)), (3, .int x3), (4, .int x4), (6, .int x6), (7, .int x7), (8, .long x8), (10, .int x10), (11, .int x11)] []) : ∀ n : Nat, ∀ (μ : Mem) (x3 : Int32) (x4 : Int32) (x6 : Int32) (x7 : Int32) (x8 : Int64) (x10 : Int32) (x11 : Int32) (x12 : Int64) (x14 : Int32) (x15 : Int32), f_X12_again_b196 F k169 n μ x3 x4 x6 x7 x8 x10 x11 x12 x14 x15 = some r → G p l e rm_X12_again s m args below meth c D A 16 (MQ below (QI D 24 ad (shR ks ad) A r) args s 0 0 A) 24 ad (shR ks ad) μ 196 [(0, .ref (ad 0)), (3, .int x3), (4, .int x4), (6, .int x6), (7, .int x7), (8, .long x8), (10, .int x10), (11, .int x11), (12, .long x12), (14, .int x14), (15, .int x15)] [] := by
  intro n
  induction n with
  | zero =>
    intro _ _ _ _ _ _ _ _ _ _ _ h
    cases h
  | succ n ih =>
    intro μ x3 x4 x6 x7 x8 x10 x11 x12 x14 x15 h
    refine g_iload 198 X 10 dX12_again_196 rfl rfl ?_
    refine g_bipush 200 X dX12_again_198 bp8 rfl ?_
    refine g_icmp_ge 263 203 X dX12_again_200 (by decide) rfl h (fun h => ?_) (fun h => ?_)
    · refine g_iload 265 X 9 dX12_again_263 rfl rfl ?_
      refine g_iload_n 266 X 1 dX12_again_265 rfl rfl ?_
      refine g_icmp_gt 304 269 X dX12_again_266 (by decide) rfl h (fun h => ?_) (fun h => ?_)
      · exact G.sub [0, 1, 2, 3, 4, 5, 6, 7] rfl (b_X12_again_304 X hr hk169 _ _ _ _ _ _ _ _ h)
      · refine g_lload 271 X 8 dX12_again_269 rfl rfl ?_
        refine g_lload 273 X 5 dX12_again_271 rfl rfl ?_
        refine g_lcmp 274 X dX12_again_273 rfl ?_
        refine g_if_gt 292 277 X dX12_again_274 (by decide) rfl h (fun h => ?_) (fun h => ?_)
        · exact G.sub [0, 1, 2, 3, 7, 8, 9] rfl (b_X12_again_292 X hr hk169 _ _ _ _ _ _ _ h)
        · refine g_lload 279 X 8 dX12_again_277 rfl rfl ?_
          refine g_lload 281 X 5 dX12_again_279 rfl rfl ?_
          refine g_lcmp 282 X dX12_again_281 rfl ?_
          refine g_if_ne 304 285 X dX12_again_282 (by decide) rfl h (fun h => ?_) (fun h => ?_)
          · exact G.sub [0, 1, 2, 3, 4, 5, 6, 7] rfl (b_X12_again_304 X hr hk169 _ _ _ _ _ _ _ _ h)
          · refine g_iload 287 X 9 dX12_again_285 rfl rfl ?_
            refine g_iload 289 X 6 dX12_again_287 rfl rfl ?_
            refine g_icmp_ge 304 292 X dX12_again_289 (by decide) rfl h (fun h => ?_) (fun h => ?_)
            · exact G.sub [0, 1, 2, 3, 4, 5, 6, 7] rfl (b_X12_again_304 X hr hk169 _ _ _ _ _ _ _ _ h)
            · exact G.sub [0, 1, 2, 3, 7, 8, 9] rfl (b_X12_again_292 X hr hk169 _ _ _ _ _ _ _ h)
    · refine g_lload 205 X 8 dX12_again_203 rfl rfl ?_
      refine g_iload 207 X 7 dX12_again_205 rfl rfl ?_
      refine g_iload 209 X 10 dX12_again_207 rfl rfl ?_
      refine g_ishr 210 X dX12_again_209 rfl ?_
      refine g_iconst 211 X dX12_again_210 ic1 rfl ?_
      refine g_iand 212 X dX12_again_211 rfl ?_
      refine g_iconst 213 X dX12_again_212 ic1 rfl ?_
      refine g_icmp_ne 226 216 X dX12_again_213 (by decide) rfl h (fun h => ?_) (fun h => ?_)
      · refine g_lconst 227 X dX12_again_226 lc0 rfl ?_
        exact G.sub [0, 1, 2, 3, 4, 5, 6, 7, 9, 10] rfl (b_X12_again_227 X hr hk169 ih _ _ _ _ _ _ _ _ _ _ _ _ h)
      · refine g_aload_n 217 X 0 dX12_again_216 rfl rfl ?_
        refine g_getr 220 X fl_X12_82_12 (o12 rfl) rfl dX12_again_217 rfl ?_
        refine g_iload 222 X 10 dX12_again_220 rfl rfl ?_
        refine g_lald 223 X (ajR (n := 8) (by decide) rfl) dX12_again_222 h rfl (fun v1 h => ?_)
        refine g_goto 227 X dX12_again_223 (by decide) ?_
        exact G.sub [0, 1, 2, 3, 4, 5, 6, 7, 9, 10] rfl (b_X12_again_227 X hr hk169 ih _ _ _ _ _ _ _ _ _ _ _ _ h)
set_option maxRecDepth 100000 in
set_option maxHeartbeats 4000000 in
theorem b_X12_again_169 {p : Program} {l : Launch} {e : Env} {s : State} {m : MethodId} {args : Array Value} {below : List Frame} {meth : Method} {c : Code} {D : va_G} {ks : Nat → ClassId} {A : Nat → Prop} {ad : Nat → Nat} (X : Cx p s m args meth c cX12_again 16 RX12 D ks A 24 ad (shR ks ad)) (hr : meth.sig.returnType = (some .int)) {F : Nat} {r : Int32 × Mem} : ∀ n : Nat, ∀ (μ : Mem) (x3 : Int32) (x4 : Int32) (x6 : Int32) (x7 : Int32) (x8 : Int64) (x10 : Int32) (x11 : Int32), f_X12_again_b169 F  n μ x3 x4 x6 x7 x8 x10 x11 = some r → G p l e rm_X12_again s m args below meth c D A 16 (MQ below (QI D 24 ad (shR ks ad) A r) args s 0 0 A) 24 ad (shR ks ad) μ 169 [(0, .ref (ad 0)), (3, .int x3), (4, .int x4), (6, .int x6), (7, .int x7), (8, .long x8), (10, .int x10), (11, .int x11)] [] := by
  intro n
  induction n with
  | zero =>
    intro _ _ _ _ _ _ _ _ h
    cases h
  | succ n ih =>
    intro μ x3 x4 x6 x7 x8 x10 x11 h
    refine g_iload 171 X 7 dX12_again_169 rfl rfl ?_
    refine g_sipush 174 X dX12_again_171 sp256 rfl ?_
    refine g_icmp_ge 310 177 X dX12_again_174 (by decide) rfl h (fun h => ?_) (fun h => ?_)
    · refine g_iload 312 X 2 dX12_again_310 rfl rfl ?_
      refine g_if_ne 320 315 X dX12_again_312 (by decide) rfl h (fun h => ?_) (fun h => ?_)
      · refine g_iload 322 X 2 dX12_again_320 rfl rfl ?_
        refine g_iconst 323 X dX12_again_322 ic1 rfl ?_
        refine g_icmp_ne 332 326 X dX12_again_323 (by decide) rfl h (fun h => ?_) (fun h => ?_)
        · refine g_iload 334 X 6 dX12_again_332 rfl rfl ?_
          exact g_iret X hr dX12_again_334 h
        · refine g_lload 328 X 5 dX12_again_326 rfl rfl ?_
          refine g_l2i 329 X dX12_again_328 rfl ?_
          refine g_goto 334 X dX12_again_329 (by decide) ?_
          exact g_iret X hr dX12_again_334 h
      · refine g_iload 317 X 4 dX12_again_315 rfl rfl ?_
        refine g_goto 334 X dX12_again_317 (by decide) ?_
        exact g_iret X hr dX12_again_334 h
    · refine g_iload 179 X 7 dX12_again_177 rfl rfl ?_
      refine g_iload 181 X 3 dX12_again_179 rfl rfl ?_
      refine g_iconst 182 X dX12_again_181 icm1 rfl ?_
      refine g_ixor 183 X dX12_again_182 rfl ?_
      refine g_iand 184 X dX12_again_183 rfl ?_
      refine g_if_ne 304 187 X dX12_again_184 (by decide) rfl h (fun h => ?_) (fun h => ?_)
      · exact G.sub [0, 1, 2, 3, 4, 5, 6, 7] rfl (b_X12_again_304 X hr ih _ _ _ _ _ _ _ _ h)
      · refine g_lconst 188 X dX12_again_187 lc0 rfl ?_
        refine g_lstore 190 X dX12_again_188 (by decide) rfl ?_
        refine g_iconst 191 X dX12_again_190 ic0 rfl ?_
        refine g_istore 193 X dX12_again_191 (by decide) rfl ?_
        refine g_iconst 194 X dX12_again_193 ic0 rfl ?_
        refine g_istore 196 X dX12_again_194 (by decide) rfl ?_
        exact G.sub [3, 4, 5, 6, 7, 8, 9, 10, 2, 1, 0] rfl (b_X12_again_196 X hr ih F _ _ _ _ _ _ _ _ _ _ _ h)
set_option maxRecDepth 100000 in
set_option maxHeartbeats 4000000 in
theorem b_X12_again_151 {p : Program} {l : Launch} {e : Env} {s : State} {m : MethodId} {args : Array Value} {below : List Frame} {meth : Method} {c : Code} {D : va_G} {ks : Nat → ClassId} {A : Nat → Prop} {ad : Nat → Nat} (X : Cx p s m args meth c cX12_again 16 RX12 D ks A 24 ad (shR ks ad)) (hr : meth.sig.returnType = (some .int)) {F : Nat} {r : Int32 × Mem} {k74 : Mem → Int32 → Int32 → Int32 → Int32 → Int32 → Option (Int32 × Mem)} (hk74 : ∀ (μ : Mem) (x2 : Int32) (x3 : Int32) (x4 : Int32) (x6 : Int32) (x7 : Int32), k74 μ x2 x3 x4 x6 x7 = some r → G p l e rm_X12_again s m args below meth c D A 16 (MQ below (QI D 24 ad (shR ks ad) A r) args s 0 0 A) 24 ad (shR ks ad) μ 74 [(0, .ref (ad 0)), (2, .int x2), (3, .int x3), (4, .int x4), (6, .int x6), (7, .int x7)] []) (μ : Mem) (x2 : Int32) (x3 : Int32) (x4 : Int32) (x6 : Int32) (x7 : Int32)  (h : f_X12_again_b151 F k74 μ x2 x3 x4 x6 x7 = some r) : G p l e rm_X12_again s m args below meth c D A 16 (MQ below (QI D 24 ad (shR ks ad) A r) args s 0 0 A) 24 ad (shR ks ad) μ 151 [(0, .ref (ad 0)), (2, .int x2), (3, .int x3), (4, .int x4), (6, .int x6), (7, .int x7)] [] := by
  refine g_iinc 154 X 5 dX12_again_151 ic1 rfl (by decide) rfl ?_
  refine g_goto 74 X dX12_again_154 (by decide) ?_
  exact G.sub [1, 2, 3, 4, 5, 0] rfl (hk74 _ _ _ _ _ _ h)
set_option maxRecDepth 100000 in
set_option maxHeartbeats 4000000 in
theorem b_X12_again_74 {p : Program} {l : Launch} {e : Env} {s : State} {m : MethodId} {args : Array Value} {below : List Frame} {meth : Method} {c : Code} {D : va_G} {ks : Nat → ClassId} {A : Nat → Prop} {ad : Nat → Nat} (X : Cx p s m args meth c cX12_again 16 RX12 D ks A 24 ad (shR ks ad)) (hr : meth.sig.returnType = (some .int)) {F : Nat} {r : Int32 × Mem} : ∀ n : Nat, ∀ (μ : Mem) (x2 : Int32) (x3 : Int32) (x4 : Int32) (x6 : Int32) (x7 : Int32), f_X12_again_b74 F  n μ x2 x3 x4 x6 x7 = some r → G p l e rm_X12_again s m args below meth c D A 16 (MQ below (QI D 24 ad (shR ks ad) A r) args s 0 0 A) 24 ad (shR ks ad) μ 74 [(0, .ref (ad 0)), (2, .int x2), (3, .int x3), (4, .int x4), (6, .int x6), (7, .int x7)] [] := by
  intro n
  induction n with
  | zero =>
    intro _ _ _ _ _ _ h
    cases h
  | succ n ih =>
    intro μ x2 x3 x4 x6 x7 h
    refine g_iload 76 X 5 dX12_again_74 rfl rfl ?_
    refine g_aload_n 77 X 0 dX12_again_76 rfl rfl ?_
    refine g_geti 80 X fl_X12_115_12 (o12 rfl) rfl dX12_again_77 h rfl (fun v1 h => ?_)
    refine g_icmp_ge 157 83 X dX12_again_80 (by decide) rfl h (fun h => ?_) (fun h => ?_)
    · refine g_iconst 158 X dX12_again_157 ic0 rfl ?_
      refine g_istore 160 X dX12_again_158 (by decide) rfl ?_
      refine g_lconst 161 X dX12_again_160 lc0 rfl ?_
      refine g_lstore 163 X dX12_again_161 (by decide) rfl ?_
      refine g_iconst 164 X dX12_again_163 ic0 rfl ?_
      refine g_istore 166 X dX12_again_164 (by decide) rfl ?_
      refine g_iconst 167 X dX12_again_166 ic1 rfl ?_
      refine g_istore 169 X dX12_again_167 (by decide) rfl ?_
      exact G.sub [4, 6, 7, 8, 3, 2, 1, 0] rfl (b_X12_again_169 X hr  F _ _ _ _ _ _ _ _ h)
    · refine g_iload_n 84 X 1 dX12_again_83 rfl rfl ?_
      refine g_iload 86 X 5 dX12_again_84 rfl rfl ?_
      refine g_ishr 87 X dX12_again_86 rfl ?_
      refine g_iconst 88 X dX12_again_87 ic1 rfl ?_
      refine g_iand 89 X dX12_again_88 rfl ?_
      refine g_iconst 90 X dX12_again_89 ic1 rfl ?_
      refine g_icmp_ne 151 93 X dX12_again_90 (by decide) rfl h (fun h => ?_) (fun h => ?_)
      · exact G.sub [0, 1, 2, 3, 4, 5] rfl (b_X12_again_151 X hr ih _ _ _ _ _ _ h)
      · refine g_aload_n 94 X 0 dX12_again_93 rfl rfl ?_
        refine g_iload 96 X 5 dX12_again_94 rfl rfl ?_
        refine g_ci 99 h (fun q e => r_V X cd_X12_134_X12_valueOf_X12 ⟨rfl, rfl⟩ ⟨Nat.le_of_ble_eq_true rfl, Nat.le_of_ble_eq_true rfl⟩ (c_X12_valueOf X.2.2.2.2  e) PC_blind (pc_pre X) (g_recv X (o12 rfl) rfl) rfl rfl (Nat.le_of_ble_eq_true rfl) dX12_again_96) rfl (fun v2 μ3 h => ?_)
        refine g_iconst 100 X dX12_again_99 icm1 rfl ?_
        refine g_icmp_ne 151 103 X dX12_again_100 (by decide) rfl h (fun h => ?_) (fun h => ?_)
        · exact G.sub [0, 1, 2, 3, 4, 5] rfl (b_X12_again_151 X hr ih _ _ _ _ _ _ h)
        · refine g_aload_n 104 X 0 dX12_again_103 rfl rfl ?_
          refine g_iload 106 X 5 dX12_again_104 rfl rfl ?_
          refine g_cv 109 h (fun q e => r_V X cd_X12_230_X12_findShare_X12 ⟨rfl, rfl⟩ ⟨Nat.le_of_ble_eq_true rfl, Nat.le_of_ble_eq_true rfl⟩ (c_X12_findShare X.2.2.2.2  e) PC_blind (pc_pre X) (g_recv X (o12 rfl) rfl) rfl rfl (Nat.le_of_ble_eq_true rfl) dX12_again_106) rfl (fun _ μ4 h => ?_)
          refine g_aload_n 110 X 0 dX12_again_109 rfl rfl ?_
          refine g_getr 113 X fl_X12_82_12 (o12 rfl) rfl dX12_again_110 rfl ?_
          refine g_aload_n 114 X 0 dX12_again_113 rfl rfl ?_
          refine g_getr 117 X fl_X12_25_12 (o12 rfl) rfl dX12_again_114 rfl ?_
          refine g_iload 119 X 5 dX12_again_117 rfl rfl ?_
          refine g_iald 120 X (aiR (n := 30) (by decide) rfl) dX12_again_119 h rfl (fun v5 h => ?_)
          refine g_dup2 121 X dX12_again_120 rfl rfl rfl ?_
          refine g_lald 122 X (ajR (n := 8) (by decide) rfl) dX12_again_121 h rfl (fun v6 h => ?_)
          refine g_ldc2 125 X m1424 dX12_again_122 rfl ?_
          refine g_aload_n 126 X 0 dX12_again_125 rfl rfl ?_
          refine g_getl 129 X fl_X12_214_12 (o12 rfl) rfl dX12_again_126 h rfl (fun v7 h => ?_)
          refine g_lmul 130 X dX12_again_129 rfl ?_
          refine g_aload_n 131 X 0 dX12_again_130 rfl rfl ?_
          refine g_getl 134 X fl_X12_210_12 (o12 rfl) rfl dX12_again_131 h rfl (fun v8 h => ?_)
          refine g_ldiv 135 X dX12_again_134 h rfl (fun h => ?_)
          refine g_topl h (fun v9 h => ?_)
          refine g_ladd 136 X dX12_again_135 rfl ?_
          refine g_last 137 X (ajR (n := 8) (by decide) rfl) dX12_again_136 h rfl (fun μ10 h => ?_)
          refine g_iload 139 X 4 dX12_again_137 rfl rfl ?_
          refine g_iconst 140 X dX12_again_139 ic1 rfl ?_
          refine g_aload_n 141 X 0 dX12_again_140 rfl rfl ?_
          refine g_getr 144 X fl_X12_25_12 (o12 rfl) rfl dX12_again_141 rfl ?_
          refine g_iload 146 X 5 dX12_again_144 rfl rfl ?_
          refine g_iald 147 X (aiR (n := 30) (by decide) rfl) dX12_again_146 h rfl (fun v11 h => ?_)
          refine g_ishl 148 X dX12_again_147 rfl ?_
          refine g_ior 149 X dX12_again_148 rfl ?_
          refine g_topi h (fun v12 h => ?_)
          refine g_istore 151 X dX12_again_149 (by decide) rfl ?_
          exact G.sub [1, 2, 3, 4, 0, 5] rfl (b_X12_again_151 X hr ih _ _ _ _ _ _ h)
set_option maxRecDepth 100000 in
set_option maxHeartbeats 4000000 in
theorem b_X12_again_50 {p : Program} {l : Launch} {e : Env} {s : State} {m : MethodId} {args : Array Value} {below : List Frame} {meth : Method} {c : Code} {D : va_G} {ks : Nat → ClassId} {A : Nat → Prop} {ad : Nat → Nat} (X : Cx p s m args meth c cX12_again 16 RX12 D ks A 24 ad (shR ks ad)) (hr : meth.sig.returnType = (some .int)) {F : Nat} {r : Int32 × Mem} : ∀ n : Nat, ∀ (μ : Mem) (x2 : Int32) (x3 : Int32) (x4 : Int32) (x6 : Int32) (x7 : Int32), f_X12_again_b50 F  n μ x2 x3 x4 x6 x7 = some r → G p l e rm_X12_again s m args below meth c D A 16 (MQ below (QI D 24 ad (shR ks ad) A r) args s 0 0 A) 24 ad (shR ks ad) μ 50 [(0, .ref (ad 0)), (2, .int x2), (3, .int x3), (4, .int x4), (6, .int x6), (7, .int x7)] [] := by
  intro n
  induction n with
  | zero =>
    intro _ _ _ _ _ _ h
    cases h
  | succ n ih =>
    intro μ x2 x3 x4 x6 x7 h
    refine g_iload 52 X 5 dX12_again_50 rfl rfl ?_
    refine g_bipush 54 X dX12_again_52 bp8 rfl ?_
    refine g_icmp_ge 71 57 X dX12_again_54 (by decide) rfl h (fun h => ?_) (fun h => ?_)
    · refine g_iconst 72 X dX12_again_71 ic0 rfl ?_
      refine g_istore 74 X dX12_again_72 (by decide) rfl ?_
      exact G.sub [1, 2, 3, 4, 5, 0] rfl (b_X12_again_74 X hr  F _ _ _ _ _ _ h)
    · refine g_aload_n 58 X 0 dX12_again_57 rfl rfl ?_
      refine g_getr 61 X fl_X12_82_12 (o12 rfl) rfl dX12_again_58 rfl ?_
      refine g_iload 63 X 5 dX12_again_61 rfl rfl ?_
      refine g_lconst 64 X dX12_again_63 lc0 rfl ?_
      refine g_last 65 X (ajR (n := 8) (by decide) rfl) dX12_again_64 h rfl (fun μ1 h => ?_)
      refine g_iinc 68 X 5 dX12_again_65 ic1 rfl (by decide) rfl ?_
      refine g_goto 50 X dX12_again_68 (by decide) ?_
      exact G.sub [1, 2, 3, 4, 5, 0] rfl (ih _ _ _ _ _ _ h)
set_option maxRecDepth 100000 in
set_option maxHeartbeats 4000000 in
theorem b_X12_again_0 {p : Program} {l : Launch} {e : Env} {s : State} {m : MethodId} {args : Array Value} {below : List Frame} {meth : Method} {c : Code} {D : va_G} {ks : Nat → ClassId} {A : Nat → Prop} {ad : Nat → Nat} (X : Cx p s m args meth c cX12_again 16 RX12 D ks A 24 ad (shR ks ad)) (hr : meth.sig.returnType = (some .int)) {F : Nat} {r : Int32 × Mem} (μ : Mem) (x1 : Int32) (x2 : Int32) (x3 : Int32) (x4 : Int32)  (h : f_X12_again F  μ x1 x2 x3 x4 = some r) : G p l e rm_X12_again s m args below meth c D A 16 (MQ below (QI D 24 ad (shR ks ad) A r) args s 0 0 A) 24 ad (shR ks ad) μ 0 [(0, .ref (ad 0)), (1, .int x1), (2, .int x2), (3, .int x3), (4, .int x4)] [] := by
  refine g_iload_n 1 X 3 dX12_again_0 rfl rfl ?_
  refine g_i2l 2 X dX12_again_1 rfl ?_
  refine g_lconst 3 X dX12_again_2 lc0 rfl ?_
  refine g_ldc2 6 X m1454 dX12_again_3 rfl ?_
  refine g_ni 9 h (fun q e => r_S X cd_X12_92_X12_in ⟨rfl, rfl⟩ ⟨Nat.le_of_ble_eq_true rfl, Nat.le_of_ble_eq_true rfl⟩ (c_X12_in e) PC_blind (pn_pre X) rfl rfl (Nat.le_of_ble_eq_true rfl) dX12_again_6) rfl (fun v1 h => ?_)
  refine g_if_eq 25 12 X dX12_again_9 (by decide) rfl h (fun h => ?_) (fun h => ?_)
  · refine g_bipush 27 X dX12_again_25 bpm2 rfl ?_
    exact g_iret X hr dX12_again_27 h
  · refine g_iload 14 X 4 dX12_again_12 rfl rfl ?_
    refine g_i2l 15 X dX12_again_14 rfl ?_
    refine g_lconst 16 X dX12_again_15 lc0 rfl ?_
    refine g_ldc2 19 X m1148 dX12_again_16 rfl ?_
    refine g_ni 22 h (fun q e => r_S X cd_X12_92_X12_in ⟨rfl, rfl⟩ ⟨Nat.le_of_ble_eq_true rfl, Nat.le_of_ble_eq_true rfl⟩ (c_X12_in e) PC_blind (pn_pre X) rfl rfl (Nat.le_of_ble_eq_true rfl) dX12_again_19) rfl (fun v2 h => ?_)
    refine g_if_ne 28 25 X dX12_again_22 (by decide) rfl h (fun h => ?_) (fun h => ?_)
    · refine g_aload_n 29 X 0 dX12_again_28 rfl rfl ?_
      refine g_iload_n 30 X 1 dX12_again_29 rfl rfl ?_
      refine g_iload_n 31 X 2 dX12_again_30 rfl rfl ?_
      refine g_ci 34 h (fun q e => r_V X cd_X12_278_X12_without_X12 ⟨rfl, rfl⟩ ⟨Nat.le_of_ble_eq_true rfl, Nat.le_of_ble_eq_true rfl⟩ (c_X12_without X.2.2.2.2  e) PC_blind (pc_pre X) (g_recv X (o12 rfl) rfl) rfl rfl (Nat.le_of_ble_eq_true rfl) dX12_again_31) rfl (fun v3 μ4 h => ?_)
      refine g_istore 36 X dX12_again_34 (by decide) rfl ?_
      refine g_iload 38 X 0 dX12_again_36 rfl rfl ?_
      refine g_if_eq 44 41 X dX12_again_38 (by decide) rfl h (fun h => ?_) (fun h => ?_)
      · refine g_iconst 45 X dX12_again_44 ic0 rfl ?_
        refine g_istore 47 X dX12_again_45 (by decide) rfl ?_
        refine g_iconst 48 X dX12_again_47 ic0 rfl ?_
        refine g_istore 50 X dX12_again_48 (by decide) rfl ?_
        exact G.sub [3, 5, 6, 7, 1, 0] rfl (b_X12_again_50 X hr  F _ _ _ _ _ _ h)
      · refine g_iload 43 X 0 dX12_again_41 rfl rfl ?_
        exact g_iret X hr dX12_again_43 h
    · refine g_bipush 27 X dX12_again_25 bpm2 rfl ?_
      exact g_iret X hr dX12_again_27 h
set_option maxRecDepth 100000 in
theorem c_X12_again {l : Launch} {D : va_G} {ks : Nat → ClassId} {A : Nat → Prop} {ad : Nat → Nat} (hD : ∀ μ : Mem, va_D A (wsM 24 ad (shR ks ad) μ)) {F : Nat} {μ : Mem} {x1 : Int32} {x2 : Int32} {x3 : Int32} {x4 : Int32} {r : Int32 × Mem}  (h : f_X12_again F μ x1 x2 x3 x4 = some r) : Met l yX12_again (Cond.code yX12_again cX12_again 16 (some .int) :: wg) rm_X12_again (PC D ks 24 ad (shR ks ad) μ [.ref (ad 0), .int x1, .int x2, .int x3, .int x4]) (QI D 24 ad (shR ks ad) A r) 0 0 A := by
  refine met_of (by decide) (Nat.le_of_ble_eq_true rfl) hD ?_
  intro p e s m args below meth c X hr
  exact G.sub [0, 1, 2, 3, 4] rfl (b_X12_again_0 X hr  _ _ _ _ _ h)
