abbrev rm_X12_canBe : Room := { frames := 3, cells := 0, slots := 0, locals := 72 }
set_option maxRecDepth 100000 in
set_option maxHeartbeats 4000000 in
theorem b_X12_canBe_173 {p : Program} {l : Launch} {e : Env} {s : State} {m : MethodId} {args : Array Value} {below : List Frame} {meth : Method} {c : Code} {D : va_G} {ks : Nat → ClassId} {A : Nat → Prop} {ad : Nat → Nat} (X : Cx p s m args meth c cX12_canBe 5 RX12 D ks A 24 ad (shR ks ad)) (hr : meth.sig.returnType = (some .boolean)) {F : Nat} {r : Int32 × Mem} {k141 : Mem → Int32 → Int32 → Option (Int32 × Mem)} (hk141 : ∀ (μ : Mem) (x3 : Int32) (x4 : Int32), k141 μ x3 x4 = some r → G p l e rm_X12_canBe s m args below meth c D A 5 (MQ below (QI D 24 ad (shR ks ad) A r) args s 0 0 A) 24 ad (shR ks ad) μ 141 [(0, .ref (ad 0)), (3, .int x3), (4, .int x4)] []) (μ : Mem) (x4 : Int32) (z0 : Int32)  (h : f_X12_canBe_b173 F k141 μ x4 z0 = some r) : G p l e rm_X12_canBe s m args below meth c D A 5 (MQ below (QI D 24 ad (shR ks ad) A r) args s 0 0 A) 24 ad (shR ks ad) μ 173 [(0, .ref (ad 0)), (4, .int x4)] [.int z0] := by
  refine g_istore_n 174 X dX12_canBe_173 (by decide) rfl ?_
  refine g_iinc 177 X 2 dX12_canBe_174 ic1 rfl (by decide) rfl ?_
  refine g_goto 141 X dX12_canBe_177 (by decide) ?_
  exact G.sub [2, 1, 0] rfl (hk141 _ _ _ h)
set_option maxRecDepth 100000 in
set_option maxHeartbeats 4000000 in
theorem b_X12_canBe_172 {p : Program} {l : Launch} {e : Env} {s : State} {m : MethodId} {args : Array Value} {below : List Frame} {meth : Method} {c : Code} {D : va_G} {ks : Nat → ClassId} {A : Nat → Prop} {ad : Nat → Nat} (X : Cx p s m args meth c cX12_canBe 5 RX12 D ks A 24 ad (shR ks ad)) (hr : meth.sig.returnType = (some .boolean)) {F : Nat} {r : Int32 × Mem} {k141 : Mem → Int32 → Int32 → Option (Int32 × Mem)} (hk141 : ∀ (μ : Mem) (x3 : Int32) (x4 : Int32), k141 μ x3 x4 = some r → G p l e rm_X12_canBe s m args below meth c D A 5 (MQ below (QI D 24 ad (shR ks ad) A r) args s 0 0 A) 24 ad (shR ks ad) μ 141 [(0, .ref (ad 0)), (3, .int x3), (4, .int x4)] []) (μ : Mem) (x4 : Int32)  (h : f_X12_canBe_b172 F k141 μ x4 = some r) : G p l e rm_X12_canBe s m args below meth c D A 5 (MQ below (QI D 24 ad (shR ks ad) A r) args s 0 0 A) 24 ad (shR ks ad) μ 172 [(0, .ref (ad 0)), (4, .int x4)] [] := by
  refine g_iconst 173 X dX12_canBe_172 ic0 rfl ?_
  exact G.sub [0, 1] rfl (b_X12_canBe_173 X hr hk141 _ _ _ h)
set_option maxRecDepth 100000 in
set_option maxHeartbeats 4000000 in
theorem b_X12_canBe_141 {p : Program} {l : Launch} {e : Env} {s : State} {m : MethodId} {args : Array Value} {below : List Frame} {meth : Method} {c : Code} {D : va_G} {ks : Nat → ClassId} {A : Nat → Prop} {ad : Nat → Nat} (X : Cx p s m args meth c cX12_canBe 5 RX12 D ks A 24 ad (shR ks ad)) (hr : meth.sig.returnType = (some .boolean)) {F : Nat} {r : Int32 × Mem} : ∀ n : Nat, ∀ (μ : Mem) (x3 : Int32) (x4 : Int32), f_X12_canBe_b141 F  n μ x3 x4 = some r → G p l e rm_X12_canBe s m args below meth c D A 5 (MQ below (QI D 24 ad (shR ks ad) A r) args s 0 0 A) 24 ad (shR ks ad) μ 141 [(0, .ref (ad 0)), (3, .int x3), (4, .int x4)] [] := by
  intro n
  induction n with
  | zero =>
    intro _ _ _ h
    cases h
  | succ n ih =>
    intro μ x3 x4 h
    refine g_iload 143 X 2 dX12_canBe_141 rfl rfl ?_
    refine g_iconst 144 X dX12_canBe_143 ic4 rfl ?_
    refine g_icmp_ge 180 147 X dX12_canBe_144 (by decide) rfl h (fun h => ?_) (fun h => ?_)
    · refine g_iload_n 181 X 1 dX12_canBe_180 rfl rfl ?_
      refine g_if_eq 218 184 X dX12_canBe_181 (by decide) rfl h (fun h => ?_) (fun h => ?_)
      · refine g_iconst 219 X dX12_canBe_218 ic0 rfl ?_
        exact g_zret X hr nb0 dX12_canBe_219 h
      · refine g_aload_n 185 X 0 dX12_canBe_184 rfl rfl ?_
        refine g_getr 188 X fl_X12_53_12 (o12 rfl) rfl dX12_canBe_185 rfl ?_
        refine g_iconst 189 X dX12_canBe_188 ic0 rfl ?_
        refine g_iald 190 X (aiR (n := 4) (by decide) rfl) dX12_canBe_189 h rfl (fun v1 h => ?_)
        refine g_aload_n 191 X 0 dX12_canBe_190 rfl rfl ?_
        refine g_getr 194 X fl_X12_53_12 (o12 rfl) rfl dX12_canBe_191 rfl ?_
        refine g_iconst 195 X dX12_canBe_194 ic1 rfl ?_
        refine g_iald 196 X (aiR (n := 4) (by decide) rfl) dX12_canBe_195 h rfl (fun v2 h => ?_)
        refine g_iadd 197 X dX12_canBe_196 rfl ?_
        refine g_aload_n 198 X 0 dX12_canBe_197 rfl rfl ?_
        refine g_getr 201 X fl_X12_53_12 (o12 rfl) rfl dX12_canBe_198 rfl ?_
        refine g_iconst 202 X dX12_canBe_201 ic2 rfl ?_
        refine g_iald 203 X (aiR (n := 4) (by decide) rfl) dX12_canBe_202 h rfl (fun v3 h => ?_)
        refine g_iadd 204 X dX12_canBe_203 rfl ?_
        refine g_aload_n 205 X 0 dX12_canBe_204 rfl rfl ?_
        refine g_getr 208 X fl_X12_53_12 (o12 rfl) rfl dX12_canBe_205 rfl ?_
        refine g_iconst 209 X dX12_canBe_208 ic3 rfl ?_
        refine g_iald 210 X (aiR (n := 4) (by decide) rfl) dX12_canBe_209 h rfl (fun v4 h => ?_)
        refine g_iadd 211 X dX12_canBe_210 rfl ?_
        refine g_if_le 218 214 X dX12_canBe_211 (by decide) rfl h (fun h => ?_) (fun h => ?_)
        · refine g_iconst 219 X dX12_canBe_218 ic0 rfl ?_
          exact g_zret X hr nb0 dX12_canBe_219 h
        · refine g_iconst 215 X dX12_canBe_214 ic1 rfl ?_
          refine g_goto 219 X dX12_canBe_215 (by decide) ?_
          exact g_zret X hr nb1 dX12_canBe_219 h
    · refine g_iload_n 148 X 1 dX12_canBe_147 rfl rfl ?_
      refine g_if_eq 172 151 X dX12_canBe_148 (by decide) rfl h (fun h => ?_) (fun h => ?_)
      · exact G.sub [0, 2] rfl (b_X12_canBe_172 X hr ih _ _ h)
      · refine g_aload_n 152 X 0 dX12_canBe_151 rfl rfl ?_
        refine g_getr 155 X fl_X12_53_12 (o12 rfl) rfl dX12_canBe_152 rfl ?_
        refine g_iload 157 X 2 dX12_canBe_155 rfl rfl ?_
        refine g_iald 158 X (aiR (n := 4) (by decide) rfl) dX12_canBe_157 h rfl (fun v5 h => ?_)
        refine g_aload_n 159 X 0 dX12_canBe_158 rfl rfl ?_
        refine g_iconst 160 X dX12_canBe_159 ic0 rfl ?_
        refine g_iload 162 X 2 dX12_canBe_160 rfl rfl ?_
        refine g_ci 165 h (fun q e => r_V X cd_X12_144_X12_manyOf_X12 ⟨rfl, rfl⟩ ⟨Nat.le_of_ble_eq_true rfl, Nat.le_of_ble_eq_true rfl⟩ (c_X12_manyOf X.2.2.2.2  e) PC_blind (pc_pre X) (g_recv X (o12 rfl) rfl) rfl rfl (Nat.le_of_ble_eq_true rfl) dX12_canBe_162) rfl (fun v6 μ7 h => ?_)
        refine g_icmp_gt 172 168 X dX12_canBe_165 (by decide) rfl h (fun h => ?_) (fun h => ?_)
        · exact G.sub [0, 2] rfl (b_X12_canBe_172 X hr ih _ _ h)
        · refine g_iconst 169 X dX12_canBe_168 ic1 rfl ?_
          refine g_goto 173 X dX12_canBe_169 (by decide) ?_
          exact G.sub [0, 2] rfl (b_X12_canBe_173 X hr ih _ _ _ h)
set_option maxRecDepth 100000 in
set_option maxHeartbeats 4000000 in
theorem b_X12_canBe_82 {p : Program} {l : Launch} {e : Env} {s : State} {m : MethodId} {args : Array Value} {below : List Frame} {meth : Method} {c : Code} {D : va_G} {ks : Nat → ClassId} {A : Nat → Prop} {ad : Nat → Nat} (X : Cx p s m args meth c cX12_canBe 5 RX12 D ks A 24 ad (shR ks ad)) (hr : meth.sig.returnType = (some .boolean)) {F : Nat} {r : Int32 × Mem} (μ : Mem) (z0 : Int32)  (h : f_X12_canBe_b82 F  μ z0 = some r) : G p l e rm_X12_canBe s m args below meth c D A 5 (MQ below (QI D 24 ad (shR ks ad) A r) args s 0 0 A) 24 ad (shR ks ad) μ 82 [(0, .ref (ad 0))] [.int z0, .ref (ad 0)] := by
  refine g_puti 85 X fp_X12_182_12 (o12 rfl) rfl (Nat.le_of_ble_eq_true rfl) rfl rfl dX12_canBe_82 h rfl (fun μ1 h => ?_)
  refine g_aload_n 86 X 0 dX12_canBe_85 rfl rfl ?_
  refine g_geti 89 X fl_X12_182_12 (o12 rfl) rfl dX12_canBe_86 h rfl (fun v2 h => ?_)
  refine g_if_le 96 92 X dX12_canBe_89 (by decide) rfl h (fun h => ?_) (fun h => ?_)
  · refine g_iconst 97 X dX12_canBe_96 ic0 rfl ?_
    exact g_zret X hr nb0 dX12_canBe_97 h
  · refine g_iconst 93 X dX12_canBe_92 ic1 rfl ?_
    refine g_goto 97 X dX12_canBe_93 (by decide) ?_
    exact g_zret X hr nb1 dX12_canBe_97 h
set_option maxRecDepth 100000 in
set_option maxHeartbeats 4000000 in
theorem b_X12_canBe_0 {p : Program} {l : Launch} {e : Env} {s : State} {m : MethodId} {args : Array Value} {below : List Frame} {meth : Method} {c : Code} {D : va_G} {ks : Nat → ClassId} {A : Nat → Prop} {ad : Nat → Nat} (X : Cx p s m args meth c cX12_canBe 5 RX12 D ks A 24 ad (shR ks ad)) (hr : meth.sig.returnType = (some .boolean)) {F : Nat} {r : Int32 × Mem} (μ : Mem) (x1 : Int32)  (h : f_X12_canBe F  μ x1 = some r) : G p l e rm_X12_canBe s m args below meth c D A 5 (MQ below (QI D 24 ad (shR ks ad) A r) args s 0 0 A) 24 ad (shR ks ad) μ 0 [(0, .ref (ad 0)), (1, .int x1)] [] := by
  refine g_aload_n 1 X 0 dX12_canBe_0 rfl rfl ?_
  refine g_iload_n 2 X 1 dX12_canBe_1 rfl rfl ?_
  refine g_ci 5 h (fun q e => r_V X cd_X12_173_X12_reads_X12 ⟨rfl, rfl⟩ ⟨Nat.le_of_ble_eq_true rfl, Nat.le_of_ble_eq_true rfl⟩ (c_X12_reads X.2.2.2.2  e) PC_blind (pc_pre X) (g_recv X (o12 rfl) rfl) rfl rfl (Nat.le_of_ble_eq_true rfl) dX12_canBe_2) rfl (fun v1 μ2 h => ?_)
  refine g_iconst 6 X dX12_canBe_5 icm1 rfl ?_
  refine g_icmp_eq 11 9 X dX12_canBe_6 (by decide) rfl h (fun h => ?_) (fun h => ?_)
  · refine g_aload_n 12 X 0 dX12_canBe_11 rfl rfl ?_
    refine g_getr 15 X fl_X12_53_12 (o12 rfl) rfl dX12_canBe_12 rfl ?_
    refine g_iconst 16 X dX12_canBe_15 ic0 rfl ?_
    refine g_iald 17 X (aiR (n := 4) (by decide) rfl) dX12_canBe_16 h rfl (fun v3 h => ?_)
    refine g_istore_n 18 X dX12_canBe_17 (by decide) rfl ?_
    refine g_aload_n 19 X 1 dX12_canBe_18 rfl rfl ?_
    refine g_geti 22 X fl_X12_166_12 (o12 rfl) rfl dX12_canBe_19 h rfl (fun v4 h => ?_)
    refine g_bipush 24 X dX12_canBe_22 bp97 rfl ?_
    refine g_icmp_ne 39 27 X dX12_canBe_24 (by decide) rfl h (fun h => ?_) (fun h => ?_)
    · refine g_aload_n 40 X 1 dX12_canBe_39 rfl rfl ?_
      refine g_geti 43 X fl_X12_166_12 (o12 rfl) rfl dX12_canBe_40 h rfl (fun v5 h => ?_)
      refine g_bipush 45 X dX12_canBe_43 bp101 rfl ?_
      refine g_icmp_ne 58 48 X dX12_canBe_45 (by decide) rfl h (fun h => ?_) (fun h => ?_)
      · refine g_aload_n 59 X 1 dX12_canBe_58 rfl rfl ?_
        refine g_geti 62 X fl_X12_166_12 (o12 rfl) rfl dX12_canBe_59 h rfl (fun v6 h => ?_)
        refine g_bipush 64 X dX12_canBe_62 bp122 rfl ?_
        refine g_icmp_ne 98 67 X dX12_canBe_64 (by decide) rfl h (fun h => ?_) (fun h => ?_)
        · refine g_aload_n 99 X 1 dX12_canBe_98 rfl rfl ?_
          refine g_geti 102 X fl_X12_166_12 (o12 rfl) rfl dX12_canBe_99 h rfl (fun v7 h => ?_)
          refine g_bipush 104 X dX12_canBe_102 bp116 rfl ?_
          refine g_icmp_ne 136 107 X dX12_canBe_104 (by decide) rfl h (fun h => ?_) (fun h => ?_)
          · refine g_iconst 137 X dX12_canBe_136 ic1 rfl ?_
            refine g_istore_n 138 X dX12_canBe_137 (by decide) rfl ?_
            refine g_iconst 139 X dX12_canBe_138 ic0 rfl ?_
            refine g_istore 141 X dX12_canBe_139 (by decide) rfl ?_
            exact G.sub [3, 1, 0] rfl (b_X12_canBe_141 X hr  F _ _ _ h)
          · refine g_iload_n 108 X 0 dX12_canBe_107 rfl rfl ?_
            refine g_i2l 109 X dX12_canBe_108 rfl ?_
            refine g_lconst 110 X dX12_canBe_109 lc1 rfl ?_
            refine g_aload_n 111 X 1 dX12_canBe_110 rfl rfl ?_
            refine g_ci 114 h (fun q e => r_V X cd_X12_185_X12_clustersNow_X12 ⟨rfl, rfl⟩ ⟨Nat.le_of_ble_eq_true rfl, Nat.le_of_ble_eq_true rfl⟩ (c_X12_clustersNow X.2.2.2.2  e) PC_blind (pc_pre X) (g_recv X (o12 rfl) rfl) rfl rfl (Nat.le_of_ble_eq_true rfl) dX12_canBe_111) rfl (fun v8 μ9 h => ?_)
            refine g_i2l 115 X dX12_canBe_114 rfl ?_
            refine g_ni 118 h (fun q e => r_S X cd_X12_92_X12_in ⟨rfl, rfl⟩ ⟨Nat.le_of_ble_eq_true rfl, Nat.le_of_ble_eq_true rfl⟩ (c_X12_in e) PC_blind (pn_pre X) rfl rfl (Nat.le_of_ble_eq_true rfl) dX12_canBe_115) rfl (fun v10 h => ?_)
            refine g_if_eq 134 121 X dX12_canBe_118 (by decide) rfl h (fun h => ?_) (fun h => ?_)
            · refine g_iconst 135 X dX12_canBe_134 ic0 rfl ?_
              exact g_zret X hr nb0 dX12_canBe_135 h
            · refine g_aload_n 122 X 1 dX12_canBe_121 rfl rfl ?_
              refine g_getr 125 X fl_X12_53_12 (o12 rfl) rfl dX12_canBe_122 rfl ?_
              refine g_iconst 126 X dX12_canBe_125 ic1 rfl ?_
              refine g_iald 127 X (aiR (n := 4) (by decide) rfl) dX12_canBe_126 h rfl (fun v11 h => ?_)
              refine g_if_le 134 130 X dX12_canBe_127 (by decide) rfl h (fun h => ?_) (fun h => ?_)
              · refine g_iconst 135 X dX12_canBe_134 ic0 rfl ?_
                exact g_zret X hr nb0 dX12_canBe_135 h
              · refine g_iconst 131 X dX12_canBe_130 ic1 rfl ?_
                refine g_goto 135 X dX12_canBe_131 (by decide) ?_
                exact g_zret X hr nb1 dX12_canBe_135 h
        · refine g_aload_n 68 X 1 dX12_canBe_67 rfl rfl ?_
          refine g_iload_n 69 X 0 dX12_canBe_68 rfl rfl ?_
          refine g_if_le 81 72 X dX12_canBe_69 (by decide) rfl h (fun h => ?_) (fun h => ?_)
          · refine g_iconst 82 X dX12_canBe_81 ic0 rfl ?_
            exact G.sub [1] rfl (b_X12_canBe_82 X hr  _ _ h)
          · refine g_aload_n 73 X 1 dX12_canBe_72 rfl rfl ?_
            refine g_ci 76 h (fun q e => r_V X cd_X12_178_X12_allSizes_X12 ⟨rfl, rfl⟩ ⟨Nat.le_of_ble_eq_true rfl, Nat.le_of_ble_eq_true rfl⟩ (c_X12_allSizes X.2.2.2.2  e) PC_blind (pc_pre X) (g_recv X (o12 rfl) rfl) rfl rfl (Nat.le_of_ble_eq_true rfl) dX12_canBe_73) rfl (fun v12 μ13 h => ?_)
            refine g_iload_n 77 X 0 dX12_canBe_76 rfl rfl ?_
            refine g_idiv 78 X dX12_canBe_77 h rfl (fun h => ?_)
            refine g_topi h (fun v14 h => ?_)
            refine g_goto 82 X dX12_canBe_78 (by decide) ?_
            exact G.sub [1] rfl (b_X12_canBe_82 X hr  _ _ h)
      · refine g_iload_n 49 X 0 dX12_canBe_48 rfl rfl ?_
        refine g_i2l 50 X dX12_canBe_49 rfl ?_
        refine g_lconst 51 X dX12_canBe_50 lc1 rfl ?_
        refine g_ldc2 54 X m1260 dX12_canBe_51 rfl ?_
        refine g_ni 57 h (fun q e => r_S X cd_X12_92_X12_in ⟨rfl, rfl⟩ ⟨Nat.le_of_ble_eq_true rfl, Nat.le_of_ble_eq_true rfl⟩ (c_X12_in e) PC_blind (pn_pre X) rfl rfl (Nat.le_of_ble_eq_true rfl) dX12_canBe_54) rfl (fun v15 h => ?_)
        obtain ⟨hz, h⟩ := zk_some h
        exact g_zret X hr hz dX12_canBe_57 h
    · refine g_iload_n 28 X 0 dX12_canBe_27 rfl rfl ?_
      refine g_i2l 29 X dX12_canBe_28 rfl ?_
      refine g_lconst 30 X dX12_canBe_29 lc1 rfl ?_
      refine g_aload_n 31 X 1 dX12_canBe_30 rfl rfl ?_
      refine g_geti 34 X fl_X12_115_12 (o12 rfl) rfl dX12_canBe_31 h rfl (fun v16 h => ?_)
      refine g_i2l 35 X dX12_canBe_34 rfl ?_
      refine g_ni 38 h (fun q e => r_S X cd_X12_92_X12_in ⟨rfl, rfl⟩ ⟨Nat.le_of_ble_eq_true rfl, Nat.le_of_ble_eq_true rfl⟩ (c_X12_in e) PC_blind (pn_pre X) rfl rfl (Nat.le_of_ble_eq_true rfl) dX12_canBe_35) rfl (fun v17 h => ?_)
      obtain ⟨hz, h⟩ := zk_some h
      exact g_zret X hr hz dX12_canBe_38 h
  · refine g_iconst 10 X dX12_canBe_9 ic0 rfl ?_
    exact g_zret X hr nb0 dX12_canBe_10 h
set_option maxRecDepth 100000 in
theorem c_X12_canBe {l : Launch} {D : va_G} {ks : Nat → ClassId} {A : Nat → Prop} {ad : Nat → Nat} (hD : ∀ μ : Mem, va_D A (wsM 24 ad (shR ks ad) μ)) {F : Nat} {μ : Mem} {x1 : Int32} {r : Int32 × Mem}  (h : f_X12_canBe F μ x1 = some r) : Met l yX12_canBe (Cond.code yX12_canBe cX12_canBe 5 (some .boolean) :: wg) rm_X12_canBe (PC D ks 24 ad (shR ks ad) μ [.ref (ad 0), .int x1]) (QI D 24 ad (shR ks ad) A r) 0 0 A := by
  refine met_of (by decide) (Nat.le_of_ble_eq_true rfl) hD ?_
  intro p e s m args below meth c X hr
  exact G.sub [0, 1] rfl (b_X12_canBe_0 X hr  _ _ h)
abbrev rm_X12_can : Room := { frames := 4, cells := 0, slots := 0, locals := 96 }
set_option maxRecDepth 100000 in
set_option maxHeartbeats 4000000 in
theorem b_X12_can_0 {p : Program} {l : Launch} {e : Env} {s : State} {m : MethodId} {args : Array Value} {below : List Frame} {meth : Method} {c : Code} {D : va_G} {ks : Nat → ClassId} {A : Nat → Prop} {ad : Nat → Nat} (X : Cx p s m args meth c cX12_can 2 RX12 D ks A 24 ad (shR ks ad)) (hr : meth.sig.returnType = (some .int)) {F : Nat} {r : Int32 × Mem} (μ : Mem) (x1 : Int32)  (h : f_X12_can F  μ x1 = some r) : G p l e rm_X12_can s m args below meth c D A 2 (MQ below (QI D 24 ad (shR ks ad) A r) args s 0 0 A) 24 ad (shR ks ad) μ 0 [(0, .ref (ad 0)), (1, .int x1)] [] := by
  refine g_iload_n 1 X 1 dX12_can_0 rfl rfl ?_
  refine g_ni 4 h (fun q e => r_S X cd_X12_147_X12_isPlan ⟨rfl, rfl⟩ ⟨Nat.le_of_ble_eq_true rfl, Nat.le_of_ble_eq_true rfl⟩ (c_X12_isPlan e) PC_blind (pn_pre X) rfl rfl (Nat.le_of_ble_eq_true rfl) dX12_can_1) rfl (fun v1 h => ?_)
  refine g_if_eq 23 7 X dX12_can_4 (by decide) rfl h (fun h => ?_) (fun h => ?_)
  · refine g_bipush 25 X dX12_can_23 bpm2 rfl ?_
    exact g_iret X hr dX12_can_25 h
  · refine g_aload_n 8 X 0 dX12_can_7 rfl rfl ?_
    refine g_iload_n 9 X 1 dX12_can_8 rfl rfl ?_
    refine g_ci 12 h (fun q e => r_V X cd_X12_188_X12_canBe_X12 ⟨rfl, rfl⟩ ⟨Nat.le_of_ble_eq_true rfl, Nat.le_of_ble_eq_true rfl⟩ (c_X12_canBe X.2.2.2.2  e) PC_blind (pc_pre X) (g_recv X (o12 rfl) rfl) rfl rfl (Nat.le_of_ble_eq_true rfl) dX12_can_9) rfl (fun v2 μ3 h => ?_)
    refine g_if_eq 19 15 X dX12_can_12 (by decide) rfl h (fun h => ?_) (fun h => ?_)
    · refine g_iconst 20 X dX12_can_19 ic0 rfl ?_
      refine g_goto 25 X dX12_can_20 (by decide) ?_
      exact g_iret X hr dX12_can_25 h
    · refine g_iconst 16 X dX12_can_15 ic1 rfl ?_
      refine g_goto 25 X dX12_can_16 (by decide) ?_
      exact g_iret X hr dX12_can_25 h
set_option maxRecDepth 100000 in
theorem c_X12_can {l : Launch} {D : va_G} {ks : Nat → ClassId} {A : Nat → Prop} {ad : Nat → Nat} (hD : ∀ μ : Mem, va_D A (wsM 24 ad (shR ks ad) μ)) {F : Nat} {μ : Mem} {x1 : Int32} {r : Int32 × Mem}  (h : f_X12_can F μ x1 = some r) : Met l yX12_can (Cond.code yX12_can cX12_can 2 (some .int) :: wg) rm_X12_can (PC D ks 24 ad (shR ks ad) μ [.ref (ad 0), .int x1]) (QI D 24 ad (shR ks ad) A r) 0 0 A := by
  refine met_of (by decide) (Nat.le_of_ble_eq_true rfl) hD ?_
  intro p e s m args below meth c X hr
  exact G.sub [0, 1] rfl (b_X12_can_0 X hr  _ _ h)
abbrev rm_X12_over : Room := { frames := 0, cells := 0, slots := 0, locals := 0 }
set_option maxRecDepth 100000 in
set_option maxHeartbeats 4000000 in
theorem b_X12_over_16 {p : Program} {l : Launch} {e : Env} {s : State} {m : MethodId} {args : Array Value} {below : List Frame} {meth : Method} {c : Code} {D : va_G} {ks : Nat → ClassId} (X : Cx p s m args meth c cX12_over 5 RX12 D ks (fun _ => False) 0 ad0 sh0) (hr : meth.sig.returnType = (some .long)) {F : Nat} {r : Int64} : ∀ n : Nat, ∀ (x0 : Int32) (x1 : Int32) (x2 : Int64) (x4 : Int32), f_X12_over_b16 F  n x0 x1 x2 x4 = some r → G p l e rm_X12_over s m args below meth c D (fun _ => False) 5 (MQ below (QNl D r) args s 0 0 (fun _ => False)) 0 ad0 sh0 μ0 16 [(0, .int x0), (1, .int x1), (2, .long x2), (4, .int x4)] [] := by
  intro n
  induction n with
  | zero =>
    intro _ _ _ _ h
    cases h
  | succ n ih =>
    intro x0 x1 x2 x4 h
    refine g_iload 18 X 3 dX12_over_16 rfl rfl ?_
    refine g_iload_n 19 X 1 dX12_over_18 rfl rfl ?_
    refine g_icmp_ge 42 22 X dX12_over_19 (by decide) rfl h (fun h => ?_) (fun h => ?_)
    · refine g_lload_n 43 X 2 dX12_over_42 rfl rfl ?_
      exact gn_lret X hr dX12_over_43 h
    · refine g_lload_n 23 X 2 dX12_over_22 rfl rfl ?_
      refine g_iload_n 24 X 0 dX12_over_23 rfl rfl ?_
      refine g_iload 26 X 3 dX12_over_24 rfl rfl ?_
      refine g_isub 27 X dX12_over_26 rfl ?_
      refine g_i2l 28 X dX12_over_27 rfl ?_
      refine g_lmul 29 X dX12_over_28 rfl ?_
      refine g_iload 31 X 3 dX12_over_29 rfl rfl ?_
      refine g_iconst 32 X dX12_over_31 ic1 rfl ?_
      refine g_iadd 33 X dX12_over_32 rfl ?_
      refine g_i2l 34 X dX12_over_33 rfl ?_
      refine g_ldiv 35 X dX12_over_34 h rfl (fun h => ?_)
      refine g_topl h (fun v1 h => ?_)
      refine g_lstore_n 36 X dX12_over_35 (by decide) rfl ?_
      refine g_iinc 39 X 3 dX12_over_36 ic1 rfl (by decide) rfl ?_
      refine g_goto 16 X dX12_over_39 (by decide) ?_
      exact G.sub [2, 3, 1, 0] rfl (ih _ _ _ _ h)
set_option maxRecDepth 100000 in
set_option maxHeartbeats 4000000 in
theorem b_X12_over_0 {p : Program} {l : Launch} {e : Env} {s : State} {m : MethodId} {args : Array Value} {below : List Frame} {meth : Method} {c : Code} {D : va_G} {ks : Nat → ClassId} (X : Cx p s m args meth c cX12_over 5 RX12 D ks (fun _ => False) 0 ad0 sh0) (hr : meth.sig.returnType = (some .long)) {F : Nat} {r : Int64} (x0 : Int32) (x1 : Int32)  (h : f_X12_over F  x0 x1 = some r) : G p l e rm_X12_over s m args below meth c D (fun _ => False) 5 (MQ below (QNl D r) args s 0 0 (fun _ => False)) 0 ad0 sh0 μ0 0 [(0, .int x0), (1, .int x1)] [] := by
  refine g_iload_n 1 X 1 dX12_over_0 rfl rfl ?_
  refine g_if_lt 9 4 X dX12_over_1 (by decide) rfl h (fun h => ?_) (fun h => ?_)
  · refine g_lconst 10 X dX12_over_9 lc0 rfl ?_
    exact gn_lret X hr dX12_over_10 h
  · refine g_iload_n 5 X 1 dX12_over_4 rfl rfl ?_
    refine g_iload_n 6 X 0 dX12_over_5 rfl rfl ?_
    refine g_icmp_le 11 9 X dX12_over_6 (by decide) rfl h (fun h => ?_) (fun h => ?_)
    · refine g_lconst 12 X dX12_over_11 lc1 rfl ?_
      refine g_lstore_n 13 X dX12_over_12 (by decide) rfl ?_
      refine g_iconst 14 X dX12_over_13 ic0 rfl ?_
      refine g_istore 16 X dX12_over_14 (by decide) rfl ?_
      exact G.sub [2, 3, 1, 0] rfl (b_X12_over_16 X hr  F _ _ _ _ h)
    · refine g_lconst 10 X dX12_over_9 lc0 rfl ?_
      exact gn_lret X hr dX12_over_10 h
set_option maxRecDepth 100000 in
theorem c_X12_over {l : Launch} {D : va_G} {ks : Nat → ClassId} {F : Nat} {x0 : Int32} {x1 : Int32} {r : Int64}  (h : f_X12_over F x0 x1 = some r) : Met l yX12_over (Cond.code yX12_over cX12_over 5 (some .long) :: wg) rm_X12_over (PN D ks [.int x0, .int x1]) (QNl D r) 0 0 (fun _ => False) := by
  refine met_of (by decide) (Nat.le_of_ble_eq_true rfl) d0 ?_
  intro p e s m args below meth c X hr
  exact G.sub [0, 1] rfl (b_X12_over_0 X hr  _ _ h)
abbrev rm_X12_ofCluster : Room := { frames := 1, cells := 0, slots := 0, locals := 24 }
set_option maxRecDepth 100000 in
set_option maxHeartbeats 4000000 in
theorem b_X12_ofCluster_0 {p : Program} {l : Launch} {e : Env} {s : State} {m : MethodId} {args : Array Value} {below : List Frame} {meth : Method} {c : Code} {D : va_G} {ks : Nat → ClassId} {A : Nat → Prop} {ad : Nat → Nat} (X : Cx p s m args meth c cX12_ofCluster 3 RX12 D ks A 24 ad (shR ks ad)) (hr : meth.sig.returnType = (some .int)) {F : Nat} {r : Int32 × Mem} (μ : Mem) (x1 : Int32)  (h : f_X12_ofCluster F  μ x1 = some r) : G p l e rm_X12_ofCluster s m args below meth c D A 3 (MQ below (QI D 24 ad (shR ks ad) A r) args s 0 0 A) 24 ad (shR ks ad) μ 0 [(0, .ref (ad 0)), (1, .int x1)] [] := by
  refine g_aload_n 1 X 0 dX12_ofCluster_0 rfl rfl ?_
  refine g_iconst 2 X dX12_ofCluster_1 ic1 rfl ?_
  refine g_iload_n 3 X 1 dX12_ofCluster_2 rfl rfl ?_
  refine g_ci 6 h (fun q e => r_V X cd_X12_144_X12_manyOf_X12 ⟨rfl, rfl⟩ ⟨Nat.le_of_ble_eq_true rfl, Nat.le_of_ble_eq_true rfl⟩ (c_X12_manyOf X.2.2.2.2  e) PC_blind (pc_pre X) (g_recv X (o12 rfl) rfl) rfl rfl (Nat.le_of_ble_eq_true rfl) dX12_ofCluster_3) rfl (fun v1 μ2 h => ?_)
  refine g_istore_n 7 X dX12_ofCluster_6 (by decide) rfl ?_
  refine g_aload_n 8 X 1 dX12_ofCluster_7 rfl rfl ?_
  refine g_getr 11 X fl_X12_53_12 (o12 rfl) rfl dX12_ofCluster_8 rfl ?_
  refine g_iconst 12 X dX12_ofCluster_11 ic1 rfl ?_
  refine g_iald 13 X (aiR (n := 4) (by decide) rfl) dX12_ofCluster_12 h rfl (fun v3 h => ?_)
  refine g_iload_n 14 X 0 dX12_ofCluster_13 rfl rfl ?_
  refine g_icmp_ge 26 17 X dX12_ofCluster_14 (by decide) rfl h (fun h => ?_) (fun h => ?_)
  · refine g_iload_n 27 X 0 dX12_ofCluster_26 rfl rfl ?_
    exact g_iret X hr dX12_ofCluster_27 h
  · refine g_aload_n 18 X 1 dX12_ofCluster_17 rfl rfl ?_
    refine g_getr 21 X fl_X12_53_12 (o12 rfl) rfl dX12_ofCluster_18 rfl ?_
    refine g_iconst 22 X dX12_ofCluster_21 ic1 rfl ?_
    refine g_iald 23 X (aiR (n := 4) (by decide) rfl) dX12_ofCluster_22 h rfl (fun v4 h => ?_)
    refine g_goto 27 X dX12_ofCluster_23 (by decide) ?_
    exact g_iret X hr dX12_ofCluster_27 h
set_option maxRecDepth 100000 in
theorem c_X12_ofCluster {l : Launch} {D : va_G} {ks : Nat → ClassId} {A : Nat → Prop} {ad : Nat → Nat} (hD : ∀ μ : Mem, va_D A (wsM 24 ad (shR ks ad) μ)) {F : Nat} {μ : Mem} {x1 : Int32} {r : Int32 × Mem}  (h : f_X12_ofCluster F μ x1 = some r) : Met l yX12_ofCluster (Cond.code yX12_ofCluster cX12_ofCluster 3 (some .int) :: wg) rm_X12_ofCluster (PC D ks 24 ad (shR ks ad) μ [.ref (ad 0), .int x1]) (QI D 24 ad (shR ks ad) A r) 0 0 A := by
  refine met_of (by decide) (Nat.le_of_ble_eq_true rfl) hD ?_
  intro p e s m args below meth c X hr
  exact G.sub [0, 1] rfl (b_X12_ofCluster_0 X hr  _ _ h)
abbrev rm_X12_drawsNow : Room := { frames := 2, cells := 0, slots := 0, locals := 46 }
set_option maxRecDepth 100000 in
set_option maxHeartbeats 4000000 in
theorem b_X12_drawsNow_187 {p : Program} {l : Launch} {e : Env} {s : State} {m : MethodId} {args : Array Value} {below : List Frame} {meth : Method} {c : Code} {D : va_G} {ks : Nat → ClassId} {A : Nat → Prop} {ad : Nat → Nat} (X : Cx p s m args meth c cX12_drawsNow 4 RX12 D ks A 24 ad (shR ks ad)) (hr : meth.sig.returnType = (some .long)) {F : Nat} {r : Int64 × Mem} {k130 : Mem → Int32 → Option (Int64 × Mem)} (hk130 : ∀ (μ : Mem) (x1 : Int32), k130 μ x1 = some r → G p l e rm_X12_drawsNow s m args below meth c D A 4 (MQ below (QL D 24 ad (shR ks ad) A r) args s 0 0 A) 24 ad (shR ks ad) μ 130 [(0, .ref (ad 0)), (1, .int x1)] []) (μ : Mem) (x1 : Int32)  (h : f_X12_drawsNow_b187 F k130 μ x1 = some r) : G p l e rm_X12_drawsNow s m args below meth c D A 4 (MQ below (QL D 24 ad (shR ks ad) A r) args s 0 0 A) 24 ad (shR ks ad) μ 187 [(0, .ref (ad 0)), (1, .int x1)] [] := by
  refine g_iinc 190 X 1 dX12_drawsNow_187 ic1 rfl (by decide) rfl ?_
  refine g_goto 130 X dX12_drawsNow_190 (by decide) ?_
  exact G.sub [1, 0] rfl (hk130 _ _ h)
set_option maxRecDepth 100000 in
set_option maxHeartbeats 4000000 in
theorem b_X12_drawsNow_146 {p : Program} {l : Launch} {e : Env} {s : State} {m : MethodId} {args : Array Value} {below : List Frame} {meth : Method} {c : Code} {D : va_G} {ks : Nat → ClassId} {A : Nat → Prop} {ad : Nat → Nat} (X : Cx p s m args meth c cX12_drawsNow 4 RX12 D ks A 24 ad (shR ks ad)) (hr : meth.sig.returnType = (some .long)) {F : Nat} {r : Int64 × Mem} {k130 : Mem → Int32 → Option (Int64 × Mem)} (hk130 : ∀ (μ : Mem) (x1 : Int32), k130 μ x1 = some r → G p l e rm_X12_drawsNow s m args below meth c D A 4 (MQ below (QL D 24 ad (shR ks ad) A r) args s 0 0 A) 24 ad (shR ks ad) μ 130 [(0, .ref (ad 0)), (1, .int x1)] []) : ∀ n : Nat, ∀ (μ : Mem) (x1 : Int32) (x2 : Int32) (x3 : Int32), f_X12_drawsNow_b146 F k130 n μ x1 x2 x3 = some r → G p l e rm_X12_drawsNow s m args below meth c D A 4 (MQ below (QL D 24 ad (shR ks ad) A r) args s 0 0 A) 24 ad (shR ks ad) μ 146 [(0, .ref (ad 0)), (1, .int x1), (2, .int x2), (3, .int x3)] [] := by
  intro n
  induction n with
  | zero =>
    intro _ _ _ _ h
    cases h
  | succ n ih =>
    intro μ x1 x2 x3 h
    refine g_iload_n 147 X 3 dX12_drawsNow_146 rfl rfl ?_
    refine g_if_le 187 150 X dX12_drawsNow_147 (by decide) rfl h (fun h => ?_) (fun h => ?_)
    · exact G.sub [0, 1] rfl (b_X12_drawsNow_187 X hr hk130 _ _ h)
    · refine g_iload_n 151 X 2 dX12_drawsNow_150 rfl rfl ?_
      refine g_if_le 187 154 X dX12_drawsNow_151 (by decide) rfl h (fun h => ?_) (fun h => ?_)
      · exact G.sub [0, 1] rfl (b_X12_drawsNow_187 X hr hk130 _ _ h)
      · refine g_aload_n 155 X 0 dX12_drawsNow_154 rfl rfl ?_
        refine g_getr 158 X fl_X12_59_12 (o12 rfl) rfl dX12_drawsNow_155 rfl ?_
        refine g_iload_n 159 X 3 dX12_drawsNow_158 rfl rfl ?_
        refine g_dup2 160 X dX12_drawsNow_159 rfl rfl rfl ?_
        refine g_lald 161 X (ajR (n := 9) (by decide) rfl) dX12_drawsNow_160 h rfl (fun v1 h => ?_)
        refine g_aload_n 162 X 0 dX12_drawsNow_161 rfl rfl ?_
        refine g_getr 165 X fl_X12_59_12 (o12 rfl) rfl dX12_drawsNow_162 rfl ?_
        refine g_iload_n 166 X 3 dX12_drawsNow_165 rfl rfl ?_
        refine g_iconst 167 X dX12_drawsNow_166 ic1 rfl ?_
        refine g_isub 168 X dX12_drawsNow_167 rfl ?_
        refine g_lald 169 X (ajR (n := 9) (by decide) rfl) dX12_drawsNow_168 h rfl (fun v2 h => ?_)
        refine g_iload_n 170 X 2 dX12_drawsNow_169 rfl rfl ?_
        refine g_aload_n 171 X 0 dX12_drawsNow_170 rfl rfl ?_
        refine g_iload_n 172 X 1 dX12_drawsNow_171 rfl rfl ?_
        refine g_ci 175 h (fun q e => r_V X cd_X12_195_X12_ofCluster_X12 ⟨rfl, rfl⟩ ⟨Nat.le_of_ble_eq_true rfl, Nat.le_of_ble_eq_true rfl⟩ (c_X12_ofCluster X.2.2.2.2  e) PC_blind (pc_pre X) (g_recv X (o12 rfl) rfl) rfl rfl (Nat.le_of_ble_eq_true rfl) dX12_drawsNow_172) rfl (fun v3 μ4 h => ?_)
        refine g_nl 178 h (fun q e => r_S X cd_X12_191_X12_over ⟨rfl, rfl⟩ ⟨Nat.le_of_ble_eq_true rfl, Nat.le_of_ble_eq_true rfl⟩ (c_X12_over e) PC_blind (pn_pre X) rfl rfl (Nat.le_of_ble_eq_true rfl) dX12_drawsNow_175) rfl (fun v5 h => ?_)
        refine g_lmul 179 X dX12_drawsNow_178 rfl ?_
        refine g_ladd 180 X dX12_drawsNow_179 rfl ?_
        refine g_last 181 X (ajR (n := 9) (by decide) rfl) dX12_drawsNow_180 h rfl (fun μ6 h => ?_)
        refine g_iinc 184 X 3 dX12_drawsNow_181 icm1 rfl (by decide) rfl ?_
        refine g_goto 146 X dX12_drawsNow_184 (by decide) ?_
        exact G.sub [1, 2, 3, 0] rfl (ih _ _ _ _ h)
set_option maxRecDepth 100000 in
set_option maxHeartbeats 4000000 in
theorem b_X12_drawsNow_130 {p : Program} {l : Launch} {e : Env} {s : State} {m : MethodId} {args : Array Value} {below : List Frame} {meth : Method} {c : Code} {D : va_G} {ks : Nat → ClassId} {A : Nat → Prop} {ad : Nat → Nat} (X : Cx p s m args meth c cX12_drawsNow 4 RX12 D ks A 24 ad (shR ks ad)) (hr : meth.sig.returnType = (some .long)) {F : Nat} {r : Int64 × Mem} : ∀ n : Nat, ∀ (μ : Mem) (x1 : Int32), f_X12_drawsNow_b130 F  n μ x1 = some r → G p l e rm_X12_drawsNow s m args below meth c D A 4 (MQ below (QL D 24 ad (shR ks ad) A r) args s 0 0 A) 24 ad (shR ks ad) μ 130 [(0, .ref (ad 0)), (1, .int x1)] [] := by
  intro n
  induction n with
  | zero =>
    intro _ _ h
    cases h
  | succ n ih =>
    intro μ x1 h
    refine g_iload_n 131 X 1 dX12_drawsNow_130 rfl rfl ?_
    refine g_bipush 133 X dX12_drawsNow_131 bp8 rfl ?_
    refine g_icmp_ge 193 136 X dX12_drawsNow_133 (by decide) rfl h (fun h => ?_) (fun h => ?_)
    · refine g_aload_n 194 X 0 dX12_drawsNow_193 rfl rfl ?_
      refine g_getr 197 X fl_X12_59_12 (o12 rfl) rfl dX12_drawsNow_194 rfl ?_
      refine g_aload_n 198 X 0 dX12_drawsNow_197 rfl rfl ?_
      refine g_getr 201 X fl_X12_53_12 (o12 rfl) rfl dX12_drawsNow_198 rfl ?_
      refine g_iconst 202 X dX12_drawsNow_201 ic0 rfl ?_
      refine g_iald 203 X (aiR (n := 4) (by decide) rfl) dX12_drawsNow_202 h rfl (fun v1 h => ?_)
      refine g_lald 204 X (ajR (n := 9) (by decide) rfl) dX12_drawsNow_203 h rfl (fun v2 h => ?_)
      exact g_lret X hr dX12_drawsNow_204 h
    · refine g_aload_n 137 X 0 dX12_drawsNow_136 rfl rfl ?_
      refine g_iconst 138 X dX12_drawsNow_137 ic1 rfl ?_
      refine g_iload_n 139 X 1 dX12_drawsNow_138 rfl rfl ?_
      refine g_ci 142 h (fun q e => r_V X cd_X12_144_X12_manyOf_X12 ⟨rfl, rfl⟩ ⟨Nat.le_of_ble_eq_true rfl, Nat.le_of_ble_eq_true rfl⟩ (c_X12_manyOf X.2.2.2.2  e) PC_blind (pc_pre X) (g_recv X (o12 rfl) rfl) rfl rfl (Nat.le_of_ble_eq_true rfl) dX12_drawsNow_139) rfl (fun v3 μ4 h => ?_)
      refine g_istore_n 143 X dX12_drawsNow_142 (by decide) rfl ?_
      refine g_bipush 145 X dX12_drawsNow_143 bp8 rfl ?_
      refine g_istore_n 146 X dX12_drawsNow_145 (by decide) rfl ?_
      exact G.sub [2, 3, 1, 0] rfl (b_X12_drawsNow_146 X hr ih F _ _ _ _ h)
set_option maxRecDepth 100000 in
set_option maxHeartbeats 4000000 in
theorem b_X12_drawsNow_121 {p : Program} {l : Launch} {e : Env} {s : State} {m : MethodId} {args : Array Value} {below : List Frame} {meth : Method} {c : Code} {D : va_G} {ks : Nat → ClassId} {A : Nat → Prop} {ad : Nat → Nat} (X : Cx p s m args meth c cX12_drawsNow 4 RX12 D ks A 24 ad (shR ks ad)) (hr : meth.sig.returnType = (some .long)) {F : Nat} {r : Int64 × Mem} {k101 : Mem → Int32 → Option (Int64 × Mem)} (hk101 : ∀ (μ : Mem) (x1 : Int32), k101 μ x1 = some r → G p l e rm_X12_drawsNow s m args below meth c D A 4 (MQ below (QL D 24 ad (shR ks ad) A r) args s 0 0 A) 24 ad (shR ks ad) μ 101 [(0, .ref (ad 0)), (1, .int x1)] []) (μ : Mem) (x1 : Int32) (z0 : Int64) (z1 : Int32)  (h : f_X12_drawsNow_b121 F k101 μ x1 z0 z1 = some r) : G p l e rm_X12_drawsNow s m args below meth c D A 4 (MQ below (QL D 24 ad (shR ks ad) A r) args s 0 0 A) 24 ad (shR ks ad) μ 121 [(0, .ref (ad 0)), (1, .int x1)] [.long z0, .int z1, .ref (ad 16)] := by
  refine g_last 122 X (ajR (n := 9) (by decide) rfl) dX12_drawsNow_121 h rfl (fun μ1 h => ?_)
  refine g_iinc 125 X 1 dX12_drawsNow_122 ic1 rfl (by decide) rfl ?_
  refine g_goto 101 X dX12_drawsNow_125 (by decide) ?_
  exact G.sub [1, 0] rfl (hk101 _ _ h)
set_option maxRecDepth 100000 in
set_option maxHeartbeats 4000000 in
theorem b_X12_drawsNow_101 {p : Program} {l : Launch} {e : Env} {s : State} {m : MethodId} {args : Array Value} {below : List Frame} {meth : Method} {c : Code} {D : va_G} {ks : Nat → ClassId} {A : Nat → Prop} {ad : Nat → Nat} (X : Cx p s m args meth c cX12_drawsNow 4 RX12 D ks A 24 ad (shR ks ad)) (hr : meth.sig.returnType = (some .long)) {F : Nat} {r : Int64 × Mem} : ∀ n : Nat, ∀ (μ : Mem) (x1 : Int32), f_X12_drawsNow_b101 F  n μ x1 = some r → G p l e rm_X12_drawsNow s m args below meth c D A 4 (MQ below (QL D 24 ad (shR ks ad) A r) args s 0 0 A) 24 ad (shR ks ad) μ 101 [(0, .ref (ad 0)), (1, .int x1)] [] := by
  intro n
  induction n with
  | zero =>
    intro _ _ h
    cases h
  | succ n ih =>
    intro μ x1 h
    refine g_iload_n 102 X 1 dX12_drawsNow_101 rfl rfl ?_
    refine g_bipush 104 X dX12_drawsNow_102 bp9 rfl ?_
    refine g_icmp_ge 128 107 X dX12_drawsNow_104 (by decide) rfl h (fun h => ?_) (fun h => ?_)
    · refine g_iconst 129 X dX12_drawsNow_128 ic0 rfl ?_
      refine g_istore_n 130 X dX12_drawsNow_129 (by decide) rfl ?_
      exact G.sub [1, 0] rfl (b_X12_drawsNow_130 X hr  F _ _ h)
    · refine g_aload_n 108 X 0 dX12_drawsNow_107 rfl rfl ?_
      refine g_getr 111 X fl_X12_59_12 (o12 rfl) rfl dX12_drawsNow_108 rfl ?_
      refine g_iload_n 112 X 1 dX12_drawsNow_111 rfl rfl ?_
      refine g_iload_n 113 X 1 dX12_drawsNow_112 rfl rfl ?_
      refine g_if_ne 120 116 X dX12_drawsNow_113 (by decide) rfl h (fun h => ?_) (fun h => ?_)
      · refine g_lconst 121 X dX12_drawsNow_120 lc0 rfl ?_
        exact G.sub [0, 1] rfl (b_X12_drawsNow_121 X hr ih _ _ _ _ h)
      · refine g_lconst 117 X dX12_drawsNow_116 lc1 rfl ?_
        refine g_goto 121 X dX12_drawsNow_117 (by decide) ?_
        exact G.sub [0, 1] rfl (b_X12_drawsNow_121 X hr ih _ _ _ _ h)
set_option maxRecDepth 100000 in
set_option maxHeartbeats 4000000 in
theorem b_X12_drawsNow_68 {p : Program} {l : Launch} {e : Env} {s : State} {m : MethodId} {args : Array Value} {below : List Frame} {meth : Method} {c : Code} {D : va_G} {ks : Nat → ClassId} {A : Nat → Prop} {ad : Nat → Nat} (X : Cx p s m args meth c cX12_drawsNow 4 RX12 D ks A 24 ad (shR ks ad)) (hr : meth.sig.returnType = (some .long)) {F : Nat} {r : Int64 × Mem} : ∀ n : Nat, ∀ (μ : Mem) (x1 : Int64) (x3 : Int32), f_X12_drawsNow_b68 F  n μ x1 x3 = some r → G p l e rm_X12_drawsNow s m args below meth c D A 4 (MQ below (QL D 24 ad (shR ks ad) A r) args s 0 0 A) 24 ad (shR ks ad) μ 68 [(0, .ref (ad 0)), (1, .long x1), (3, .int x3)] [] := by
  intro n
  induction n with
  | zero =>
    intro _ _ _ h
    cases h
  | succ n ih =>
    intro μ x1 x3 h
    refine g_iload_n 69 X 2 dX12_drawsNow_68 rfl rfl ?_
    refine g_iconst 70 X dX12_drawsNow_69 ic4 rfl ?_
    refine g_icmp_ge 97 73 X dX12_drawsNow_70 (by decide) rfl h (fun h => ?_) (fun h => ?_)
    · refine g_lload_n 98 X 1 dX12_drawsNow_97 rfl rfl ?_
      exact g_lret X hr dX12_drawsNow_98 h
    · refine g_lload_n 74 X 1 dX12_drawsNow_73 rfl rfl ?_
      refine g_aload_n 75 X 0 dX12_drawsNow_74 rfl rfl ?_
      refine g_iconst 76 X dX12_drawsNow_75 ic0 rfl ?_
      refine g_iload_n 77 X 2 dX12_drawsNow_76 rfl rfl ?_
      refine g_ci 80 h (fun q e => r_V X cd_X12_144_X12_manyOf_X12 ⟨rfl, rfl⟩ ⟨Nat.le_of_ble_eq_true rfl, Nat.le_of_ble_eq_true rfl⟩ (c_X12_manyOf X.2.2.2.2  e) PC_blind (pc_pre X) (g_recv X (o12 rfl) rfl) rfl rfl (Nat.le_of_ble_eq_true rfl) dX12_drawsNow_77) rfl (fun v1 μ2 h => ?_)
      refine g_aload_n 81 X 0 dX12_drawsNow_80 rfl rfl ?_
      refine g_getr 84 X fl_X12_53_12 (o12 rfl) rfl dX12_drawsNow_81 rfl ?_
      refine g_iload_n 85 X 2 dX12_drawsNow_84 rfl rfl ?_
      refine g_iald 86 X (aiR (n := 4) (by decide) rfl) dX12_drawsNow_85 h rfl (fun v3 h => ?_)
      refine g_nl 89 h (fun q e => r_S X cd_X12_191_X12_over ⟨rfl, rfl⟩ ⟨Nat.le_of_ble_eq_true rfl, Nat.le_of_ble_eq_true rfl⟩ (c_X12_over e) PC_blind (pn_pre X) rfl rfl (Nat.le_of_ble_eq_true rfl) dX12_drawsNow_86) rfl (fun v4 h => ?_)
      refine g_lmul 90 X dX12_drawsNow_89 rfl ?_
      refine g_topl h (fun v5 h => ?_)
      refine g_lstore_n 91 X dX12_drawsNow_90 (by decide) rfl ?_
      refine g_iinc 94 X 2 dX12_drawsNow_91 ic1 rfl (by decide) rfl ?_
      refine g_goto 68 X dX12_drawsNow_94 (by decide) ?_
      exact G.sub [2, 1, 0] rfl (ih _ _ _ h)
set_option maxRecDepth 100000 in
set_option maxHeartbeats 4000000 in
theorem b_X12_drawsNow_0 {p : Program} {l : Launch} {e : Env} {s : State} {m : MethodId} {args : Array Value} {below : List Frame} {meth : Method} {c : Code} {D : va_G} {ks : Nat → ClassId} {A : Nat → Prop} {ad : Nat → Nat} (X : Cx p s m args meth c cX12_drawsNow 4 RX12 D ks A 24 ad (shR ks ad)) (hr : meth.sig.returnType = (some .long)) {F : Nat} {r : Int64 × Mem} (μ : Mem)  (h : f_X12_drawsNow F  μ = some r) : G p l e rm_X12_drawsNow s m args below meth c D A 4 (MQ below (QL D 24 ad (shR ks ad) A r) args s 0 0 A) 24 ad (shR ks ad) μ 0 [(0, .ref (ad 0))] [] := by
  refine g_aload_n 1 X 0 dX12_drawsNow_0 rfl rfl ?_
  refine g_geti 4 X fl_X12_166_12 (o12 rfl) rfl dX12_drawsNow_1 h rfl (fun v1 h => ?_)
  refine g_bipush 6 X dX12_drawsNow_4 bp97 rfl ?_
  refine g_icmp_ne 23 9 X dX12_drawsNow_6 (by decide) rfl h (fun h => ?_) (fun h => ?_)
  · refine g_aload_n 24 X 0 dX12_drawsNow_23 rfl rfl ?_
    refine g_geti 27 X fl_X12_166_12 (o12 rfl) rfl dX12_drawsNow_24 h rfl (fun v2 h => ?_)
    refine g_bipush 29 X dX12_drawsNow_27 bp101 rfl ?_
    refine g_icmp_ne 40 32 X dX12_drawsNow_29 (by decide) rfl h (fun h => ?_) (fun h => ?_)
    · refine g_aload_n 41 X 0 dX12_drawsNow_40 rfl rfl ?_
      refine g_geti 44 X fl_X12_166_12 (o12 rfl) rfl dX12_drawsNow_41 h rfl (fun v3 h => ?_)
      refine g_bipush 46 X dX12_drawsNow_44 bp122 rfl ?_
      refine g_icmp_ne 55 49 X dX12_drawsNow_46 (by decide) rfl h (fun h => ?_) (fun h => ?_)
      · refine g_aload_n 56 X 0 dX12_drawsNow_55 rfl rfl ?_
        refine g_geti 59 X fl_X12_166_12 (o12 rfl) rfl dX12_drawsNow_56 h rfl (fun v4 h => ?_)
        refine g_bipush 61 X dX12_drawsNow_59 bp108 rfl ?_
        refine g_icmp_ne 99 64 X dX12_drawsNow_61 (by decide) rfl h (fun h => ?_) (fun h => ?_)
        · refine g_iconst 100 X dX12_drawsNow_99 ic0 rfl ?_
          refine g_istore_n 101 X dX12_drawsNow_100 (by decide) rfl ?_
          exact G.sub [1, 0] rfl (b_X12_drawsNow_101 X hr  F _ _ h)
        · refine g_lconst 65 X dX12_drawsNow_64 lc1 rfl ?_
          refine g_lstore_n 66 X dX12_drawsNow_65 (by decide) rfl ?_
          refine g_iconst 67 X dX12_drawsNow_66 ic0 rfl ?_
          refine g_istore_n 68 X dX12_drawsNow_67 (by decide) rfl ?_
          exact G.sub [2, 1, 0] rfl (b_X12_drawsNow_68 X hr  F _ _ _ h)
      · refine g_aload_n 50 X 0 dX12_drawsNow_49 rfl rfl ?_
        refine g_geti 53 X fl_X12_182_12 (o12 rfl) rfl dX12_drawsNow_50 h rfl (fun v5 h => ?_)
        refine g_i2l 54 X dX12_drawsNow_53 rfl ?_
        exact g_lret X hr dX12_drawsNow_54 h
    · refine g_aload_n 33 X 0 dX12_drawsNow_32 rfl rfl ?_
      refine g_getr 36 X fl_X12_53_12 (o12 rfl) rfl dX12_drawsNow_33 rfl ?_
      refine g_iconst 37 X dX12_drawsNow_36 ic0 rfl ?_
      refine g_iald 38 X (aiR (n := 4) (by decide) rfl) dX12_drawsNow_37 h rfl (fun v6 h => ?_)
      refine g_i2l 39 X dX12_drawsNow_38 rfl ?_
      exact g_lret X hr dX12_drawsNow_39 h
  · refine g_aload_n 10 X 0 dX12_drawsNow_9 rfl rfl ?_
    refine g_geti 13 X fl_X12_115_12 (o12 rfl) rfl dX12_drawsNow_10 h rfl (fun v7 h => ?_)
    refine g_aload_n 14 X 0 dX12_drawsNow_13 rfl rfl ?_
    refine g_getr 17 X fl_X12_53_12 (o12 rfl) rfl dX12_drawsNow_14 rfl ?_
    refine g_iconst 18 X dX12_drawsNow_17 ic0 rfl ?_
    refine g_iald 19 X (aiR (n := 4) (by decide) rfl) dX12_drawsNow_18 h rfl (fun v8 h => ?_)
    refine g_nl 22 h (fun q e => r_S X cd_X12_191_X12_over ⟨rfl, rfl⟩ ⟨Nat.le_of_ble_eq_true rfl, Nat.le_of_ble_eq_true rfl⟩ (c_X12_over e) PC_blind (pn_pre X) rfl rfl (Nat.le_of_ble_eq_true rfl) dX12_drawsNow_19) rfl (fun v9 h => ?_)
    exact g_lret X hr dX12_drawsNow_22 h
set_option maxRecDepth 100000 in
theorem c_X12_drawsNow {l : Launch} {D : va_G} {ks : Nat → ClassId} {A : Nat → Prop} {ad : Nat → Nat} (hD : ∀ μ : Mem, va_D A (wsM 24 ad (shR ks ad) μ)) {F : Nat} {μ : Mem} {r : Int64 × Mem}  (h : f_X12_drawsNow F μ = some r) : Met l yX12_drawsNow (Cond.code yX12_drawsNow cX12_drawsNow 4 (some .long) :: wg) rm_X12_drawsNow (PC D ks 24 ad (shR ks ad) μ [.ref (ad 0)]) (QL D 24 ad (shR ks ad) A r) 0 0 A := by
  refine met_of (by decide) (Nat.le_of_ble_eq_true rfl) hD ?_
  intro p e s m args below meth c X hr
  exact G.sub [0] rfl (b_X12_drawsNow_0 X hr  _ h)
abbrev rm_X12_draws : Room := { frames := 4, cells := 0, slots := 0, locals := 96 }
set_option maxRecDepth 100000 in
set_option maxHeartbeats 4000000 in
theorem b_X12_draws_0 {p : Program} {l : Launch} {e : Env} {s : State} {m : MethodId} {args : Array Value} {below : List Frame} {meth : Method} {c : Code} {D : va_G} {ks : Nat → ClassId} {A : Nat → Prop} {ad : Nat → Nat} (X : Cx p s m args meth c cX12_draws 2 RX12 D ks A 24 ad (shR ks ad)) (hr : meth.sig.returnType = (some .long)) {F : Nat} {r : Int64 × Mem} (μ : Mem) (x1 : Int32)  (h : f_X12_draws F  μ x1 = some r) : G p l e rm_X12_draws s m args below meth c D A 2 (MQ below (QL D 24 ad (shR ks ad) A r) args s 0 0 A) 24 ad (shR ks ad) μ 0 [(0, .ref (ad 0)), (1, .int x1)] [] := by
  refine g_iload_n 1 X 1 dX12_draws_0 rfl rfl ?_
  refine g_ni 4 h (fun q e => r_S X cd_X12_147_X12_isPlan ⟨rfl, rfl⟩ ⟨Nat.le_of_ble_eq_true rfl, Nat.le_of_ble_eq_true rfl⟩ (c_X12_isPlan e) PC_blind (pn_pre X) rfl rfl (Nat.le_of_ble_eq_true rfl) dX12_draws_1) rfl (fun v1 h => ?_)
  refine g_if_ne 13 7 X dX12_draws_4 (by decide) rfl h (fun h => ?_) (fun h => ?_)
  · refine g_aload_n 14 X 0 dX12_draws_13 rfl rfl ?_
    refine g_iload_n 15 X 1 dX12_draws_14 rfl rfl ?_
    refine g_ci 18 h (fun q e => r_V X cd_X12_188_X12_canBe_X12 ⟨rfl, rfl⟩ ⟨Nat.le_of_ble_eq_true rfl, Nat.le_of_ble_eq_true rfl⟩ (c_X12_canBe X.2.2.2.2  e) PC_blind (pc_pre X) (g_recv X (o12 rfl) rfl) rfl rfl (Nat.le_of_ble_eq_true rfl) dX12_draws_15) rfl (fun v2 μ3 h => ?_)
    refine g_if_eq 28 21 X dX12_draws_18 (by decide) rfl h (fun h => ?_) (fun h => ?_)
    · refine g_bipush 30 X dX12_draws_28 bpm3 rfl ?_
      refine g_nl 33 h (fun q e => r_S X cd_X12_198_X12_no ⟨rfl, rfl⟩ ⟨Nat.le_of_ble_eq_true rfl, Nat.le_of_ble_eq_true rfl⟩ (c_X12_no e) PC_blind (pn_pre X) rfl rfl (Nat.le_of_ble_eq_true rfl) dX12_draws_30) rfl (fun v4 h => ?_)
      exact g_lret X hr dX12_draws_33 h
    · refine g_aload_n 22 X 0 dX12_draws_21 rfl rfl ?_
      refine g_cl 25 h (fun q e => r_V X cd_X12_202_X12_drawsNow_X12 ⟨rfl, rfl⟩ ⟨Nat.le_of_ble_eq_true rfl, Nat.le_of_ble_eq_true rfl⟩ (c_X12_drawsNow X.2.2.2.2  e) PC_blind (pc_pre X) (g_recv X (o12 rfl) rfl) rfl rfl (Nat.le_of_ble_eq_true rfl) dX12_draws_22) rfl (fun v5 μ6 h => ?_)
      refine g_goto 33 X dX12_draws_25 (by decide) ?_
      exact g_lret X hr dX12_draws_33 h
  · refine g_bipush 9 X dX12_draws_7 bpm2 rfl ?_
    refine g_nl 12 h (fun q e => r_S X cd_X12_198_X12_no ⟨rfl, rfl⟩ ⟨Nat.le_of_ble_eq_true rfl, Nat.le_of_ble_eq_true rfl⟩ (c_X12_no e) PC_blind (pn_pre X) rfl rfl (Nat.le_of_ble_eq_true rfl) dX12_draws_9) rfl (fun v7 h => ?_)
    exact g_lret X hr dX12_draws_12 h
set_option maxRecDepth 100000 in
theorem c_X12_draws {l : Launch} {D : va_G} {ks : Nat → ClassId} {A : Nat → Prop} {ad : Nat → Nat} (hD : ∀ μ : Mem, va_D A (wsM 24 ad (shR ks ad) μ)) {F : Nat} {μ : Mem} {x1 : Int32} {r : Int64 × Mem}  (h : f_X12_draws F μ x1 = some r) : Met l yX12_draws (Cond.code yX12_draws cX12_draws 2 (some .long) :: wg) rm_X12_draws (PC D ks 24 ad (shR ks ad) μ [.ref (ad 0), .int x1]) (QL D 24 ad (shR ks ad) A r) 0 0 A := by
  refine met_of (by decide) (Nat.le_of_ble_eq_true rfl) hD ?_
  intro p e s m args below meth c X hr
  exact G.sub [0, 1] rfl (b_X12_draws_0 X hr  _ _ h)
abbrev rm_X12_common : Room := { frames := 0, cells := 0, slots := 0, locals := 0 }
set_option maxRecDepth 100000 in
set_option maxHeartbeats 4000000 in
theorem b_X12_common_6 {p : Program} {l : Launch} {e : Env} {s : State} {m : MethodId} {args : Array Value} {below : List Frame} {meth : Method} {c : Code} {D : va_G} {ks : Nat → ClassId} (X : Cx p s m args meth c cX12_common 10 RX12 D ks (fun _ => False) 0 ad0 sh0) (hr : meth.sig.returnType = (some .long)) {F : Nat} {r : Int64} : ∀ n : Nat, ∀ (x4 : Int64) (x6 : Int64), f_X12_common_b6 F  n x4 x6 = some r → G p l e rm_X12_common s m args below meth c D (fun _ => False) 10 (MQ below (QNl D r) args s 0 0 (fun _ => False)) 0 ad0 sh0 μ0 6 [(4, .long x4), (6, .long x6)] [] := by
  intro n
  induction n with
  | zero =>
    intro _ _ h
    cases h
  | succ n ih =>
    intro x4 x6 h
    refine g_lload 8 X 1 dX12_common_6 rfl rfl ?_
    refine g_lconst 9 X dX12_common_8 lc0 rfl ?_
    refine g_lcmp 10 X dX12_common_9 rfl ?_
    refine g_if_eq 31 13 X dX12_common_10 (by decide) rfl h (fun h => ?_) (fun h => ?_)
    · refine g_lload 33 X 0 dX12_common_31 rfl rfl ?_
      exact gn_lret X hr dX12_common_33 h
    · refine g_lload 15 X 0 dX12_common_13 rfl rfl ?_
      refine g_lload 17 X 1 dX12_common_15 rfl rfl ?_
      refine g_lrem 18 X dX12_common_17 h rfl (fun h => ?_)
      refine g_topl h (fun v1 h => ?_)
      refine g_lstore 20 X dX12_common_18 (by decide) rfl ?_
      refine g_lload 22 X 2 dX12_common_20 rfl rfl ?_
      refine g_lstore 24 X dX12_common_22 (by decide) rfl ?_
      refine g_lload 26 X 1 dX12_common_24 rfl rfl ?_
      refine g_lstore 28 X dX12_common_26 (by decide) rfl ?_
      refine g_goto 6 X dX12_common_28 (by decide) ?_
      exact G.sub [1, 0] rfl (ih _ _ h)
set_option maxRecDepth 100000 in
set_option maxHeartbeats 4000000 in
theorem b_X12_common_0 {p : Program} {l : Launch} {e : Env} {s : State} {m : MethodId} {args : Array Value} {below : List Frame} {meth : Method} {c : Code} {D : va_G} {ks : Nat → ClassId} (X : Cx p s m args meth c cX12_common 10 RX12 D ks (fun _ => False) 0 ad0 sh0) (hr : meth.sig.returnType = (some .long)) {F : Nat} {r : Int64} (x0 : Int64) (x2 : Int64)  (h : f_X12_common F  x0 x2 = some r) : G p l e rm_X12_common s m args below meth c D (fun _ => False) 10 (MQ below (QNl D r) args s 0 0 (fun _ => False)) 0 ad0 sh0 μ0 0 [(0, .long x0), (2, .long x2)] [] := by
  refine g_lload_n 1 X 0 dX12_common_0 rfl rfl ?_
  refine g_lstore 3 X dX12_common_1 (by decide) rfl ?_
  refine g_lload_n 4 X 2 dX12_common_3 rfl rfl ?_
  refine g_lstore 6 X dX12_common_4 (by decide) rfl ?_
  exact G.sub [1, 0] rfl (b_X12_common_6 X hr  F _ _ h)
set_option maxRecDepth 100000 in
theorem c_X12_common {l : Launch} {D : va_G} {ks : Nat → ClassId} {F : Nat} {x0 : Int64} {x2 : Int64} {r : Int64}  (h : f_X12_common F x0 x2 = some r) : Met l yX12_common (Cond.code yX12_common cX12_common 10 (some .long) :: wg) rm_X12_common (PN D ks [.long x0, .long x2]) (QNl D r) 0 0 (fun _ => False) := by
  refine met_of (by decide) (Nat.le_of_ble_eq_true rfl) d0 ?_
  intro p e s m args below meth c X hr
  exact G.sub [0, 1] rfl (b_X12_common_0 X hr  _ _ h)
abbrev rm_X12_becomes : Room := { frames := 1, cells := 0, slots := 0, locals := 29 }
set_option maxRecDepth 100000 in
set_option maxHeartbeats 4000000 in
theorem b_X12_becomes_0 {p : Program} {l : Launch} {e : Env} {s : State} {m : MethodId} {args : Array Value} {below : List Frame} {meth : Method} {c : Code} {D : va_G} {ks : Nat → ClassId} {A : Nat → Prop} {ad : Nat → Nat} (X : Cx p s m args meth c cX12_becomes 7 RX12 D ks A 24 ad (shR ks ad)) (hr : meth.sig.returnType = none) {F : Nat} {r : Unit × Mem} (μ : Mem) (x1 : Int64) (x3 : Int64)  (h : f_X12_becomes F  μ x1 x3 = some r) : G p l e rm_X12_becomes s m args below meth c D A 7 (MQ below (QV D 24 ad (shR ks ad) A r) args s 0 0 A) 24 ad (shR ks ad) μ 0 [(0, .ref (ad 0)), (1, .long x1), (3, .long x3)] [] := by
  refine g_lload_n 1 X 1 dX12_becomes_0 rfl rfl ?_
  refine g_lload_n 2 X 2 dX12_becomes_1 rfl rfl ?_
  refine g_nl 5 h (fun q e => r_S X cd_X12_206_X12_common ⟨rfl, rfl⟩ ⟨Nat.le_of_ble_eq_true rfl, Nat.le_of_ble_eq_true rfl⟩ (c_X12_common e) PC_blind (pn_pre X) rfl rfl (Nat.le_of_ble_eq_true rfl) dX12_becomes_2) rfl (fun v1 h => ?_)
  refine g_lstore 7 X dX12_becomes_5 (by decide) rfl ?_
  refine g_aload_n 8 X 1 dX12_becomes_7 rfl rfl ?_
  refine g_lload_n 9 X 2 dX12_becomes_8 rfl rfl ?_
  refine g_lload 11 X 0 dX12_becomes_9 rfl rfl ?_
  refine g_ldiv 12 X dX12_becomes_11 h rfl (fun h => ?_)
  refine g_topl h (fun v2 h => ?_)
  refine g_putl 15 X fp_X12_210_12 (o12 rfl) rfl (Nat.le_of_ble_eq_true rfl) rfl rfl dX12_becomes_12 h rfl (fun μ3 h => ?_)
  refine g_aload_n 16 X 1 dX12_becomes_15 rfl rfl ?_
  refine g_lload_n 17 X 3 dX12_becomes_16 rfl rfl ?_
  refine g_lload 19 X 0 dX12_becomes_17 rfl rfl ?_
  refine g_ldiv 20 X dX12_becomes_19 h rfl (fun h => ?_)
  refine g_topl h (fun v4 h => ?_)
  refine g_putl 23 X fp_X12_214_12 (o12 rfl) rfl (Nat.le_of_ble_eq_true rfl) rfl rfl dX12_becomes_20 h rfl (fun μ5 h => ?_)
  exact g_vret X hr dX12_becomes_23 h
set_option maxRecDepth 100000 in
theorem c_X12_becomes {l : Launch} {D : va_G} {ks : Nat → ClassId} {A : Nat → Prop} {ad : Nat → Nat} (hD : ∀ μ : Mem, va_D A (wsM 24 ad (shR ks ad) μ)) {F : Nat} {μ : Mem} {x1 : Int64} {x3 : Int64} {r : Unit × Mem}  (h : f_X12_becomes F μ x1 x3 = some r) : Met l yX12_becomes (Cond.code yX12_becomes cX12_becomes 7 none :: wg) rm_X12_becomes (PC D ks 24 ad (shR ks ad) μ [.ref (ad 0), .long x1, .long x3]) (QV D 24 ad (shR ks ad) A r) 0 0 A := by
  refine met_of (by decide) (Nat.le_of_ble_eq_true rfl) hD ?_
  intro p e s m args below meth c X hr
  exact G.sub [0, 1, 2] rfl (b_X12_becomes_0 X hr  _ _ _ h)
abbrev rm_X12_drawOf : Room := { frames := 0, cells := 0, slots := 0, locals := 0 }
set_option maxRecDepth 100000 in
set_option maxHeartbeats 4000000 in
theorem b_X12_drawOf_128 {p : Program} {l : Launch} {e : Env} {s : State} {m : MethodId} {args : Array Value} {below : List Frame} {meth : Method} {c : Code} {D : va_G} {ks : Nat → ClassId} {A : Nat → Prop} {ad : Nat → Nat} (X : Cx p s m args meth c cX12_drawOf 7 RX12 D ks A 24 ad (shR ks ad)) (hr : meth.sig.returnType = (some .int)) {F : Nat} {r : Int32 × Mem} {k7 : Mem → Int32 → Int32 → Int32 → Int32 → Option (Int32 × Mem)} (hk7 : ∀ (μ : Mem) (x1 : Int32) (x2 : Int32) (x3 : Int32) (x4 : Int32), k7 μ x1 x2 x3 x4 = some r → G p l e rm_X12_drawOf s m args below meth c D A 7 (MQ below (QI D 24 ad (shR ks ad) A r) args s 0 0 A) 24 ad (shR ks ad) μ 7 [(0, .ref (ad 0)), (1, .int x1), (2, .int x2), (3, .int x3), (4, .int x4)] []) (μ : Mem) (x1 : Int32) (x2 : Int32) (x3 : Int32) (x4 : Int32)  (h : f_X12_drawOf_b128 F k7 μ x1 x2 x3 x4 = some r) : G p l e rm_X12_drawOf s m args below meth c D A 7 (MQ below (QI D 24 ad (shR ks ad) A r) args s 0 0 A) 24 ad (shR ks ad) μ 128 [(0, .ref (ad 0)), (1, .int x1), (2, .int x2), (3, .int x3), (4, .int x4)] [] := by
  refine g_iinc 131 X 4 dX12_drawOf_128 ic1 rfl (by decide) rfl ?_
  refine g_goto 7 X dX12_drawOf_131 (by decide) ?_
  exact G.sub [1, 2, 3, 4, 0] rfl (hk7 _ _ _ _ _ h)
set_option maxRecDepth 100000 in
set_option maxHeartbeats 4000000 in
theorem b_X12_drawOf_123 {p : Program} {l : Launch} {e : Env} {s : State} {m : MethodId} {args : Array Value} {below : List Frame} {meth : Method} {c : Code} {D : va_G} {ks : Nat → ClassId} {A : Nat → Prop} {ad : Nat → Nat} (X : Cx p s m args meth c cX12_drawOf 7 RX12 D ks A 24 ad (shR ks ad)) (hr : meth.sig.returnType = (some .int)) {F : Nat} {r : Int32 × Mem} {k7 : Mem → Int32 → Int32 → Int32 → Int32 → Option (Int32 × Mem)} (hk7 : ∀ (μ : Mem) (x1 : Int32) (x2 : Int32) (x3 : Int32) (x4 : Int32), k7 μ x1 x2 x3 x4 = some r → G p l e rm_X12_drawOf s m args below meth c D A 7 (MQ below (QI D 24 ad (shR ks ad) A r) args s 0 0 A) 24 ad (shR ks ad) μ 7 [(0, .ref (ad 0)), (1, .int x1), (2, .int x2), (3, .int x3), (4, .int x4)] []) (μ : Mem) (x1 : Int32) (x4 : Int32) (x5 : Int32) (z0 : Int32) (z1 : Int32)  (h : f_X12_drawOf_b123 F k7 μ x1 x4 x5 z0 z1 = some r) : G p l e rm_X12_drawOf s m args below meth c D A 7 (MQ below (QI D 24 ad (shR ks ad) A r) args s 0 0 A) 24 ad (shR ks ad) μ 123 [(0, .ref (ad 0)), (1, .int x1), (4, .int x4), (5, .int x5)] [.int z0, .int z1] := by
  refine g_ior 124 X dX12_drawOf_123 rfl ?_
  refine g_topi h (fun v1 h => ?_)
  refine g_istore_n 125 X dX12_drawOf_124 (by decide) rfl ?_
  refine g_iload 127 X 4 dX12_drawOf_125 rfl rfl ?_
  refine g_istore_n 128 X dX12_drawOf_127 (by decide) rfl ?_
  exact G.sub [2, 3, 1, 0, 4] rfl (b_X12_drawOf_128 X hr hk7 _ _ _ _ _ h)
set_option maxRecDepth 100000 in
set_option maxHeartbeats 4000000 in
theorem b_X12_drawOf_122 {p : Program} {l : Launch} {e : Env} {s : State} {m : MethodId} {args : Array Value} {below : List Frame} {meth : Method} {c : Code} {D : va_G} {ks : Nat → ClassId} {A : Nat → Prop} {ad : Nat → Nat} (X : Cx p s m args meth c cX12_drawOf 7 RX12 D ks A 24 ad (shR ks ad)) (hr : meth.sig.returnType = (some .int)) {F : Nat} {r : Int32 × Mem} {k7 : Mem → Int32 → Int32 → Int32 → Int32 → Option (Int32 × Mem)} (hk7 : ∀ (μ : Mem) (x1 : Int32) (x2 : Int32) (x3 : Int32) (x4 : Int32), k7 μ x1 x2 x3 x4 = some r → G p l e rm_X12_drawOf s m args below meth c D A 7 (MQ below (QI D 24 ad (shR ks ad) A r) args s 0 0 A) 24 ad (shR ks ad) μ 7 [(0, .ref (ad 0)), (1, .int x1), (2, .int x2), (3, .int x3), (4, .int x4)] []) (μ : Mem) (x1 : Int32) (x4 : Int32) (x5 : Int32) (z0 : Int32)  (h : f_X12_drawOf_b122 F k7 μ x1 x4 x5 z0 = some r) : G p l e rm_X12_drawOf s m args below meth c D A 7 (MQ below (QI D 24 ad (shR ks ad) A r) args s 0 0 A) 24 ad (shR ks ad) μ 122 [(0, .ref (ad 0)), (1, .int x1), (4, .int x4), (5, .int x5)] [.int z0] := by
  refine g_iconst 123 X dX12_drawOf_122 ic0 rfl ?_
  exact G.sub [0, 1, 2, 3] rfl (b_X12_drawOf_123 X hr hk7 _ _ _ _ _ _ h)
set_option maxRecDepth 100000 in
set_option maxHeartbeats 4000000 in
theorem b_X12_drawOf_87 {p : Program} {l : Launch} {e : Env} {s : State} {m : MethodId} {args : Array Value} {below : List Frame} {meth : Method} {c : Code} {D : va_G} {ks : Nat → ClassId} {A : Nat → Prop} {ad : Nat → Nat} (X : Cx p s m args meth c cX12_drawOf 7 RX12 D ks A 24 ad (shR ks ad)) (hr : meth.sig.returnType = (some .int)) {F : Nat} {r : Int32 × Mem} {k7 : Mem → Int32 → Int32 → Int32 → Int32 → Option (Int32 × Mem)} (hk7 : ∀ (μ : Mem) (x1 : Int32) (x2 : Int32) (x3 : Int32) (x4 : Int32), k7 μ x1 x2 x3 x4 = some r → G p l e rm_X12_drawOf s m args below meth c D A 7 (MQ below (QI D 24 ad (shR ks ad) A r) args s 0 0 A) 24 ad (shR ks ad) μ 7 [(0, .ref (ad 0)), (1, .int x1), (2, .int x2), (3, .int x3), (4, .int x4)] []) (μ : Mem) (x1 : Int32) (x2 : Int32) (x4 : Int32) (x5 : Int32) (z0 : Int32)  (h : f_X12_drawOf_b87 F k7 μ x1 x2 x4 x5 z0 = some r) : G p l e rm_X12_drawOf s m args below meth c D A 7 (MQ below (QI D 24 ad (shR ks ad) A r) args s 0 0 A) 24 ad (shR ks ad) μ 87 [(0, .ref (ad 0)), (1, .int x1), (2, .int x2), (4, .int x4), (5, .int x5)] [.int z0] := by
  refine g_istore 89 X dX12_drawOf_87 (by decide) rfl ?_
  refine g_iload_n 90 X 3 dX12_drawOf_89 rfl rfl ?_
  refine g_iload 92 X 0 dX12_drawOf_90 rfl rfl ?_
  refine g_aload_n 93 X 1 dX12_drawOf_92 rfl rfl ?_
  refine g_getr 96 X fl_X12_53_12 (o12 rfl) rfl dX12_drawOf_93 rfl ?_
  refine g_iconst 97 X dX12_drawOf_96 ic0 rfl ?_
  refine g_iald 98 X (aiR (n := 4) (by decide) rfl) dX12_drawOf_97 h rfl (fun v1 h => ?_)
  refine g_icmp_ge 122 101 X dX12_drawOf_98 (by decide) rfl h (fun h => ?_) (fun h => ?_)
  · exact G.sub [1, 2, 4, 5] rfl (b_X12_drawOf_122 X hr hk7 _ _ _ _ _ h)
  · refine g_iload_n 102 X 2 dX12_drawOf_101 rfl rfl ?_
    refine g_iload 104 X 0 dX12_drawOf_102 rfl rfl ?_
    refine g_aload_n 105 X 1 dX12_drawOf_104 rfl rfl ?_
    refine g_geti 108 X fl_X12_182_12 (o12 rfl) rfl dX12_drawOf_105 h rfl (fun v2 h => ?_)
    refine g_imul 109 X dX12_drawOf_108 rfl ?_
    refine g_iadd 110 X dX12_drawOf_109 rfl ?_
    refine g_iload 112 X 5 dX12_drawOf_110 rfl rfl ?_
    refine g_icmp_ge 122 115 X dX12_drawOf_112 (by decide) rfl h (fun h => ?_) (fun h => ?_)
    · exact G.sub [1, 2, 4, 5] rfl (b_X12_drawOf_122 X hr hk7 _ _ _ _ _ h)
    · refine g_iconst 116 X dX12_drawOf_115 ic1 rfl ?_
      refine g_iload 118 X 4 dX12_drawOf_116 rfl rfl ?_
      refine g_ishl 119 X dX12_drawOf_118 rfl ?_
      refine g_goto 123 X dX12_drawOf_119 (by decide) ?_
      exact G.sub [1, 2, 4, 5] rfl (b_X12_drawOf_123 X hr hk7 _ _ _ _ _ _ h)
set_option maxRecDepth 100000 in
set_option maxHeartbeats 4000000 in
theorem b_X12_drawOf_47 {p : Program} {l : Launch} {e : Env} {s : State} {m : MethodId} {args : Array Value} {below : List Frame} {meth : Method} {c : Code} {D : va_G} {ks : Nat → ClassId} {A : Nat → Prop} {ad : Nat → Nat} (X : Cx p s m args meth c cX12_drawOf 7 RX12 D ks A 24 ad (shR ks ad)) (hr : meth.sig.returnType = (some .int)) {F : Nat} {r : Int32 × Mem} {k7 : Mem → Int32 → Int32 → Int32 → Int32 → Option (Int32 × Mem)} (hk7 : ∀ (μ : Mem) (x1 : Int32) (x2 : Int32) (x3 : Int32) (x4 : Int32), k7 μ x1 x2 x3 x4 = some r → G p l e rm_X12_drawOf s m args below meth c D A 7 (MQ below (QI D 24 ad (shR ks ad) A r) args s 0 0 A) 24 ad (shR ks ad) μ 7 [(0, .ref (ad 0)), (1, .int x1), (2, .int x2), (3, .int x3), (4, .int x4)] []) (μ : Mem) (x1 : Int32) (x3 : Int32) (x4 : Int32) (z0 : Int32) (z1 : Int32)  (h : f_X12_drawOf_b47 F k7 μ x1 x3 x4 z0 z1 = some r) : G p l e rm_X12_drawOf s m args below meth c D A 7 (MQ below (QI D 24 ad (shR ks ad) A r) args s 0 0 A) 24 ad (shR ks ad) μ 47 [(0, .ref (ad 0)), (1, .int x1), (3, .int x3), (4, .int x4)] [.int z0, .int z1] := by
  refine g_ior 48 X dX12_drawOf_47 rfl ?_
  refine g_topi h (fun v1 h => ?_)
  refine g_istore_n 49 X dX12_drawOf_48 (by decide) rfl ?_
  refine g_goto 128 X dX12_drawOf_49 (by decide) ?_
  exact G.sub [1, 2, 0, 3, 4] rfl (b_X12_drawOf_128 X hr hk7 _ _ _ _ _ h)
set_option maxRecDepth 100000 in
set_option maxHeartbeats 4000000 in
theorem b_X12_drawOf_7 {p : Program} {l : Launch} {e : Env} {s : State} {m : MethodId} {args : Array Value} {below : List Frame} {meth : Method} {c : Code} {D : va_G} {ks : Nat → ClassId} {A : Nat → Prop} {ad : Nat → Nat} (X : Cx p s m args meth c cX12_drawOf 7 RX12 D ks A 24 ad (shR ks ad)) (hr : meth.sig.returnType = (some .int)) {F : Nat} {r : Int32 × Mem} : ∀ n : Nat, ∀ (μ : Mem) (x1 : Int32) (x2 : Int32) (x3 : Int32) (x4 : Int32), f_X12_drawOf_b7 F  n μ x1 x2 x3 x4 = some r → G p l e rm_X12_drawOf s m args below meth c D A 7 (MQ below (QI D 24 ad (shR ks ad) A r) args s 0 0 A) 24 ad (shR ks ad) μ 7 [(0, .ref (ad 0)), (1, .int x1), (2, .int x2), (3, .int x3), (4, .int x4)] [] := by
  intro n
  induction n with
  | zero =>
    intro _ _ _ _ _ h
    cases h
  | succ n ih =>
    intro μ x1 x2 x3 x4 h
    refine g_iload 9 X 4 dX12_drawOf_7 rfl rfl ?_
    refine g_aload_n 10 X 0 dX12_drawOf_9 rfl rfl ?_
    refine g_geti 13 X fl_X12_115_12 (o12 rfl) rfl dX12_drawOf_10 h rfl (fun v1 h => ?_)
    refine g_icmp_ge 134 16 X dX12_drawOf_13 (by decide) rfl h (fun h => ?_) (fun h => ?_)
    · refine g_iload_n 135 X 2 dX12_drawOf_134 rfl rfl ?_
      exact g_iret X hr dX12_drawOf_135 h
    · refine g_aload_n 17 X 0 dX12_drawOf_16 rfl rfl ?_
      refine g_geti 20 X fl_X12_166_12 (o12 rfl) rfl dX12_drawOf_17 h rfl (fun v2 h => ?_)
      refine g_bipush 22 X dX12_drawOf_20 bp101 rfl ?_
      refine g_icmp_ne 52 25 X dX12_drawOf_22 (by decide) rfl h (fun h => ?_) (fun h => ?_)
      · refine g_iload_n 53 X 3 dX12_drawOf_52 rfl rfl ?_
        refine g_aload_n 54 X 0 dX12_drawOf_53 rfl rfl ?_
        refine g_getr 57 X fl_X12_28_12 (o12 rfl) rfl dX12_drawOf_54 rfl ?_
        refine g_iload 59 X 4 dX12_drawOf_57 rfl rfl ?_
        refine g_iald 60 X (aiR (n := 30) (by decide) rfl) dX12_drawOf_59 h rfl (fun v3 h => ?_)
        refine g_iadd 61 X dX12_drawOf_60 rfl ?_
        refine g_topi h (fun v4 h => ?_)
        refine g_istore 63 X dX12_drawOf_61 (by decide) rfl ?_
        refine g_iload_n 64 X 4 dX12_drawOf_63 rfl rfl ?_
        refine g_iload_n 65 X 2 dX12_drawOf_64 rfl rfl ?_
        refine g_icmp_gt 72 68 X dX12_drawOf_65 (by decide) rfl h (fun h => ?_) (fun h => ?_)
        · refine g_iload_n 73 X 4 dX12_drawOf_72 rfl rfl ?_
          refine g_iload_n 74 X 2 dX12_drawOf_73 rfl rfl ?_
          refine g_isub 75 X dX12_drawOf_74 rfl ?_
          refine g_aload_n 76 X 1 dX12_drawOf_75 rfl rfl ?_
          refine g_geti 79 X fl_X12_182_12 (o12 rfl) rfl dX12_drawOf_76 h rfl (fun v5 h => ?_)
          refine g_iadd 80 X dX12_drawOf_79 rfl ?_
          refine g_iconst 81 X dX12_drawOf_80 ic1 rfl ?_
          refine g_isub 82 X dX12_drawOf_81 rfl ?_
          refine g_aload_n 83 X 1 dX12_drawOf_82 rfl rfl ?_
          refine g_geti 86 X fl_X12_182_12 (o12 rfl) rfl dX12_drawOf_83 h rfl (fun v6 h => ?_)
          refine g_idiv 87 X dX12_drawOf_86 h rfl (fun h => ?_)
          refine g_topi h (fun v7 h => ?_)
          exact G.sub [1, 2, 3, 5, 0] rfl (b_X12_drawOf_87 X hr ih _ _ _ _ _ _ h)
        · refine g_iconst 69 X dX12_drawOf_68 ic0 rfl ?_
          refine g_goto 87 X dX12_drawOf_69 (by decide) ?_
          exact G.sub [1, 2, 3, 5, 0] rfl (b_X12_drawOf_87 X hr ih _ _ _ _ _ _ h)
      · refine g_iload_n 26 X 2 dX12_drawOf_25 rfl rfl ?_
        refine g_iload 28 X 4 dX12_drawOf_26 rfl rfl ?_
        refine g_aload_n 29 X 0 dX12_drawOf_28 rfl rfl ?_
        refine g_getr 32 X fl_X12_53_12 (o12 rfl) rfl dX12_drawOf_29 rfl ?_
        refine g_iconst 33 X dX12_drawOf_32 ic0 rfl ?_
        refine g_iald 34 X (aiR (n := 4) (by decide) rfl) dX12_drawOf_33 h rfl (fun v8 h => ?_)
        refine g_irem 35 X dX12_drawOf_34 h rfl (fun h => ?_)
        refine g_topi h (fun v9 h => ?_)
        refine g_iload_n 36 X 1 dX12_drawOf_35 rfl rfl ?_
        refine g_icmp_ne 46 39 X dX12_drawOf_36 (by decide) rfl h (fun h => ?_) (fun h => ?_)
        · refine g_iconst 47 X dX12_drawOf_46 ic0 rfl ?_
          exact G.sub [0, 1, 3, 4] rfl (b_X12_drawOf_47 X hr ih _ _ _ _ _ _ h)
        · refine g_iconst 40 X dX12_drawOf_39 ic1 rfl ?_
          refine g_iload 42 X 4 dX12_drawOf_40 rfl rfl ?_
          refine g_ishl 43 X dX12_drawOf_42 rfl ?_
          refine g_goto 47 X dX12_drawOf_43 (by decide) ?_
          exact G.sub [0, 1, 3, 4] rfl (b_X12_drawOf_47 X hr ih _ _ _ _ _ _ h)
set_option maxRecDepth 100000 in
set_option maxHeartbeats 4000000 in
theorem b_X12_drawOf_0 {p : Program} {l : Launch} {e : Env} {s : State} {m : MethodId} {args : Array Value} {below : List Frame} {meth : Method} {c : Code} {D : va_G} {ks : Nat → ClassId} {A : Nat → Prop} {ad : Nat → Nat} (X : Cx p s m args meth c cX12_drawOf 7 RX12 D ks A 24 ad (shR ks ad)) (hr : meth.sig.returnType = (some .int)) {F : Nat} {r : Int32 × Mem} (μ : Mem) (x1 : Int32)  (h : f_X12_drawOf F  μ x1 = some r) : G p l e rm_X12_drawOf s m args below meth c D A 7 (MQ below (QI D 24 ad (shR ks ad) A r) args s 0 0 A) 24 ad (shR ks ad) μ 0 [(0, .ref (ad 0)), (1, .int x1)] [] := by
  refine g_iconst 1 X dX12_drawOf_0 ic0 rfl ?_
  refine g_istore_n 2 X dX12_drawOf_1 (by decide) rfl ?_
  refine g_iconst 3 X dX12_drawOf_2 ic0 rfl ?_
  refine g_istore_n 4 X dX12_drawOf_3 (by decide) rfl ?_
  refine g_iconst 5 X dX12_drawOf_4 ic0 rfl ?_
  refine g_istore 7 X dX12_drawOf_5 (by decide) rfl ?_
  exact G.sub [3, 4, 2, 1, 0] rfl (b_X12_drawOf_7 X hr  F _ _ _ _ _ h)
set_option maxRecDepth 100000 in
theorem c_X12_drawOf {l : Launch} {D : va_G} {ks : Nat → ClassId} {A : Nat → Prop} {ad : Nat → Nat} (hD : ∀ μ : Mem, va_D A (wsM 24 ad (shR ks ad) μ)) {F : Nat} {μ : Mem} {x1 : Int32} {r : Int32 × Mem}  (h : f_X12_drawOf F μ x1 = some r) : Met l yX12_drawOf (Cond.code yX12_drawOf cX12_drawOf 7 (some .int) :: wg) rm_X12_drawOf (PC D ks 24 ad (shR ks ad) μ [.ref (ad 0), .int x1]) (QI D 24 ad (shR ks ad) A r) 0 0 A := by
  refine met_of (by decide) (Nat.le_of_ble_eq_true rfl) hD ?_
  intro p e s m args below meth c X hr
  exact G.sub [0, 1] rfl (b_X12_drawOf_0 X hr  _ _ h)
abbrev rm_X12_goesRound : Room := { frames := 0, cells := 0, slots := 0, locals := 0 }
set_option maxRecDepth 100000 in
set_option maxHeartbeats 4000000 in
theorem b_X12_goesRound_18 {p : Program} {l : Launch} {e : Env} {s : State} {m : MethodId} {args : Array Value} {below : List Frame} {meth : Method} {c : Code} {D : va_G} {ks : Nat → ClassId} {A : Nat → Prop} {ad : Nat → Nat} (X : Cx p s m args meth c cX12_goesRound 1 RX12 D ks A 24 ad (shR ks ad)) (hr : meth.sig.returnType = (some .boolean)) {F : Nat} {r : Int32 × Mem} (μ : Mem)  (h : f_X12_goesRound_b18 F  μ = some r) : G p l e rm_X12_goesRound s m args below meth c D A 1 (MQ below (QI D 24 ad (shR ks ad) A r) args s 0 0 A) 24 ad (shR ks ad) μ 18 [] [] := by
  refine g_iconst 19 X dX12_goesRound_18 ic1 rfl ?_
  refine g_goto 23 X dX12_goesRound_19 (by decide) ?_
  exact g_zret X hr nb1 dX12_goesRound_23 h
set_option maxRecDepth 100000 in
set_option maxHeartbeats 4000000 in
theorem b_X12_goesRound_0 {p : Program} {l : Launch} {e : Env} {s : State} {m : MethodId} {args : Array Value} {below : List Frame} {meth : Method} {c : Code} {D : va_G} {ks : Nat → ClassId} {A : Nat → Prop} {ad : Nat → Nat} (X : Cx p s m args meth c cX12_goesRound 1 RX12 D ks A 24 ad (shR ks ad)) (hr : meth.sig.returnType = (some .boolean)) {F : Nat} {r : Int32 × Mem} (μ : Mem)  (h : f_X12_goesRound F  μ = some r) : G p l e rm_X12_goesRound s m args below meth c D A 1 (MQ below (QI D 24 ad (shR ks ad) A r) args s 0 0 A) 24 ad (shR ks ad) μ 0 [(0, .ref (ad 0))] [] := by
  refine g_aload_n 1 X 0 dX12_goesRound_0 rfl rfl ?_
  refine g_geti 4 X fl_X12_166_12 (o12 rfl) rfl dX12_goesRound_1 h rfl (fun v1 h => ?_)
  refine g_bipush 6 X dX12_goesRound_4 bp101 rfl ?_
  refine g_icmp_eq 18 9 X dX12_goesRound_6 (by decide) rfl h (fun h => ?_) (fun h => ?_)
  · exact G.sub [] rfl (b_X12_goesRound_18 X hr  _ h)
  · refine g_aload_n 10 X 0 dX12_goesRound_9 rfl rfl ?_
    refine g_geti 13 X fl_X12_166_12 (o12 rfl) rfl dX12_goesRound_10 h rfl (fun v2 h => ?_)
    refine g_bipush 15 X dX12_goesRound_13 bp122 rfl ?_
    refine g_icmp_ne 22 18 X dX12_goesRound_15 (by decide) rfl h (fun h => ?_) (fun h => ?_)
    · refine g_iconst 23 X dX12_goesRound_22 ic0 rfl ?_
      exact g_zret X hr nb0 dX12_goesRound_23 h
    · exact G.sub [] rfl (b_X12_goesRound_18 X hr  _ h)
set_option maxRecDepth 100000 in
theorem c_X12_goesRound {l : Launch} {D : va_G} {ks : Nat → ClassId} {A : Nat → Prop} {ad : Nat → Nat} (hD : ∀ μ : Mem, va_D A (wsM 24 ad (shR ks ad) μ)) {F : Nat} {μ : Mem} {r : Int32 × Mem}  (h : f_X12_goesRound F μ = some r) : Met l yX12_goesRound (Cond.code yX12_goesRound cX12_goesRound 1 (some .boolean) :: wg) rm_X12_goesRound (PC D ks 24 ad (shR ks ad) μ [.ref (ad 0)]) (QI D 24 ad (shR ks ad) A r) 0 0 A := by
  refine met_of (by decide) (Nat.le_of_ble_eq_true rfl) hD ?_
  intro p e s m args below meth c X hr
  exact G.sub [0] rfl (b_X12_goesRound_0 X hr  _ h)
abbrev rm_X12_waysWith : Room := { frames := 3, cells := 0, slots := 0, locals := 69 }
set_option maxRecDepth 100000 in
set_option maxHeartbeats 4000000 in
theorem b_X12_waysWith_35 {p : Program} {l : Launch} {e : Env} {s : State} {m : MethodId} {args : Array Value} {below : List Frame} {meth : Method} {c : Code} {D : va_G} {ks : Nat → ClassId} {A : Nat → Prop} {ad : Nat → Nat} (X : Cx p s m args meth c cX12_waysWith 5 RX12 D ks A 24 ad (shR ks ad)) (hr : meth.sig.returnType = (some .int)) {F : Nat} {r : Int32 × Mem} {k11 : Mem → Int32 → Int32 → Int32 → Int32 → Option (Int32 × Mem)} (hk11 : ∀ (μ : Mem) (x1 : Int32) (x2 : Int32) (x3 : Int32) (x4 : Int32), k11 μ x1 x2 x3 x4 = some r → G p l e rm_X12_waysWith s m args below meth c D A 5 (MQ below (QI D 24 ad (shR ks ad) A r) args s 0 0 A) 24 ad (shR ks ad) μ 11 [(0, .ref (ad 0)), (1, .int x1), (2, .int x2), (3, .int x3), (4, .int x4)] []) (μ : Mem) (x1 : Int32) (x3 : Int32) (x4 : Int32) (z0 : Int32) (z1 : Int32)  (h : f_X12_waysWith_b35 F k11 μ x1 x3 x4 z0 z1 = some r) : G p l e rm_X12_waysWith s m args below meth c D A 5 (MQ below (QI D 24 ad (shR ks ad) A r) args s 0 0 A) 24 ad (shR ks ad) μ 35 [(0, .ref (ad 0)), (1, .int x1), (3, .int x3), (4, .int x4)] [.int z0, .int z1] := by
  refine g_iadd 36 X dX12_waysWith_35 rfl ?_
  refine g_topi h (fun v1 h => ?_)
  refine g_istore_n 37 X dX12_waysWith_36 (by decide) rfl ?_
  refine g_iinc 40 X 4 dX12_waysWith_37 ic1 rfl (by decide) rfl ?_
  refine g_goto 11 X dX12_waysWith_40 (by decide) ?_
  exact G.sub [2, 3, 1, 4, 0] rfl (hk11 _ _ _ _ _ h)
set_option maxRecDepth 100000 in
set_option maxHeartbeats 4000000 in
theorem b_X12_waysWith_11 {p : Program} {l : Launch} {e : Env} {s : State} {m : MethodId} {args : Array Value} {below : List Frame} {meth : Method} {c : Code} {D : va_G} {ks : Nat → ClassId} {A : Nat → Prop} {ad : Nat → Nat} (X : Cx p s m args meth c cX12_waysWith 5 RX12 D ks A 24 ad (shR ks ad)) (hr : meth.sig.returnType = (some .int)) {F : Nat} {r : Int32 × Mem} : ∀ n : Nat, ∀ (μ : Mem) (x1 : Int32) (x2 : Int32) (x3 : Int32) (x4 : Int32), f_X12_waysWith_b11 F  n μ x1 x2 x3 x4 = some r → G p l e rm_X12_waysWith s m args below meth c D A 5 (MQ below (QI D 24 ad (shR ks ad) A r) args s 0 0 A) 24 ad (shR ks ad) μ 11 [(0, .ref (ad 0)), (1, .int x1), (2, .int x2), (3, .int x3), (4, .int x4)] [] := by
  intro n
  induction n with
  | zero =>
    intro _ _ _ _ _ h
    cases h
  | succ n ih =>
    intro μ x1 x2 x3 x4 h
    refine g_iload 13 X 4 dX12_waysWith_11 rfl rfl ?_
    refine g_iload_n 14 X 3 dX12_waysWith_13 rfl rfl ?_
    refine g_icmp_ge 43 17 X dX12_waysWith_14 (by decide) rfl h (fun h => ?_) (fun h => ?_)
    · refine g_iload_n 44 X 2 dX12_waysWith_43 rfl rfl ?_
      exact g_iret X hr dX12_waysWith_44 h
    · refine g_iload_n 18 X 2 dX12_waysWith_17 rfl rfl ?_
      refine g_aload_n 19 X 0 dX12_waysWith_18 rfl rfl ?_
      refine g_iload 21 X 4 dX12_waysWith_19 rfl rfl ?_
      refine g_ci 24 h (fun q e => r_V X cd_X12_217_X12_drawOf_X12 ⟨rfl, rfl⟩ ⟨Nat.le_of_ble_eq_true rfl, Nat.le_of_ble_eq_true rfl⟩ (c_X12_drawOf X.2.2.2.2  e) PC_blind (pc_pre X) (g_recv X (o12 rfl) rfl) rfl rfl (Nat.le_of_ble_eq_true rfl) dX12_waysWith_21) rfl (fun v1 μ2 h => ?_)
      refine g_iload_n 25 X 1 dX12_waysWith_24 rfl rfl ?_
      refine g_iand 26 X dX12_waysWith_25 rfl ?_
      refine g_iload_n 27 X 1 dX12_waysWith_26 rfl rfl ?_
      refine g_icmp_ne 34 30 X dX12_waysWith_27 (by decide) rfl h (fun h => ?_) (fun h => ?_)
      · refine g_iconst 35 X dX12_waysWith_34 ic0 rfl ?_
        exact G.sub [0, 1, 3, 4] rfl (b_X12_waysWith_35 X hr ih _ _ _ _ _ _ h)
      · refine g_iconst 31 X dX12_waysWith_30 ic1 rfl ?_
        refine g_goto 35 X dX12_waysWith_31 (by decide) ?_
        exact G.sub [0, 1, 3, 4] rfl (b_X12_waysWith_35 X hr ih _ _ _ _ _ _ h)
set_option maxRecDepth 100000 in
set_option maxHeartbeats 4000000 in
theorem b_X12_waysWith_0 {p : Program} {l : Launch} {e : Env} {s : State} {m : MethodId} {args : Array Value} {below : List Frame} {meth : Method} {c : Code} {D : va_G} {ks : Nat → ClassId} {A : Nat → Prop} {ad : Nat → Nat} (X : Cx p s m args meth c cX12_waysWith 5 RX12 D ks A 24 ad (shR ks ad)) (hr : meth.sig.returnType = (some .int)) {F : Nat} {r : Int32 × Mem} (μ : Mem) (x1 : Int32)  (h : f_X12_waysWith F  μ x1 = some r) : G p l e rm_X12_waysWith s m args below meth c D A 5 (MQ below (QI D 24 ad (shR ks ad) A r) args s 0 0 A) 24 ad (shR ks ad) μ 0 [(0, .ref (ad 0)), (1, .int x1)] [] := by
  refine g_iconst 1 X dX12_waysWith_0 ic0 rfl ?_
  refine g_istore_n 2 X dX12_waysWith_1 (by decide) rfl ?_
  refine g_aload_n 3 X 1 dX12_waysWith_2 rfl rfl ?_
  refine g_cl 6 h (fun q e => r_V X cd_X12_202_X12_drawsNow_X12 ⟨rfl, rfl⟩ ⟨Nat.le_of_ble_eq_true rfl, Nat.le_of_ble_eq_true rfl⟩ (c_X12_drawsNow X.2.2.2.2  e) PC_blind (pc_pre X) (g_recv X (o12 rfl) rfl) rfl rfl (Nat.le_of_ble_eq_true rfl) dX12_waysWith_3) rfl (fun v1 μ2 h => ?_)
  refine g_l2i 7 X dX12_waysWith_6 rfl ?_
  refine g_topi h (fun v3 h => ?_)
  refine g_istore_n 8 X dX12_waysWith_7 (by decide) rfl ?_
  refine g_iconst 9 X dX12_waysWith_8 ic0 rfl ?_
  refine g_istore 11 X dX12_waysWith_9 (by decide) rfl ?_
  exact G.sub [3, 4, 2, 1, 0] rfl (b_X12_waysWith_11 X hr  F _ _ _ _ _ h)
set_option maxRecDepth 100000 in
theorem c_X12_waysWith {l : Launch} {D : va_G} {ks : Nat → ClassId} {A : Nat → Prop} {ad : Nat → Nat} (hD : ∀ μ : Mem, va_D A (wsM 24 ad (shR ks ad) μ)) {F : Nat} {μ : Mem} {x1 : Int32} {r : Int32 × Mem}  (h : f_X12_waysWith F μ x1 = some r) : Met l yX12_waysWith (Cond.code yX12_waysWith cX12_waysWith 5 (some .int) :: wg) rm_X12_waysWith (PC D ks 24 ad (shR ks ad) μ [.ref (ad 0), .int x1]) (QI D 24 ad (shR ks ad) A r) 0 0 A := by
  refine met_of (by decide) (Nat.le_of_ble_eq_true rfl) hD ?_
  intro p e s m args below meth c X hr
  exact G.sub [0, 1] rfl (b_X12_waysWith_0 X hr  _ _ h)
abbrev rm_X12_waysOf : Room := { frames := 3, cells := 0, slots := 0, locals := 69 }
set_option maxRecDepth 100000 in
set_option maxHeartbeats 4000000 in
theorem b_X12_waysOf_94 {p : Program} {l : Launch} {e : Env} {s : State} {m : MethodId} {args : Array Value} {below : List Frame} {meth : Method} {c : Code} {D : va_G} {ks : Nat → ClassId} {A : Nat → Prop} {ad : Nat → Nat} (X : Cx p s m args meth c cX12_waysOf 6 RX12 D ks A 24 ad (shR ks ad)) (hr : meth.sig.returnType = (some .int)) {F : Nat} {r : Int32 × Mem} (μ : Mem) (x1 : Int32)  (h : f_X12_waysOf_b94 F  μ x1 = some r) : G p l e rm_X12_waysOf s m args below meth c D A 6 (MQ below (QI D 24 ad (shR ks ad) A r) args s 0 0 A) 24 ad (shR ks ad) μ 94 [(0, .ref (ad 0)), (1, .int x1)] [] := by
  refine g_aload_n 95 X 0 dX12_waysOf_94 rfl rfl ?_
  refine g_getr 98 X fl_X12_56_12 (o12 rfl) rfl dX12_waysOf_95 rfl ?_
  refine g_iload_n 99 X 1 dX12_waysOf_98 rfl rfl ?_
  refine g_iald 100 X (aiR (n := 30) (by decide) rfl) dX12_waysOf_99 h rfl (fun v1 h => ?_)
  exact g_iret X hr dX12_waysOf_100 h
set_option maxRecDepth 100000 in
set_option maxHeartbeats 4000000 in
theorem b_X12_waysOf_56 {p : Program} {l : Launch} {e : Env} {s : State} {m : MethodId} {args : Array Value} {below : List Frame} {meth : Method} {c : Code} {D : va_G} {ks : Nat → ClassId} {A : Nat → Prop} {ad : Nat → Nat} (X : Cx p s m args meth c cX12_waysOf 6 RX12 D ks A 24 ad (shR ks ad)) (hr : meth.sig.returnType = (some .int)) {F : Nat} {r : Int32 × Mem} {k41 : Mem → Int32 → Int32 → Int32 → Option (Int32 × Mem)} (hk41 : ∀ (μ : Mem) (x1 : Int32) (x2 : Int32) (x3 : Int32), k41 μ x1 x2 x3 = some r → G p l e rm_X12_waysOf s m args below meth c D A 6 (MQ below (QI D 24 ad (shR ks ad) A r) args s 0 0 A) 24 ad (shR ks ad) μ 41 [(0, .ref (ad 0)), (1, .int x1), (2, .int x2), (3, .int x3)] []) : ∀ n : Nat, ∀ (μ : Mem) (x1 : Int32) (x2 : Int32) (x3 : Int32) (x4 : Int32) (x5 : Int32), f_X12_waysOf_b56 F k41 n μ x1 x2 x3 x4 x5 = some r → G p l e rm_X12_waysOf s m args below meth c D A 6 (MQ below (QI D 24 ad (shR ks ad) A r) args s 0 0 A) 24 ad (shR ks ad) μ 56 [(0, .ref (ad 0)), (1, .int x1), (2, .int x2), (3, .int x3), (4, .int x4), (5, .int x5)] [] := by
  intro n
  induction n with
  | zero =>
    intro _ _ _ _ _ _ h
    cases h
  | succ n ih =>
    intro μ x1 x2 x3 x4 x5 h
    refine g_iload 58 X 5 dX12_waysOf_56 rfl rfl ?_
    refine g_aload_n 59 X 0 dX12_waysOf_58 rfl rfl ?_
    refine g_geti 62 X fl_X12_115_12 (o12 rfl) rfl dX12_waysOf_59 h rfl (fun v1 h => ?_)
    refine g_icmp_ge 88 65 X dX12_waysOf_62 (by decide) rfl h (fun h => ?_) (fun h => ?_)
    · refine g_iinc 91 X 3 dX12_waysOf_88 ic1 rfl (by decide) rfl ?_
      refine g_goto 41 X dX12_waysOf_91 (by decide) ?_
      exact G.sub [1, 2, 3, 0] rfl (hk41 _ _ _ _ h)
    · refine g_aload_n 66 X 0 dX12_waysOf_65 rfl rfl ?_
      refine g_getr 69 X fl_X12_56_12 (o12 rfl) rfl dX12_waysOf_66 rfl ?_
      refine g_iload 71 X 5 dX12_waysOf_69 rfl rfl ?_
      refine g_dup2 72 X dX12_waysOf_71 rfl rfl rfl ?_
      refine g_iald 73 X (aiR (n := 30) (by decide) rfl) dX12_waysOf_72 h rfl (fun v2 h => ?_)
      refine g_iload 75 X 4 dX12_waysOf_73 rfl rfl ?_
      refine g_iload 77 X 5 dX12_waysOf_75 rfl rfl ?_
      refine g_ishr 78 X dX12_waysOf_77 rfl ?_
      refine g_iconst 79 X dX12_waysOf_78 ic1 rfl ?_
      refine g_iand 80 X dX12_waysOf_79 rfl ?_
      refine g_iadd 81 X dX12_waysOf_80 rfl ?_
      refine g_iast 82 X (aiR (n := 30) (by decide) rfl) dX12_waysOf_81 h rfl (fun μ3 h => ?_)
      refine g_iinc 85 X 5 dX12_waysOf_82 ic1 rfl (by decide) rfl ?_
      refine g_goto 56 X dX12_waysOf_85 (by decide) ?_
      exact G.sub [1, 2, 3, 4, 5, 0] rfl (ih _ _ _ _ _ _ h)
set_option maxRecDepth 100000 in
set_option maxHeartbeats 4000000 in
theorem b_X12_waysOf_41 {p : Program} {l : Launch} {e : Env} {s : State} {m : MethodId} {args : Array Value} {below : List Frame} {meth : Method} {c : Code} {D : va_G} {ks : Nat → ClassId} {A : Nat → Prop} {ad : Nat → Nat} (X : Cx p s m args meth c cX12_waysOf 6 RX12 D ks A 24 ad (shR ks ad)) (hr : meth.sig.returnType = (some .int)) {F : Nat} {r : Int32 × Mem} : ∀ n : Nat, ∀ (μ : Mem) (x1 : Int32) (x2 : Int32) (x3 : Int32), f_X12_waysOf_b41 F  n μ x1 x2 x3 = some r → G p l e rm_X12_waysOf s m args below meth c D A 6 (MQ below (QI D 24 ad (shR ks ad) A r) args s 0 0 A) 24 ad (shR ks ad) μ 41 [(0, .ref (ad 0)), (1, .int x1), (2, .int x2), (3, .int x3)] [] := by
  intro n
  induction n with
  | zero =>
    intro _ _ _ _ h
    cases h
  | succ n ih =>
    intro μ x1 x2 x3 h
    refine g_iload_n 42 X 3 dX12_waysOf_41 rfl rfl ?_
    refine g_iload_n 43 X 2 dX12_waysOf_42 rfl rfl ?_
    refine g_icmp_ge 94 46 X dX12_waysOf_43 (by decide) rfl h (fun h => ?_) (fun h => ?_)
    · exact G.sub [0, 1] rfl (b_X12_waysOf_94 X hr  _ _ h)
    · refine g_aload_n 47 X 0 dX12_waysOf_46 rfl rfl ?_
      refine g_iload_n 48 X 3 dX12_waysOf_47 rfl rfl ?_
      refine g_ci 51 h (fun q e => r_V X cd_X12_217_X12_drawOf_X12 ⟨rfl, rfl⟩ ⟨Nat.le_of_ble_eq_true rfl, Nat.le_of_ble_eq_true rfl⟩ (c_X12_drawOf X.2.2.2.2  e) PC_blind (pc_pre X) (g_recv X (o12 rfl) rfl) rfl rfl (Nat.le_of_ble_eq_true rfl) dX12_waysOf_48) rfl (fun v1 μ2 h => ?_)
      refine g_istore 53 X dX12_waysOf_51 (by decide) rfl ?_
      refine g_iconst 54 X dX12_waysOf_53 ic0 rfl ?_
      refine g_istore 56 X dX12_waysOf_54 (by decide) rfl ?_
      exact G.sub [2, 3, 4, 5, 1, 0] rfl (b_X12_waysOf_56 X hr ih F _ _ _ _ _ _ h)
set_option maxRecDepth 100000 in
set_option maxHeartbeats 4000000 in
theorem b_X12_waysOf_14 {p : Program} {l : Launch} {e : Env} {s : State} {m : MethodId} {args : Array Value} {below : List Frame} {meth : Method} {c : Code} {D : va_G} {ks : Nat → ClassId} {A : Nat → Prop} {ad : Nat → Nat} (X : Cx p s m args meth c cX12_waysOf 6 RX12 D ks A 24 ad (shR ks ad)) (hr : meth.sig.returnType = (some .int)) {F : Nat} {r : Int32 × Mem} : ∀ n : Nat, ∀ (μ : Mem) (x1 : Int32) (x2 : Int32), f_X12_waysOf_b14 F  n μ x1 x2 = some r → G p l e rm_X12_waysOf s m args below meth c D A 6 (MQ below (QI D 24 ad (shR ks ad) A r) args s 0 0 A) 24 ad (shR ks ad) μ 14 [(0, .ref (ad 0)), (1, .int x1), (2, .int x2)] [] := by
  intro n
  induction n with
  | zero =>
    intro _ _ _ h
    cases h
  | succ n ih =>
    intro μ x1 x2 h
    refine g_iload_n 15 X 2 dX12_waysOf_14 rfl rfl ?_
    refine g_bipush 17 X dX12_waysOf_15 bp30 rfl ?_
    refine g_icmp_ge 33 20 X dX12_waysOf_17 (by decide) rfl h (fun h => ?_) (fun h => ?_)
    · refine g_aload_n 34 X 0 dX12_waysOf_33 rfl rfl ?_
      refine g_cl 37 h (fun q e => r_V X cd_X12_202_X12_drawsNow_X12 ⟨rfl, rfl⟩ ⟨Nat.le_of_ble_eq_true rfl, Nat.le_of_ble_eq_true rfl⟩ (c_X12_drawsNow X.2.2.2.2  e) PC_blind (pc_pre X) (g_recv X (o12 rfl) rfl) rfl rfl (Nat.le_of_ble_eq_true rfl) dX12_waysOf_34) rfl (fun v1 μ2 h => ?_)
      refine g_l2i 38 X dX12_waysOf_37 rfl ?_
      refine g_topi h (fun v3 h => ?_)
      refine g_istore_n 39 X dX12_waysOf_38 (by decide) rfl ?_
      refine g_iconst 40 X dX12_waysOf_39 ic0 rfl ?_
      refine g_istore_n 41 X dX12_waysOf_40 (by decide) rfl ?_
      exact G.sub [2, 3, 1, 0] rfl (b_X12_waysOf_41 X hr  F _ _ _ _ h)
    · refine g_aload_n 21 X 0 dX12_waysOf_20 rfl rfl ?_
      refine g_getr 24 X fl_X12_56_12 (o12 rfl) rfl dX12_waysOf_21 rfl ?_
      refine g_iload_n 25 X 2 dX12_waysOf_24 rfl rfl ?_
      refine g_iconst 26 X dX12_waysOf_25 ic0 rfl ?_
      refine g_iast 27 X (aiR (n := 30) (by decide) rfl) dX12_waysOf_26 h rfl (fun μ4 h => ?_)
      refine g_iinc 30 X 2 dX12_waysOf_27 ic1 rfl (by decide) rfl ?_
      refine g_goto 14 X dX12_waysOf_30 (by decide) ?_
      exact G.sub [1, 2, 0] rfl (ih _ _ _ h)
set_option maxRecDepth 100000 in
set_option maxHeartbeats 4000000 in
theorem b_X12_waysOf_0 {p : Program} {l : Launch} {e : Env} {s : State} {m : MethodId} {args : Array Value} {below : List Frame} {meth : Method} {c : Code} {D : va_G} {ks : Nat → ClassId} {A : Nat → Prop} {ad : Nat → Nat} (X : Cx p s m args meth c cX12_waysOf 6 RX12 D ks A 24 ad (shR ks ad)) (hr : meth.sig.returnType = (some .int)) {F : Nat} {r : Int32 × Mem} (μ : Mem) (x1 : Int32)  (h : f_X12_waysOf F  μ x1 = some r) : G p l e rm_X12_waysOf s m args below meth c D A 6 (MQ below (QI D 24 ad (shR ks ad) A r) args s 0 0 A) 24 ad (shR ks ad) μ 0 [(0, .ref (ad 0)), (1, .int x1)] [] := by
  refine g_aload_n 1 X 0 dX12_waysOf_0 rfl rfl ?_
  refine g_geti 4 X fl_X12_162_12 (o12 rfl) rfl dX12_waysOf_1 h rfl (fun v1 h => ?_)
  refine g_if_ne 94 7 X dX12_waysOf_4 (by decide) rfl h (fun h => ?_) (fun h => ?_)
  · exact G.sub [0, 1] rfl (b_X12_waysOf_94 X hr  _ _ h)
  · refine g_aload_n 8 X 0 dX12_waysOf_7 rfl rfl ?_
    refine g_iconst 9 X dX12_waysOf_8 ic1 rfl ?_
    refine g_puti 12 X fp_X12_162_12 (o12 rfl) rfl (Nat.le_of_ble_eq_true rfl) nb1 fb1 dX12_waysOf_9 h rfl (fun μ2 h => ?_)
    refine g_iconst 13 X dX12_waysOf_12 ic0 rfl ?_
    refine g_istore_n 14 X dX12_waysOf_13 (by decide) rfl ?_
    exact G.sub [1, 2, 0] rfl (b_X12_waysOf_14 X hr  F _ _ _ h)
set_option maxRecDepth 100000 in
theorem c_X12_waysOf {l : Launch} {D : va_G} {ks : Nat → ClassId} {A : Nat → Prop} {ad : Nat → Nat} (hD : ∀ μ : Mem, va_D A (wsM 24 ad (shR ks ad) μ)) {F : Nat} {μ : Mem} {x1 : Int32} {r : Int32 × Mem}  (h : f_X12_waysOf F μ x1 = some r) : Met l yX12_waysOf (Cond.code yX12_waysOf cX12_waysOf 6 (some .int) :: wg) rm_X12_waysOf (PC D ks 24 ad (shR ks ad) μ [.ref (ad 0), .int x1]) (QI D 24 ad (shR ks ad) A r) 0 0 A := by
  refine met_of (by decide) (Nat.le_of_ble_eq_true rfl) hD ?_
  intro p e s m args below meth c X hr
  exact G.sub [0, 1] rfl (b_X12_waysOf_0 X hr  _ _ h)
