abbrev rm_X11_lots : Room := { frames := 4, cells := 0, slots := 0, locals := 88 }
set_option maxRecDepth 100000 in
set_option maxHeartbeats 4000000 in
theorem b_X11_lots_0 {p : Program} {l : Launch} {e : Env} {s : State} {m : MethodId} {args : Array Value} {below : List Frame} {meth : Method} {c : Code} {D : va_G} {ks : Nat → ClassId} {A : Nat → Prop} {ad : Nat → Nat} (X : Cx p s m args meth c cX11_lots 4 RX11 D ks A 75 ad (shC ks ad)) (hr : meth.sig.returnType = (some .int)) {F : Nat} {r : Int32 × Mem} (μ : Mem) (x1 : Int32) (x2 : Int32)  (h : f_X11_lots F  μ x1 x2 = some r) : G p l e rm_X11_lots s m args below meth c D A 4 (MQ below (QI D 75 ad (shC ks ad) A r) args s 0 0 A) 75 ad (shC ks ad) μ 0 [(0, .ref (ad 0)), (1, .int x1), (2, .int x2)] [] := by
  refine g_iload_n 1 X 1 dX11_lots_0 rfl rfl ?_
  refine g_ni 4 h (fun q e => r_S X cd_X11_133_X11_isPlan ⟨rfl, rfl⟩ ⟨Nat.le_of_ble_eq_true rfl, Nat.le_of_ble_eq_true rfl⟩ (c_X11_isPlan e) PC_blind (pn_pre X) rfl rfl (Nat.le_of_ble_eq_true rfl) dX11_lots_1) rfl (fun v1 h => ?_)
  refine g_if_ne 10 7 X dX11_lots_4 (by decide) rfl h (fun h => ?_) (fun h => ?_)
  · refine g_aload_n 11 X 0 dX11_lots_10 rfl rfl ?_
    refine g_getr 14 X fl_X11_27_11 (o11 rfl) rfl dX11_lots_11 rfl ?_
    refine g_iload_n 15 X 1 dX11_lots_14 rfl rfl ?_
    refine g_aald (fn := fun p => 18 + 9 * p) 16 X arP rfl dX11_lots_15 h rfl (fun hv2 h => ?_)
    refine g_cr 19 h (fun q e => r_V X cd_X11_146_X5_possibleWay_X5 ⟨rfl, rfl⟩ ⟨Nat.le_of_ble_eq_true rfl, Nat.le_of_ble_eq_true rfl⟩ (c_X5_possibleWay X.2.2.2.2 (kPl hv2) e) PC_blind (pc_pre X) (g_recv X (o5 (kPl hv2)) rfl) rfl rfl (Nat.le_of_ble_eq_true rfl) dX11_lots_16) rfl (fun v3 μ4 h => ?_)
    refine g_astoreq_n 20 X dX11_lots_19 (by decide) rfl ?_
    refine g_aloadq_n 21 X 0 dX11_lots_20 rfl rfl ?_
    refine g_ifnonnull 27 24 X dX11_lots_21 (by decide) rfl h (fun y5 hy h2 => ?_) (fun hy h2 => ?_)
    · subst hy
      have h := h2
      refine g_aload_n 28 X 0 dX11_lots_27 rfl rfl ?_
      refine g_iload_n 29 X 3 dX11_lots_28 rfl rfl ?_
      refine g_putW 32 X fp_X11_180_2 fp_X11_180_4 fp_X11_180_8 dX11_lots_29 h rfl (fun μ6 h => ?_)
      refine g_aload_n 33 X 0 dX11_lots_32 rfl rfl ?_
      refine g_ci (rest := []) 36 h (fun q e => ?_) rfl (fun v7 μ8 h => ?_)
      · rcases vdis_some e with ⟨kk, e⟩ | ⟨kk, e⟩ | ⟨kk, e⟩
        · exact r_A X cd_X11_183_X2_drawByLots_X2 ⟨rfl, rfl⟩ ⟨Nat.le_of_ble_eq_true rfl, Nat.le_of_ble_eq_true rfl⟩ (c_X2_drawByLots X.2.2.2.2 kk e) PC_blind (pc_pre X) (g_recv X (o2 kk) rfl) rfl rfl (Nat.le_of_ble_eq_true rfl) dX11_lots_33
        · exact r_A X cd_X11_183_X4_drawByLots_X4 ⟨rfl, rfl⟩ ⟨Nat.le_of_ble_eq_true rfl, Nat.le_of_ble_eq_true rfl⟩ (c_X4_drawByLots X.2.2.2.2 kk e) PC_blind (pc_pre X) (g_recv X (o4 kk) rfl) rfl rfl (Nat.le_of_ble_eq_true rfl) dX11_lots_33
        · exact r_A X cd_X11_183_X8_drawByLots_X8 ⟨rfl, rfl⟩ ⟨Nat.le_of_ble_eq_true rfl, Nat.le_of_ble_eq_true rfl⟩ (c_X8_drawByLots X.2.2.2.2 kk e) PC_blind (pc_pre X) (g_recv X (o8 kk) rfl) rfl rfl (Nat.le_of_ble_eq_true rfl) dX11_lots_33
      · exact g_iret X hr dX11_lots_36 h
    · subst hy
      have h := h2
      refine g_bipush 26 X dX11_lots_24 bpm3 rfl ?_
      exact g_iret X hr dX11_lots_26 h
  · refine g_bipush 9 X dX11_lots_7 bpm2 rfl ?_
    exact g_iret X hr dX11_lots_9 h
set_option maxRecDepth 100000 in
theorem c_X11_lots {l : Launch} {D : va_G} {ks : Nat → ClassId} {A : Nat → Prop} {ad : Nat → Nat} (hD : ∀ μ : Mem, va_D A (wsM 75 ad (shC ks ad) μ)) {F : Nat} {μ : Mem} {x1 : Int32} {x2 : Int32} {r : Int32 × Mem}  (h : f_X11_lots F μ x1 x2 = some r) : Met l yX11_lots (Cond.code yX11_lots cX11_lots 4 (some .int) :: wg) rm_X11_lots (PC D ks 75 ad (shC ks ad) μ [.ref (ad 0), .int x1, .int x2]) (QI D 75 ad (shC ks ad) A r) 0 0 A := by
  refine met_of (by decide) (Nat.le_of_ble_eq_true rfl) hD ?_
  intro p e s m args below meth c X hr
  exact G.sub [0, 1, 2] rfl (b_X11_lots_0 X hr  _ _ _ h)
abbrev rm_X6_hasAll : Room := { frames := 0, cells := 0, slots := 0, locals := 0 }
set_option maxRecDepth 100000 in
set_option maxHeartbeats 4000000 in
theorem b_X6_hasAll_0 {p : Program} {l : Launch} {e : Env} {s : State} {m : MethodId} {args : Array Value} {below : List Frame} {meth : Method} {c : Code} {D : va_G} {ks : Nat → ClassId} {A : Nat → Prop} {ad : Nat → Nat} (X : Cx p s m args meth c cX6_hasAll 2 RX6 D ks A 75 ad (shC ks ad)) (hr : meth.sig.returnType = (some .boolean)) {F : Nat} {r : Int32 × Mem} (μ : Mem) (x1 : Int32)  (h : f_X6_hasAll F  μ x1 = some r) : G p l e rm_X6_hasAll s m args below meth c D A 2 (MQ below (QI D 75 ad (shC ks ad) A r) args s 0 0 A) 75 ad (shC ks ad) μ 0 [(0, .ref (ad 1)), (1, .int x1)] [] := by
  refine g_iload_n 1 X 1 dX6_hasAll_0 rfl rfl ?_
  refine g_aload_n 2 X 0 dX6_hasAll_1 rfl rfl ?_
  refine g_geti 5 X fl_X6_50_6 (o6 rfl) rfl dX6_hasAll_2 h rfl (fun v1 h => ?_)
  refine g_iconst 6 X dX6_hasAll_5 icm1 rfl ?_
  refine g_ixor 7 X dX6_hasAll_6 rfl ?_
  refine g_iand 8 X dX6_hasAll_7 rfl ?_
  refine g_if_ne 15 11 X dX6_hasAll_8 (by decide) rfl h (fun h => ?_) (fun h => ?_)
  · refine g_iconst 16 X dX6_hasAll_15 ic0 rfl ?_
    exact g_zret X hr nb0 dX6_hasAll_16 h
  · refine g_iconst 12 X dX6_hasAll_11 ic1 rfl ?_
    refine g_goto 16 X dX6_hasAll_12 (by decide) ?_
    exact g_zret X hr nb1 dX6_hasAll_16 h
set_option maxRecDepth 100000 in
theorem c_X6_hasAll {l : Launch} {D : va_G} {ks : Nat → ClassId} {A : Nat → Prop} {ad : Nat → Nat} (hD : ∀ μ : Mem, va_D A (wsM 75 ad (shC ks ad) μ)) {F : Nat} {μ : Mem} {x1 : Int32} {r : Int32 × Mem}  (h : f_X6_hasAll F μ x1 = some r) : Met l yX6_hasAll (Cond.code yX6_hasAll cX6_hasAll 2 (some .boolean) :: wg) rm_X6_hasAll (PC D ks 75 ad (shC ks ad) μ [.ref (ad 1), .int x1]) (QI D 75 ad (shC ks ad) A r) 0 0 A := by
  refine met_of (by decide) (Nat.le_of_ble_eq_true rfl) hD ?_
  intro p e s m args below meth c X hr
  exact G.sub [0, 1] rfl (b_X6_hasAll_0 X hr  _ _ h)
abbrev rm_X2_canMake : Room := { frames := 1, cells := 0, slots := 0, locals := 21 }
set_option maxRecDepth 100000 in
set_option maxHeartbeats 4000000 in
theorem b_X2_canMake_2 {p : Program} {l : Launch} {e : Env} {s : State} {m : MethodId} {args : Array Value} {below : List Frame} {meth : Method} {c : Code} {D : va_G} {ks : Nat → ClassId} {A : Nat → Prop} {ad : Nat → Nat} (X : Cx p s m args meth c cX2_canMake 3 RX2 D ks A 75 ad (shC ks ad)) (hr : meth.sig.returnType = (some .boolean)) {F : Nat} {r : Int32 × Mem} : ∀ n : Nat, ∀ (μ : Mem) (t : Nat) (x1 : Int32) (x2 : Int32), (kindC t = 102) → f_X2_canMake_b2 F  n μ t x1 x2 = some r → G p l e rm_X2_canMake s m args below meth c D A 3 (MQ below (QI D 75 ad (shC ks ad) A r) args s 0 0 A) 75 ad (shC ks ad) μ 2 [(0, .ref (ad t)), (1, .int x1), (2, .int x2)] [] := by
  intro n
  induction n with
  | zero =>
    intro _ _ _ _ _ h
    cases h
  | succ n ih =>
    intro μ t x1 x2 kt h
    refine g_iload_n 3 X 2 dX2_canMake_2 rfl rfl ?_
    refine g_aload_n 4 X 0 dX2_canMake_3 rfl rfl ?_
    refine g_geti 7 X fl_X2_15_2 (o2 kt) rfl dX2_canMake_4 h rfl (fun v1 h => ?_)
    refine g_icmp_ge 37 10 X dX2_canMake_7 (by decide) rfl h (fun h => ?_) (fun h => ?_)
    · refine g_iconst 38 X dX2_canMake_37 ic1 rfl ?_
      exact g_zret X hr nb1 dX2_canMake_38 h
    · refine g_iload_n 11 X 1 dX2_canMake_10 rfl rfl ?_
      refine g_aload_n 12 X 0 dX2_canMake_11 rfl rfl ?_
      refine g_iload_n 13 X 2 dX2_canMake_12 rfl rfl ?_
      refine g_ci 16 h (fun q e => r_V X cd_X2_35_X2_membersOf_X2 ⟨rfl, rfl⟩ ⟨Nat.le_of_ble_eq_true rfl, Nat.le_of_ble_eq_true rfl⟩ (c_X2_membersOf X.2.2.2.2 kt e) PC_blind (pc_pre X) (g_recv X (o2 kt) rfl) rfl rfl (Nat.le_of_ble_eq_true rfl) dX2_canMake_13) rfl (fun v2 μ3 h => ?_)
      refine g_iand 17 X dX2_canMake_16 rfl ?_
      refine g_ni 20 h (fun q e => r_S X cd_X2_39_J6_bitCount_0f7a4 ⟨rfl, rfl⟩ ⟨Nat.le_of_ble_eq_true rfl, Nat.le_of_ble_eq_true rfl⟩ (c_J6_bitCount_0f7a4 e) PC_blind (pn_pre X) rfl rfl (Nat.le_of_ble_eq_true rfl) dX2_canMake_17) rfl (fun v4 h => ?_)
      refine g_aload_n 21 X 0 dX2_canMake_20 rfl rfl ?_
      refine g_getr 24 X fl_X2_44_2 (o2 kt) rfl dX2_canMake_21 rfl ?_
      refine g_iload_n 25 X 2 dX2_canMake_24 rfl rfl ?_
      refine g_iald 26 X (aiC (n := 4) (by decide) (k2_numbers kt)) dX2_canMake_25 h rfl (fun v5 h => ?_)
      refine g_icmp_eq 31 29 X dX2_canMake_26 (by decide) rfl h (fun h => ?_) (fun h => ?_)
      · refine g_iinc 34 X 2 dX2_canMake_31 ic1 rfl (by decide) rfl ?_
        refine g_goto 2 X dX2_canMake_34 (by decide) ?_
        exact G.sub [1, 2, 0] rfl (ih _ _ _ _ kt h)
      · refine g_iconst 30 X dX2_canMake_29 ic0 rfl ?_
        exact g_zret X hr nb0 dX2_canMake_30 h
set_option maxRecDepth 100000 in
set_option maxHeartbeats 4000000 in
theorem b_X2_canMake_0 {p : Program} {l : Launch} {e : Env} {s : State} {m : MethodId} {args : Array Value} {below : List Frame} {meth : Method} {c : Code} {D : va_G} {ks : Nat → ClassId} {A : Nat → Prop} {ad : Nat → Nat} (X : Cx p s m args meth c cX2_canMake 3 RX2 D ks A 75 ad (shC ks ad)) (hr : meth.sig.returnType = (some .boolean)) {F : Nat} {r : Int32 × Mem} (μ : Mem) (t : Nat) (x1 : Int32) (kt : kindC t = 102) (h : f_X2_canMake F  μ t x1 = some r) : G p l e rm_X2_canMake s m args below meth c D A 3 (MQ below (QI D 75 ad (shC ks ad) A r) args s 0 0 A) 75 ad (shC ks ad) μ 0 [(0, .ref (ad t)), (1, .int x1)] [] := by
  refine g_iconst 1 X dX2_canMake_0 ic0 rfl ?_
  refine g_istore_n 2 X dX2_canMake_1 (by decide) rfl ?_
  exact G.sub [1, 2, 0] rfl (b_X2_canMake_2 X hr  F _ _ _ _ kt h)
set_option maxRecDepth 100000 in
theorem c_X2_canMake {l : Launch} {D : va_G} {ks : Nat → ClassId} {A : Nat → Prop} {ad : Nat → Nat} (hD : ∀ μ : Mem, va_D A (wsM 75 ad (shC ks ad) μ)) {F : Nat} {μ : Mem} {t : Nat} {x1 : Int32} {r : Int32 × Mem} (kt : kindC t = 102) (h : f_X2_canMake F μ t x1 = some r) : Met l yX2_canMake (Cond.code yX2_canMake cX2_canMake 3 (some .boolean) :: wg) rm_X2_canMake (PC D ks 75 ad (shC ks ad) μ [.ref (ad t), .int x1]) (QI D 75 ad (shC ks ad) A r) 0 0 A := by
  refine met_of (by decide) (Nat.le_of_ble_eq_true rfl) hD ?_
  intro p e s m args below meth c X hr
  exact G.sub [0, 1] rfl (b_X2_canMake_0 X hr  _ _ _ kt h)
abbrev rm_X4_canMake : Room := { frames := 3, cells := 0, slots := 0, locals := 68 }
set_option maxRecDepth 100000 in
set_option maxHeartbeats 4000000 in
theorem b_X4_canMake_7 {p : Program} {l : Launch} {e : Env} {s : State} {m : MethodId} {args : Array Value} {below : List Frame} {meth : Method} {c : Code} {D : va_G} {ks : Nat → ClassId} {A : Nat → Prop} {ad : Nat → Nat} (X : Cx p s m args meth c cX4_canMake 4 RX4 D ks A 75 ad (shC ks ad)) (hr : meth.sig.returnType = (some .boolean)) {F : Nat} {r : Int32 × Mem} : ∀ n : Nat, ∀ (μ : Mem) (t : Nat) (x1 : Int32) (x2 : Int32) (x3 : Int32), (kindC t = 104) → f_X4_canMake_b7 F  n μ t x1 x2 x3 = some r → G p l e rm_X4_canMake s m args below meth c D A 4 (MQ below (QI D 75 ad (shC ks ad) A r) args s 0 0 A) 75 ad (shC ks ad) μ 7 [(0, .ref (ad t)), (1, .int x1), (2, .int x2), (3, .int x3)] [] := by
  intro n
  induction n with
  | zero =>
    intro _ _ _ _ _ _ h
    cases h
  | succ n ih =>
    intro μ t x1 x2 x3 kt h
    refine g_iload_n 8 X 3 dX4_canMake_7 rfl rfl ?_
    refine g_iload_n 9 X 2 dX4_canMake_8 rfl rfl ?_
    refine g_icmp_ge 29 12 X dX4_canMake_9 (by decide) rfl h (fun h => ?_) (fun h => ?_)
    · refine g_iconst 30 X dX4_canMake_29 ic0 rfl ?_
      exact g_zret X hr nb0 dX4_canMake_30 h
    · refine g_aload_n 13 X 0 dX4_canMake_12 rfl rfl ?_
      refine g_iload_n 14 X 3 dX4_canMake_13 rfl rfl ?_
      refine g_ci 17 h (fun q e => r_V X cd_X4_77_X4_drawAt_X4 ⟨rfl, rfl⟩ ⟨Nat.le_of_ble_eq_true rfl, Nat.le_of_ble_eq_true rfl⟩ (c_X4_drawAt X.2.2.2.2 kt e) PC_blind (pc_pre X) (g_recv X (o4 kt) rfl) rfl rfl (Nat.le_of_ble_eq_true rfl) dX4_canMake_14) rfl (fun v1 μ2 h => ?_)
      refine g_iload_n 18 X 1 dX4_canMake_17 rfl rfl ?_
      refine g_icmp_ne 23 21 X dX4_canMake_18 (by decide) rfl h (fun h => ?_) (fun h => ?_)
      · refine g_iinc 26 X 3 dX4_canMake_23 ic1 rfl (by decide) rfl ?_
        refine g_goto 7 X dX4_canMake_26 (by decide) ?_
        exact G.sub [1, 2, 3, 0] rfl (ih _ _ _ _ _ kt h)
      · refine g_iconst 22 X dX4_canMake_21 ic1 rfl ?_
        exact g_zret X hr nb1 dX4_canMake_22 h
set_option maxRecDepth 100000 in
set_option maxHeartbeats 4000000 in
theorem b_X4_canMake_0 {p : Program} {l : Launch} {e : Env} {s : State} {m : MethodId} {args : Array Value} {below : List Frame} {meth : Method} {c : Code} {D : va_G} {ks : Nat → ClassId} {A : Nat → Prop} {ad : Nat → Nat} (X : Cx p s m args meth c cX4_canMake 4 RX4 D ks A 75 ad (shC ks ad)) (hr : meth.sig.returnType = (some .boolean)) {F : Nat} {r : Int32 × Mem} (μ : Mem) (t : Nat) (x1 : Int32) (kt : kindC t = 104) (h : f_X4_canMake F  μ t x1 = some r) : G p l e rm_X4_canMake s m args below meth c D A 4 (MQ below (QI D 75 ad (shC ks ad) A r) args s 0 0 A) 75 ad (shC ks ad) μ 0 [(0, .ref (ad t)), (1, .int x1)] [] := by
  refine g_aload_n 1 X 0 dX4_canMake_0 rfl rfl ?_
  refine g_ci 4 h (fun q e => r_V X cd_X4_15_X4_pointCount_X4 ⟨rfl, rfl⟩ ⟨Nat.le_of_ble_eq_true rfl, Nat.le_of_ble_eq_true rfl⟩ (c_X4_pointCount X.2.2.2.2 kt e) PC_blind (pc_pre X) (g_recv X (o4 kt) rfl) rfl rfl (Nat.le_of_ble_eq_true rfl) dX4_canMake_1) rfl (fun v1 μ2 h => ?_)
  refine g_istore_n 5 X dX4_canMake_4 (by decide) rfl ?_
  refine g_iconst 6 X dX4_canMake_5 ic0 rfl ?_
  refine g_istore_n 7 X dX4_canMake_6 (by decide) rfl ?_
  exact G.sub [2, 3, 1, 0] rfl (b_X4_canMake_7 X hr  F _ _ _ _ _ kt h)
set_option maxRecDepth 100000 in
theorem c_X4_canMake {l : Launch} {D : va_G} {ks : Nat → ClassId} {A : Nat → Prop} {ad : Nat → Nat} (hD : ∀ μ : Mem, va_D A (wsM 75 ad (shC ks ad) μ)) {F : Nat} {μ : Mem} {t : Nat} {x1 : Int32} {r : Int32 × Mem} (kt : kindC t = 104) (h : f_X4_canMake F μ t x1 = some r) : Met l yX4_canMake (Cond.code yX4_canMake cX4_canMake 4 (some .boolean) :: wg) rm_X4_canMake (PC D ks 75 ad (shC ks ad) μ [.ref (ad t), .int x1]) (QI D 75 ad (shC ks ad) A r) 0 0 A := by
  refine met_of (by decide) (Nat.le_of_ble_eq_true rfl) hD ?_
  intro p e s m args below meth c X hr
  exact G.sub [0, 1] rfl (b_X4_canMake_0 X hr  _ _ _ kt h)
abbrev rm_X8_canMake : Room := { frames := 3, cells := 0, slots := 0, locals := 62 }
set_option maxRecDepth 100000 in
set_option maxHeartbeats 4000000 in
theorem b_X8_canMake_46 {p : Program} {l : Launch} {e : Env} {s : State} {m : MethodId} {args : Array Value} {below : List Frame} {meth : Method} {c : Code} {D : va_G} {ks : Nat → ClassId} {A : Nat → Prop} {ad : Nat → Nat} (X : Cx p s m args meth c cX8_canMake 5 RX8 D ks A 75 ad (shC ks ad)) (hr : meth.sig.returnType = (some .boolean)) {F : Nat} {r : Int32 × Mem} {k4 : Mem → Nat → Int32 → Int32 → Int32 → Option (Int32 × Mem)} (hk4 : ∀ (μ : Mem) (t : Nat) (x1 : Int32) (x2 : Int32) (x3 : Int32), (kindC t = 108) → k4 μ t x1 x2 x3 = some r → G p l e rm_X8_canMake s m args below meth c D A 5 (MQ below (QI D 75 ad (shC ks ad) A r) args s 0 0 A) 75 ad (shC ks ad) μ 4 [(0, .ref (ad t)), (1, .int x1), (2, .int x2), (3, .int x3)] []) (μ : Mem) (t : Nat) (x1 : Int32) (x2 : Int32) (x3 : Int32) (kt : kindC t = 108) (h : f_X8_canMake_b46 F k4 μ t x1 x2 x3 = some r) : G p l e rm_X8_canMake s m args below meth c D A 5 (MQ below (QI D 75 ad (shC ks ad) A r) args s 0 0 A) 75 ad (shC ks ad) μ 46 [(0, .ref (ad t)), (1, .int x1), (2, .int x2), (3, .int x3)] [] := by
  refine g_iinc 49 X 3 dX8_canMake_46 ic1 rfl (by decide) rfl ?_
  refine g_goto 4 X dX8_canMake_49 (by decide) ?_
  exact G.sub [1, 2, 3, 0] rfl (hk4 _ _ _ _ _ kt h)
set_option maxRecDepth 100000 in
set_option maxHeartbeats 4000000 in
theorem b_X8_canMake_4 {p : Program} {l : Launch} {e : Env} {s : State} {m : MethodId} {args : Array Value} {below : List Frame} {meth : Method} {c : Code} {D : va_G} {ks : Nat → ClassId} {A : Nat → Prop} {ad : Nat → Nat} (X : Cx p s m args meth c cX8_canMake 5 RX8 D ks A 75 ad (shC ks ad)) (hr : meth.sig.returnType = (some .boolean)) {F : Nat} {r : Int32 × Mem} : ∀ n : Nat, ∀ (μ : Mem) (t : Nat) (x1 : Int32) (x2 : Int32) (x3 : Int32), (kindC t = 108) → f_X8_canMake_b4 F  n μ t x1 x2 x3 = some r → G p l e rm_X8_canMake s m args below meth c D A 5 (MQ below (QI D 75 ad (shC ks ad) A r) args s 0 0 A) 75 ad (shC ks ad) μ 4 [(0, .ref (ad t)), (1, .int x1), (2, .int x2), (3, .int x3)] [] := by
  intro n
  induction n with
  | zero =>
    intro _ _ _ _ _ _ h
    cases h
  | succ n ih =>
    intro μ t x1 x2 x3 kt h
    refine g_iload_n 5 X 3 dX8_canMake_4 rfl rfl ?_
    refine g_bipush 7 X dX8_canMake_5 bp8 rfl ?_
    refine g_icmp_ge 52 10 X dX8_canMake_7 (by decide) rfl h (fun h => ?_) (fun h => ?_)
    · refine g_iload_n 53 X 2 dX8_canMake_52 rfl rfl ?_
      refine g_aload_n 54 X 0 dX8_canMake_53 rfl rfl ?_
      refine g_getr 57 X fl_X8_35_8 (o8 kt) rfl dX8_canMake_54 rfl ?_
      refine g_iconst 58 X dX8_canMake_57 ic0 rfl ?_
      refine g_iald 59 X (aiC (n := 4) (by decide) (k8_numbers kt)) dX8_canMake_58 h rfl (fun v1 h => ?_)
      refine g_icmp_ne 66 62 X dX8_canMake_59 (by decide) rfl h (fun h => ?_) (fun h => ?_)
      · refine g_iconst 67 X dX8_canMake_66 ic0 rfl ?_
        exact g_zret X hr nb0 dX8_canMake_67 h
      · refine g_iconst 63 X dX8_canMake_62 ic1 rfl ?_
        refine g_goto 67 X dX8_canMake_63 (by decide) ?_
        exact g_zret X hr nb1 dX8_canMake_67 h
    · refine g_iload_n 11 X 1 dX8_canMake_10 rfl rfl ?_
      refine g_aload_n 12 X 0 dX8_canMake_11 rfl rfl ?_
      refine g_getr 15 X fl_X8_15_8 (o8 kt) rfl dX8_canMake_12 rfl ?_
      refine g_getr 18 X fl_X8_31_6 (o6 rfl) rfl dX8_canMake_15 rfl ?_
      refine g_iload_n 19 X 3 dX8_canMake_18 rfl rfl ?_
      refine g_iald 20 X (aiC (n := 8) (by decide) rfl) dX8_canMake_19 h rfl (fun v2 h => ?_)
      refine g_iand 21 X dX8_canMake_20 rfl ?_
      refine g_ni 24 h (fun q e => r_S X cd_X8_25_J6_bitCount_0f7a4 ⟨rfl, rfl⟩ ⟨Nat.le_of_ble_eq_true rfl, Nat.le_of_ble_eq_true rfl⟩ (c_J6_bitCount_0f7a4 e) PC_blind (pn_pre X) rfl rfl (Nat.le_of_ble_eq_true rfl) dX8_canMake_21) rfl (fun v3 h => ?_)
      refine g_istore 26 X dX8_canMake_24 (by decide) rfl ?_
      refine g_iload 28 X 0 dX8_canMake_26 rfl rfl ?_
      refine g_if_le 46 31 X dX8_canMake_28 (by decide) rfl h (fun h => ?_) (fun h => ?_)
      · exact G.sub [1, 2, 3, 4] rfl (b_X8_canMake_46 X hr ih _ _ _ _ _ kt h)
      · refine g_iinc 34 X 3 dX8_canMake_31 ic1 rfl (by decide) rfl ?_
        refine g_iload 36 X 1 dX8_canMake_34 rfl rfl ?_
        refine g_aload_n 37 X 2 dX8_canMake_36 rfl rfl ?_
        refine g_iload_n 38 X 4 dX8_canMake_37 rfl rfl ?_
        refine g_ci 41 h (fun q e => r_V X cd_X8_55_X8_takenOf_X8 ⟨rfl, rfl⟩ ⟨Nat.le_of_ble_eq_true rfl, Nat.le_of_ble_eq_true rfl⟩ (c_X8_takenOf X.2.2.2.2 kt e) PC_blind (pc_pre X) (g_recv X (o8 kt) rfl) rfl rfl (Nat.le_of_ble_eq_true rfl) dX8_canMake_38) rfl (fun v4 μ5 h => ?_)
        refine g_icmp_eq 46 44 X dX8_canMake_41 (by decide) rfl h (fun h => ?_) (fun h => ?_)
        · exact G.sub [2, 3, 0, 4] rfl (b_X8_canMake_46 X hr ih _ _ _ _ _ kt h)
        · refine g_iconst 45 X dX8_canMake_44 ic0 rfl ?_
          exact g_zret X hr nb0 dX8_canMake_45 h
set_option maxRecDepth 100000 in
set_option maxHeartbeats 4000000 in
theorem b_X8_canMake_0 {p : Program} {l : Launch} {e : Env} {s : State} {m : MethodId} {args : Array Value} {below : List Frame} {meth : Method} {c : Code} {D : va_G} {ks : Nat → ClassId} {A : Nat → Prop} {ad : Nat → Nat} (X : Cx p s m args meth c cX8_canMake 5 RX8 D ks A 75 ad (shC ks ad)) (hr : meth.sig.returnType = (some .boolean)) {F : Nat} {r : Int32 × Mem} (μ : Mem) (t : Nat) (x1 : Int32) (kt : kindC t = 108) (h : f_X8_canMake F  μ t x1 = some r) : G p l e rm_X8_canMake s m args below meth c D A 5 (MQ below (QI D 75 ad (shC ks ad) A r) args s 0 0 A) 75 ad (shC ks ad) μ 0 [(0, .ref (ad t)), (1, .int x1)] [] := by
  refine g_iconst 1 X dX8_canMake_0 ic0 rfl ?_
  refine g_istore_n 2 X dX8_canMake_1 (by decide) rfl ?_
  refine g_iconst 3 X dX8_canMake_2 ic0 rfl ?_
  refine g_istore_n 4 X dX8_canMake_3 (by decide) rfl ?_
  exact G.sub [2, 3, 1, 0] rfl (b_X8_canMake_4 X hr  F _ _ _ _ _ kt h)
set_option maxRecDepth 100000 in
theorem c_X8_canMake {l : Launch} {D : va_G} {ks : Nat → ClassId} {A : Nat → Prop} {ad : Nat → Nat} (hD : ∀ μ : Mem, va_D A (wsM 75 ad (shC ks ad) μ)) {F : Nat} {μ : Mem} {t : Nat} {x1 : Int32} {r : Int32 × Mem} (kt : kindC t = 108) (h : f_X8_canMake F μ t x1 = some r) : Met l yX8_canMake (Cond.code yX8_canMake cX8_canMake 5 (some .boolean) :: wg) rm_X8_canMake (PC D ks 75 ad (shC ks ad) μ [.ref (ad t), .int x1]) (QI D 75 ad (shC ks ad) A r) 0 0 A := by
  refine met_of (by decide) (Nat.le_of_ble_eq_true rfl) hD ?_
  intro p e s m args below meth c X hr
  exact G.sub [0, 1] rfl (b_X8_canMake_0 X hr  _ _ _ kt h)
abbrev rm_X11_makes : Room := { frames := 4, cells := 0, slots := 0, locals := 91 }
set_option maxRecDepth 100000 in
set_option maxHeartbeats 4000000 in
theorem b_X11_makes_0 {p : Program} {l : Launch} {e : Env} {s : State} {m : MethodId} {args : Array Value} {below : List Frame} {meth : Method} {c : Code} {D : va_G} {ks : Nat → ClassId} {A : Nat → Prop} {ad : Nat → Nat} (X : Cx p s m args meth c cX11_makes 4 RX11 D ks A 75 ad (shC ks ad)) (hr : meth.sig.returnType = (some .int)) {F : Nat} {r : Int32 × Mem} (μ : Mem) (x1 : Int32) (x2 : Int32)  (h : f_X11_makes F  μ x1 x2 = some r) : G p l e rm_X11_makes s m args below meth c D A 4 (MQ below (QI D 75 ad (shC ks ad) A r) args s 0 0 A) 75 ad (shC ks ad) μ 0 [(0, .ref (ad 0)), (1, .int x1), (2, .int x2)] [] := by
  refine g_iload_n 1 X 1 dX11_makes_0 rfl rfl ?_
  refine g_ni 4 h (fun q e => r_S X cd_X11_133_X11_isPlan ⟨rfl, rfl⟩ ⟨Nat.le_of_ble_eq_true rfl, Nat.le_of_ble_eq_true rfl⟩ (c_X11_isPlan e) PC_blind (pn_pre X) rfl rfl (Nat.le_of_ble_eq_true rfl) dX11_makes_1) rfl (fun v1 h => ?_)
  refine g_if_eq 18 7 X dX11_makes_4 (by decide) rfl h (fun h => ?_) (fun h => ?_)
  · refine g_bipush 20 X dX11_makes_18 bpm2 rfl ?_
    exact g_iret X hr dX11_makes_20 h
  · refine g_aload_n 8 X 0 dX11_makes_7 rfl rfl ?_
    refine g_getr 11 X fl_X11_10_11 (o11 rfl) rfl dX11_makes_8 rfl ?_
    refine g_iload_n 12 X 2 dX11_makes_11 rfl rfl ?_
    refine g_ci 15 h (fun q e => r_V X cd_X11_186_X6_hasAll_X6 ⟨rfl, rfl⟩ ⟨Nat.le_of_ble_eq_true rfl, Nat.le_of_ble_eq_true rfl⟩ (c_X6_hasAll X.2.2.2.2  e) PC_blind (pc_pre X) (g_recv X (o6 rfl) rfl) rfl rfl (Nat.le_of_ble_eq_true rfl) dX11_makes_12) rfl (fun v2 μ3 h => ?_)
    refine g_if_ne 21 18 X dX11_makes_15 (by decide) rfl h (fun h => ?_) (fun h => ?_)
    · refine g_aload_n 22 X 0 dX11_makes_21 rfl rfl ?_
      refine g_getr 25 X fl_X11_27_11 (o11 rfl) rfl dX11_makes_22 rfl ?_
      refine g_iload_n 26 X 1 dX11_makes_25 rfl rfl ?_
      refine g_aald (fn := fun p => 18 + 9 * p) 27 X arP rfl dX11_makes_26 h rfl (fun hv4 h => ?_)
      refine g_cr 30 h (fun q e => r_V X cd_X11_146_X5_possibleWay_X5 ⟨rfl, rfl⟩ ⟨Nat.le_of_ble_eq_true rfl, Nat.le_of_ble_eq_true rfl⟩ (c_X5_possibleWay X.2.2.2.2 (kPl hv4) e) PC_blind (pc_pre X) (g_recv X (o5 (kPl hv4)) rfl) rfl rfl (Nat.le_of_ble_eq_true rfl) dX11_makes_27) rfl (fun v5 μ6 h => ?_)
      refine g_astoreq_n 31 X dX11_makes_30 (by decide) rfl ?_
      refine g_aloadq_n 32 X 0 dX11_makes_31 rfl rfl ?_
      refine g_ifnonnull 38 35 X dX11_makes_32 (by decide) rfl h (fun y7 hy h2 => ?_) (fun hy h2 => ?_)
      · subst hy
        have h := h2
        refine g_aload_n 39 X 0 dX11_makes_38 rfl rfl ?_
        refine g_iload_n 40 X 3 dX11_makes_39 rfl rfl ?_
        refine g_ci (rest := []) 43 h (fun q e => ?_) rfl (fun v8 μ9 h => ?_)
        · rcases vdis_some e with ⟨kk, e⟩ | ⟨kk, e⟩ | ⟨kk, e⟩
          · exact r_A X cd_X11_189_X2_canMake_X2 ⟨rfl, rfl⟩ ⟨Nat.le_of_ble_eq_true rfl, Nat.le_of_ble_eq_true rfl⟩ (c_X2_canMake X.2.2.2.2 kk e) PC_blind (pc_pre X) (g_recv X (o2 kk) rfl) rfl rfl (Nat.le_of_ble_eq_true rfl) dX11_makes_40
          · exact r_A X cd_X11_189_X4_canMake_X4 ⟨rfl, rfl⟩ ⟨Nat.le_of_ble_eq_true rfl, Nat.le_of_ble_eq_true rfl⟩ (c_X4_canMake X.2.2.2.2 kk e) PC_blind (pc_pre X) (g_recv X (o4 kk) rfl) rfl rfl (Nat.le_of_ble_eq_true rfl) dX11_makes_40
          · exact r_A X cd_X11_189_X8_canMake_X8 ⟨rfl, rfl⟩ ⟨Nat.le_of_ble_eq_true rfl, Nat.le_of_ble_eq_true rfl⟩ (c_X8_canMake X.2.2.2.2 kk e) PC_blind (pc_pre X) (g_recv X (o8 kk) rfl) rfl rfl (Nat.le_of_ble_eq_true rfl) dX11_makes_40
        · refine g_if_eq 50 46 X dX11_makes_43 (by decide) rfl h (fun h => ?_) (fun h => ?_)
          · refine g_iconst 51 X dX11_makes_50 ic0 rfl ?_
            exact g_iret X hr dX11_makes_51 h
          · refine g_iconst 47 X dX11_makes_46 ic1 rfl ?_
            refine g_goto 51 X dX11_makes_47 (by decide) ?_
            exact g_iret X hr dX11_makes_51 h
      · subst hy
        have h := h2
        refine g_bipush 37 X dX11_makes_35 bpm3 rfl ?_
        exact g_iret X hr dX11_makes_37 h
    · refine g_bipush 20 X dX11_makes_18 bpm2 rfl ?_
      exact g_iret X hr dX11_makes_20 h
set_option maxRecDepth 100000 in
theorem c_X11_makes {l : Launch} {D : va_G} {ks : Nat → ClassId} {A : Nat → Prop} {ad : Nat → Nat} (hD : ∀ μ : Mem, va_D A (wsM 75 ad (shC ks ad) μ)) {F : Nat} {μ : Mem} {x1 : Int32} {x2 : Int32} {r : Int32 × Mem}  (h : f_X11_makes F μ x1 x2 = some r) : Met l yX11_makes (Cond.code yX11_makes cX11_makes 4 (some .int) :: wg) rm_X11_makes (PC D ks 75 ad (shC ks ad) μ [.ref (ad 0), .int x1, .int x2]) (QI D 75 ad (shC ks ad) A r) 0 0 A := by
  refine met_of (by decide) (Nat.le_of_ble_eq_true rfl) hD ?_
  intro p e s m args below meth c X hr
  exact G.sub [0, 1, 2] rfl (b_X11_makes_0 X hr  _ _ _ h)
abbrev rm_X11_refusalOfDraw : Room := { frames := 4, cells := 0, slots := 0, locals := 91 }
set_option maxRecDepth 100000 in
set_option maxHeartbeats 4000000 in
theorem b_X11_refusalOfDraw_0 {p : Program} {l : Launch} {e : Env} {s : State} {m : MethodId} {args : Array Value} {below : List Frame} {meth : Method} {c : Code} {D : va_G} {ks : Nat → ClassId} {A : Nat → Prop} {ad : Nat → Nat} (X : Cx p s m args meth c cX11_refusalOfDraw 4 RX11 D ks A 75 ad (shC ks ad)) (hr : meth.sig.returnType = (some .int)) {F : Nat} {r : Int32 × Mem} (μ : Mem) (x1 : Int32) (x2 : Int32)  (h : f_X11_refusalOfDraw F  μ x1 x2 = some r) : G p l e rm_X11_refusalOfDraw s m args below meth c D A 4 (MQ below (QI D 75 ad (shC ks ad) A r) args s 0 0 A) 75 ad (shC ks ad) μ 0 [(0, .ref (ad 0)), (1, .int x1), (2, .int x2)] [] := by
  refine g_iload_n 1 X 1 dX11_refusalOfDraw_0 rfl rfl ?_
  refine g_ni 4 h (fun q e => r_S X cd_X11_133_X11_isPlan ⟨rfl, rfl⟩ ⟨Nat.le_of_ble_eq_true rfl, Nat.le_of_ble_eq_true rfl⟩ (c_X11_isPlan e) PC_blind (pn_pre X) rfl rfl (Nat.le_of_ble_eq_true rfl) dX11_refusalOfDraw_1) rfl (fun v1 h => ?_)
  refine g_if_eq 18 7 X dX11_refusalOfDraw_4 (by decide) rfl h (fun h => ?_) (fun h => ?_)
  · refine g_bipush 20 X dX11_refusalOfDraw_18 bpm2 rfl ?_
    exact g_iret X hr dX11_refusalOfDraw_20 h
  · refine g_aload_n 8 X 0 dX11_refusalOfDraw_7 rfl rfl ?_
    refine g_getr 11 X fl_X11_10_11 (o11 rfl) rfl dX11_refusalOfDraw_8 rfl ?_
    refine g_iload_n 12 X 2 dX11_refusalOfDraw_11 rfl rfl ?_
    refine g_ci 15 h (fun q e => r_V X cd_X11_186_X6_hasAll_X6 ⟨rfl, rfl⟩ ⟨Nat.le_of_ble_eq_true rfl, Nat.le_of_ble_eq_true rfl⟩ (c_X6_hasAll X.2.2.2.2  e) PC_blind (pc_pre X) (g_recv X (o6 rfl) rfl) rfl rfl (Nat.le_of_ble_eq_true rfl) dX11_refusalOfDraw_12) rfl (fun v2 μ3 h => ?_)
    refine g_if_ne 21 18 X dX11_refusalOfDraw_15 (by decide) rfl h (fun h => ?_) (fun h => ?_)
    · refine g_aload_n 22 X 0 dX11_refusalOfDraw_21 rfl rfl ?_
      refine g_getr 25 X fl_X11_27_11 (o11 rfl) rfl dX11_refusalOfDraw_22 rfl ?_
      refine g_iload_n 26 X 1 dX11_refusalOfDraw_25 rfl rfl ?_
      refine g_aald (fn := fun p => 18 + 9 * p) 27 X arP rfl dX11_refusalOfDraw_26 h rfl (fun hv4 h => ?_)
      refine g_cr 30 h (fun q e => r_V X cd_X11_146_X5_possibleWay_X5 ⟨rfl, rfl⟩ ⟨Nat.le_of_ble_eq_true rfl, Nat.le_of_ble_eq_true rfl⟩ (c_X5_possibleWay X.2.2.2.2 (kPl hv4) e) PC_blind (pc_pre X) (g_recv X (o5 (kPl hv4)) rfl) rfl rfl (Nat.le_of_ble_eq_true rfl) dX11_refusalOfDraw_27) rfl (fun v5 μ6 h => ?_)
      refine g_astoreq_n 31 X dX11_refusalOfDraw_30 (by decide) rfl ?_
      refine g_aloadq_n 32 X 0 dX11_refusalOfDraw_31 rfl rfl ?_
      refine g_ifnonnull 38 35 X dX11_refusalOfDraw_32 (by decide) rfl h (fun y7 hy h2 => ?_) (fun hy h2 => ?_)
      · subst hy
        have h := h2
        refine g_aload_n 39 X 0 dX11_refusalOfDraw_38 rfl rfl ?_
        refine g_iload_n 40 X 3 dX11_refusalOfDraw_39 rfl rfl ?_
        refine g_ci (rest := []) 43 h (fun q e => ?_) rfl (fun v8 μ9 h => ?_)
        · rcases vdis_some e with ⟨kk, e⟩ | ⟨kk, e⟩ | ⟨kk, e⟩
          · exact r_A X cd_X11_189_X2_canMake_X2 ⟨rfl, rfl⟩ ⟨Nat.le_of_ble_eq_true rfl, Nat.le_of_ble_eq_true rfl⟩ (c_X2_canMake X.2.2.2.2 kk e) PC_blind (pc_pre X) (g_recv X (o2 kk) rfl) rfl rfl (Nat.le_of_ble_eq_true rfl) dX11_refusalOfDraw_40
          · exact r_A X cd_X11_189_X4_canMake_X4 ⟨rfl, rfl⟩ ⟨Nat.le_of_ble_eq_true rfl, Nat.le_of_ble_eq_true rfl⟩ (c_X4_canMake X.2.2.2.2 kk e) PC_blind (pc_pre X) (g_recv X (o4 kk) rfl) rfl rfl (Nat.le_of_ble_eq_true rfl) dX11_refusalOfDraw_40
          · exact r_A X cd_X11_189_X8_canMake_X8 ⟨rfl, rfl⟩ ⟨Nat.le_of_ble_eq_true rfl, Nat.le_of_ble_eq_true rfl⟩ (c_X8_canMake X.2.2.2.2 kk e) PC_blind (pc_pre X) (g_recv X (o8 kk) rfl) rfl rfl (Nat.le_of_ble_eq_true rfl) dX11_refusalOfDraw_40
        · refine g_if_eq 50 46 X dX11_refusalOfDraw_43 (by decide) rfl h (fun h => ?_) (fun h => ?_)
          · refine g_bipush 52 X dX11_refusalOfDraw_50 bpm2 rfl ?_
            exact g_iret X hr dX11_refusalOfDraw_52 h
          · refine g_iconst 47 X dX11_refusalOfDraw_46 ic0 rfl ?_
            refine g_goto 52 X dX11_refusalOfDraw_47 (by decide) ?_
            exact g_iret X hr dX11_refusalOfDraw_52 h
      · subst hy
        have h := h2
        refine g_bipush 37 X dX11_refusalOfDraw_35 bpm3 rfl ?_
        exact g_iret X hr dX11_refusalOfDraw_37 h
    · refine g_bipush 20 X dX11_refusalOfDraw_18 bpm2 rfl ?_
      exact g_iret X hr dX11_refusalOfDraw_20 h
set_option maxRecDepth 100000 in
theorem c_X11_refusalOfDraw {l : Launch} {D : va_G} {ks : Nat → ClassId} {A : Nat → Prop} {ad : Nat → Nat} (hD : ∀ μ : Mem, va_D A (wsM 75 ad (shC ks ad) μ)) {F : Nat} {μ : Mem} {x1 : Int32} {x2 : Int32} {r : Int32 × Mem}  (h : f_X11_refusalOfDraw F μ x1 x2 = some r) : Met l yX11_refusalOfDraw (Cond.code yX11_refusalOfDraw cX11_refusalOfDraw 4 (some .int) :: wg) rm_X11_refusalOfDraw (PC D ks 75 ad (shC ks ad) μ [.ref (ad 0), .int x1, .int x2]) (QI D 75 ad (shC ks ad) A r) 0 0 A := by
  refine met_of (by decide) (Nat.le_of_ble_eq_true rfl) hD ?_
  intro p e s m args below meth c X hr
  exact G.sub [0, 1, 2] rfl (b_X11_refusalOfDraw_0 X hr  _ _ _ h)
abbrev rm_X1_add : Room := { frames := 2, cells := 0, slots := 0, locals := 56 }
set_option maxRecDepth 100000 in
set_option maxHeartbeats 4000000 in
theorem b_X1_add_0 {p : Program} {l : Launch} {e : Env} {s : State} {m : MethodId} {args : Array Value} {below : List Frame} {meth : Method} {c : Code} {D : va_G} {ks : Nat → ClassId} {A : Nat → Prop} {ad : Nat → Nat} (X : Cx p s m args meth c cX1_add 9 RX1 D ks A 75 ad (shC ks ad)) (hr : meth.sig.returnType = none) {F : Nat} {r : Unit × Mem} (μ : Mem) (t : Nat) (x1 : Int64) (x3 : Int64) (kt : kindC t = 101) (h : f_X1_add F  μ t x1 x3 = some r) : G p l e rm_X1_add s m args below meth c D A 9 (MQ below (QV D 75 ad (shC ks ad) A r) args s 0 0 A) 75 ad (shC ks ad) μ 0 [(0, .ref (ad t)), (1, .long x1), (3, .long x3)] [] := by
  refine g_lload_n 1 X 1 dX1_add_0 rfl rfl ?_
  refine g_lconst 2 X dX1_add_1 lc0 rfl ?_
  refine g_lcmp 3 X dX1_add_2 rfl ?_
  refine g_if_le 12 6 X dX1_add_3 (by decide) rfl h (fun h => ?_) (fun h => ?_)
  · exact g_vret X hr dX1_add_12 h
  · refine g_lload_n 7 X 2 dX1_add_6 rfl rfl ?_
    refine g_lconst 8 X dX1_add_7 lc0 rfl ?_
    refine g_lcmp 9 X dX1_add_8 rfl ?_
    refine g_if_gt 13 12 X dX1_add_9 (by decide) rfl h (fun h => ?_) (fun h => ?_)
    · refine g_aload_n 14 X 0 dX1_add_13 rfl rfl ?_
      refine g_getl 17 X fl_X1_13_1 (o1 kt) rfl dX1_add_14 h rfl (fun v1 h => ?_)
      refine g_lload_n 18 X 2 dX1_add_17 rfl rfl ?_
      refine g_nl 21 h (fun q e => r_S X cd_X1_16_X1_commonDivisor ⟨rfl, rfl⟩ ⟨Nat.le_of_ble_eq_true rfl, Nat.le_of_ble_eq_true rfl⟩ (c_X1_commonDivisor e) PC_blind (pn_pre X) rfl rfl (Nat.le_of_ble_eq_true rfl) dX1_add_18) rfl (fun v2 h => ?_)
      refine g_lstore 23 X dX1_add_21 (by decide) rfl ?_
      refine g_lload_n 24 X 3 dX1_add_23 rfl rfl ?_
      refine g_lload 26 X 0 dX1_add_24 rfl rfl ?_
      refine g_ldiv 27 X dX1_add_26 h rfl (fun h => ?_)
      refine g_topl h (fun v3 h => ?_)
      refine g_lstore 29 X dX1_add_27 (by decide) rfl ?_
      refine g_aload_n 30 X 2 dX1_add_29 rfl rfl ?_
      refine g_aload_n 31 X 2 dX1_add_30 rfl rfl ?_
      refine g_getl 34 X fl_X1_7_1 (o1 kt) rfl dX1_add_31 h rfl (fun v4 h => ?_)
      refine g_lload 36 X 0 dX1_add_34 rfl rfl ?_
      refine g_lmul 37 X dX1_add_36 rfl ?_
      refine g_lload_n 38 X 3 dX1_add_37 rfl rfl ?_
      refine g_aload_n 39 X 2 dX1_add_38 rfl rfl ?_
      refine g_getl 42 X fl_X1_13_1 (o1 kt) rfl dX1_add_39 h rfl (fun v5 h => ?_)
      refine g_lload 44 X 1 dX1_add_42 rfl rfl ?_
      refine g_ldiv 45 X dX1_add_44 h rfl (fun h => ?_)
      refine g_topl h (fun v6 h => ?_)
      refine g_lmul 46 X dX1_add_45 rfl ?_
      refine g_ladd 47 X dX1_add_46 rfl ?_
      refine g_aload_n 48 X 2 dX1_add_47 rfl rfl ?_
      refine g_getl 51 X fl_X1_13_1 (o1 kt) rfl dX1_add_48 h rfl (fun v7 h => ?_)
      refine g_lload 53 X 0 dX1_add_51 rfl rfl ?_
      refine g_lmul 54 X dX1_add_53 rfl ?_
      refine g_cv 57 h (fun q e => r_V X cd_X1_20_X1_become_X1 ⟨rfl, rfl⟩ ⟨Nat.le_of_ble_eq_true rfl, Nat.le_of_ble_eq_true rfl⟩ (c_X1_become X.2.2.2.2 kt e) PC_blind (pc_pre X) (g_recv X (o1 kt) rfl) rfl rfl (Nat.le_of_ble_eq_true rfl) dX1_add_54) rfl (fun _ μ8 h => ?_)
      exact g_vret X hr dX1_add_57 h
    · exact g_vret X hr dX1_add_12 h
set_option maxRecDepth 100000 in
theorem c_X1_add {l : Launch} {D : va_G} {ks : Nat → ClassId} {A : Nat → Prop} {ad : Nat → Nat} (hD : ∀ μ : Mem, va_D A (wsM 75 ad (shC ks ad) μ)) {F : Nat} {μ : Mem} {t : Nat} {x1 : Int64} {x3 : Int64} {r : Unit × Mem} (kt : kindC t = 101) (h : f_X1_add F μ t x1 x3 = some r) : Met l yX1_add (Cond.code yX1_add cX1_add 9 none :: wg) rm_X1_add (PC D ks 75 ad (shC ks ad) μ [.ref (ad t), .long x1, .long x3]) (QV D 75 ad (shC ks ad) A r) 0 0 A := by
  refine met_of (by decide) (Nat.le_of_ble_eq_true rfl) hD ?_
  intro p e s m args below meth c X hr
  exact G.sub [0, 1, 2] rfl (b_X1_add_0 X hr  _ _ _ _ kt h)
abbrev rm_X11_addUp : Room := { frames := 4, cells := 0, slots := 0, locals := 85 }
set_option maxRecDepth 100000 in
set_option maxHeartbeats 4000000 in
theorem b_X11_addUp_91 {p : Program} {l : Launch} {e : Env} {s : State} {m : MethodId} {args : Array Value} {below : List Frame} {meth : Method} {c : Code} {D : va_G} {ks : Nat → ClassId} {A : Nat → Prop} {ad : Nat → Nat} (X : Cx p s m args meth c cX11_addUp 5 RX11 D ks A 75 ad (shC ks ad)) (hr : meth.sig.returnType = none) {F : Nat} {r : Unit × Mem} {k27 : Mem → (Option Nat) → Int32 → Int32 → Option (Unit × Mem)} (hk27 : ∀ (μ : Mem) (x1 : Option Nat) (x3 : Int32) (x4 : Int32), k27 μ x1 x3 x4 = some r → G p l e rm_X11_addUp s m args below meth c D A 5 (MQ below (QV D 75 ad (shC ks ad) A r) args s 0 0 A) 75 ad (shC ks ad) μ 27 [(0, .ref (ad 0)), (1, va_rf (x1.map ad)), (3, .int x3), (4, .int x4)] []) (μ : Mem) (x1 : Option Nat) (x3 : Int32) (x4 : Int32)  (h : f_X11_addUp_b91 F k27 μ x1 x3 x4 = some r) : G p l e rm_X11_addUp s m args below meth c D A 5 (MQ below (QV D 75 ad (shC ks ad) A r) args s 0 0 A) 75 ad (shC ks ad) μ 91 [(0, .ref (ad 0)), (1, va_rf (x1.map ad)), (3, .int x3), (4, .int x4)] [] := by
  refine g_iinc 94 X 3 dX11_addUp_91 ic1 rfl (by decide) rfl ?_
  refine g_goto 27 X dX11_addUp_94 (by decide) ?_
  exact G.sub [1, 2, 3, 0] rfl (hk27 _ _ _ _ h)
set_option maxRecDepth 100000 in
set_option maxHeartbeats 4000000 in
theorem b_X11_addUp_27 {p : Program} {l : Launch} {e : Env} {s : State} {m : MethodId} {args : Array Value} {below : List Frame} {meth : Method} {c : Code} {D : va_G} {ks : Nat → ClassId} {A : Nat → Prop} {ad : Nat → Nat} (X : Cx p s m args meth c cX11_addUp 5 RX11 D ks A 75 ad (shC ks ad)) (hr : meth.sig.returnType = none) {F : Nat} {r : Unit × Mem} : ∀ n : Nat, ∀ (μ : Mem) (x1 : Option Nat) (x3 : Int32) (x4 : Int32), f_X11_addUp_b27 F  n μ x1 x3 x4 = some r → G p l e rm_X11_addUp s m args below meth c D A 5 (MQ below (QV D 75 ad (shC ks ad) A r) args s 0 0 A) 75 ad (shC ks ad) μ 27 [(0, .ref (ad 0)), (1, va_rf (x1.map ad)), (3, .int x3), (4, .int x4)] [] := by
  intro n
  induction n with
  | zero =>
    intro _ _ _ _ h
    cases h
  | succ n ih =>
    intro μ x1 x3 x4 h
    refine g_iload 29 X 3 dX11_addUp_27 rfl rfl ?_
    refine g_aload_n 30 X 0 dX11_addUp_29 rfl rfl ?_
    refine g_getr 33 X fl_X11_10_11 (o11 rfl) rfl dX11_addUp_30 rfl ?_
    refine g_geti 36 X fl_X11_130_6 (o6 rfl) rfl dX11_addUp_33 h rfl (fun v1 h => ?_)
    refine g_icmp_ge 97 39 X dX11_addUp_36 (by decide) rfl h (fun h => ?_) (fun h => ?_)
    · exact g_vret X hr dX11_addUp_97 h
    · refine g_iload_n 40 X 2 dX11_addUp_39 rfl rfl ?_
      refine g_iload 42 X 3 dX11_addUp_40 rfl rfl ?_
      refine g_ni 45 h (fun q e => r_S X cd_X11_285_X11_isIn ⟨rfl, rfl⟩ ⟨Nat.le_of_ble_eq_true rfl, Nat.le_of_ble_eq_true rfl⟩ (c_X11_isIn e) PC_blind (pn_pre X) rfl rfl (Nat.le_of_ble_eq_true rfl) dX11_addUp_42) rfl (fun v2 h => ?_)
      refine g_if_eq 91 48 X dX11_addUp_45 (by decide) rfl h (fun h => ?_) (fun h => ?_)
      · exact G.sub [0, 1, 2, 3] rfl (b_X11_addUp_91 X hr ih _ _ _ _ h)
      · refine g_aloadq_n 49 X 1 dX11_addUp_48 rfl rfl ?_
        refine g_iload 51 X 3 dX11_addUp_49 rfl rfl ?_
        refine g_aload_n 52 X 0 dX11_addUp_51 rfl rfl ?_
        refine g_getr 55 X fl_X11_58_11 (o11 rfl) rfl dX11_addUp_52 rfl ?_
        obtain ⟨y3, hy, h2⟩ := onul_some h
        subst hy
        have h := h2
        refine g_cv (rest := []) 58 h (fun q e => ?_) rfl (fun _ μ4 h => ?_)
        · rcases vdis_some e with ⟨kk, e⟩ | ⟨kk, e⟩ | ⟨kk, e⟩
          · exact r_A X cd_X11_163_X2_shareOfOne_X2 ⟨rfl, rfl⟩ ⟨Nat.le_of_ble_eq_true rfl, Nat.le_of_ble_eq_true rfl⟩ (c_X2_shareOfOne X.2.2.2.2 kk rfl e) PC_blind (pc_pre X) (g_recv X (o2 kk) rfl) rfl rfl (Nat.le_of_ble_eq_true rfl) dX11_addUp_55
          · exact r_A X cd_X11_163_X4_shareOfOne_X4 ⟨rfl, rfl⟩ ⟨Nat.le_of_ble_eq_true rfl, Nat.le_of_ble_eq_true rfl⟩ (c_X4_shareOfOne X.2.2.2.2 kk rfl e) PC_blind (pc_pre X) (g_recv X (o4 kk) rfl) rfl rfl (Nat.le_of_ble_eq_true rfl) dX11_addUp_55
          · exact r_A X cd_X11_163_X8_shareOfOne_X8 ⟨rfl, rfl⟩ ⟨Nat.le_of_ble_eq_true rfl, Nat.le_of_ble_eq_true rfl⟩ (c_X8_shareOfOne X.2.2.2.2 kk rfl e) PC_blind (pc_pre X) (g_recv X (o8 kk) rfl) rfl rfl (Nat.le_of_ble_eq_true rfl) dX11_addUp_55
        · refine g_aload_n 59 X 0 dX11_addUp_58 rfl rfl ?_
          refine g_getr 62 X fl_X11_54_11 (o11 rfl) rfl dX11_addUp_59 rfl ?_
          refine g_aload_n 63 X 0 dX11_addUp_62 rfl rfl ?_
          refine g_getr 66 X fl_X11_10_11 (o11 rfl) rfl dX11_addUp_63 rfl ?_
          refine g_getr 69 X fl_X11_102_6 (o6 rfl) rfl dX11_addUp_66 rfl ?_
          refine g_iload 71 X 3 dX11_addUp_69 rfl rfl ?_
          refine g_iald 72 X (aiC (n := 30) (by decide) rfl) dX11_addUp_71 h rfl (fun v5 h => ?_)
          refine g_i2l 73 X dX11_addUp_72 rfl ?_
          refine g_aload_n 74 X 0 dX11_addUp_73 rfl rfl ?_
          refine g_getr 77 X fl_X11_58_11 (o11 rfl) rfl dX11_addUp_74 rfl ?_
          refine g_getl 80 X fl_X11_332_1 (o1 rfl) rfl dX11_addUp_77 h rfl (fun v6 h => ?_)
          refine g_lmul 81 X dX11_addUp_80 rfl ?_
          refine g_aload_n 82 X 0 dX11_addUp_81 rfl rfl ?_
          refine g_getr 85 X fl_X11_58_11 (o11 rfl) rfl dX11_addUp_82 rfl ?_
          refine g_getl 88 X fl_X11_336_1 (o1 rfl) rfl dX11_addUp_85 h rfl (fun v7 h => ?_)
          refine g_cv 91 h (fun q e => r_V X cd_X11_339_X1_add_X1 ⟨rfl, rfl⟩ ⟨Nat.le_of_ble_eq_true rfl, Nat.le_of_ble_eq_true rfl⟩ (c_X1_add X.2.2.2.2 rfl e) PC_blind (pc_pre X) (g_recv X (o1 rfl) rfl) rfl rfl (Nat.le_of_ble_eq_true rfl) dX11_addUp_88) rfl (fun _ μ8 h => ?_)
          exact G.sub [0, 1, 2, 3] rfl (b_X11_addUp_91 X hr ih _ _ _ _ h)
set_option maxRecDepth 100000 in
set_option maxHeartbeats 4000000 in
theorem b_X11_addUp_0 {p : Program} {l : Launch} {e : Env} {s : State} {m : MethodId} {args : Array Value} {below : List Frame} {meth : Method} {c : Code} {D : va_G} {ks : Nat → ClassId} {A : Nat → Prop} {ad : Nat → Nat} (X : Cx p s m args meth c cX11_addUp 5 RX11 D ks A 75 ad (shC ks ad)) (hr : meth.sig.returnType = none) {F : Nat} {r : Unit × Mem} (μ : Mem) (x1 : Option Nat) (x2 : Int32)  (h : f_X11_addUp F  μ x1 x2 = some r) : G p l e rm_X11_addUp s m args below meth c D A 5 (MQ below (QV D 75 ad (shC ks ad) A r) args s 0 0 A) 75 ad (shC ks ad) μ 0 [(0, .ref (ad 0)), (1, va_rf (x1.map ad)), (2, .int x2)] [] := by
  refine g_aload_n 1 X 0 dX11_addUp_0 rfl rfl ?_
  refine g_getr 4 X fl_X11_54_11 (o11 rfl) rfl dX11_addUp_1 rfl ?_
  refine g_lconst 5 X dX11_addUp_4 lc0 rfl ?_
  refine g_lconst 6 X dX11_addUp_5 lc1 rfl ?_
  refine g_cv 9 h (fun q e => r_V X cd_X11_328_X1_become_X1 ⟨rfl, rfl⟩ ⟨Nat.le_of_ble_eq_true rfl, Nat.le_of_ble_eq_true rfl⟩ (c_X1_become X.2.2.2.2 rfl e) PC_blind (pc_pre X) (g_recv X (o1 rfl) rfl) rfl rfl (Nat.le_of_ble_eq_true rfl) dX11_addUp_6) rfl (fun _ μ1 h => ?_)
  refine g_aloadq_n 10 X 1 dX11_addUp_9 rfl rfl ?_
  refine g_ifnonnull 14 13 X dX11_addUp_10 (by decide) rfl h (fun y2 hy h2 => ?_) (fun hy h2 => ?_)
  · subst hy
    have h := h2
    refine g_iload_n 15 X 2 dX11_addUp_14 rfl rfl ?_
    refine g_aload_n 16 X 0 dX11_addUp_15 rfl rfl ?_
    refine g_getr 19 X fl_X11_10_11 (o11 rfl) rfl dX11_addUp_16 rfl ?_
    refine g_geti 22 X fl_X11_200_6 (o6 rfl) rfl dX11_addUp_19 h rfl (fun v3 h => ?_)
    refine g_iand 23 X dX11_addUp_22 rfl ?_
    refine g_topi h (fun v4 h => ?_)
    refine g_istore_n 24 X dX11_addUp_23 (by decide) rfl ?_
    refine g_iconst 25 X dX11_addUp_24 ic0 rfl ?_
    refine g_istore 27 X dX11_addUp_25 (by decide) rfl ?_
    exact G.sub [2, 3, 1, 0] rfl (b_X11_addUp_27 X hr  F _ _ _ _ h)
  · subst hy
    have h := h2
    exact g_vret X hr dX11_addUp_13 h
set_option maxRecDepth 100000 in
theorem c_X11_addUp {l : Launch} {D : va_G} {ks : Nat → ClassId} {A : Nat → Prop} {ad : Nat → Nat} (hD : ∀ μ : Mem, va_D A (wsM 75 ad (shC ks ad) μ)) {F : Nat} {μ : Mem} {x1 : Option Nat} {x2 : Int32} {r : Unit × Mem}  (h : f_X11_addUp F μ x1 x2 = some r) : Met l yX11_addUp (Cond.code yX11_addUp cX11_addUp 5 none :: wg) rm_X11_addUp (PC D ks 75 ad (shC ks ad) μ [.ref (ad 0), va_rf (x1.map ad), .int x2]) (QV D 75 ad (shC ks ad) A r) 0 0 A := by
  cases x1 with
  | none =>
    refine met_of (by decide) (Nat.le_of_ble_eq_true rfl) hD ?_
    intro p e s m args below meth c X hr
    exact G.sub [0, 1, 2] rfl (b_X11_addUp_0 X hr  _ _ _ h)
  | some y =>
    refine met_of (by decide) (Nat.le_of_ble_eq_true rfl) hD ?_
    intro p e s m args below meth c X hr
    exact G.sub [0, 1, 2] rfl (b_X11_addUp_0 X hr  _ _ _ h)
abbrev rm_X11_sum : Room := { frames := 5, cells := 0, slots := 0, locals := 114 }
set_option maxRecDepth 100000 in
set_option maxHeartbeats 4000000 in
theorem b_X11_sum_0 {p : Program} {l : Launch} {e : Env} {s : State} {m : MethodId} {args : Array Value} {below : List Frame} {meth : Method} {c : Code} {D : va_G} {ks : Nat → ClassId} {A : Nat → Prop} {ad : Nat → Nat} (X : Cx p s m args meth c cX11_sum 5 RX11 D ks A 75 ad (shC ks ad)) (hr : meth.sig.returnType = (some .long)) {F : Nat} {r : Int64 × Mem} (μ : Mem) (x1 : Int32) (x2 : Int32) (x3 : Int32)  (h : f_X11_sum F  μ x1 x2 x3 = some r) : G p l e rm_X11_sum s m args below meth c D A 5 (MQ below (QL D 75 ad (shC ks ad) A r) args s 0 0 A) 75 ad (shC ks ad) μ 0 [(0, .ref (ad 0)), (1, .int x1), (2, .int x2), (3, .int x3)] [] := by
  refine g_iload_n 1 X 3 dX11_sum_0 rfl rfl ?_
  refine g_ni 4 h (fun q e => r_S X cd_X11_160_X11_isAboveOrBelow ⟨rfl, rfl⟩ ⟨Nat.le_of_ble_eq_true rfl, Nat.le_of_ble_eq_true rfl⟩ (c_X11_isAboveOrBelow e) PC_blind (pn_pre X) rfl rfl (Nat.le_of_ble_eq_true rfl) dX11_sum_1) rfl (fun v1 h => ?_)
  refine g_if_ne 13 7 X dX11_sum_4 (by decide) rfl h (fun h => ?_) (fun h => ?_)
  · refine g_aload_n 14 X 0 dX11_sum_13 rfl rfl ?_
    refine g_iload_n 15 X 1 dX11_sum_14 rfl rfl ?_
    refine g_iload_n 16 X 2 dX11_sum_15 rfl rfl ?_
    refine g_ci 19 h (fun q e => r_V X cd_X11_192_X11_refusalOfDraw_X11 ⟨rfl, rfl⟩ ⟨Nat.le_of_ble_eq_true rfl, Nat.le_of_ble_eq_true rfl⟩ (c_X11_refusalOfDraw X.2.2.2.2  e) PC_blind (pc_pre X) (g_recv X (o11 rfl) rfl) rfl rfl (Nat.le_of_ble_eq_true rfl) dX11_sum_16) rfl (fun v2 μ3 h => ?_)
    refine g_istore 21 X dX11_sum_19 (by decide) rfl ?_
    refine g_iload 23 X 0 dX11_sum_21 rfl rfl ?_
    refine g_if_ge 32 26 X dX11_sum_23 (by decide) rfl h (fun h => ?_) (fun h => ?_)
    · refine g_aload_n 33 X 1 dX11_sum_32 rfl rfl ?_
      refine g_aload_n 34 X 1 dX11_sum_33 rfl rfl ?_
      refine g_getr 37 X fl_X11_27_11 (o11 rfl) rfl dX11_sum_34 rfl ?_
      refine g_iload_n 38 X 2 dX11_sum_37 rfl rfl ?_
      refine g_aald (fn := fun p => 18 + 9 * p) 39 X arP rfl dX11_sum_38 h rfl (fun hv4 h => ?_)
      refine g_cr 42 h (fun q e => r_V X cd_X11_146_X5_possibleWay_X5 ⟨rfl, rfl⟩ ⟨Nat.le_of_ble_eq_true rfl, Nat.le_of_ble_eq_true rfl⟩ (c_X5_possibleWay X.2.2.2.2 (kPl hv4) e) PC_blind (pc_pre X) (g_recv X (o5 (kPl hv4)) rfl) rfl rfl (Nat.le_of_ble_eq_true rfl) dX11_sum_39) rfl (fun v5 μ6 h => ?_)
      refine g_iload_n 43 X 3 dX11_sum_42 rfl rfl ?_
      refine g_cv 46 h (fun q e => r_V X cd_X11_196_X11_addUp_X11 ⟨rfl, rfl⟩ ⟨Nat.le_of_ble_eq_true rfl, Nat.le_of_ble_eq_true rfl⟩ (c_X11_addUp X.2.2.2.2  e) PC_blind (pc_pre X) (g_recv X (o11 rfl) rfl) rfl rfl (Nat.le_of_ble_eq_true rfl) dX11_sum_43) rfl (fun _ μ7 h => ?_)
      refine g_aload_n 47 X 1 dX11_sum_46 rfl rfl ?_
      refine g_getr 50 X fl_X11_54_11 (o11 rfl) rfl dX11_sum_47 rfl ?_
      refine g_iload_n 51 X 4 dX11_sum_50 rfl rfl ?_
      refine g_cl 54 h (fun q e => r_V X cd_X11_167_X1_told_X1 ⟨rfl, rfl⟩ ⟨Nat.le_of_ble_eq_true rfl, Nat.le_of_ble_eq_true rfl⟩ (c_X1_told X.2.2.2.2 rfl e) PC_blind (pc_pre X) (g_recv X (o1 rfl) rfl) rfl rfl (Nat.le_of_ble_eq_true rfl) dX11_sum_51) rfl (fun v8 μ9 h => ?_)
      exact g_lret X hr dX11_sum_54 h
    · refine g_iload 28 X 0 dX11_sum_26 rfl rfl ?_
      refine g_nl 31 h (fun q e => r_S X cd_X11_150_X11_asLong ⟨rfl, rfl⟩ ⟨Nat.le_of_ble_eq_true rfl, Nat.le_of_ble_eq_true rfl⟩ (c_X11_asLong e) PC_blind (pn_pre X) rfl rfl (Nat.le_of_ble_eq_true rfl) dX11_sum_28) rfl (fun v10 h => ?_)
      exact g_lret X hr dX11_sum_31 h
  · refine g_bipush 9 X dX11_sum_7 bpm2 rfl ?_
    refine g_nl 12 h (fun q e => r_S X cd_X11_150_X11_asLong ⟨rfl, rfl⟩ ⟨Nat.le_of_ble_eq_true rfl, Nat.le_of_ble_eq_true rfl⟩ (c_X11_asLong e) PC_blind (pn_pre X) rfl rfl (Nat.le_of_ble_eq_true rfl) dX11_sum_9) rfl (fun v11 h => ?_)
    exact g_lret X hr dX11_sum_12 h
set_option maxRecDepth 100000 in
theorem c_X11_sum {l : Launch} {D : va_G} {ks : Nat → ClassId} {A : Nat → Prop} {ad : Nat → Nat} (hD : ∀ μ : Mem, va_D A (wsM 75 ad (shC ks ad) μ)) {F : Nat} {μ : Mem} {x1 : Int32} {x2 : Int32} {x3 : Int32} {r : Int64 × Mem}  (h : f_X11_sum F μ x1 x2 x3 = some r) : Met l yX11_sum (Cond.code yX11_sum cX11_sum 5 (some .long) :: wg) rm_X11_sum (PC D ks 75 ad (shC ks ad) μ [.ref (ad 0), .int x1, .int x2, .int x3]) (QL D 75 ad (shC ks ad) A r) 0 0 A := by
  refine met_of (by decide) (Nat.le_of_ble_eq_true rfl) hD ?_
  intro p e s m args below meth c X hr
  exact G.sub [0, 1, 2, 3] rfl (b_X11_sum_0 X hr  _ _ _ _ h)
abbrev rm_X11_silent : Room := { frames := 1, cells := 0, slots := 0, locals := 21 }
set_option maxRecDepth 100000 in
set_option maxHeartbeats 4000000 in
theorem b_X11_silent_0 {p : Program} {l : Launch} {e : Env} {s : State} {m : MethodId} {args : Array Value} {below : List Frame} {meth : Method} {c : Code} {D : va_G} {ks : Nat → ClassId} {A : Nat → Prop} {ad : Nat → Nat} (X : Cx p s m args meth c cX11_silent 2 RX11 D ks A 75 ad (shC ks ad)) (hr : meth.sig.returnType = (some .int)) {F : Nat} {r : Int32 × Mem} (μ : Mem) (x1 : Int32)  (h : f_X11_silent F  μ x1 = some r) : G p l e rm_X11_silent s m args below meth c D A 2 (MQ below (QI D 75 ad (shC ks ad) A r) args s 0 0 A) 75 ad (shC ks ad) μ 0 [(0, .ref (ad 0)), (1, .int x1)] [] := by
  refine g_aload_n 1 X 0 dX11_silent_0 rfl rfl ?_
  refine g_getr 4 X fl_X11_10_11 (o11 rfl) rfl dX11_silent_1 rfl ?_
  refine g_iload_n 5 X 1 dX11_silent_4 rfl rfl ?_
  refine g_ci 8 h (fun q e => r_V X cd_X11_186_X6_hasAll_X6 ⟨rfl, rfl⟩ ⟨Nat.le_of_ble_eq_true rfl, Nat.le_of_ble_eq_true rfl⟩ (c_X6_hasAll X.2.2.2.2  e) PC_blind (pc_pre X) (g_recv X (o6 rfl) rfl) rfl rfl (Nat.le_of_ble_eq_true rfl) dX11_silent_5) rfl (fun v1 μ2 h => ?_)
  refine g_if_ne 14 11 X dX11_silent_8 (by decide) rfl h (fun h => ?_) (fun h => ?_)
  · refine g_iload_n 15 X 1 dX11_silent_14 rfl rfl ?_
    refine g_aload_n 16 X 0 dX11_silent_15 rfl rfl ?_
    refine g_getr 19 X fl_X11_10_11 (o11 rfl) rfl dX11_silent_16 rfl ?_
    refine g_geti 22 X fl_X11_200_6 (o6 rfl) rfl dX11_silent_19 h rfl (fun v3 h => ?_)
    refine g_iconst 23 X dX11_silent_22 icm1 rfl ?_
    refine g_ixor 24 X dX11_silent_23 rfl ?_
    refine g_iand 25 X dX11_silent_24 rfl ?_
    refine g_ni 28 h (fun q e => r_S X cd_X11_119_J6_bitCount_0f7a4 ⟨rfl, rfl⟩ ⟨Nat.le_of_ble_eq_true rfl, Nat.le_of_ble_eq_true rfl⟩ (c_J6_bitCount_0f7a4 e) PC_blind (pn_pre X) rfl rfl (Nat.le_of_ble_eq_true rfl) dX11_silent_25) rfl (fun v4 h => ?_)
    exact g_iret X hr dX11_silent_28 h
  · refine g_bipush 13 X dX11_silent_11 bpm2 rfl ?_
    exact g_iret X hr dX11_silent_13 h
set_option maxRecDepth 100000 in
theorem c_X11_silent {l : Launch} {D : va_G} {ks : Nat → ClassId} {A : Nat → Prop} {ad : Nat → Nat} (hD : ∀ μ : Mem, va_D A (wsM 75 ad (shC ks ad) μ)) {F : Nat} {μ : Mem} {x1 : Int32} {r : Int32 × Mem}  (h : f_X11_silent F μ x1 = some r) : Met l yX11_silent (Cond.code yX11_silent cX11_silent 2 (some .int) :: wg) rm_X11_silent (PC D ks 75 ad (shC ks ad) μ [.ref (ad 0), .int x1]) (QI D 75 ad (shC ks ad) A r) 0 0 A := by
  refine met_of (by decide) (Nat.le_of_ble_eq_true rfl) hD ?_
  intro p e s m args below meth c X hr
  exact G.sub [0, 1] rfl (b_X11_silent_0 X hr  _ _ h)
abbrev rm_X2_addSpreadOf : Room := { frames := 3, cells := 0, slots := 0, locals := 84 }
set_option maxRecDepth 100000 in
set_option maxHeartbeats 4000000 in
theorem b_X2_addSpreadOf_66 {p : Program} {l : Launch} {e : Env} {s : State} {m : MethodId} {args : Array Value} {below : List Frame} {meth : Method} {c : Code} {D : va_G} {ks : Nat → ClassId} {A : Nat → Prop} {ad : Nat → Nat} (X : Cx p s m args meth c cX2_addSpreadOf 12 RX2 D ks A 75 ad (shC ks ad)) (hr : meth.sig.returnType = none) {F : Nat} {r : Unit × Mem} {k15 : Mem → Nat → Int32 → Nat → Int32 → Int64 → Int64 → Int32 → Option (Unit × Mem)} (hk15 : ∀ (μ : Mem) (t : Nat) (x1 : Int32) (x2 : Nat) (x3 : Int32) (x4 : Int64) (x6 : Int64) (x8 : Int32), (kindC t = 102) → (kindC x2 = 101) → k15 μ t x1 x2 x3 x4 x6 x8 = some r → G p l e rm_X2_addSpreadOf s m args below meth c D A 12 (MQ below (QV D 75 ad (shC ks ad) A r) args s 0 0 A) 75 ad (shC ks ad) μ 15 [(0, .ref (ad t)), (1, .int x1), (2, .ref (ad x2)), (3, .int x3), (4, .long x4), (6, .long x6), (8, .int x8)] []) (μ : Mem) (t : Nat) (x1 : Int32) (x2 : Nat) (x3 : Int32) (x4 : Int64) (x6 : Int64) (x8 : Int32) (kt : kindC t = 102) (kx2 : kindC x2 = 101) (h : f_X2_addSpreadOf_b66 F k15 μ t x1 x2 x3 x4 x6 x8 = some r) : G p l e rm_X2_addSpreadOf s m args below meth c D A 12 (MQ below (QV D 75 ad (shC ks ad) A r) args s 0 0 A) 75 ad (shC ks ad) μ 66 [(0, .ref (ad t)), (1, .int x1), (2, .ref (ad x2)), (3, .int x3), (4, .long x4), (6, .long x6), (8, .int x8)] [] := by
  refine g_iinc 69 X 6 dX2_addSpreadOf_66 ic1 rfl (by decide) rfl ?_
  refine g_goto 15 X dX2_addSpreadOf_69 (by decide) ?_
  exact G.sub [1, 2, 3, 4, 5, 6, 0] rfl (hk15 _ _ _ _ _ _ _ _ kt kx2 h)
set_option maxRecDepth 100000 in
set_option maxHeartbeats 4000000 in
theorem b_X2_addSpreadOf_15 {p : Program} {l : Launch} {e : Env} {s : State} {m : MethodId} {args : Array Value} {below : List Frame} {meth : Method} {c : Code} {D : va_G} {ks : Nat → ClassId} {A : Nat → Prop} {ad : Nat → Nat} (X : Cx p s m args meth c cX2_addSpreadOf 12 RX2 D ks A 75 ad (shC ks ad)) (hr : meth.sig.returnType = none) {F : Nat} {r : Unit × Mem} : ∀ n : Nat, ∀ (μ : Mem) (t : Nat) (x1 : Int32) (x2 : Nat) (x3 : Int32) (x4 : Int64) (x6 : Int64) (x8 : Int32), (kindC t = 102) → (kindC x2 = 101) → f_X2_addSpreadOf_b15 F  n μ t x1 x2 x3 x4 x6 x8 = some r → G p l e rm_X2_addSpreadOf s m args below meth c D A 12 (MQ below (QV D 75 ad (shC ks ad) A r) args s 0 0 A) 75 ad (shC ks ad) μ 15 [(0, .ref (ad t)), (1, .int x1), (2, .ref (ad x2)), (3, .int x3), (4, .long x4), (6, .long x6), (8, .int x8)] [] := by
  intro n
  induction n with
  | zero =>
    intro _ _ _ _ _ _ _ _ _ _ h
    cases h
  | succ n ih =>
    intro μ t x1 x2 x3 x4 x6 x8 kt kx2 h
    refine g_iload 17 X 6 dX2_addSpreadOf_15 rfl rfl ?_
    refine g_aload_n 18 X 0 dX2_addSpreadOf_17 rfl rfl ?_
    refine g_getr 21 X fl_X2_19_2 (o2 kt) rfl dX2_addSpreadOf_18 rfl ?_
    refine g_geti 24 X fl_X2_78_6 (o6 rfl) rfl dX2_addSpreadOf_21 h rfl (fun v1 h => ?_)
    refine g_icmp_ge 72 27 X dX2_addSpreadOf_24 (by decide) rfl h (fun h => ?_) (fun h => ?_)
    · refine g_aload_n 73 X 0 dX2_addSpreadOf_72 rfl rfl ?_
      refine g_iload_n 74 X 1 dX2_addSpreadOf_73 rfl rfl ?_
      refine g_ci 77 h (fun q e => r_V X cd_X2_47_X2_sizeOf_X2 ⟨rfl, rfl⟩ ⟨Nat.le_of_ble_eq_true rfl, Nat.le_of_ble_eq_true rfl⟩ (c_X2_sizeOf X.2.2.2.2 kt e) PC_blind (pc_pre X) (g_recv X (o2 kt) rfl) rfl rfl (Nat.le_of_ble_eq_true rfl) dX2_addSpreadOf_74) rfl (fun v2 μ3 h => ?_)
      refine g_i2l 78 X dX2_addSpreadOf_77 rfl ?_
      refine g_topl h (fun v4 h => ?_)
      refine g_lstore 80 X dX2_addSpreadOf_78 (by decide) rfl ?_
      refine g_aload_n 81 X 1 dX2_addSpreadOf_80 rfl rfl ?_
      refine g_getr 84 X fl_X2_44_2 (o2 kt) rfl dX2_addSpreadOf_81 rfl ?_
      refine g_iload_n 85 X 2 dX2_addSpreadOf_84 rfl rfl ?_
      refine g_iald 86 X (aiC (n := 4) (by decide) (k2_numbers kt)) dX2_addSpreadOf_85 h rfl (fun v5 h => ?_)
      refine g_i2l 87 X dX2_addSpreadOf_86 rfl ?_
      refine g_topl h (fun v6 h => ?_)
      refine g_lstore 89 X dX2_addSpreadOf_87 (by decide) rfl ?_
      refine g_aload_n 90 X 4 dX2_addSpreadOf_89 rfl rfl ?_
      refine g_lload 92 X 1 dX2_addSpreadOf_90 rfl rfl ?_
      refine g_lload 94 X 0 dX2_addSpreadOf_92 rfl rfl ?_
      refine g_lsub 95 X dX2_addSpreadOf_94 rfl ?_
      refine g_lload 97 X 1 dX2_addSpreadOf_95 rfl rfl ?_
      refine g_lload 99 X 7 dX2_addSpreadOf_97 rfl rfl ?_
      refine g_lmul 100 X dX2_addSpreadOf_99 rfl ?_
      refine g_lload 102 X 6 dX2_addSpreadOf_100 rfl rfl ?_
      refine g_lload 104 X 6 dX2_addSpreadOf_102 rfl rfl ?_
      refine g_lmul 105 X dX2_addSpreadOf_104 rfl ?_
      refine g_lsub 106 X dX2_addSpreadOf_105 rfl ?_
      refine g_lmul 107 X dX2_addSpreadOf_106 rfl ?_
      refine g_lload 109 X 0 dX2_addSpreadOf_107 rfl rfl ?_
      refine g_lload 111 X 1 dX2_addSpreadOf_109 rfl rfl ?_
      refine g_lconst 112 X dX2_addSpreadOf_111 lc1 rfl ?_
      refine g_lsub 113 X dX2_addSpreadOf_112 rfl ?_
      refine g_lmul 114 X dX2_addSpreadOf_113 rfl ?_
      refine g_cv 117 h (fun q e => r_V X cd_X2_88_X1_add_X1 ⟨rfl, rfl⟩ ⟨Nat.le_of_ble_eq_true rfl, Nat.le_of_ble_eq_true rfl⟩ (c_X1_add X.2.2.2.2 kx2 e) PC_blind (pc_pre X) (g_recv X (o1 kx2) rfl) rfl rfl (Nat.le_of_ble_eq_true rfl) dX2_addSpreadOf_114) rfl (fun _ μ7 h => ?_)
      exact g_vret X hr dX2_addSpreadOf_117 h
    · refine g_iload_n 28 X 3 dX2_addSpreadOf_27 rfl rfl ?_
      refine g_iload 30 X 6 dX2_addSpreadOf_28 rfl rfl ?_
      refine g_ni 33 h (fun q e => r_SN X cd_X2_81_X11_isIn ⟨rfl, rfl⟩ ⟨Nat.le_of_ble_eq_true rfl, Nat.le_of_ble_eq_true rfl⟩ (c_X11_isIn e) PC_blind (pn_pre X) rfl rfl (Nat.le_of_ble_eq_true rfl) dX2_addSpreadOf_30) rfl (fun v8 h => ?_)
      refine g_if_eq 66 36 X dX2_addSpreadOf_33 (by decide) rfl h (fun h => ?_) (fun h => ?_)
      · exact G.sub [0, 1, 2, 3, 4, 5, 6] rfl (b_X2_addSpreadOf_66 X hr ih _ _ _ _ _ _ _ _ kt kx2 h)
      · refine g_aload_n 37 X 0 dX2_addSpreadOf_36 rfl rfl ?_
        refine g_getr 40 X fl_X2_19_2 (o2 kt) rfl dX2_addSpreadOf_37 rfl ?_
        refine g_getr 43 X fl_X2_85_6 (o6 rfl) rfl dX2_addSpreadOf_40 rfl ?_
        refine g_iload 45 X 6 dX2_addSpreadOf_43 rfl rfl ?_
        refine g_iald 46 X (aiC (n := 30) (by decide) rfl) dX2_addSpreadOf_45 h rfl (fun v9 h => ?_)
        refine g_i2l 47 X dX2_addSpreadOf_46 rfl ?_
        refine g_topl h (fun v10 h => ?_)
        refine g_lstore 49 X dX2_addSpreadOf_47 (by decide) rfl ?_
        refine g_lload 51 X 5 dX2_addSpreadOf_49 rfl rfl ?_
        refine g_lload 53 X 0 dX2_addSpreadOf_51 rfl rfl ?_
        refine g_ladd 54 X dX2_addSpreadOf_53 rfl ?_
        refine g_topl h (fun v11 h => ?_)
        refine g_lstore 56 X dX2_addSpreadOf_54 (by decide) rfl ?_
        refine g_lload 58 X 6 dX2_addSpreadOf_56 rfl rfl ?_
        refine g_lload 60 X 1 dX2_addSpreadOf_58 rfl rfl ?_
        refine g_lload 62 X 1 dX2_addSpreadOf_60 rfl rfl ?_
        refine g_lmul 63 X dX2_addSpreadOf_62 rfl ?_
        refine g_ladd 64 X dX2_addSpreadOf_63 rfl ?_
        refine g_topl h (fun v12 h => ?_)
        refine g_lstore 66 X dX2_addSpreadOf_64 (by decide) rfl ?_
        exact G.sub [3, 4, 5, 6, 1, 0, 7] rfl (b_X2_addSpreadOf_66 X hr ih _ _ _ _ _ _ _ _ kt kx2 h)
set_option maxRecDepth 100000 in
set_option maxHeartbeats 4000000 in
theorem b_X2_addSpreadOf_0 {p : Program} {l : Launch} {e : Env} {s : State} {m : MethodId} {args : Array Value} {below : List Frame} {meth : Method} {c : Code} {D : va_G} {ks : Nat → ClassId} {A : Nat → Prop} {ad : Nat → Nat} (X : Cx p s m args meth c cX2_addSpreadOf 12 RX2 D ks A 75 ad (shC ks ad)) (hr : meth.sig.returnType = none) {F : Nat} {r : Unit × Mem} (μ : Mem) (t : Nat) (x1 : Int32) (x2 : Nat) (kt : kindC t = 102) (kx2 : kindC x2 = 101) (h : f_X2_addSpreadOf F  μ t x1 x2 = some r) : G p l e rm_X2_addSpreadOf s m args below meth c D A 12 (MQ below (QV D 75 ad (shC ks ad) A r) args s 0 0 A) 75 ad (shC ks ad) μ 0 [(0, .ref (ad t)), (1, .int x1), (2, .ref (ad x2))] [] := by
  refine g_aload_n 1 X 0 dX2_addSpreadOf_0 rfl rfl ?_
  refine g_iload_n 2 X 1 dX2_addSpreadOf_1 rfl rfl ?_
  refine g_ci 5 h (fun q e => r_V X cd_X2_35_X2_membersOf_X2 ⟨rfl, rfl⟩ ⟨Nat.le_of_ble_eq_true rfl, Nat.le_of_ble_eq_true rfl⟩ (c_X2_membersOf X.2.2.2.2 kt e) PC_blind (pc_pre X) (g_recv X (o2 kt) rfl) rfl rfl (Nat.le_of_ble_eq_true rfl) dX2_addSpreadOf_2) rfl (fun v1 μ2 h => ?_)
  refine g_istore_n 6 X dX2_addSpreadOf_5 (by decide) rfl ?_
  refine g_lconst 7 X dX2_addSpreadOf_6 lc0 rfl ?_
  refine g_lstore 9 X dX2_addSpreadOf_7 (by decide) rfl ?_
  refine g_lconst 10 X dX2_addSpreadOf_9 lc0 rfl ?_
  refine g_lstore 12 X dX2_addSpreadOf_10 (by decide) rfl ?_
  refine g_iconst 13 X dX2_addSpreadOf_12 ic0 rfl ?_
  refine g_istore 15 X dX2_addSpreadOf_13 (by decide) rfl ?_
  exact G.sub [4, 5, 6, 3, 2, 1, 0] rfl (b_X2_addSpreadOf_15 X hr  F _ _ _ _ _ _ _ _ kt kx2 h)
set_option maxRecDepth 100000 in
theorem c_X2_addSpreadOf {l : Launch} {D : va_G} {ks : Nat → ClassId} {A : Nat → Prop} {ad : Nat → Nat} (hD : ∀ μ : Mem, va_D A (wsM 75 ad (shC ks ad) μ)) {F : Nat} {μ : Mem} {t : Nat} {x1 : Int32} {x2 : Nat} {r : Unit × Mem} (kt : kindC t = 102) (kx2 : kindC x2 = 101) (h : f_X2_addSpreadOf F μ t x1 x2 = some r) : Met l yX2_addSpreadOf (Cond.code yX2_addSpreadOf cX2_addSpreadOf 12 none :: wg) rm_X2_addSpreadOf (PC D ks 75 ad (shC ks ad) μ [.ref (ad t), .int x1, .ref (ad x2)]) (QV D 75 ad (shC ks ad) A r) 0 0 A := by
  refine met_of (by decide) (Nat.le_of_ble_eq_true rfl) hD ?_
  intro p e s m args below meth c X hr
  exact G.sub [0, 1, 2] rfl (b_X2_addSpreadOf_0 X hr  _ _ _ _ kt kx2 h)
abbrev rm_X2_spreadInto : Room := { frames := 4, cells := 0, slots := 0, locals := 115 }
set_option maxRecDepth 100000 in
set_option maxHeartbeats 4000000 in
theorem b_X2_spreadInto_54 {p : Program} {l : Launch} {e : Env} {s : State} {m : MethodId} {args : Array Value} {below : List Frame} {meth : Method} {c : Code} {D : va_G} {ks : Nat → ClassId} {A : Nat → Prop} {ad : Nat → Nat} (X : Cx p s m args meth c cX2_spreadInto 3 RX2 D ks A 75 ad (shC ks ad)) (hr : meth.sig.returnType = (some .boolean)) {F : Nat} {r : Int32 × Mem} {k8 : Mem → Nat → Nat → Int32 → Option (Int32 × Mem)} (hk8 : ∀ (μ : Mem) (t : Nat) (x1 : Nat) (x2 : Int32), (kindC t = 102) → (kindC x1 = 101) → k8 μ t x1 x2 = some r → G p l e rm_X2_spreadInto s m args below meth c D A 3 (MQ below (QI D 75 ad (shC ks ad) A r) args s 0 0 A) 75 ad (shC ks ad) μ 8 [(0, .ref (ad t)), (1, .ref (ad x1)), (2, .int x2)] []) (μ : Mem) (t : Nat) (x1 : Nat) (x2 : Int32) (kt : kindC t = 102) (kx1 : kindC x1 = 101) (h : f_X2_spreadInto_b54 F k8 μ t x1 x2 = some r) : G p l e rm_X2_spreadInto s m args below meth c D A 3 (MQ below (QI D 75 ad (shC ks ad) A r) args s 0 0 A) 75 ad (shC ks ad) μ 54 [(0, .ref (ad t)), (1, .ref (ad x1)), (2, .int x2)] [] := by
  refine g_iinc 57 X 2 dX2_spreadInto_54 ic1 rfl (by decide) rfl ?_
  refine g_goto 8 X dX2_spreadInto_57 (by decide) ?_
  exact G.sub [1, 2, 0] rfl (hk8 _ _ _ _ kt kx1 h)
set_option maxRecDepth 100000 in
set_option maxHeartbeats 4000000 in
theorem b_X2_spreadInto_8 {p : Program} {l : Launch} {e : Env} {s : State} {m : MethodId} {args : Array Value} {below : List Frame} {meth : Method} {c : Code} {D : va_G} {ks : Nat → ClassId} {A : Nat → Prop} {ad : Nat → Nat} (X : Cx p s m args meth c cX2_spreadInto 3 RX2 D ks A 75 ad (shC ks ad)) (hr : meth.sig.returnType = (some .boolean)) {F : Nat} {r : Int32 × Mem} : ∀ n : Nat, ∀ (μ : Mem) (t : Nat) (x1 : Nat) (x2 : Int32), (kindC t = 102) → (kindC x1 = 101) → f_X2_spreadInto_b8 F  n μ t x1 x2 = some r → G p l e rm_X2_spreadInto s m args below meth c D A 3 (MQ below (QI D 75 ad (shC ks ad) A r) args s 0 0 A) 75 ad (shC ks ad) μ 8 [(0, .ref (ad t)), (1, .ref (ad x1)), (2, .int x2)] [] := by
  intro n
  induction n with
  | zero =>
    intro _ _ _ _ _ _ h
    cases h
  | succ n ih =>
    intro μ t x1 x2 kt kx1 h
    refine g_iload_n 9 X 2 dX2_spreadInto_8 rfl rfl ?_
    refine g_aload_n 10 X 0 dX2_spreadInto_9 rfl rfl ?_
    refine g_geti 13 X fl_X2_15_2 (o2 kt) rfl dX2_spreadInto_10 h rfl (fun v1 h => ?_)
    refine g_icmp_ge 60 16 X dX2_spreadInto_13 (by decide) rfl h (fun h => ?_) (fun h => ?_)
    · refine g_iconst 61 X dX2_spreadInto_60 ic1 rfl ?_
      exact g_zret X hr nb1 dX2_spreadInto_61 h
    · refine g_aload_n 17 X 0 dX2_spreadInto_16 rfl rfl ?_
      refine g_getr 20 X fl_X2_44_2 (o2 kt) rfl dX2_spreadInto_17 rfl ?_
      refine g_iload_n 21 X 2 dX2_spreadInto_20 rfl rfl ?_
      refine g_iald 22 X (aiC (n := 4) (by decide) (k2_numbers kt)) dX2_spreadInto_21 h rfl (fun v2 h => ?_)
      refine g_if_ne 28 25 X dX2_spreadInto_22 (by decide) rfl h (fun h => ?_) (fun h => ?_)
      · refine g_aload_n 29 X 0 dX2_spreadInto_28 rfl rfl ?_
        refine g_iload_n 30 X 2 dX2_spreadInto_29 rfl rfl ?_
        refine g_ci 33 h (fun q e => r_V X cd_X2_35_X2_membersOf_X2 ⟨rfl, rfl⟩ ⟨Nat.le_of_ble_eq_true rfl, Nat.le_of_ble_eq_true rfl⟩ (c_X2_membersOf X.2.2.2.2 kt e) PC_blind (pc_pre X) (g_recv X (o2 kt) rfl) rfl rfl (Nat.le_of_ble_eq_true rfl) dX2_spreadInto_30) rfl (fun v3 μ4 h => ?_)
        refine g_aload_n 34 X 0 dX2_spreadInto_33 rfl rfl ?_
        refine g_getr 37 X fl_X2_19_2 (o2 kt) rfl dX2_spreadInto_34 rfl ?_
        refine g_geti 40 X fl_X2_71_6 (o6 rfl) rfl dX2_spreadInto_37 h rfl (fun v5 h => ?_)
        refine g_iconst 41 X dX2_spreadInto_40 icm1 rfl ?_
        refine g_ixor 42 X dX2_spreadInto_41 rfl ?_
        refine g_iand 43 X dX2_spreadInto_42 rfl ?_
        refine g_if_eq 48 46 X dX2_spreadInto_43 (by decide) rfl h (fun h => ?_) (fun h => ?_)
        · refine g_aload_n 49 X 0 dX2_spreadInto_48 rfl rfl ?_
          refine g_iload_n 50 X 2 dX2_spreadInto_49 rfl rfl ?_
          refine g_aload_n 51 X 1 dX2_spreadInto_50 rfl rfl ?_
          refine g_cv 54 h (fun q e => r_V X cd_X2_74_X2_addSpreadOf_X2 ⟨rfl, rfl⟩ ⟨Nat.le_of_ble_eq_true rfl, Nat.le_of_ble_eq_true rfl⟩ (c_X2_addSpreadOf X.2.2.2.2 kt kx1 e) PC_blind (pc_pre X) (g_recv X (o2 kt) rfl) rfl rfl (Nat.le_of_ble_eq_true rfl) dX2_spreadInto_51) rfl (fun _ μ6 h => ?_)
          exact G.sub [0, 1, 2] rfl (b_X2_spreadInto_54 X hr ih _ _ _ _ kt kx1 h)
        · refine g_iconst 47 X dX2_spreadInto_46 ic0 rfl ?_
          exact g_zret X hr nb0 dX2_spreadInto_47 h
      · refine g_goto 54 X dX2_spreadInto_25 (by decide) ?_
        exact G.sub [0, 1, 2] rfl (b_X2_spreadInto_54 X hr ih _ _ _ _ kt kx1 h)
set_option maxRecDepth 100000 in
set_option maxHeartbeats 4000000 in
theorem b_X2_spreadInto_0 {p : Program} {l : Launch} {e : Env} {s : State} {m : MethodId} {args : Array Value} {below : List Frame} {meth : Method} {c : Code} {D : va_G} {ks : Nat → ClassId} {A : Nat → Prop} {ad : Nat → Nat} (X : Cx p s m args meth c cX2_spreadInto 3 RX2 D ks A 75 ad (shC ks ad)) (hr : meth.sig.returnType = (some .boolean)) {F : Nat} {r : Int32 × Mem} (μ : Mem) (t : Nat) (x1 : Nat) (kt : kindC t = 102) (kx1 : kindC x1 = 101) (h : f_X2_spreadInto F  μ t x1 = some r) : G p l e rm_X2_spreadInto s m args below meth c D A 3 (MQ below (QI D 75 ad (shC ks ad) A r) args s 0 0 A) 75 ad (shC ks ad) μ 0 [(0, .ref (ad t)), (1, .ref (ad x1))] [] := by
  refine g_aload_n 1 X 1 dX2_spreadInto_0 rfl rfl ?_
  refine g_lconst 2 X dX2_spreadInto_1 lc0 rfl ?_
  refine g_lconst 3 X dX2_spreadInto_2 lc1 rfl ?_
  refine g_cv 6 h (fun q e => r_V X cd_X2_57_X1_become_X1 ⟨rfl, rfl⟩ ⟨Nat.le_of_ble_eq_true rfl, Nat.le_of_ble_eq_true rfl⟩ (c_X1_become X.2.2.2.2 kx1 e) PC_blind (pc_pre X) (g_recv X (o1 kx1) rfl) rfl rfl (Nat.le_of_ble_eq_true rfl) dX2_spreadInto_3) rfl (fun _ μ1 h => ?_)
  refine g_iconst 7 X dX2_spreadInto_6 ic0 rfl ?_
  refine g_istore_n 8 X dX2_spreadInto_7 (by decide) rfl ?_
  exact G.sub [1, 2, 0] rfl (b_X2_spreadInto_8 X hr  F _ _ _ _ kt kx1 h)
set_option maxRecDepth 100000 in
theorem c_X2_spreadInto {l : Launch} {D : va_G} {ks : Nat → ClassId} {A : Nat → Prop} {ad : Nat → Nat} (hD : ∀ μ : Mem, va_D A (wsM 75 ad (shC ks ad) μ)) {F : Nat} {μ : Mem} {t : Nat} {x1 : Nat} {r : Int32 × Mem} (kt : kindC t = 102) (kx1 : kindC x1 = 101) (h : f_X2_spreadInto F μ t x1 = some r) : Met l yX2_spreadInto (Cond.code yX2_spreadInto cX2_spreadInto 3 (some .boolean) :: wg) rm_X2_spreadInto (PC D ks 75 ad (shC ks ad) μ [.ref (ad t), .ref (ad x1)]) (QI D 75 ad (shC ks ad) A r) 0 0 A := by
  refine met_of (by decide) (Nat.le_of_ble_eq_true rfl) hD ?_
  intro p e s m args below meth c X hr
  exact G.sub [0, 1] rfl (b_X2_spreadInto_0 X hr  _ _ _ kt kx1 h)
abbrev rm_X11_spreadOf : Room := { frames := 5, cells := 0, slots := 0, locals := 137 }
set_option maxRecDepth 100000 in
set_option maxHeartbeats 4000000 in
theorem b_X11_spreadOf_0 {p : Program} {l : Launch} {e : Env} {s : State} {m : MethodId} {args : Array Value} {below : List Frame} {meth : Method} {c : Code} {D : va_G} {ks : Nat → ClassId} {A : Nat → Prop} {ad : Nat → Nat} (X : Cx p s m args meth c cX11_spreadOf 5 RX11 D ks A 75 ad (shC ks ad)) (hr : meth.sig.returnType = (some .boolean)) {F : Nat} {r : Int32 × Mem} (μ : Mem) (x1 : Int32) (x2 : Nat) (kx2 : kindC x2 = 101) (h : f_X11_spreadOf F  μ x1 x2 = some r) : G p l e rm_X11_spreadOf s m args below meth c D A 5 (MQ below (QI D 75 ad (shC ks ad) A r) args s 0 0 A) 75 ad (shC ks ad) μ 0 [(0, .ref (ad 0)), (1, .int x1), (2, .ref (ad x2))] [] := by
  refine g_aload_n 1 X 0 dX11_spreadOf_0 rfl rfl ?_
  refine g_getr 4 X fl_X11_27_11 (o11 rfl) rfl dX11_spreadOf_1 rfl ?_
  refine g_iload_n 5 X 1 dX11_spreadOf_4 rfl rfl ?_
  refine g_aald (fn := fun p => 18 + 9 * p) 6 X arP rfl dX11_spreadOf_5 h rfl (fun hv1 h => ?_)
  refine g_cr 9 h (fun q e => r_V X cd_X11_146_X5_possibleWay_X5 ⟨rfl, rfl⟩ ⟨Nat.le_of_ble_eq_true rfl, Nat.le_of_ble_eq_true rfl⟩ (c_X5_possibleWay X.2.2.2.2 (kPl hv1) e) PC_blind (pc_pre X) (g_recv X (o5 (kPl hv1)) rfl) rfl rfl (Nat.le_of_ble_eq_true rfl) dX11_spreadOf_6) rfl (fun v2 μ3 h => ?_)
  refine g_astoreq 11 X dX11_spreadOf_9 (by decide) rfl ?_
  refine g_aloadq 13 X 0 dX11_spreadOf_11 rfl rfl ?_
  refine g_inst2 16 X m837 dX11_spreadOf_13 h rfl (fun v4 h => ?_)
  refine g_if_eq 31 19 X dX11_spreadOf_16 (by decide) rfl h (fun h => ?_) (fun h => ?_)
  · refine g_iconst 32 X dX11_spreadOf_31 ic0 rfl ?_
    exact g_zret X hr nb0 dX11_spreadOf_32 h
  · refine g_aloadq 21 X 0 dX11_spreadOf_19 rfl rfl ?_
    obtain ⟨y5, hy, hk6, h2⟩ := castk_some h
    subst hy
    have h := h2
    refine g_cast2 24 X m837 hk6 dX11_spreadOf_21 rfl ?_
    refine g_astore_n 25 X dX11_spreadOf_24 (by decide) rfl ?_
    refine g_aload_n 26 X 0 dX11_spreadOf_25 rfl rfl ?_
    refine g_aload_n 27 X 4 dX11_spreadOf_26 rfl rfl ?_
    refine g_ci 30 h (fun q e => r_V X cd_X11_344_X2_spreadInto_X2 ⟨rfl, rfl⟩ ⟨Nat.le_of_ble_eq_true rfl, Nat.le_of_ble_eq_true rfl⟩ (c_X2_spreadInto X.2.2.2.2 hk6 kx2 e) PC_blind (pc_pre X) (g_recv X (o2 hk6) rfl) rfl rfl (Nat.le_of_ble_eq_true rfl) dX11_spreadOf_27) rfl (fun v7 μ8 h => ?_)
    obtain ⟨hz, h⟩ := zk_some h
    exact g_zret X hr hz dX11_spreadOf_30 h
set_option maxRecDepth 100000 in
theorem c_X11_spreadOf {l : Launch} {D : va_G} {ks : Nat → ClassId} {A : Nat → Prop} {ad : Nat → Nat} (hD : ∀ μ : Mem, va_D A (wsM 75 ad (shC ks ad) μ)) {F : Nat} {μ : Mem} {x1 : Int32} {x2 : Nat} {r : Int32 × Mem} (kx2 : kindC x2 = 101) (h : f_X11_spreadOf F μ x1 x2 = some r) : Met l yX11_spreadOf (Cond.code yX11_spreadOf cX11_spreadOf 5 (some .boolean) :: wg) rm_X11_spreadOf (PC D ks 75 ad (shC ks ad) μ [.ref (ad 0), .int x1, .ref (ad x2)]) (QI D 75 ad (shC ks ad) A r) 0 0 A := by
  refine met_of (by decide) (Nat.le_of_ble_eq_true rfl) hD ?_
  intro p e s m args below meth c X hr
  exact G.sub [0, 1, 2] rfl (b_X11_spreadOf_0 X hr  _ _ _ kx2 h)
abbrev rm_X11_spread : Room := { frames := 6, cells := 0, slots := 0, locals := 161 }
set_option maxRecDepth 100000 in
set_option maxHeartbeats 4000000 in
theorem b_X11_spread_14 {p : Program} {l : Launch} {e : Env} {s : State} {m : MethodId} {args : Array Value} {below : List Frame} {meth : Method} {c : Code} {D : va_G} {ks : Nat → ClassId} {A : Nat → Prop} {ad : Nat → Nat} (X : Cx p s m args meth c cX11_spread 3 RX11 D ks A 75 ad (shC ks ad)) (hr : meth.sig.returnType = (some .long)) {F : Nat} {r : Int64 × Mem} (μ : Mem)  (h : f_X11_spread_b14 F  μ = some r) : G p l e rm_X11_spread s m args below meth c D A 3 (MQ below (QL D 75 ad (shC ks ad) A r) args s 0 0 A) 75 ad (shC ks ad) μ 14 [] [] := by
  refine g_bipush 16 X dX11_spread_14 bpm2 rfl ?_
  refine g_nl 19 h (fun q e => r_S X cd_X11_150_X11_asLong ⟨rfl, rfl⟩ ⟨Nat.le_of_ble_eq_true rfl, Nat.le_of_ble_eq_true rfl⟩ (c_X11_asLong e) PC_blind (pn_pre X) rfl rfl (Nat.le_of_ble_eq_true rfl) dX11_spread_16) rfl (fun v1 h => ?_)
  exact g_lret X hr dX11_spread_19 h
set_option maxRecDepth 100000 in
set_option maxHeartbeats 4000000 in
theorem b_X11_spread_0 {p : Program} {l : Launch} {e : Env} {s : State} {m : MethodId} {args : Array Value} {below : List Frame} {meth : Method} {c : Code} {D : va_G} {ks : Nat → ClassId} {A : Nat → Prop} {ad : Nat → Nat} (X : Cx p s m args meth c cX11_spread 3 RX11 D ks A 75 ad (shC ks ad)) (hr : meth.sig.returnType = (some .long)) {F : Nat} {r : Int64 × Mem} (μ : Mem) (x1 : Int32) (x2 : Int32)  (h : f_X11_spread F  μ x1 x2 = some r) : G p l e rm_X11_spread s m args below meth c D A 3 (MQ below (QL D 75 ad (shC ks ad) A r) args s 0 0 A) 75 ad (shC ks ad) μ 0 [(0, .ref (ad 0)), (1, .int x1), (2, .int x2)] [] := by
  refine g_iload_n 1 X 1 dX11_spread_0 rfl rfl ?_
  refine g_ni 4 h (fun q e => r_S X cd_X11_133_X11_isPlan ⟨rfl, rfl⟩ ⟨Nat.le_of_ble_eq_true rfl, Nat.le_of_ble_eq_true rfl⟩ (c_X11_isPlan e) PC_blind (pn_pre X) rfl rfl (Nat.le_of_ble_eq_true rfl) dX11_spread_1) rfl (fun v1 h => ?_)
  refine g_if_eq 14 7 X dX11_spread_4 (by decide) rfl h (fun h => ?_) (fun h => ?_)
  · exact G.sub [] rfl (b_X11_spread_14 X hr  _ h)
  · refine g_iload_n 8 X 2 dX11_spread_7 rfl rfl ?_
    refine g_ni 11 h (fun q e => r_S X cd_X11_160_X11_isAboveOrBelow ⟨rfl, rfl⟩ ⟨Nat.le_of_ble_eq_true rfl, Nat.le_of_ble_eq_true rfl⟩ (c_X11_isAboveOrBelow e) PC_blind (pn_pre X) rfl rfl (Nat.le_of_ble_eq_true rfl) dX11_spread_8) rfl (fun v2 h => ?_)
    refine g_if_ne 20 14 X dX11_spread_11 (by decide) rfl h (fun h => ?_) (fun h => ?_)
    · refine g_aload_n 21 X 0 dX11_spread_20 rfl rfl ?_
      refine g_iload_n 22 X 1 dX11_spread_21 rfl rfl ?_
      refine g_aload_n 23 X 0 dX11_spread_22 rfl rfl ?_
      refine g_getr 26 X fl_X11_54_11 (o11 rfl) rfl dX11_spread_23 rfl ?_
      refine g_ci 29 h (fun q e => r_V X cd_X11_203_X11_spreadOf_X11 ⟨rfl, rfl⟩ ⟨Nat.le_of_ble_eq_true rfl, Nat.le_of_ble_eq_true rfl⟩ (c_X11_spreadOf X.2.2.2.2 rfl e) PC_blind (pc_pre X) (g_recv X (o11 rfl) rfl) rfl rfl (Nat.le_of_ble_eq_true rfl) dX11_spread_26) rfl (fun v3 μ4 h => ?_)
      refine g_if_ne 38 32 X dX11_spread_29 (by decide) rfl h (fun h => ?_) (fun h => ?_)
      · refine g_aload_n 39 X 0 dX11_spread_38 rfl rfl ?_
        refine g_getr 42 X fl_X11_54_11 (o11 rfl) rfl dX11_spread_39 rfl ?_
        refine g_iload_n 43 X 2 dX11_spread_42 rfl rfl ?_
        refine g_cl 46 h (fun q e => r_V X cd_X11_167_X1_told_X1 ⟨rfl, rfl⟩ ⟨Nat.le_of_ble_eq_true rfl, Nat.le_of_ble_eq_true rfl⟩ (c_X1_told X.2.2.2.2 rfl e) PC_blind (pc_pre X) (g_recv X (o1 rfl) rfl) rfl rfl (Nat.le_of_ble_eq_true rfl) dX11_spread_43) rfl (fun v5 μ6 h => ?_)
        exact g_lret X hr dX11_spread_46 h
      · refine g_bipush 34 X dX11_spread_32 bpm3 rfl ?_
        refine g_nl 37 h (fun q e => r_S X cd_X11_150_X11_asLong ⟨rfl, rfl⟩ ⟨Nat.le_of_ble_eq_true rfl, Nat.le_of_ble_eq_true rfl⟩ (c_X11_asLong e) PC_blind (pn_pre X) rfl rfl (Nat.le_of_ble_eq_true rfl) dX11_spread_34) rfl (fun v7 h => ?_)
        exact g_lret X hr dX11_spread_37 h
    · exact G.sub [] rfl (b_X11_spread_14 X hr  _ h)
set_option maxRecDepth 100000 in
theorem c_X11_spread {l : Launch} {D : va_G} {ks : Nat → ClassId} {A : Nat → Prop} {ad : Nat → Nat} (hD : ∀ μ : Mem, va_D A (wsM 75 ad (shC ks ad) μ)) {F : Nat} {μ : Mem} {x1 : Int32} {x2 : Int32} {r : Int64 × Mem}  (h : f_X11_spread F μ x1 x2 = some r) : Met l yX11_spread (Cond.code yX11_spread cX11_spread 3 (some .long) :: wg) rm_X11_spread (PC D ks 75 ad (shC ks ad) μ [.ref (ad 0), .int x1, .int x2]) (QL D 75 ad (shC ks ad) A r) 0 0 A := by
  refine met_of (by decide) (Nat.le_of_ble_eq_true rfl) hD ?_
  intro p e s m args below meth c X hr
  exact G.sub [0, 1, 2] rfl (b_X11_spread_0 X hr  _ _ _ h)
abbrev rm_X1_roundedDown : Room := { frames := 0, cells := 0, slots := 0, locals := 0 }
set_option maxRecDepth 100000 in
set_option maxHeartbeats 4000000 in
theorem b_X1_roundedDown_0 {p : Program} {l : Launch} {e : Env} {s : State} {m : MethodId} {args : Array Value} {below : List Frame} {meth : Method} {c : Code} {D : va_G} {ks : Nat → ClassId} {A : Nat → Prop} {ad : Nat → Nat} (X : Cx p s m args meth c cX1_roundedDown 1 RX1 D ks A 75 ad (shC ks ad)) (hr : meth.sig.returnType = (some .long)) {F : Nat} {r : Int64 × Mem} (μ : Mem) (t : Nat) (kt : kindC t = 101) (h : f_X1_roundedDown F  μ t = some r) : G p l e rm_X1_roundedDown s m args below meth c D A 1 (MQ below (QL D 75 ad (shC ks ad) A r) args s 0 0 A) 75 ad (shC ks ad) μ 0 [(0, .ref (ad t))] [] := by
  refine g_aload_n 1 X 0 dX1_roundedDown_0 rfl rfl ?_
  refine g_getl 4 X fl_X1_13_1 (o1 kt) rfl dX1_roundedDown_1 h rfl (fun v1 h => ?_)
  refine g_lconst 5 X dX1_roundedDown_4 lc0 rfl ?_
  refine g_lcmp 6 X dX1_roundedDown_5 rfl ?_
  refine g_if_gt 13 9 X dX1_roundedDown_6 (by decide) rfl h (fun h => ?_) (fun h => ?_)
  · refine g_aload_n 14 X 0 dX1_roundedDown_13 rfl rfl ?_
    refine g_getl 17 X fl_X1_7_1 (o1 kt) rfl dX1_roundedDown_14 h rfl (fun v2 h => ?_)
    refine g_aload_n 18 X 0 dX1_roundedDown_17 rfl rfl ?_
    refine g_getl 21 X fl_X1_13_1 (o1 kt) rfl dX1_roundedDown_18 h rfl (fun v3 h => ?_)
    refine g_ldiv 22 X dX1_roundedDown_21 h rfl (fun h => ?_)
    refine g_topl h (fun v4 h => ?_)
    exact g_lret X hr dX1_roundedDown_22 h
  · refine g_lconst 10 X dX1_roundedDown_9 lc0 rfl ?_
    refine g_goto 22 X dX1_roundedDown_10 (by decide) ?_
    exact g_lret X hr dX1_roundedDown_22 h
set_option maxRecDepth 100000 in
theorem c_X1_roundedDown {l : Launch} {D : va_G} {ks : Nat → ClassId} {A : Nat → Prop} {ad : Nat → Nat} (hD : ∀ μ : Mem, va_D A (wsM 75 ad (shC ks ad) μ)) {F : Nat} {μ : Mem} {t : Nat} {r : Int64 × Mem} (kt : kindC t = 101) (h : f_X1_roundedDown F μ t = some r) : Met l yX1_roundedDown (Cond.code yX1_roundedDown cX1_roundedDown 1 (some .long) :: wg) rm_X1_roundedDown (PC D ks 75 ad (shC ks ad) μ [.ref (ad t)]) (QL D 75 ad (shC ks ad) A r) 0 0 A := by
  refine met_of (by decide) (Nat.le_of_ble_eq_true rfl) hD ?_
  intro p e s m args below meth c X hr
  exact G.sub [0] rfl (b_X1_roundedDown_0 X hr  _ _ kt h)
abbrev rm_J13_compare_74951 : Room := { frames := 0, cells := 0, slots := 0, locals := 0 }
set_option maxRecDepth 100000 in
set_option maxHeartbeats 4000000 in
theorem b_J13_compare_74951_0 {p : Program} {l : Launch} {e : Env} {s : State} {m : MethodId} {args : Array Value} {below : List Frame} {meth : Method} {c : Code} {D : va_G} {ks : Nat → ClassId} (X : Cx p s m args meth c cJ13_compare_74951 4 RJ13 D ks (fun _ => False) 0 ad0 sh0) (hr : meth.sig.returnType = (some .int)) {F : Nat} {r : Int32} (x0 : Int64) (x2 : Int64)  (h : f_J13_compare_74951 F  x0 x2 = some r) : G p l e rm_J13_compare_74951 s m args below meth c D (fun _ => False) 4 (MQ below (QNi D r) args s 0 0 (fun _ => False)) 0 ad0 sh0 μ0 0 [(0, .long x0), (2, .long x2)] [] := by
  refine g_lload_n 1 X 0 dJ13_compare_74951_0 rfl rfl ?_
  refine g_lload_n 2 X 1 dJ13_compare_74951_1 rfl rfl ?_
  refine g_lcmp 3 X dJ13_compare_74951_2 rfl ?_
  refine g_if_ge 10 6 X dJ13_compare_74951_3 (by decide) rfl h (fun h => ?_) (fun h => ?_)
  · refine g_lload_n 11 X 0 dJ13_compare_74951_10 rfl rfl ?_
    refine g_lload_n 12 X 1 dJ13_compare_74951_11 rfl rfl ?_
    refine g_lcmp 13 X dJ13_compare_74951_12 rfl ?_
    refine g_if_ne 20 16 X dJ13_compare_74951_13 (by decide) rfl h (fun h => ?_) (fun h => ?_)
    · refine g_iconst 21 X dJ13_compare_74951_20 ic1 rfl ?_
      exact gn_iret X hr dJ13_compare_74951_21 h
    · refine g_iconst 17 X dJ13_compare_74951_16 ic0 rfl ?_
      refine g_goto 21 X dJ13_compare_74951_17 (by decide) ?_
      exact gn_iret X hr dJ13_compare_74951_21 h
  · refine g_iconst 7 X dJ13_compare_74951_6 icm1 rfl ?_
    refine g_goto 21 X dJ13_compare_74951_7 (by decide) ?_
    exact gn_iret X hr dJ13_compare_74951_21 h
set_option maxRecDepth 100000 in
theorem c_J13_compare_74951 {l : Launch} {D : va_G} {ks : Nat → ClassId} {F : Nat} {x0 : Int64} {x2 : Int64} {r : Int32}  (h : f_J13_compare_74951 F x0 x2 = some r) : Met l yJ13_compare_74951 (Cond.code yJ13_compare_74951 cJ13_compare_74951 4 (some .int) :: wg) rm_J13_compare_74951 (PN D ks [.long x0, .long x2]) (QNi D r) 0 0 (fun _ => False) := by
  refine met_of (by decide) (Nat.le_of_ble_eq_true rfl) d0 ?_
  intro p e s m args below meth c X hr
  exact G.sub [0, 1] rfl (b_J13_compare_74951_0 X hr  _ _ h)
abbrev rm_X1_compareWith : Room := { frames := 1, cells := 0, slots := 0, locals := 23 }
set_option maxRecDepth 100000 in
set_option maxHeartbeats 4000000 in
theorem b_X1_compareWith_0 {p : Program} {l : Launch} {e : Env} {s : State} {m : MethodId} {args : Array Value} {below : List Frame} {meth : Method} {c : Code} {D : va_G} {ks : Nat → ClassId} {A : Nat → Prop} {ad : Nat → Nat} (X : Cx p s m args meth c cX1_compareWith 3 RX1 D ks A 75 ad (shC ks ad)) (hr : meth.sig.returnType = (some .int)) {F : Nat} {r : Int32 × Mem} (μ : Mem) (t : Nat) (x1 : Nat) (kt : kindC t = 101) (kx1 : kindC x1 = 101) (h : f_X1_compareWith F  μ t x1 = some r) : G p l e rm_X1_compareWith s m args below meth c D A 3 (MQ below (QI D 75 ad (shC ks ad) A r) args s 0 0 A) 75 ad (shC ks ad) μ 0 [(0, .ref (ad t)), (1, .ref (ad x1))] [] := by
  refine g_aload_n 1 X 0 dX1_compareWith_0 rfl rfl ?_
  refine g_cl 4 h (fun q e => r_V X cd_X1_24_X1_roundedDown_X1 ⟨rfl, rfl⟩ ⟨Nat.le_of_ble_eq_true rfl, Nat.le_of_ble_eq_true rfl⟩ (c_X1_roundedDown X.2.2.2.2 kt e) PC_blind (pc_pre X) (g_recv X (o1 kt) rfl) rfl rfl (Nat.le_of_ble_eq_true rfl) dX1_compareWith_1) rfl (fun v1 μ2 h => ?_)
  refine g_aload_n 5 X 1 dX1_compareWith_4 rfl rfl ?_
  refine g_cl 8 h (fun q e => r_V X cd_X1_24_X1_roundedDown_X1 ⟨rfl, rfl⟩ ⟨Nat.le_of_ble_eq_true rfl, Nat.le_of_ble_eq_true rfl⟩ (c_X1_roundedDown X.2.2.2.2 kx1 e) PC_blind (pc_pre X) (g_recv X (o1 kx1) rfl) rfl rfl (Nat.le_of_ble_eq_true rfl) dX1_compareWith_5) rfl (fun v3 μ4 h => ?_)
  refine g_ni 11 h (fun q e => r_S X cd_X1_28_J13_compare_74951 ⟨rfl, rfl⟩ ⟨Nat.le_of_ble_eq_true rfl, Nat.le_of_ble_eq_true rfl⟩ (c_J13_compare_74951 e) PC_blind (pn_pre X) rfl rfl (Nat.le_of_ble_eq_true rfl) dX1_compareWith_8) rfl (fun v5 h => ?_)
  refine g_istore_n 12 X dX1_compareWith_11 (by decide) rfl ?_
  refine g_iload_n 13 X 0 dX1_compareWith_12 rfl rfl ?_
  refine g_if_ne 34 16 X dX1_compareWith_13 (by decide) rfl h (fun h => ?_) (fun h => ?_)
  · refine g_iload_n 35 X 0 dX1_compareWith_34 rfl rfl ?_
    exact g_iret X hr dX1_compareWith_35 h
  · refine g_aload_n 17 X 1 dX1_compareWith_16 rfl rfl ?_
    refine g_getl 20 X fl_X1_13_1 (o1 kt) rfl dX1_compareWith_17 h rfl (fun v6 h => ?_)
    refine g_lconst 21 X dX1_compareWith_20 lc0 rfl ?_
    refine g_lcmp 22 X dX1_compareWith_21 rfl ?_
    refine g_if_le 34 25 X dX1_compareWith_22 (by decide) rfl h (fun h => ?_) (fun h => ?_)
    · refine g_iload_n 35 X 0 dX1_compareWith_34 rfl rfl ?_
      exact g_iret X hr dX1_compareWith_35 h
    · refine g_aload_n 26 X 2 dX1_compareWith_25 rfl rfl ?_
      refine g_getl 29 X fl_X1_13_1 (o1 kx1) rfl dX1_compareWith_26 h rfl (fun v7 h => ?_)
      refine g_lconst 30 X dX1_compareWith_29 lc0 rfl ?_
      refine g_lcmp 31 X dX1_compareWith_30 rfl ?_
      refine g_if_gt 36 34 X dX1_compareWith_31 (by decide) rfl h (fun h => ?_) (fun h => ?_)
      · refine g_aload_n 37 X 1 dX1_compareWith_36 rfl rfl ?_
        refine g_getl 40 X fl_X1_7_1 (o1 kt) rfl dX1_compareWith_37 h rfl (fun v8 h => ?_)
        refine g_aload_n 41 X 1 dX1_compareWith_40 rfl rfl ?_
        refine g_getl 44 X fl_X1_13_1 (o1 kt) rfl dX1_compareWith_41 h rfl (fun v9 h => ?_)
        refine g_lrem 45 X dX1_compareWith_44 h rfl (fun h => ?_)
        refine g_topl h (fun v10 h => ?_)
        refine g_aload_n 46 X 2 dX1_compareWith_45 rfl rfl ?_
        refine g_getl 49 X fl_X1_13_1 (o1 kx1) rfl dX1_compareWith_46 h rfl (fun v11 h => ?_)
        refine g_lmul 50 X dX1_compareWith_49 rfl ?_
        refine g_aload_n 51 X 2 dX1_compareWith_50 rfl rfl ?_
        refine g_getl 54 X fl_X1_7_1 (o1 kx1) rfl dX1_compareWith_51 h rfl (fun v12 h => ?_)
        refine g_aload_n 55 X 2 dX1_compareWith_54 rfl rfl ?_
        refine g_getl 58 X fl_X1_13_1 (o1 kx1) rfl dX1_compareWith_55 h rfl (fun v13 h => ?_)
        refine g_lrem 59 X dX1_compareWith_58 h rfl (fun h => ?_)
        refine g_topl h (fun v14 h => ?_)
        refine g_aload_n 60 X 1 dX1_compareWith_59 rfl rfl ?_
        refine g_getl 63 X fl_X1_13_1 (o1 kt) rfl dX1_compareWith_60 h rfl (fun v15 h => ?_)
        refine g_lmul 64 X dX1_compareWith_63 rfl ?_
        refine g_ni 67 h (fun q e => r_S X cd_X1_28_J13_compare_74951 ⟨rfl, rfl⟩ ⟨Nat.le_of_ble_eq_true rfl, Nat.le_of_ble_eq_true rfl⟩ (c_J13_compare_74951 e) PC_blind (pn_pre X) rfl rfl (Nat.le_of_ble_eq_true rfl) dX1_compareWith_64) rfl (fun v16 h => ?_)
        exact g_iret X hr dX1_compareWith_67 h
      · refine g_iload_n 35 X 0 dX1_compareWith_34 rfl rfl ?_
        exact g_iret X hr dX1_compareWith_35 h
set_option maxRecDepth 100000 in
theorem c_X1_compareWith {l : Launch} {D : va_G} {ks : Nat → ClassId} {A : Nat → Prop} {ad : Nat → Nat} (hD : ∀ μ : Mem, va_D A (wsM 75 ad (shC ks ad) μ)) {F : Nat} {μ : Mem} {t : Nat} {x1 : Nat} {r : Int32 × Mem} (kt : kindC t = 101) (kx1 : kindC x1 = 101) (h : f_X1_compareWith F μ t x1 = some r) : Met l yX1_compareWith (Cond.code yX1_compareWith cX1_compareWith 3 (some .int) :: wg) rm_X1_compareWith (PC D ks 75 ad (shC ks ad) μ [.ref (ad t), .ref (ad x1)]) (QI D 75 ad (shC ks ad) A r) 0 0 A := by
  refine met_of (by decide) (Nat.le_of_ble_eq_true rfl) hD ?_
  intro p e s m args below meth c X hr
  exact G.sub [0, 1] rfl (b_X1_compareWith_0 X hr  _ _ _ kt kx1 h)
abbrev rm_X11_wider : Room := { frames := 6, cells := 0, slots := 0, locals := 161 }
set_option maxRecDepth 100000 in
set_option maxHeartbeats 4000000 in
theorem b_X11_wider_0 {p : Program} {l : Launch} {e : Env} {s : State} {m : MethodId} {args : Array Value} {below : List Frame} {meth : Method} {c : Code} {D : va_G} {ks : Nat → ClassId} {A : Nat → Prop} {ad : Nat → Nat} (X : Cx p s m args meth c cX11_wider 3 RX11 D ks A 75 ad (shC ks ad)) (hr : meth.sig.returnType = (some .int)) {F : Nat} {r : Int32 × Mem} (μ : Mem) (x1 : Int32) (x2 : Int32)  (h : f_X11_wider F  μ x1 x2 = some r) : G p l e rm_X11_wider s m args below meth c D A 3 (MQ below (QI D 75 ad (shC ks ad) A r) args s 0 0 A) 75 ad (shC ks ad) μ 0 [(0, .ref (ad 0)), (1, .int x1), (2, .int x2)] [] := by
  refine g_iload_n 1 X 1 dX11_wider_0 rfl rfl ?_
  refine g_ni 4 h (fun q e => r_S X cd_X11_133_X11_isPlan ⟨rfl, rfl⟩ ⟨Nat.le_of_ble_eq_true rfl, Nat.le_of_ble_eq_true rfl⟩ (c_X11_isPlan e) PC_blind (pn_pre X) rfl rfl (Nat.le_of_ble_eq_true rfl) dX11_wider_1) rfl (fun v1 h => ?_)
  refine g_if_eq 14 7 X dX11_wider_4 (by decide) rfl h (fun h => ?_) (fun h => ?_)
  · refine g_bipush 16 X dX11_wider_14 bpm2 rfl ?_
    exact g_iret X hr dX11_wider_16 h
  · refine g_iload_n 8 X 2 dX11_wider_7 rfl rfl ?_
    refine g_ni 11 h (fun q e => r_S X cd_X11_133_X11_isPlan ⟨rfl, rfl⟩ ⟨Nat.le_of_ble_eq_true rfl, Nat.le_of_ble_eq_true rfl⟩ (c_X11_isPlan e) PC_blind (pn_pre X) rfl rfl (Nat.le_of_ble_eq_true rfl) dX11_wider_8) rfl (fun v2 h => ?_)
    refine g_if_ne 17 14 X dX11_wider_11 (by decide) rfl h (fun h => ?_) (fun h => ?_)
    · refine g_aload_n 18 X 0 dX11_wider_17 rfl rfl ?_
      refine g_iload_n 19 X 1 dX11_wider_18 rfl rfl ?_
      refine g_aload_n 20 X 0 dX11_wider_19 rfl rfl ?_
      refine g_getr 23 X fl_X11_54_11 (o11 rfl) rfl dX11_wider_20 rfl ?_
      refine g_ci 26 h (fun q e => r_V X cd_X11_203_X11_spreadOf_X11 ⟨rfl, rfl⟩ ⟨Nat.le_of_ble_eq_true rfl, Nat.le_of_ble_eq_true rfl⟩ (c_X11_spreadOf X.2.2.2.2 rfl e) PC_blind (pc_pre X) (g_recv X (o11 rfl) rfl) rfl rfl (Nat.le_of_ble_eq_true rfl) dX11_wider_23) rfl (fun v3 μ4 h => ?_)
      refine g_if_eq 41 29 X dX11_wider_26 (by decide) rfl h (fun h => ?_) (fun h => ?_)
      · refine g_bipush 43 X dX11_wider_41 bpm3 rfl ?_
        exact g_iret X hr dX11_wider_43 h
      · refine g_aload_n 30 X 0 dX11_wider_29 rfl rfl ?_
        refine g_iload_n 31 X 2 dX11_wider_30 rfl rfl ?_
        refine g_aload_n 32 X 0 dX11_wider_31 rfl rfl ?_
        refine g_getr 35 X fl_X11_58_11 (o11 rfl) rfl dX11_wider_32 rfl ?_
        refine g_ci 38 h (fun q e => r_V X cd_X11_203_X11_spreadOf_X11 ⟨rfl, rfl⟩ ⟨Nat.le_of_ble_eq_true rfl, Nat.le_of_ble_eq_true rfl⟩ (c_X11_spreadOf X.2.2.2.2 rfl e) PC_blind (pc_pre X) (g_recv X (o11 rfl) rfl) rfl rfl (Nat.le_of_ble_eq_true rfl) dX11_wider_35) rfl (fun v5 μ6 h => ?_)
        refine g_if_ne 44 41 X dX11_wider_38 (by decide) rfl h (fun h => ?_) (fun h => ?_)
        · refine g_aload_n 45 X 0 dX11_wider_44 rfl rfl ?_
          refine g_getr 48 X fl_X11_54_11 (o11 rfl) rfl dX11_wider_45 rfl ?_
          refine g_aload_n 49 X 0 dX11_wider_48 rfl rfl ?_
          refine g_getr 52 X fl_X11_58_11 (o11 rfl) rfl dX11_wider_49 rfl ?_
          refine g_ci 55 h (fun q e => r_V X cd_X11_207_X1_compareWith_X1 ⟨rfl, rfl⟩ ⟨Nat.le_of_ble_eq_true rfl, Nat.le_of_ble_eq_true rfl⟩ (c_X1_compareWith X.2.2.2.2 rfl rfl e) PC_blind (pc_pre X) (g_recv X (o1 rfl) rfl) rfl rfl (Nat.le_of_ble_eq_true rfl) dX11_wider_52) rfl (fun v7 μ8 h => ?_)
          exact g_iret X hr dX11_wider_55 h
        · refine g_bipush 43 X dX11_wider_41 bpm3 rfl ?_
          exact g_iret X hr dX11_wider_43 h
    · refine g_bipush 16 X dX11_wider_14 bpm2 rfl ?_
      exact g_iret X hr dX11_wider_16 h
set_option maxRecDepth 100000 in
theorem c_X11_wider {l : Launch} {D : va_G} {ks : Nat → ClassId} {A : Nat → Prop} {ad : Nat → Nat} (hD : ∀ μ : Mem, va_D A (wsM 75 ad (shC ks ad) μ)) {F : Nat} {μ : Mem} {x1 : Int32} {x2 : Int32} {r : Int32 × Mem}  (h : f_X11_wider F μ x1 x2 = some r) : Met l yX11_wider (Cond.code yX11_wider cX11_wider 3 (some .int) :: wg) rm_X11_wider (PC D ks 75 ad (shC ks ad) μ [.ref (ad 0), .int x1, .int x2]) (QI D 75 ad (shC ks ad) A r) 0 0 A := by
  refine met_of (by decide) (Nat.le_of_ble_eq_true rfl) hD ?_
  intro p e s m args below meth c X hr
  exact G.sub [0, 1, 2] rfl (b_X11_wider_0 X hr  _ _ _ h)
