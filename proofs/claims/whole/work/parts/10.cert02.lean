abbrev rm_X8_countWays : Room := { frames := 3, cells := 0, slots := 0, locals := 62 }
set_option maxRecDepth 100000 in
set_option maxHeartbeats 4000000 in
theorem b_X8_countWays_98 {p : Program} {l : Launch} {e : Env} {s : State} {m : MethodId} {args : Array Value} {below : List Frame} {meth : Method} {c : Code} {D : va_G} {ks : Nat → ClassId} {A : Nat → Prop} {ad : Nat → Nat} (X : Cx p s m args meth c cX8_countWays 5 RX8 D ks A 75 ad (shC ks ad)) (hr : meth.sig.returnType = (some .long)) {F : Nat} {r : Int64 × Mem} {k30 : Mem → Nat → Int32 → Option (Int64 × Mem)} (hk30 : ∀ (μ : Mem) (t : Nat) (x1 : Int32), (kindC t = 108) → k30 μ t x1 = some r → G p l e rm_X8_countWays s m args below meth c D A 5 (MQ below (QL D 75 ad (shC ks ad) A r) args s 0 0 A) 75 ad (shC ks ad) μ 30 [(0, .ref (ad t)), (1, .int x1)] []) (μ : Mem) (t : Nat) (x1 : Int32) (kt : kindC t = 108) (h : f_X8_countWays_b98 F k30 μ t x1 = some r) : G p l e rm_X8_countWays s m args below meth c D A 5 (MQ below (QL D 75 ad (shC ks ad) A r) args s 0 0 A) 75 ad (shC ks ad) μ 98 [(0, .ref (ad t)), (1, .int x1)] [] := by
  refine g_iinc 101 X 1 dX8_countWays_98 ic1 rfl (by decide) rfl ?_
  refine g_goto 30 X dX8_countWays_101 (by decide) ?_
  exact G.sub [1, 0] rfl (hk30 _ _ _ kt h)
set_option maxRecDepth 100000 in
set_option maxHeartbeats 4000000 in
theorem b_X8_countWays_65 {p : Program} {l : Launch} {e : Env} {s : State} {m : MethodId} {args : Array Value} {below : List Frame} {meth : Method} {c : Code} {D : va_G} {ks : Nat → ClassId} {A : Nat → Prop} {ad : Nat → Nat} (X : Cx p s m args meth c cX8_countWays 5 RX8 D ks A 75 ad (shC ks ad)) (hr : meth.sig.returnType = (some .long)) {F : Nat} {r : Int64 × Mem} {k30 : Mem → Nat → Int32 → Option (Int64 × Mem)} (hk30 : ∀ (μ : Mem) (t : Nat) (x1 : Int32), (kindC t = 108) → k30 μ t x1 = some r → G p l e rm_X8_countWays s m args below meth c D A 5 (MQ below (QL D 75 ad (shC ks ad) A r) args s 0 0 A) 75 ad (shC ks ad) μ 30 [(0, .ref (ad t)), (1, .int x1)] []) : ∀ n : Nat, ∀ (μ : Mem) (t : Nat) (x1 : Int32) (x2 : Int64) (x4 : Int32), (kindC t = 108) → f_X8_countWays_b65 F k30 n μ t x1 x2 x4 = some r → G p l e rm_X8_countWays s m args below meth c D A 5 (MQ below (QL D 75 ad (shC ks ad) A r) args s 0 0 A) 75 ad (shC ks ad) μ 65 [(0, .ref (ad t)), (1, .int x1), (2, .long x2), (4, .int x4)] [] := by
  intro n
  induction n with
  | zero =>
    intro _ _ _ _ _ _ h
    cases h
  | succ n ih =>
    intro μ t x1 x2 x4 kt h
    refine g_iload 67 X 3 dX8_countWays_65 rfl rfl ?_
    refine g_iconst 68 X dX8_countWays_67 ic1 rfl ?_
    refine g_icmp_lt 98 71 X dX8_countWays_68 (by decide) rfl h (fun h => ?_) (fun h => ?_)
    · exact G.sub [0, 1] rfl (b_X8_countWays_98 X hr hk30 _ _ _ kt h)
    · refine g_aload_n 72 X 0 dX8_countWays_71 rfl rfl ?_
      refine g_getr 75 X fl_X8_9_8 (o8 kt) rfl dX8_countWays_72 rfl ?_
      refine g_iload 77 X 3 dX8_countWays_75 rfl rfl ?_
      refine g_dup2 78 X dX8_countWays_77 rfl rfl rfl ?_
      refine g_lald 79 X (ajC (n := 9) (by decide) (k8_waysOfSoMany kt)) dX8_countWays_78 h rfl (fun v1 h => ?_)
      refine g_lload_n 80 X 2 dX8_countWays_79 rfl rfl ?_
      refine g_aload_n 81 X 0 dX8_countWays_80 rfl rfl ?_
      refine g_getr 84 X fl_X8_9_8 (o8 kt) rfl dX8_countWays_81 rfl ?_
      refine g_iload 86 X 3 dX8_countWays_84 rfl rfl ?_
      refine g_iconst 87 X dX8_countWays_86 ic1 rfl ?_
      refine g_isub 88 X dX8_countWays_87 rfl ?_
      refine g_lald 89 X (ajC (n := 9) (by decide) (k8_waysOfSoMany kt)) dX8_countWays_88 h rfl (fun v2 h => ?_)
      refine g_lmul 90 X dX8_countWays_89 rfl ?_
      refine g_ladd 91 X dX8_countWays_90 rfl ?_
      refine g_last 92 X (ajC (n := 9) (by decide) (k8_waysOfSoMany kt)) dX8_countWays_91 h rfl (fun μ3 h => ?_)
      refine g_iinc 95 X 3 dX8_countWays_92 icm1 rfl (by decide) rfl ?_
      refine g_goto 65 X dX8_countWays_95 (by decide) ?_
      exact G.sub [1, 2, 3, 0] rfl (ih _ _ _ _ _ kt h)
set_option maxRecDepth 100000 in
set_option maxHeartbeats 4000000 in
theorem b_X8_countWays_30 {p : Program} {l : Launch} {e : Env} {s : State} {m : MethodId} {args : Array Value} {below : List Frame} {meth : Method} {c : Code} {D : va_G} {ks : Nat → ClassId} {A : Nat → Prop} {ad : Nat → Nat} (X : Cx p s m args meth c cX8_countWays 5 RX8 D ks A 75 ad (shC ks ad)) (hr : meth.sig.returnType = (some .long)) {F : Nat} {r : Int64 × Mem} : ∀ n : Nat, ∀ (μ : Mem) (t : Nat) (x1 : Int32), (kindC t = 108) → f_X8_countWays_b30 F  n μ t x1 = some r → G p l e rm_X8_countWays s m args below meth c D A 5 (MQ below (QL D 75 ad (shC ks ad) A r) args s 0 0 A) 75 ad (shC ks ad) μ 30 [(0, .ref (ad t)), (1, .int x1)] [] := by
  intro n
  induction n with
  | zero =>
    intro _ _ _ _ h
    cases h
  | succ n ih =>
    intro μ t x1 kt h
    refine g_iload_n 31 X 1 dX8_countWays_30 rfl rfl ?_
    refine g_bipush 33 X dX8_countWays_31 bp8 rfl ?_
    refine g_icmp_ge 104 36 X dX8_countWays_33 (by decide) rfl h (fun h => ?_) (fun h => ?_)
    · refine g_aload_n 105 X 0 dX8_countWays_104 rfl rfl ?_
      refine g_getr 108 X fl_X8_35_8 (o8 kt) rfl dX8_countWays_105 rfl ?_
      refine g_iconst 109 X dX8_countWays_108 ic0 rfl ?_
      refine g_iald 110 X (aiC (n := 4) (by decide) (k8_numbers kt)) dX8_countWays_109 h rfl (fun v1 h => ?_)
      refine g_iconst 111 X dX8_countWays_110 ic0 rfl ?_
      refine g_bipush 113 X dX8_countWays_111 bp8 rfl ?_
      refine g_ni 116 h (fun q e => r_SN X cd_X8_51_X11_within ⟨rfl, rfl⟩ ⟨Nat.le_of_ble_eq_true rfl, Nat.le_of_ble_eq_true rfl⟩ (c_X11_within e) PC_blind (pn_pre X) rfl rfl (Nat.le_of_ble_eq_true rfl) dX8_countWays_113) rfl (fun v2 h => ?_)
      refine g_if_eq 133 119 X dX8_countWays_116 (by decide) rfl h (fun h => ?_) (fun h => ?_)
      · refine g_lconst 134 X dX8_countWays_133 lc0 rfl ?_
        exact g_lret X hr dX8_countWays_134 h
      · refine g_aload_n 120 X 0 dX8_countWays_119 rfl rfl ?_
        refine g_getr 123 X fl_X8_9_8 (o8 kt) rfl dX8_countWays_120 rfl ?_
        refine g_aload_n 124 X 0 dX8_countWays_123 rfl rfl ?_
        refine g_getr 127 X fl_X8_35_8 (o8 kt) rfl dX8_countWays_124 rfl ?_
        refine g_iconst 128 X dX8_countWays_127 ic0 rfl ?_
        refine g_iald 129 X (aiC (n := 4) (by decide) (k8_numbers kt)) dX8_countWays_128 h rfl (fun v3 h => ?_)
        refine g_lald 130 X (ajC (n := 9) (by decide) (k8_waysOfSoMany kt)) dX8_countWays_129 h rfl (fun v4 h => ?_)
        refine g_goto 134 X dX8_countWays_130 (by decide) ?_
        exact g_lret X hr dX8_countWays_134 h
    · refine g_aload_n 37 X 0 dX8_countWays_36 rfl rfl ?_
      refine g_iload_n 38 X 1 dX8_countWays_37 rfl rfl ?_
      refine g_ci 41 h (fun q e => r_V X cd_X8_38_X8_sizeOf_X8 ⟨rfl, rfl⟩ ⟨Nat.le_of_ble_eq_true rfl, Nat.le_of_ble_eq_true rfl⟩ (c_X8_sizeOf X.2.2.2.2 kt e) PC_blind (pc_pre X) (g_recv X (o8 kt) rfl) rfl rfl (Nat.le_of_ble_eq_true rfl) dX8_countWays_38) rfl (fun v5 μ6 h => ?_)
      refine g_if_ne 47 44 X dX8_countWays_41 (by decide) rfl h (fun h => ?_) (fun h => ?_)
      · refine g_aload_n 48 X 0 dX8_countWays_47 rfl rfl ?_
        refine g_iload_n 49 X 1 dX8_countWays_48 rfl rfl ?_
        refine g_ci 52 h (fun q e => r_V X cd_X8_55_X8_takenOf_X8 ⟨rfl, rfl⟩ ⟨Nat.le_of_ble_eq_true rfl, Nat.le_of_ble_eq_true rfl⟩ (c_X8_takenOf X.2.2.2.2 kt e) PC_blind (pc_pre X) (g_recv X (o8 kt) rfl) rfl rfl (Nat.le_of_ble_eq_true rfl) dX8_countWays_49) rfl (fun v7 μ8 h => ?_)
        refine g_aload_n 53 X 0 dX8_countWays_52 rfl rfl ?_
        refine g_iload_n 54 X 1 dX8_countWays_53 rfl rfl ?_
        refine g_ci 57 h (fun q e => r_V X cd_X8_38_X8_sizeOf_X8 ⟨rfl, rfl⟩ ⟨Nat.le_of_ble_eq_true rfl, Nat.le_of_ble_eq_true rfl⟩ (c_X8_sizeOf X.2.2.2.2 kt e) PC_blind (pc_pre X) (g_recv X (o8 kt) rfl) rfl rfl (Nat.le_of_ble_eq_true rfl) dX8_countWays_54) rfl (fun v9 μ10 h => ?_)
        refine g_nl 60 h (fun q e => r_SI X cd_X8_58_X9_waysToTake_SI ⟨rfl, rfl⟩ ⟨Nat.le_of_ble_eq_true rfl, Nat.le_of_ble_eq_true rfl⟩ (c_X9_waysToTake e) PC_blind (pn_pre X) rfl rfl (Nat.le_of_ble_eq_true rfl) dX8_countWays_57) rfl (fun v11 h => ?_)
        refine g_lstore_n 61 X dX8_countWays_60 (by decide) rfl ?_
        refine g_bipush 63 X dX8_countWays_61 bp8 rfl ?_
        refine g_istore 65 X dX8_countWays_63 (by decide) rfl ?_
        exact G.sub [2, 3, 1, 0] rfl (b_X8_countWays_65 X hr ih F _ _ _ _ _ kt h)
      · refine g_goto 98 X dX8_countWays_44 (by decide) ?_
        exact G.sub [0, 1] rfl (b_X8_countWays_98 X hr ih _ _ _ kt h)
set_option maxRecDepth 100000 in
set_option maxHeartbeats 4000000 in
theorem b_X8_countWays_9 {p : Program} {l : Launch} {e : Env} {s : State} {m : MethodId} {args : Array Value} {below : List Frame} {meth : Method} {c : Code} {D : va_G} {ks : Nat → ClassId} {A : Nat → Prop} {ad : Nat → Nat} (X : Cx p s m args meth c cX8_countWays 5 RX8 D ks A 75 ad (shC ks ad)) (hr : meth.sig.returnType = (some .long)) {F : Nat} {r : Int64 × Mem} : ∀ n : Nat, ∀ (μ : Mem) (t : Nat) (x1 : Int32), (kindC t = 108) → f_X8_countWays_b9 F  n μ t x1 = some r → G p l e rm_X8_countWays s m args below meth c D A 5 (MQ below (QL D 75 ad (shC ks ad) A r) args s 0 0 A) 75 ad (shC ks ad) μ 9 [(0, .ref (ad t)), (1, .int x1)] [] := by
  intro n
  induction n with
  | zero =>
    intro _ _ _ _ h
    cases h
  | succ n ih =>
    intro μ t x1 kt h
    refine g_iload_n 10 X 1 dX8_countWays_9 rfl rfl ?_
    refine g_bipush 12 X dX8_countWays_10 bp8 rfl ?_
    refine g_icmp_gt 28 15 X dX8_countWays_12 (by decide) rfl h (fun h => ?_) (fun h => ?_)
    · refine g_iconst 29 X dX8_countWays_28 ic0 rfl ?_
      refine g_istore_n 30 X dX8_countWays_29 (by decide) rfl ?_
      exact G.sub [1, 0] rfl (b_X8_countWays_30 X hr  F _ _ _ kt h)
    · refine g_aload_n 16 X 0 dX8_countWays_15 rfl rfl ?_
      refine g_getr 19 X fl_X8_9_8 (o8 kt) rfl dX8_countWays_16 rfl ?_
      refine g_iload_n 20 X 1 dX8_countWays_19 rfl rfl ?_
      refine g_lconst 21 X dX8_countWays_20 lc0 rfl ?_
      refine g_last 22 X (ajC (n := 9) (by decide) (k8_waysOfSoMany kt)) dX8_countWays_21 h rfl (fun μ1 h => ?_)
      refine g_iinc 25 X 1 dX8_countWays_22 ic1 rfl (by decide) rfl ?_
      refine g_goto 9 X dX8_countWays_25 (by decide) ?_
      exact G.sub [1, 0] rfl (ih _ _ _ kt h)
set_option maxRecDepth 100000 in
set_option maxHeartbeats 4000000 in
theorem b_X8_countWays_0 {p : Program} {l : Launch} {e : Env} {s : State} {m : MethodId} {args : Array Value} {below : List Frame} {meth : Method} {c : Code} {D : va_G} {ks : Nat → ClassId} {A : Nat → Prop} {ad : Nat → Nat} (X : Cx p s m args meth c cX8_countWays 5 RX8 D ks A 75 ad (shC ks ad)) (hr : meth.sig.returnType = (some .long)) {F : Nat} {r : Int64 × Mem} (μ : Mem) (t : Nat) (kt : kindC t = 108) (h : f_X8_countWays F  μ t = some r) : G p l e rm_X8_countWays s m args below meth c D A 5 (MQ below (QL D 75 ad (shC ks ad) A r) args s 0 0 A) 75 ad (shC ks ad) μ 0 [(0, .ref (ad t))] [] := by
  refine g_aload_n 1 X 0 dX8_countWays_0 rfl rfl ?_
  refine g_getr 4 X fl_X8_9_8 (o8 kt) rfl dX8_countWays_1 rfl ?_
  refine g_iconst 5 X dX8_countWays_4 ic0 rfl ?_
  refine g_lconst 6 X dX8_countWays_5 lc1 rfl ?_
  refine g_last 7 X (ajC (n := 9) (by decide) (k8_waysOfSoMany kt)) dX8_countWays_6 h rfl (fun μ1 h => ?_)
  refine g_iconst 8 X dX8_countWays_7 ic1 rfl ?_
  refine g_istore_n 9 X dX8_countWays_8 (by decide) rfl ?_
  exact G.sub [1, 0] rfl (b_X8_countWays_9 X hr  F _ _ _ kt h)
set_option maxRecDepth 100000 in
theorem c_X8_countWays {l : Launch} {D : va_G} {ks : Nat → ClassId} {A : Nat → Prop} {ad : Nat → Nat} (hD : ∀ μ : Mem, va_D A (wsM 75 ad (shC ks ad) μ)) {F : Nat} {μ : Mem} {t : Nat} {r : Int64 × Mem} (kt : kindC t = 108) (h : f_X8_countWays F μ t = some r) : Met l yX8_countWays (Cond.code yX8_countWays cX8_countWays 5 (some .long) :: wg) rm_X8_countWays (PC D ks 75 ad (shC ks ad) μ [.ref (ad t)]) (QL D 75 ad (shC ks ad) A r) 0 0 A := by
  refine met_of (by decide) (Nat.le_of_ble_eq_true rfl) hD ?_
  intro p e s m args below meth c X hr
  exact G.sub [0] rfl (b_X8_countWays_0 X hr  _ _ kt h)
abbrev rm_X11_draws : Room := { frames := 4, cells := 0, slots := 0, locals := 86 }
set_option maxRecDepth 100000 in
set_option maxHeartbeats 4000000 in
theorem b_X11_draws_0 {p : Program} {l : Launch} {e : Env} {s : State} {m : MethodId} {args : Array Value} {below : List Frame} {meth : Method} {c : Code} {D : va_G} {ks : Nat → ClassId} {A : Nat → Prop} {ad : Nat → Nat} (X : Cx p s m args meth c cX11_draws 3 RX11 D ks A 75 ad (shC ks ad)) (hr : meth.sig.returnType = (some .long)) {F : Nat} {r : Int64 × Mem} (μ : Mem) (x1 : Int32)  (h : f_X11_draws F  μ x1 = some r) : G p l e rm_X11_draws s m args below meth c D A 3 (MQ below (QL D 75 ad (shC ks ad) A r) args s 0 0 A) 75 ad (shC ks ad) μ 0 [(0, .ref (ad 0)), (1, .int x1)] [] := by
  refine g_iload_n 1 X 1 dX11_draws_0 rfl rfl ?_
  refine g_ni 4 h (fun q e => r_S X cd_X11_133_X11_isPlan ⟨rfl, rfl⟩ ⟨Nat.le_of_ble_eq_true rfl, Nat.le_of_ble_eq_true rfl⟩ (c_X11_isPlan e) PC_blind (pn_pre X) rfl rfl (Nat.le_of_ble_eq_true rfl) dX11_draws_1) rfl (fun v1 h => ?_)
  refine g_if_ne 13 7 X dX11_draws_4 (by decide) rfl h (fun h => ?_) (fun h => ?_)
  · refine g_aload_n 14 X 0 dX11_draws_13 rfl rfl ?_
    refine g_getr 17 X fl_X11_27_11 (o11 rfl) rfl dX11_draws_14 rfl ?_
    refine g_iload_n 18 X 1 dX11_draws_17 rfl rfl ?_
    refine g_aald (fn := fun p => 18 + 9 * p) 19 X arP rfl dX11_draws_18 h rfl (fun hv2 h => ?_)
    refine g_cr 22 h (fun q e => r_V X cd_X11_146_X5_possibleWay_X5 ⟨rfl, rfl⟩ ⟨Nat.le_of_ble_eq_true rfl, Nat.le_of_ble_eq_true rfl⟩ (c_X5_possibleWay X.2.2.2.2 (kPl hv2) e) PC_blind (pc_pre X) (g_recv X (o5 (kPl hv2)) rfl) rfl rfl (Nat.le_of_ble_eq_true rfl) dX11_draws_19) rfl (fun v3 μ4 h => ?_)
    refine g_astoreq_n 23 X dX11_draws_22 (by decide) rfl ?_
    refine g_aloadq_n 24 X 0 dX11_draws_23 rfl rfl ?_
    refine g_ifnonnull 35 27 X dX11_draws_24 (by decide) rfl h (fun y5 hy h2 => ?_) (fun hy h2 => ?_)
    · subst hy
      have h := h2
      refine g_aload_n 36 X 0 dX11_draws_35 rfl rfl ?_
      refine g_cl (rest := []) 39 h (fun q e => ?_) rfl (fun v6 μ7 h => ?_)
      · rcases vdis_some e with ⟨kk, e⟩ | ⟨kk, e⟩ | ⟨kk, e⟩
        · exact r_A X cd_X11_154_X2_countWays_X2 ⟨rfl, rfl⟩ ⟨Nat.le_of_ble_eq_true rfl, Nat.le_of_ble_eq_true rfl⟩ (c_X2_countWays X.2.2.2.2 kk e) PC_blind (pc_pre X) (g_recv X (o2 kk) rfl) rfl rfl (Nat.le_of_ble_eq_true rfl) dX11_draws_36
        · exact r_A X cd_X11_154_X4_countWays_X4 ⟨rfl, rfl⟩ ⟨Nat.le_of_ble_eq_true rfl, Nat.le_of_ble_eq_true rfl⟩ (c_X4_countWays X.2.2.2.2 kk e) PC_blind (pc_pre X) (g_recv X (o4 kk) rfl) rfl rfl (Nat.le_of_ble_eq_true rfl) dX11_draws_36
        · exact r_A X cd_X11_154_X8_countWays_X8 ⟨rfl, rfl⟩ ⟨Nat.le_of_ble_eq_true rfl, Nat.le_of_ble_eq_true rfl⟩ (c_X8_countWays X.2.2.2.2 kk e) PC_blind (pc_pre X) (g_recv X (o8 kk) rfl) rfl rfl (Nat.le_of_ble_eq_true rfl) dX11_draws_36
      · exact g_lret X hr dX11_draws_39 h
    · subst hy
      have h := h2
      refine g_bipush 29 X dX11_draws_27 bpm3 rfl ?_
      refine g_nl 32 h (fun q e => r_S X cd_X11_150_X11_asLong ⟨rfl, rfl⟩ ⟨Nat.le_of_ble_eq_true rfl, Nat.le_of_ble_eq_true rfl⟩ (c_X11_asLong e) PC_blind (pn_pre X) rfl rfl (Nat.le_of_ble_eq_true rfl) dX11_draws_29) rfl (fun v8 h => ?_)
      refine g_goto 39 X dX11_draws_32 (by decide) ?_
      exact g_lret X hr dX11_draws_39 h
  · refine g_bipush 9 X dX11_draws_7 bpm2 rfl ?_
    refine g_nl 12 h (fun q e => r_S X cd_X11_150_X11_asLong ⟨rfl, rfl⟩ ⟨Nat.le_of_ble_eq_true rfl, Nat.le_of_ble_eq_true rfl⟩ (c_X11_asLong e) PC_blind (pn_pre X) rfl rfl (Nat.le_of_ble_eq_true rfl) dX11_draws_9) rfl (fun v9 h => ?_)
    exact g_lret X hr dX11_draws_12 h
set_option maxRecDepth 100000 in
theorem c_X11_draws {l : Launch} {D : va_G} {ks : Nat → ClassId} {A : Nat → Prop} {ad : Nat → Nat} (hD : ∀ μ : Mem, va_D A (wsM 75 ad (shC ks ad) μ)) {F : Nat} {μ : Mem} {x1 : Int32} {r : Int64 × Mem}  (h : f_X11_draws F μ x1 = some r) : Met l yX11_draws (Cond.code yX11_draws cX11_draws 3 (some .long) :: wg) rm_X11_draws (PC D ks 75 ad (shC ks ad) μ [.ref (ad 0), .int x1]) (QL D 75 ad (shC ks ad) A r) 0 0 A := by
  refine met_of (by decide) (Nat.le_of_ble_eq_true rfl) hD ?_
  intro p e s m args below meth c X hr
  exact G.sub [0, 1] rfl (b_X11_draws_0 X hr  _ _ h)
abbrev rm_X11_isAboveOrBelow : Room := { frames := 1, cells := 0, slots := 0, locals := 22 }
set_option maxRecDepth 100000 in
set_option maxHeartbeats 4000000 in
theorem b_X11_isAboveOrBelow_0 {p : Program} {l : Launch} {e : Env} {s : State} {m : MethodId} {args : Array Value} {below : List Frame} {meth : Method} {c : Code} {D : va_G} {ks : Nat → ClassId} (X : Cx p s m args meth c cX11_isAboveOrBelow 1 RX11 D ks (fun _ => False) 0 ad0 sh0) (hr : meth.sig.returnType = (some .boolean)) {F : Nat} {r : Int32} (x0 : Int32)  (h : f_X11_isAboveOrBelow F  x0 = some r) : G p l e rm_X11_isAboveOrBelow s m args below meth c D (fun _ => False) 1 (MQ below (QNi D r) args s 0 0 (fun _ => False)) 0 ad0 sh0 μ0 0 [(0, .int x0)] [] := by
  refine g_iload_n 1 X 0 dX11_isAboveOrBelow_0 rfl rfl ?_
  refine g_iconst 2 X dX11_isAboveOrBelow_1 ic0 rfl ?_
  refine g_iconst 3 X dX11_isAboveOrBelow_2 ic1 rfl ?_
  refine g_ni 6 h (fun q e => r_S X cd_X11_105_X11_within ⟨rfl, rfl⟩ ⟨Nat.le_of_ble_eq_true rfl, Nat.le_of_ble_eq_true rfl⟩ (c_X11_within e) PC_blind (pn_pre X) rfl rfl (Nat.le_of_ble_eq_true rfl) dX11_isAboveOrBelow_3) rfl (fun v1 h => ?_)
  obtain ⟨hz, h⟩ := zk_some h
  exact gn_zret X hr hz dX11_isAboveOrBelow_6 h
set_option maxRecDepth 100000 in
theorem c_X11_isAboveOrBelow {l : Launch} {D : va_G} {ks : Nat → ClassId} {F : Nat} {x0 : Int32} {r : Int32}  (h : f_X11_isAboveOrBelow F x0 = some r) : Met l yX11_isAboveOrBelow (Cond.code yX11_isAboveOrBelow cX11_isAboveOrBelow 1 (some .boolean) :: wg) rm_X11_isAboveOrBelow (PN D ks [.int x0]) (QNi D r) 0 0 (fun _ => False) := by
  refine met_of (by decide) (Nat.le_of_ble_eq_true rfl) d0 ?_
  intro p e s m args below meth c X hr
  exact G.sub [0] rfl (b_X11_isAboveOrBelow_0 X hr  _ h)
abbrev rm_X2_groupOf : Room := { frames := 0, cells := 0, slots := 0, locals := 0 }
set_option maxRecDepth 100000 in
set_option maxHeartbeats 4000000 in
theorem b_X2_groupOf_0 {p : Program} {l : Launch} {e : Env} {s : State} {m : MethodId} {args : Array Value} {below : List Frame} {meth : Method} {c : Code} {D : va_G} {ks : Nat → ClassId} {A : Nat → Prop} {ad : Nat → Nat} (X : Cx p s m args meth c cX2_groupOf 2 RX2 D ks A 75 ad (shC ks ad)) (hr : meth.sig.returnType = (some .int)) {F : Nat} {r : Int32 × Mem} (μ : Mem) (t : Nat) (x1 : Int32) (kt : kindC t = 102) (h : f_X2_groupOf F  μ t x1 = some r) : G p l e rm_X2_groupOf s m args below meth c D A 2 (MQ below (QI D 75 ad (shC ks ad) A r) args s 0 0 A) 75 ad (shC ks ad) μ 0 [(0, .ref (ad t)), (1, .int x1)] [] := by
  refine g_aload_n 1 X 0 dX2_groupOf_0 rfl rfl ?_
  refine g_geti 4 X fl_X2_9_2 (o2 kt) rfl dX2_groupOf_1 h rfl (fun v1 h => ?_)
  refine g_if_eq 19 7 X dX2_groupOf_4 (by decide) rfl h (fun h => ?_) (fun h => ?_)
  · refine g_iconst 20 X dX2_groupOf_19 ic0 rfl ?_
    exact g_iret X hr dX2_groupOf_20 h
  · refine g_aload_n 8 X 0 dX2_groupOf_7 rfl rfl ?_
    refine g_getr 11 X fl_X2_19_2 (o2 kt) rfl dX2_groupOf_8 rfl ?_
    refine g_getr 14 X fl_X2_23_6 (o6 rfl) rfl dX2_groupOf_11 rfl ?_
    refine g_iload_n 15 X 1 dX2_groupOf_14 rfl rfl ?_
    refine g_iald 16 X (aiC (n := 30) (by decide) rfl) dX2_groupOf_15 h rfl (fun v2 h => ?_)
    refine g_goto 20 X dX2_groupOf_16 (by decide) ?_
    exact g_iret X hr dX2_groupOf_20 h
set_option maxRecDepth 100000 in
theorem c_X2_groupOf {l : Launch} {D : va_G} {ks : Nat → ClassId} {A : Nat → Prop} {ad : Nat → Nat} (hD : ∀ μ : Mem, va_D A (wsM 75 ad (shC ks ad) μ)) {F : Nat} {μ : Mem} {t : Nat} {x1 : Int32} {r : Int32 × Mem} (kt : kindC t = 102) (h : f_X2_groupOf F μ t x1 = some r) : Met l yX2_groupOf (Cond.code yX2_groupOf cX2_groupOf 2 (some .int) :: wg) rm_X2_groupOf (PC D ks 75 ad (shC ks ad) μ [.ref (ad t), .int x1]) (QI D 75 ad (shC ks ad) A r) 0 0 A := by
  refine met_of (by decide) (Nat.le_of_ble_eq_true rfl) hD ?_
  intro p e s m args below meth c X hr
  exact G.sub [0, 1] rfl (b_X2_groupOf_0 X hr  _ _ _ kt h)
abbrev rm_X1_commonDivisor : Room := { frames := 0, cells := 0, slots := 0, locals := 0 }
set_option maxRecDepth 100000 in
set_option maxHeartbeats 4000000 in
theorem b_X1_commonDivisor_45 {p : Program} {l : Launch} {e : Env} {s : State} {m : MethodId} {args : Array Value} {below : List Frame} {meth : Method} {c : Code} {D : va_G} {ks : Nat → ClassId} (X : Cx p s m args meth c cX1_commonDivisor 11 RX1 D ks (fun _ => False) 0 ad0 sh0) (hr : meth.sig.returnType = (some .long)) {F : Nat} {r : Int64} (x4 : Int64)  (h : f_X1_commonDivisor_b45 F  x4 = some r) : G p l e rm_X1_commonDivisor s m args below meth c D (fun _ => False) 11 (MQ below (QNl D r) args s 0 0 (fun _ => False)) 0 ad0 sh0 μ0 45 [(4, .long x4)] [] := by
  refine g_lload 47 X 0 dX1_commonDivisor_45 rfl rfl ?_
  refine g_lconst 48 X dX1_commonDivisor_47 lc0 rfl ?_
  refine g_lcmp 49 X dX1_commonDivisor_48 rfl ?_
  refine g_if_gt 56 52 X dX1_commonDivisor_49 (by decide) rfl h (fun h => ?_) (fun h => ?_)
  · refine g_lload 58 X 0 dX1_commonDivisor_56 rfl rfl ?_
    exact gn_lret X hr dX1_commonDivisor_58 h
  · refine g_lconst 53 X dX1_commonDivisor_52 lc1 rfl ?_
    refine g_goto 58 X dX1_commonDivisor_53 (by decide) ?_
    exact gn_lret X hr dX1_commonDivisor_58 h
set_option maxRecDepth 100000 in
set_option maxHeartbeats 4000000 in
theorem b_X1_commonDivisor_9 {p : Program} {l : Launch} {e : Env} {s : State} {m : MethodId} {args : Array Value} {below : List Frame} {meth : Method} {c : Code} {D : va_G} {ks : Nat → ClassId} (X : Cx p s m args meth c cX1_commonDivisor 11 RX1 D ks (fun _ => False) 0 ad0 sh0) (hr : meth.sig.returnType = (some .long)) {F : Nat} {r : Int64} : ∀ n : Nat, ∀ (x4 : Int64) (x6 : Int64) (x8 : Int32), f_X1_commonDivisor_b9 F  n x4 x6 x8 = some r → G p l e rm_X1_commonDivisor s m args below meth c D (fun _ => False) 11 (MQ below (QNl D r) args s 0 0 (fun _ => False)) 0 ad0 sh0 μ0 9 [(4, .long x4), (6, .long x6), (8, .int x8)] [] := by
  intro n
  induction n with
  | zero =>
    intro _ _ _ h
    cases h
  | succ n ih =>
    intro x4 x6 x8 h
    refine g_iload 11 X 2 dX1_commonDivisor_9 rfl rfl ?_
    refine g_sipush 14 X dX1_commonDivisor_11 sp1000 rfl ?_
    refine g_icmp_ge 45 17 X dX1_commonDivisor_14 (by decide) rfl h (fun h => ?_) (fun h => ?_)
    · exact G.sub [0] rfl (b_X1_commonDivisor_45 X hr  _ h)
    · refine g_lload 19 X 1 dX1_commonDivisor_17 rfl rfl ?_
      refine g_lconst 20 X dX1_commonDivisor_19 lc0 rfl ?_
      refine g_lcmp 21 X dX1_commonDivisor_20 rfl ?_
      refine g_if_le 45 24 X dX1_commonDivisor_21 (by decide) rfl h (fun h => ?_) (fun h => ?_)
      · exact G.sub [0] rfl (b_X1_commonDivisor_45 X hr  _ h)
      · refine g_lload 26 X 0 dX1_commonDivisor_24 rfl rfl ?_
        refine g_lload 28 X 1 dX1_commonDivisor_26 rfl rfl ?_
        refine g_lrem 29 X dX1_commonDivisor_28 h rfl (fun h => ?_)
        refine g_topl h (fun v1 h => ?_)
        refine g_lstore 31 X dX1_commonDivisor_29 (by decide) rfl ?_
        refine g_lload 33 X 2 dX1_commonDivisor_31 rfl rfl ?_
        refine g_lstore 35 X dX1_commonDivisor_33 (by decide) rfl ?_
        refine g_lload 37 X 1 dX1_commonDivisor_35 rfl rfl ?_
        refine g_lstore 39 X dX1_commonDivisor_37 (by decide) rfl ?_
        refine g_iinc 42 X 3 dX1_commonDivisor_39 ic1 rfl (by decide) rfl ?_
        refine g_goto 9 X dX1_commonDivisor_42 (by decide) ?_
        exact G.sub [2, 1, 0] rfl (ih _ _ _ h)
set_option maxRecDepth 100000 in
set_option maxHeartbeats 4000000 in
theorem b_X1_commonDivisor_0 {p : Program} {l : Launch} {e : Env} {s : State} {m : MethodId} {args : Array Value} {below : List Frame} {meth : Method} {c : Code} {D : va_G} {ks : Nat → ClassId} (X : Cx p s m args meth c cX1_commonDivisor 11 RX1 D ks (fun _ => False) 0 ad0 sh0) (hr : meth.sig.returnType = (some .long)) {F : Nat} {r : Int64} (x0 : Int64) (x2 : Int64)  (h : f_X1_commonDivisor F  x0 x2 = some r) : G p l e rm_X1_commonDivisor s m args below meth c D (fun _ => False) 11 (MQ below (QNl D r) args s 0 0 (fun _ => False)) 0 ad0 sh0 μ0 0 [(0, .long x0), (2, .long x2)] [] := by
  refine g_lload_n 1 X 0 dX1_commonDivisor_0 rfl rfl ?_
  refine g_lstore 3 X dX1_commonDivisor_1 (by decide) rfl ?_
  refine g_lload_n 4 X 2 dX1_commonDivisor_3 rfl rfl ?_
  refine g_lstore 6 X dX1_commonDivisor_4 (by decide) rfl ?_
  refine g_iconst 7 X dX1_commonDivisor_6 ic0 rfl ?_
  refine g_istore 9 X dX1_commonDivisor_7 (by decide) rfl ?_
  exact G.sub [2, 1, 0] rfl (b_X1_commonDivisor_9 X hr  F _ _ _ h)
set_option maxRecDepth 100000 in
theorem c_X1_commonDivisor {l : Launch} {D : va_G} {ks : Nat → ClassId} {F : Nat} {x0 : Int64} {x2 : Int64} {r : Int64}  (h : f_X1_commonDivisor F x0 x2 = some r) : Met l yX1_commonDivisor (Cond.code yX1_commonDivisor cX1_commonDivisor 11 (some .long) :: wg) rm_X1_commonDivisor (PN D ks [.long x0, .long x2]) (QNl D r) 0 0 (fun _ => False) := by
  refine met_of (by decide) (Nat.le_of_ble_eq_true rfl) d0 ?_
  intro p e s m args below meth c X hr
  exact G.sub [0, 1] rfl (b_X1_commonDivisor_0 X hr  _ _ h)
abbrev rm_X1_become : Room := { frames := 1, cells := 0, slots := 0, locals := 30 }
set_option maxRecDepth 100000 in
set_option maxHeartbeats 4000000 in
theorem b_X1_become_12 {p : Program} {l : Launch} {e : Env} {s : State} {m : MethodId} {args : Array Value} {below : List Frame} {meth : Method} {c : Code} {D : va_G} {ks : Nat → ClassId} {A : Nat → Prop} {ad : Nat → Nat} (X : Cx p s m args meth c cX1_become 7 RX1 D ks A 75 ad (shC ks ad)) (hr : meth.sig.returnType = none) {F : Nat} {r : Unit × Mem} (μ : Mem) (t : Nat) (kt : kindC t = 101) (h : f_X1_become_b12 F  μ t = some r) : G p l e rm_X1_become s m args below meth c D A 7 (MQ below (QV D 75 ad (shC ks ad) A r) args s 0 0 A) 75 ad (shC ks ad) μ 12 [(0, .ref (ad t))] [] := by
  refine g_aload_n 13 X 0 dX1_become_12 rfl rfl ?_
  refine g_lconst 14 X dX1_become_13 lc0 rfl ?_
  refine g_putl 17 X fp_X1_7_1 (o1 kt) rfl (Nat.le_of_ble_eq_true rfl) rfl rfl dX1_become_14 h rfl (fun μ1 h => ?_)
  refine g_aload_n 18 X 0 dX1_become_17 rfl rfl ?_
  refine g_lconst 19 X dX1_become_18 lc1 rfl ?_
  refine g_putl 22 X fp_X1_13_1 (o1 kt) rfl (Nat.le_of_ble_eq_true rfl) rfl rfl dX1_become_19 h rfl (fun μ2 h => ?_)
  exact g_vret X hr dX1_become_22 h
set_option maxRecDepth 100000 in
set_option maxHeartbeats 4000000 in
theorem b_X1_become_0 {p : Program} {l : Launch} {e : Env} {s : State} {m : MethodId} {args : Array Value} {below : List Frame} {meth : Method} {c : Code} {D : va_G} {ks : Nat → ClassId} {A : Nat → Prop} {ad : Nat → Nat} (X : Cx p s m args meth c cX1_become 7 RX1 D ks A 75 ad (shC ks ad)) (hr : meth.sig.returnType = none) {F : Nat} {r : Unit × Mem} (μ : Mem) (t : Nat) (x1 : Int64) (x3 : Int64) (kt : kindC t = 101) (h : f_X1_become F  μ t x1 x3 = some r) : G p l e rm_X1_become s m args below meth c D A 7 (MQ below (QV D 75 ad (shC ks ad) A r) args s 0 0 A) 75 ad (shC ks ad) μ 0 [(0, .ref (ad t)), (1, .long x1), (3, .long x3)] [] := by
  refine g_lload_n 1 X 1 dX1_become_0 rfl rfl ?_
  refine g_lconst 2 X dX1_become_1 lc0 rfl ?_
  refine g_lcmp 3 X dX1_become_2 rfl ?_
  refine g_if_le 12 6 X dX1_become_3 (by decide) rfl h (fun h => ?_) (fun h => ?_)
  · exact G.sub [0] rfl (b_X1_become_12 X hr  _ _ kt h)
  · refine g_lload_n 7 X 2 dX1_become_6 rfl rfl ?_
    refine g_lconst 8 X dX1_become_7 lc0 rfl ?_
    refine g_lcmp 9 X dX1_become_8 rfl ?_
    refine g_if_gt 23 12 X dX1_become_9 (by decide) rfl h (fun h => ?_) (fun h => ?_)
    · refine g_lload_n 24 X 1 dX1_become_23 rfl rfl ?_
      refine g_lload_n 25 X 2 dX1_become_24 rfl rfl ?_
      refine g_nl 28 h (fun q e => r_S X cd_X1_16_X1_commonDivisor ⟨rfl, rfl⟩ ⟨Nat.le_of_ble_eq_true rfl, Nat.le_of_ble_eq_true rfl⟩ (c_X1_commonDivisor e) PC_blind (pn_pre X) rfl rfl (Nat.le_of_ble_eq_true rfl) dX1_become_25) rfl (fun v1 h => ?_)
      refine g_lstore 30 X dX1_become_28 (by decide) rfl ?_
      refine g_aload_n 31 X 1 dX1_become_30 rfl rfl ?_
      refine g_lload_n 32 X 2 dX1_become_31 rfl rfl ?_
      refine g_lload 34 X 0 dX1_become_32 rfl rfl ?_
      refine g_ldiv 35 X dX1_become_34 h rfl (fun h => ?_)
      refine g_topl h (fun v2 h => ?_)
      refine g_putl 38 X fp_X1_7_1 (o1 kt) rfl (Nat.le_of_ble_eq_true rfl) rfl rfl dX1_become_35 h rfl (fun μ3 h => ?_)
      refine g_aload_n 39 X 1 dX1_become_38 rfl rfl ?_
      refine g_lload_n 40 X 3 dX1_become_39 rfl rfl ?_
      refine g_lload 42 X 0 dX1_become_40 rfl rfl ?_
      refine g_ldiv 43 X dX1_become_42 h rfl (fun h => ?_)
      refine g_topl h (fun v4 h => ?_)
      refine g_putl 46 X fp_X1_13_1 (o1 kt) rfl (Nat.le_of_ble_eq_true rfl) rfl rfl dX1_become_43 h rfl (fun μ5 h => ?_)
      exact g_vret X hr dX1_become_46 h
    · exact G.sub [0] rfl (b_X1_become_12 X hr  _ _ kt h)
set_option maxRecDepth 100000 in
theorem c_X1_become {l : Launch} {D : va_G} {ks : Nat → ClassId} {A : Nat → Prop} {ad : Nat → Nat} (hD : ∀ μ : Mem, va_D A (wsM 75 ad (shC ks ad) μ)) {F : Nat} {μ : Mem} {t : Nat} {x1 : Int64} {x3 : Int64} {r : Unit × Mem} (kt : kindC t = 101) (h : f_X1_become F μ t x1 x3 = some r) : Met l yX1_become (Cond.code yX1_become cX1_become 7 none :: wg) rm_X1_become (PC D ks 75 ad (shC ks ad) μ [.ref (ad t), .long x1, .long x3]) (QV D 75 ad (shC ks ad) A r) 0 0 A := by
  refine met_of (by decide) (Nat.le_of_ble_eq_true rfl) hD ?_
  intro p e s m args below meth c X hr
  exact G.sub [0, 1, 2] rfl (b_X1_become_0 X hr  _ _ _ _ kt h)
abbrev rm_X2_shareOfOne : Room := { frames := 2, cells := 0, slots := 0, locals := 56 }
set_option maxRecDepth 100000 in
set_option maxHeartbeats 4000000 in
theorem b_X2_shareOfOne_0 {p : Program} {l : Launch} {e : Env} {s : State} {m : MethodId} {args : Array Value} {below : List Frame} {meth : Method} {c : Code} {D : va_G} {ks : Nat → ClassId} {A : Nat → Prop} {ad : Nat → Nat} (X : Cx p s m args meth c cX2_shareOfOne 4 RX2 D ks A 75 ad (shC ks ad)) (hr : meth.sig.returnType = none) {F : Nat} {r : Unit × Mem} (μ : Mem) (t : Nat) (x1 : Int32) (x2 : Nat) (kt : kindC t = 102) (kx2 : kindC x2 = 101) (h : f_X2_shareOfOne F  μ t x1 x2 = some r) : G p l e rm_X2_shareOfOne s m args below meth c D A 4 (MQ below (QV D 75 ad (shC ks ad) A r) args s 0 0 A) 75 ad (shC ks ad) μ 0 [(0, .ref (ad t)), (1, .int x1), (2, .ref (ad x2))] [] := by
  refine g_aload_n 1 X 0 dX2_shareOfOne_0 rfl rfl ?_
  refine g_iload_n 2 X 1 dX2_shareOfOne_1 rfl rfl ?_
  refine g_ci 5 h (fun q e => r_V X cd_X2_54_X2_groupOf_X2 ⟨rfl, rfl⟩ ⟨Nat.le_of_ble_eq_true rfl, Nat.le_of_ble_eq_true rfl⟩ (c_X2_groupOf X.2.2.2.2 kt e) PC_blind (pc_pre X) (g_recv X (o2 kt) rfl) rfl rfl (Nat.le_of_ble_eq_true rfl) dX2_shareOfOne_2) rfl (fun v1 μ2 h => ?_)
  refine g_istore_n 6 X dX2_shareOfOne_5 (by decide) rfl ?_
  refine g_aload_n 7 X 3 dX2_shareOfOne_6 rfl rfl ?_
  refine g_aload_n 8 X 1 dX2_shareOfOne_7 rfl rfl ?_
  refine g_getr 11 X fl_X2_44_2 (o2 kt) rfl dX2_shareOfOne_8 rfl ?_
  refine g_iload_n 12 X 0 dX2_shareOfOne_11 rfl rfl ?_
  refine g_iald 13 X (aiC (n := 4) (by decide) (k2_numbers kt)) dX2_shareOfOne_12 h rfl (fun v3 h => ?_)
  refine g_i2l 14 X dX2_shareOfOne_13 rfl ?_
  refine g_aload_n 15 X 1 dX2_shareOfOne_14 rfl rfl ?_
  refine g_iload_n 16 X 0 dX2_shareOfOne_15 rfl rfl ?_
  refine g_ci 19 h (fun q e => r_V X cd_X2_47_X2_sizeOf_X2 ⟨rfl, rfl⟩ ⟨Nat.le_of_ble_eq_true rfl, Nat.le_of_ble_eq_true rfl⟩ (c_X2_sizeOf X.2.2.2.2 kt e) PC_blind (pc_pre X) (g_recv X (o2 kt) rfl) rfl rfl (Nat.le_of_ble_eq_true rfl) dX2_shareOfOne_16) rfl (fun v4 μ5 h => ?_)
  refine g_i2l 20 X dX2_shareOfOne_19 rfl ?_
  refine g_cv 23 h (fun q e => r_V X cd_X2_57_X1_become_X1 ⟨rfl, rfl⟩ ⟨Nat.le_of_ble_eq_true rfl, Nat.le_of_ble_eq_true rfl⟩ (c_X1_become X.2.2.2.2 kx2 e) PC_blind (pc_pre X) (g_recv X (o1 kx2) rfl) rfl rfl (Nat.le_of_ble_eq_true rfl) dX2_shareOfOne_20) rfl (fun _ μ6 h => ?_)
  exact g_vret X hr dX2_shareOfOne_23 h
set_option maxRecDepth 100000 in
theorem c_X2_shareOfOne {l : Launch} {D : va_G} {ks : Nat → ClassId} {A : Nat → Prop} {ad : Nat → Nat} (hD : ∀ μ : Mem, va_D A (wsM 75 ad (shC ks ad) μ)) {F : Nat} {μ : Mem} {t : Nat} {x1 : Int32} {x2 : Nat} {r : Unit × Mem} (kt : kindC t = 102) (kx2 : kindC x2 = 101) (h : f_X2_shareOfOne F μ t x1 x2 = some r) : Met l yX2_shareOfOne (Cond.code yX2_shareOfOne cX2_shareOfOne 4 none :: wg) rm_X2_shareOfOne (PC D ks 75 ad (shC ks ad) μ [.ref (ad t), .int x1, .ref (ad x2)]) (QV D 75 ad (shC ks ad) A r) 0 0 A := by
  refine met_of (by decide) (Nat.le_of_ble_eq_true rfl) hD ?_
  intro p e s m args below meth c X hr
  exact G.sub [0, 1, 2] rfl (b_X2_shareOfOne_0 X hr  _ _ _ _ kt kx2 h)
abbrev rm_X4_pointsWith : Room := { frames := 1, cells := 0, slots := 0, locals := 22 }
set_option maxRecDepth 100000 in
set_option maxHeartbeats 4000000 in
theorem b_X4_pointsWith_0 {p : Program} {l : Launch} {e : Env} {s : State} {m : MethodId} {args : Array Value} {below : List Frame} {meth : Method} {c : Code} {D : va_G} {ks : Nat → ClassId} {A : Nat → Prop} {ad : Nat → Nat} (X : Cx p s m args meth c cX4_pointsWith 4 RX4 D ks A 75 ad (shC ks ad)) (hr : meth.sig.returnType = (some .int)) {F : Nat} {r : Int32 × Mem} (μ : Mem) (t : Nat) (x1 : Int32) (kt : kindC t = 104) (h : f_X4_pointsWith F  μ t x1 = some r) : G p l e rm_X4_pointsWith s m args below meth c D A 4 (MQ below (QI D 75 ad (shC ks ad) A r) args s 0 0 A) 75 ad (shC ks ad) μ 0 [(0, .ref (ad t)), (1, .int x1)] [] := by
  refine g_aload_n 1 X 0 dX4_pointsWith_0 rfl rfl ?_
  refine g_geti 4 X fl_X4_9_4 (o4 kt) rfl dX4_pointsWith_1 h rfl (fun v1 h => ?_)
  refine g_if_ne 9 7 X dX4_pointsWith_4 (by decide) rfl h (fun h => ?_) (fun h => ?_)
  · refine g_aload_n 10 X 0 dX4_pointsWith_9 rfl rfl ?_
    refine g_ci 13 h (fun q e => r_V X cd_X4_27_X4_lengthOfStep_X4 ⟨rfl, rfl⟩ ⟨Nat.le_of_ble_eq_true rfl, Nat.le_of_ble_eq_true rfl⟩ (c_X4_lengthOfStep X.2.2.2.2 kt e) PC_blind (pc_pre X) (g_recv X (o4 kt) rfl) rfl rfl (Nat.le_of_ble_eq_true rfl) dX4_pointsWith_10) rfl (fun v2 μ3 h => ?_)
    refine g_istore_n 14 X dX4_pointsWith_13 (by decide) rfl ?_
    refine g_aload_n 15 X 1 dX4_pointsWith_14 rfl rfl ?_
    refine g_getr 18 X fl_X4_30_4 (o4 kt) rfl dX4_pointsWith_15 rfl ?_
    refine g_getr 21 X fl_X4_59_6 (o6 rfl) rfl dX4_pointsWith_18 rfl ?_
    refine g_iload_n 22 X 2 dX4_pointsWith_21 rfl rfl ?_
    refine g_iald 23 X (aiC (n := 30) (by decide) rfl) dX4_pointsWith_22 h rfl (fun v4 h => ?_)
    refine g_aload_n 24 X 1 dX4_pointsWith_23 rfl rfl ?_
    refine g_getr 27 X fl_X4_30_4 (o4 kt) rfl dX4_pointsWith_24 rfl ?_
    refine g_getr 30 X fl_X4_62_6 (o6 rfl) rfl dX4_pointsWith_27 rfl ?_
    refine g_iload_n 31 X 2 dX4_pointsWith_30 rfl rfl ?_
    refine g_iald 32 X (aiC (n := 30) (by decide) rfl) dX4_pointsWith_31 h rfl (fun v5 h => ?_)
    refine g_iadd 33 X dX4_pointsWith_32 rfl ?_
    refine g_iload_n 34 X 0 dX4_pointsWith_33 rfl rfl ?_
    refine g_aload_n 35 X 1 dX4_pointsWith_34 rfl rfl ?_
    refine g_getr 38 X fl_X4_19_4 (o4 kt) rfl dX4_pointsWith_35 rfl ?_
    refine g_iconst 39 X dX4_pointsWith_38 ic0 rfl ?_
    refine g_iald 40 X (aiC (n := 4) (by decide) (k4_numbers kt)) dX4_pointsWith_39 h rfl (fun v6 h => ?_)
    refine g_imul 41 X dX4_pointsWith_40 rfl ?_
    refine g_mmin 44 X m668 ⟨Nat.le_of_ble_eq_true rfl, Nat.le_of_ble_eq_true rfl⟩ dX4_pointsWith_41 h rfl (fun v7 h => ?_)
    refine g_istore_n 45 X dX4_pointsWith_44 (by decide) rfl ?_
    refine g_iconst 46 X dX4_pointsWith_45 ic0 rfl ?_
    refine g_iload_n 47 X 1 dX4_pointsWith_46 rfl rfl ?_
    refine g_iload_n 48 X 0 dX4_pointsWith_47 rfl rfl ?_
    refine g_aload_n 49 X 2 dX4_pointsWith_48 rfl rfl ?_
    refine g_getr 52 X fl_X4_30_4 (o4 kt) rfl dX4_pointsWith_49 rfl ?_
    refine g_getr 55 X fl_X4_59_6 (o6 rfl) rfl dX4_pointsWith_52 rfl ?_
    refine g_iload_n 56 X 3 dX4_pointsWith_55 rfl rfl ?_
    refine g_iald 57 X (aiC (n := 30) (by decide) rfl) dX4_pointsWith_56 h rfl (fun v8 h => ?_)
    refine g_isub 58 X dX4_pointsWith_57 rfl ?_
    refine g_mmin 61 X m668 ⟨Nat.le_of_ble_eq_true rfl, Nat.le_of_ble_eq_true rfl⟩ dX4_pointsWith_58 h rfl (fun v9 h => ?_)
    refine g_mmax 64 X m669 ⟨Nat.le_of_ble_eq_true rfl, Nat.le_of_ble_eq_true rfl⟩ dX4_pointsWith_61 h rfl (fun v10 h => ?_)
    exact g_iret X hr dX4_pointsWith_64 h
  · refine g_iconst 8 X dX4_pointsWith_7 ic1 rfl ?_
    exact g_iret X hr dX4_pointsWith_8 h
set_option maxRecDepth 100000 in
theorem c_X4_pointsWith {l : Launch} {D : va_G} {ks : Nat → ClassId} {A : Nat → Prop} {ad : Nat → Nat} (hD : ∀ μ : Mem, va_D A (wsM 75 ad (shC ks ad) μ)) {F : Nat} {μ : Mem} {t : Nat} {x1 : Int32} {r : Int32 × Mem} (kt : kindC t = 104) (h : f_X4_pointsWith F μ t x1 = some r) : Met l yX4_pointsWith (Cond.code yX4_pointsWith cX4_pointsWith 4 (some .int) :: wg) rm_X4_pointsWith (PC D ks 75 ad (shC ks ad) μ [.ref (ad t), .int x1]) (QI D 75 ad (shC ks ad) A r) 0 0 A := by
  refine met_of (by decide) (Nat.le_of_ble_eq_true rfl) hD ?_
  intro p e s m args below meth c X hr
  exact G.sub [0, 1] rfl (b_X4_pointsWith_0 X hr  _ _ _ kt h)
abbrev rm_X4_shareOfOne : Room := { frames := 2, cells := 0, slots := 0, locals := 56 }
set_option maxRecDepth 100000 in
set_option maxHeartbeats 4000000 in
theorem b_X4_shareOfOne_0 {p : Program} {l : Launch} {e : Env} {s : State} {m : MethodId} {args : Array Value} {below : List Frame} {meth : Method} {c : Code} {D : va_G} {ks : Nat → ClassId} {A : Nat → Prop} {ad : Nat → Nat} (X : Cx p s m args meth c cX4_shareOfOne 3 RX4 D ks A 75 ad (shC ks ad)) (hr : meth.sig.returnType = none) {F : Nat} {r : Unit × Mem} (μ : Mem) (t : Nat) (x1 : Int32) (x2 : Nat) (kt : kindC t = 104) (kx2 : kindC x2 = 101) (h : f_X4_shareOfOne F  μ t x1 x2 = some r) : G p l e rm_X4_shareOfOne s m args below meth c D A 3 (MQ below (QV D 75 ad (shC ks ad) A r) args s 0 0 A) 75 ad (shC ks ad) μ 0 [(0, .ref (ad t)), (1, .int x1), (2, .ref (ad x2))] [] := by
  refine g_aload_n 1 X 2 dX4_shareOfOne_0 rfl rfl ?_
  refine g_aload_n 2 X 0 dX4_shareOfOne_1 rfl rfl ?_
  refine g_iload_n 3 X 1 dX4_shareOfOne_2 rfl rfl ?_
  refine g_ci 6 h (fun q e => r_V X cd_X4_68_X4_pointsWith_X4 ⟨rfl, rfl⟩ ⟨Nat.le_of_ble_eq_true rfl, Nat.le_of_ble_eq_true rfl⟩ (c_X4_pointsWith X.2.2.2.2 kt e) PC_blind (pc_pre X) (g_recv X (o4 kt) rfl) rfl rfl (Nat.le_of_ble_eq_true rfl) dX4_shareOfOne_3) rfl (fun v1 μ2 h => ?_)
  refine g_i2l 7 X dX4_shareOfOne_6 rfl ?_
  refine g_aload_n 8 X 0 dX4_shareOfOne_7 rfl rfl ?_
  refine g_ci 11 h (fun q e => r_V X cd_X4_15_X4_pointCount_X4 ⟨rfl, rfl⟩ ⟨Nat.le_of_ble_eq_true rfl, Nat.le_of_ble_eq_true rfl⟩ (c_X4_pointCount X.2.2.2.2 kt e) PC_blind (pc_pre X) (g_recv X (o4 kt) rfl) rfl rfl (Nat.le_of_ble_eq_true rfl) dX4_shareOfOne_8) rfl (fun v3 μ4 h => ?_)
  refine g_i2l 12 X dX4_shareOfOne_11 rfl ?_
  refine g_cv 15 h (fun q e => r_V X cd_X4_71_X1_become_X1 ⟨rfl, rfl⟩ ⟨Nat.le_of_ble_eq_true rfl, Nat.le_of_ble_eq_true rfl⟩ (c_X1_become X.2.2.2.2 kx2 e) PC_blind (pc_pre X) (g_recv X (o1 kx2) rfl) rfl rfl (Nat.le_of_ble_eq_true rfl) dX4_shareOfOne_12) rfl (fun _ μ5 h => ?_)
  exact g_vret X hr dX4_shareOfOne_15 h
set_option maxRecDepth 100000 in
theorem c_X4_shareOfOne {l : Launch} {D : va_G} {ks : Nat → ClassId} {A : Nat → Prop} {ad : Nat → Nat} (hD : ∀ μ : Mem, va_D A (wsM 75 ad (shC ks ad) μ)) {F : Nat} {μ : Mem} {t : Nat} {x1 : Int32} {x2 : Nat} {r : Unit × Mem} (kt : kindC t = 104) (kx2 : kindC x2 = 101) (h : f_X4_shareOfOne F μ t x1 x2 = some r) : Met l yX4_shareOfOne (Cond.code yX4_shareOfOne cX4_shareOfOne 3 none :: wg) rm_X4_shareOfOne (PC D ks 75 ad (shC ks ad) μ [.ref (ad t), .int x1, .ref (ad x2)]) (QV D 75 ad (shC ks ad) A r) 0 0 A := by
  refine met_of (by decide) (Nat.le_of_ble_eq_true rfl) hD ?_
  intro p e s m args below meth c X hr
  exact G.sub [0, 1, 2] rfl (b_X4_shareOfOne_0 X hr  _ _ _ _ kt kx2 h)
abbrev rm_X8_shareOfOne : Room := { frames := 3, cells := 0, slots := 0, locals := 62 }
set_option maxRecDepth 100000 in
set_option maxHeartbeats 4000000 in
theorem b_X8_shareOfOne_0 {p : Program} {l : Launch} {e : Env} {s : State} {m : MethodId} {args : Array Value} {below : List Frame} {meth : Method} {c : Code} {D : va_G} {ks : Nat → ClassId} {A : Nat → Prop} {ad : Nat → Nat} (X : Cx p s m args meth c cX8_shareOfOne 4 RX8 D ks A 75 ad (shC ks ad)) (hr : meth.sig.returnType = none) {F : Nat} {r : Unit × Mem} (μ : Mem) (t : Nat) (x1 : Int32) (x2 : Nat) (kt : kindC t = 108) (kx2 : kindC x2 = 101) (h : f_X8_shareOfOne F  μ t x1 x2 = some r) : G p l e rm_X8_shareOfOne s m args below meth c D A 4 (MQ below (QV D 75 ad (shC ks ad) A r) args s 0 0 A) 75 ad (shC ks ad) μ 0 [(0, .ref (ad t)), (1, .int x1), (2, .ref (ad x2))] [] := by
  refine g_aload_n 1 X 0 dX8_shareOfOne_0 rfl rfl ?_
  refine g_getr 4 X fl_X8_15_8 (o8 kt) rfl dX8_shareOfOne_1 rfl ?_
  refine g_getr 7 X fl_X8_62_6 (o6 rfl) rfl dX8_shareOfOne_4 rfl ?_
  refine g_iload_n 8 X 1 dX8_shareOfOne_7 rfl rfl ?_
  refine g_iald 9 X (aiC (n := 30) (by decide) rfl) dX8_shareOfOne_8 h rfl (fun v1 h => ?_)
  refine g_istore_n 10 X dX8_shareOfOne_9 (by decide) rfl ?_
  refine g_aload_n 11 X 3 dX8_shareOfOne_10 rfl rfl ?_
  refine g_aload_n 12 X 1 dX8_shareOfOne_11 rfl rfl ?_
  refine g_getr 15 X fl_X8_35_8 (o8 kt) rfl dX8_shareOfOne_12 rfl ?_
  refine g_iconst 16 X dX8_shareOfOne_15 ic0 rfl ?_
  refine g_iald 17 X (aiC (n := 4) (by decide) (k8_numbers kt)) dX8_shareOfOne_16 h rfl (fun v2 h => ?_)
  refine g_i2l 18 X dX8_shareOfOne_17 rfl ?_
  refine g_aload_n 19 X 1 dX8_shareOfOne_18 rfl rfl ?_
  refine g_iload_n 20 X 0 dX8_shareOfOne_19 rfl rfl ?_
  refine g_ci 23 h (fun q e => r_V X cd_X8_55_X8_takenOf_X8 ⟨rfl, rfl⟩ ⟨Nat.le_of_ble_eq_true rfl, Nat.le_of_ble_eq_true rfl⟩ (c_X8_takenOf X.2.2.2.2 kt e) PC_blind (pc_pre X) (g_recv X (o8 kt) rfl) rfl rfl (Nat.le_of_ble_eq_true rfl) dX8_shareOfOne_20) rfl (fun v3 μ4 h => ?_)
  refine g_i2l 24 X dX8_shareOfOne_23 rfl ?_
  refine g_lmul 25 X dX8_shareOfOne_24 rfl ?_
  refine g_aload_n 26 X 1 dX8_shareOfOne_25 rfl rfl ?_
  refine g_ci 29 h (fun q e => r_V X cd_X8_47_X8_clusters_X8 ⟨rfl, rfl⟩ ⟨Nat.le_of_ble_eq_true rfl, Nat.le_of_ble_eq_true rfl⟩ (c_X8_clusters X.2.2.2.2 kt e) PC_blind (pc_pre X) (g_recv X (o8 kt) rfl) rfl rfl (Nat.le_of_ble_eq_true rfl) dX8_shareOfOne_26) rfl (fun v5 μ6 h => ?_)
  refine g_i2l 30 X dX8_shareOfOne_29 rfl ?_
  refine g_aload_n 31 X 1 dX8_shareOfOne_30 rfl rfl ?_
  refine g_iload_n 32 X 0 dX8_shareOfOne_31 rfl rfl ?_
  refine g_ci 35 h (fun q e => r_V X cd_X8_38_X8_sizeOf_X8 ⟨rfl, rfl⟩ ⟨Nat.le_of_ble_eq_true rfl, Nat.le_of_ble_eq_true rfl⟩ (c_X8_sizeOf X.2.2.2.2 kt e) PC_blind (pc_pre X) (g_recv X (o8 kt) rfl) rfl rfl (Nat.le_of_ble_eq_true rfl) dX8_shareOfOne_32) rfl (fun v7 μ8 h => ?_)
  refine g_i2l 36 X dX8_shareOfOne_35 rfl ?_
  refine g_lmul 37 X dX8_shareOfOne_36 rfl ?_
  refine g_cv 40 h (fun q e => r_V X cd_X8_65_X1_become_X1 ⟨rfl, rfl⟩ ⟨Nat.le_of_ble_eq_true rfl, Nat.le_of_ble_eq_true rfl⟩ (c_X1_become X.2.2.2.2 kx2 e) PC_blind (pc_pre X) (g_recv X (o1 kx2) rfl) rfl rfl (Nat.le_of_ble_eq_true rfl) dX8_shareOfOne_37) rfl (fun _ μ9 h => ?_)
  exact g_vret X hr dX8_shareOfOne_40 h
set_option maxRecDepth 100000 in
theorem c_X8_shareOfOne {l : Launch} {D : va_G} {ks : Nat → ClassId} {A : Nat → Prop} {ad : Nat → Nat} (hD : ∀ μ : Mem, va_D A (wsM 75 ad (shC ks ad) μ)) {F : Nat} {μ : Mem} {t : Nat} {x1 : Int32} {x2 : Nat} {r : Unit × Mem} (kt : kindC t = 108) (kx2 : kindC x2 = 101) (h : f_X8_shareOfOne F μ t x1 x2 = some r) : Met l yX8_shareOfOne (Cond.code yX8_shareOfOne cX8_shareOfOne 4 none :: wg) rm_X8_shareOfOne (PC D ks 75 ad (shC ks ad) μ [.ref (ad t), .int x1, .ref (ad x2)]) (QV D 75 ad (shC ks ad) A r) 0 0 A := by
  refine met_of (by decide) (Nat.le_of_ble_eq_true rfl) hD ?_
  intro p e s m args below meth c X hr
  exact G.sub [0, 1, 2] rfl (b_X8_shareOfOne_0 X hr  _ _ _ _ kt kx2 h)
abbrev rm_X1_told : Room := { frames := 0, cells := 0, slots := 0, locals := 0 }
set_option maxRecDepth 100000 in
set_option maxHeartbeats 4000000 in
theorem b_X1_told_0 {p : Program} {l : Launch} {e : Env} {s : State} {m : MethodId} {args : Array Value} {below : List Frame} {meth : Method} {c : Code} {D : va_G} {ks : Nat → ClassId} {A : Nat → Prop} {ad : Nat → Nat} (X : Cx p s m args meth c cX1_told 2 RX1 D ks A 75 ad (shC ks ad)) (hr : meth.sig.returnType = (some .long)) {F : Nat} {r : Int64 × Mem} (μ : Mem) (t : Nat) (x1 : Int32) (kt : kindC t = 101) (h : f_X1_told F  μ t x1 = some r) : G p l e rm_X1_told s m args below meth c D A 2 (MQ below (QL D 75 ad (shC ks ad) A r) args s 0 0 A) 75 ad (shC ks ad) μ 0 [(0, .ref (ad t)), (1, .int x1)] [] := by
  refine g_iload_n 1 X 1 dX1_told_0 rfl rfl ?_
  refine g_if_ne 11 4 X dX1_told_1 (by decide) rfl h (fun h => ?_) (fun h => ?_)
  · refine g_aload_n 12 X 0 dX1_told_11 rfl rfl ?_
    refine g_getl 15 X fl_X1_13_1 (o1 kt) rfl dX1_told_12 h rfl (fun v1 h => ?_)
    exact g_lret X hr dX1_told_15 h
  · refine g_aload_n 5 X 0 dX1_told_4 rfl rfl ?_
    refine g_getl 8 X fl_X1_7_1 (o1 kt) rfl dX1_told_5 h rfl (fun v2 h => ?_)
    refine g_goto 15 X dX1_told_8 (by decide) ?_
    exact g_lret X hr dX1_told_15 h
set_option maxRecDepth 100000 in
theorem c_X1_told {l : Launch} {D : va_G} {ks : Nat → ClassId} {A : Nat → Prop} {ad : Nat → Nat} (hD : ∀ μ : Mem, va_D A (wsM 75 ad (shC ks ad) μ)) {F : Nat} {μ : Mem} {t : Nat} {x1 : Int32} {r : Int64 × Mem} (kt : kindC t = 101) (h : f_X1_told F μ t x1 = some r) : Met l yX1_told (Cond.code yX1_told cX1_told 2 (some .long) :: wg) rm_X1_told (PC D ks 75 ad (shC ks ad) μ [.ref (ad t), .int x1]) (QL D 75 ad (shC ks ad) A r) 0 0 A := by
  refine met_of (by decide) (Nat.le_of_ble_eq_true rfl) hD ?_
  intro p e s m args below meth c X hr
  exact G.sub [0, 1] rfl (b_X1_told_0 X hr  _ _ _ kt h)
abbrev rm_X11_share : Room := { frames := 4, cells := 0, slots := 0, locals := 85 }
set_option maxRecDepth 100000 in
set_option maxHeartbeats 4000000 in
theorem b_X11_share_25 {p : Program} {l : Launch} {e : Env} {s : State} {m : MethodId} {args : Array Value} {below : List Frame} {meth : Method} {c : Code} {D : va_G} {ks : Nat → ClassId} {A : Nat → Prop} {ad : Nat → Nat} (X : Cx p s m args meth c cX11_share 5 RX11 D ks A 75 ad (shC ks ad)) (hr : meth.sig.returnType = (some .long)) {F : Nat} {r : Int64 × Mem} (μ : Mem)  (h : f_X11_share_b25 F  μ = some r) : G p l e rm_X11_share s m args below meth c D A 5 (MQ below (QL D 75 ad (shC ks ad) A r) args s 0 0 A) 75 ad (shC ks ad) μ 25 [] [] := by
  refine g_bipush 27 X dX11_share_25 bpm2 rfl ?_
  refine g_nl 30 h (fun q e => r_S X cd_X11_150_X11_asLong ⟨rfl, rfl⟩ ⟨Nat.le_of_ble_eq_true rfl, Nat.le_of_ble_eq_true rfl⟩ (c_X11_asLong e) PC_blind (pn_pre X) rfl rfl (Nat.le_of_ble_eq_true rfl) dX11_share_27) rfl (fun v1 h => ?_)
  exact g_lret X hr dX11_share_30 h
set_option maxRecDepth 100000 in
set_option maxHeartbeats 4000000 in
theorem b_X11_share_0 {p : Program} {l : Launch} {e : Env} {s : State} {m : MethodId} {args : Array Value} {below : List Frame} {meth : Method} {c : Code} {D : va_G} {ks : Nat → ClassId} {A : Nat → Prop} {ad : Nat → Nat} (X : Cx p s m args meth c cX11_share 5 RX11 D ks A 75 ad (shC ks ad)) (hr : meth.sig.returnType = (some .long)) {F : Nat} {r : Int64 × Mem} (μ : Mem) (x1 : Int32) (x2 : Int32) (x3 : Int32)  (h : f_X11_share F  μ x1 x2 x3 = some r) : G p l e rm_X11_share s m args below meth c D A 5 (MQ below (QL D 75 ad (shC ks ad) A r) args s 0 0 A) 75 ad (shC ks ad) μ 0 [(0, .ref (ad 0)), (1, .int x1), (2, .int x2), (3, .int x3)] [] := by
  refine g_iload_n 1 X 1 dX11_share_0 rfl rfl ?_
  refine g_ni 4 h (fun q e => r_S X cd_X11_133_X11_isPlan ⟨rfl, rfl⟩ ⟨Nat.le_of_ble_eq_true rfl, Nat.le_of_ble_eq_true rfl⟩ (c_X11_isPlan e) PC_blind (pn_pre X) rfl rfl (Nat.le_of_ble_eq_true rfl) dX11_share_1) rfl (fun v1 h => ?_)
  refine g_if_eq 25 7 X dX11_share_4 (by decide) rfl h (fun h => ?_) (fun h => ?_)
  · exact G.sub [] rfl (b_X11_share_25 X hr  _ h)
  · refine g_aload_n 8 X 0 dX11_share_7 rfl rfl ?_
    refine g_getr 11 X fl_X11_10_11 (o11 rfl) rfl dX11_share_8 rfl ?_
    refine g_iload_n 12 X 2 dX11_share_11 rfl rfl ?_
    refine g_ci 15 h (fun q e => r_V X cd_X11_87_X6_has_X6 ⟨rfl, rfl⟩ ⟨Nat.le_of_ble_eq_true rfl, Nat.le_of_ble_eq_true rfl⟩ (c_X6_has X.2.2.2.2  e) PC_blind (pc_pre X) (g_recv X (o6 rfl) rfl) rfl rfl (Nat.le_of_ble_eq_true rfl) dX11_share_12) rfl (fun v2 μ3 h => ?_)
    refine g_if_eq 25 18 X dX11_share_15 (by decide) rfl h (fun h => ?_) (fun h => ?_)
    · exact G.sub [] rfl (b_X11_share_25 X hr  _ h)
    · refine g_iload_n 19 X 3 dX11_share_18 rfl rfl ?_
      refine g_ni 22 h (fun q e => r_S X cd_X11_160_X11_isAboveOrBelow ⟨rfl, rfl⟩ ⟨Nat.le_of_ble_eq_true rfl, Nat.le_of_ble_eq_true rfl⟩ (c_X11_isAboveOrBelow e) PC_blind (pn_pre X) rfl rfl (Nat.le_of_ble_eq_true rfl) dX11_share_19) rfl (fun v4 h => ?_)
      refine g_if_ne 31 25 X dX11_share_22 (by decide) rfl h (fun h => ?_) (fun h => ?_)
      · refine g_aload_n 32 X 0 dX11_share_31 rfl rfl ?_
        refine g_getr 35 X fl_X11_27_11 (o11 rfl) rfl dX11_share_32 rfl ?_
        refine g_iload_n 36 X 1 dX11_share_35 rfl rfl ?_
        refine g_aald (fn := fun p => 18 + 9 * p) 37 X arP rfl dX11_share_36 h rfl (fun hv5 h => ?_)
        refine g_cr 40 h (fun q e => r_V X cd_X11_146_X5_possibleWay_X5 ⟨rfl, rfl⟩ ⟨Nat.le_of_ble_eq_true rfl, Nat.le_of_ble_eq_true rfl⟩ (c_X5_possibleWay X.2.2.2.2 (kPl hv5) e) PC_blind (pc_pre X) (g_recv X (o5 (kPl hv5)) rfl) rfl rfl (Nat.le_of_ble_eq_true rfl) dX11_share_37) rfl (fun v6 μ7 h => ?_)
        refine g_astoreq 42 X dX11_share_40 (by decide) rfl ?_
        refine g_aloadq 44 X 0 dX11_share_42 rfl rfl ?_
        refine g_ifnonnull 53 47 X dX11_share_44 (by decide) rfl h (fun y8 hy h2 => ?_) (fun hy h2 => ?_)
        · subst hy
          have h := h2
          refine g_aload 55 X 0 dX11_share_53 rfl rfl ?_
          refine g_iload_n 56 X 3 dX11_share_55 rfl rfl ?_
          refine g_aload_n 57 X 1 dX11_share_56 rfl rfl ?_
          refine g_getr 60 X fl_X11_54_11 (o11 rfl) rfl dX11_share_57 rfl ?_
          refine g_cv (rest := []) 63 h (fun q e => ?_) rfl (fun _ μ9 h => ?_)
          · rcases vdis_some e with ⟨kk, e⟩ | ⟨kk, e⟩ | ⟨kk, e⟩
            · exact r_A X cd_X11_163_X2_shareOfOne_X2 ⟨rfl, rfl⟩ ⟨Nat.le_of_ble_eq_true rfl, Nat.le_of_ble_eq_true rfl⟩ (c_X2_shareOfOne X.2.2.2.2 kk rfl e) PC_blind (pc_pre X) (g_recv X (o2 kk) rfl) rfl rfl (Nat.le_of_ble_eq_true rfl) dX11_share_60
            · exact r_A X cd_X11_163_X4_shareOfOne_X4 ⟨rfl, rfl⟩ ⟨Nat.le_of_ble_eq_true rfl, Nat.le_of_ble_eq_true rfl⟩ (c_X4_shareOfOne X.2.2.2.2 kk rfl e) PC_blind (pc_pre X) (g_recv X (o4 kk) rfl) rfl rfl (Nat.le_of_ble_eq_true rfl) dX11_share_60
            · exact r_A X cd_X11_163_X8_shareOfOne_X8 ⟨rfl, rfl⟩ ⟨Nat.le_of_ble_eq_true rfl, Nat.le_of_ble_eq_true rfl⟩ (c_X8_shareOfOne X.2.2.2.2 kk rfl e) PC_blind (pc_pre X) (g_recv X (o8 kk) rfl) rfl rfl (Nat.le_of_ble_eq_true rfl) dX11_share_60
          · refine g_aload_n 64 X 1 dX11_share_63 rfl rfl ?_
            refine g_getr 67 X fl_X11_54_11 (o11 rfl) rfl dX11_share_64 rfl ?_
            refine g_iload_n 68 X 4 dX11_share_67 rfl rfl ?_
            refine g_cl 71 h (fun q e => r_V X cd_X11_167_X1_told_X1 ⟨rfl, rfl⟩ ⟨Nat.le_of_ble_eq_true rfl, Nat.le_of_ble_eq_true rfl⟩ (c_X1_told X.2.2.2.2 rfl e) PC_blind (pc_pre X) (g_recv X (o1 rfl) rfl) rfl rfl (Nat.le_of_ble_eq_true rfl) dX11_share_68) rfl (fun v10 μ11 h => ?_)
            exact g_lret X hr dX11_share_71 h
        · subst hy
          have h := h2
          refine g_bipush 49 X dX11_share_47 bpm3 rfl ?_
          refine g_nl 52 h (fun q e => r_S X cd_X11_150_X11_asLong ⟨rfl, rfl⟩ ⟨Nat.le_of_ble_eq_true rfl, Nat.le_of_ble_eq_true rfl⟩ (c_X11_asLong e) PC_blind (pn_pre X) rfl rfl (Nat.le_of_ble_eq_true rfl) dX11_share_49) rfl (fun v12 h => ?_)
          exact g_lret X hr dX11_share_52 h
      · exact G.sub [] rfl (b_X11_share_25 X hr  _ h)
set_option maxRecDepth 100000 in
theorem c_X11_share {l : Launch} {D : va_G} {ks : Nat → ClassId} {A : Nat → Prop} {ad : Nat → Nat} (hD : ∀ μ : Mem, va_D A (wsM 75 ad (shC ks ad) μ)) {F : Nat} {μ : Mem} {x1 : Int32} {x2 : Int32} {x3 : Int32} {r : Int64 × Mem}  (h : f_X11_share F μ x1 x2 x3 = some r) : Met l yX11_share (Cond.code yX11_share cX11_share 5 (some .long) :: wg) rm_X11_share (PC D ks 75 ad (shC ks ad) μ [.ref (ad 0), .int x1, .int x2, .int x3]) (QL D 75 ad (shC ks ad) A r) 0 0 A := by
  refine met_of (by decide) (Nat.le_of_ble_eq_true rfl) hD ?_
  intro p e s m args below meth c X hr
  exact G.sub [0, 1, 2, 3] rfl (b_X11_share_0 X hr  _ _ _ _ h)
abbrev rm_X2_shareOfTwo : Room := { frames := 2, cells := 0, slots := 0, locals := 56 }
set_option maxRecDepth 100000 in
set_option maxHeartbeats 4000000 in
theorem b_X2_shareOfTwo_26 {p : Program} {l : Launch} {e : Env} {s : State} {m : MethodId} {args : Array Value} {below : List Frame} {meth : Method} {c : Code} {D : va_G} {ks : Nat → ClassId} {A : Nat → Prop} {ad : Nat → Nat} (X : Cx p s m args meth c cX2_shareOfTwo 7 RX2 D ks A 75 ad (shC ks ad)) (hr : meth.sig.returnType = none) {F : Nat} {r : Unit × Mem} (μ : Mem) (t : Nat) (x3 : Nat) (x4 : Int32) (x5 : Int32) (z0 : Int32) (kt : kindC t = 102) (kx3 : kindC x3 = 101) (h : f_X2_shareOfTwo_b26 F  μ t x3 x4 x5 z0 = some r) : G p l e rm_X2_shareOfTwo s m args below meth c D A 7 (MQ below (QV D 75 ad (shC ks ad) A r) args s 0 0 A) 75 ad (shC ks ad) μ 26 [(0, .ref (ad t)), (3, .ref (ad x3)), (4, .int x4), (5, .int x5)] [.int z0] := by
  refine g_istore 28 X dX2_shareOfTwo_26 (by decide) rfl ?_
  refine g_aload_n 29 X 2 dX2_shareOfTwo_28 rfl rfl ?_
  refine g_aload_n 30 X 1 dX2_shareOfTwo_29 rfl rfl ?_
  refine g_getr 33 X fl_X2_44_2 (o2 kt) rfl dX2_shareOfTwo_30 rfl ?_
  refine g_iload 35 X 3 dX2_shareOfTwo_33 rfl rfl ?_
  refine g_iald 36 X (aiC (n := 4) (by decide) (k2_numbers kt)) dX2_shareOfTwo_35 h rfl (fun v1 h => ?_)
  refine g_i2l 37 X dX2_shareOfTwo_36 rfl ?_
  refine g_aload_n 38 X 1 dX2_shareOfTwo_37 rfl rfl ?_
  refine g_getr 41 X fl_X2_44_2 (o2 kt) rfl dX2_shareOfTwo_38 rfl ?_
  refine g_iload 43 X 4 dX2_shareOfTwo_41 rfl rfl ?_
  refine g_iald 44 X (aiC (n := 4) (by decide) (k2_numbers kt)) dX2_shareOfTwo_43 h rfl (fun v2 h => ?_)
  refine g_iload 46 X 0 dX2_shareOfTwo_44 rfl rfl ?_
  refine g_isub 47 X dX2_shareOfTwo_46 rfl ?_
  refine g_i2l 48 X dX2_shareOfTwo_47 rfl ?_
  refine g_lmul 49 X dX2_shareOfTwo_48 rfl ?_
  refine g_aload_n 50 X 1 dX2_shareOfTwo_49 rfl rfl ?_
  refine g_iload 52 X 3 dX2_shareOfTwo_50 rfl rfl ?_
  refine g_ci 55 h (fun q e => r_V X cd_X2_47_X2_sizeOf_X2 ⟨rfl, rfl⟩ ⟨Nat.le_of_ble_eq_true rfl, Nat.le_of_ble_eq_true rfl⟩ (c_X2_sizeOf X.2.2.2.2 kt e) PC_blind (pc_pre X) (g_recv X (o2 kt) rfl) rfl rfl (Nat.le_of_ble_eq_true rfl) dX2_shareOfTwo_52) rfl (fun v3 μ4 h => ?_)
  refine g_i2l 56 X dX2_shareOfTwo_55 rfl ?_
  refine g_aload_n 57 X 1 dX2_shareOfTwo_56 rfl rfl ?_
  refine g_iload 59 X 4 dX2_shareOfTwo_57 rfl rfl ?_
  refine g_ci 62 h (fun q e => r_V X cd_X2_47_X2_sizeOf_X2 ⟨rfl, rfl⟩ ⟨Nat.le_of_ble_eq_true rfl, Nat.le_of_ble_eq_true rfl⟩ (c_X2_sizeOf X.2.2.2.2 kt e) PC_blind (pc_pre X) (g_recv X (o2 kt) rfl) rfl rfl (Nat.le_of_ble_eq_true rfl) dX2_shareOfTwo_59) rfl (fun v5 μ6 h => ?_)
  refine g_iload 64 X 0 dX2_shareOfTwo_62 rfl rfl ?_
  refine g_isub 65 X dX2_shareOfTwo_64 rfl ?_
  refine g_i2l 66 X dX2_shareOfTwo_65 rfl ?_
  refine g_lmul 67 X dX2_shareOfTwo_66 rfl ?_
  refine g_cv 70 h (fun q e => r_V X cd_X2_57_X1_become_X1 ⟨rfl, rfl⟩ ⟨Nat.le_of_ble_eq_true rfl, Nat.le_of_ble_eq_true rfl⟩ (c_X1_become X.2.2.2.2 kx3 e) PC_blind (pc_pre X) (g_recv X (o1 kx3) rfl) rfl rfl (Nat.le_of_ble_eq_true rfl) dX2_shareOfTwo_67) rfl (fun _ μ7 h => ?_)
  exact g_vret X hr dX2_shareOfTwo_70 h
set_option maxRecDepth 100000 in
set_option maxHeartbeats 4000000 in
theorem b_X2_shareOfTwo_0 {p : Program} {l : Launch} {e : Env} {s : State} {m : MethodId} {args : Array Value} {below : List Frame} {meth : Method} {c : Code} {D : va_G} {ks : Nat → ClassId} {A : Nat → Prop} {ad : Nat → Nat} (X : Cx p s m args meth c cX2_shareOfTwo 7 RX2 D ks A 75 ad (shC ks ad)) (hr : meth.sig.returnType = none) {F : Nat} {r : Unit × Mem} (μ : Mem) (t : Nat) (x1 : Int32) (x2 : Int32) (x3 : Nat) (kt : kindC t = 102) (kx3 : kindC x3 = 101) (h : f_X2_shareOfTwo F  μ t x1 x2 x3 = some r) : G p l e rm_X2_shareOfTwo s m args below meth c D A 7 (MQ below (QV D 75 ad (shC ks ad) A r) args s 0 0 A) 75 ad (shC ks ad) μ 0 [(0, .ref (ad t)), (1, .int x1), (2, .int x2), (3, .ref (ad x3))] [] := by
  refine g_aload_n 1 X 0 dX2_shareOfTwo_0 rfl rfl ?_
  refine g_iload_n 2 X 1 dX2_shareOfTwo_1 rfl rfl ?_
  refine g_ci 5 h (fun q e => r_V X cd_X2_54_X2_groupOf_X2 ⟨rfl, rfl⟩ ⟨Nat.le_of_ble_eq_true rfl, Nat.le_of_ble_eq_true rfl⟩ (c_X2_groupOf X.2.2.2.2 kt e) PC_blind (pc_pre X) (g_recv X (o2 kt) rfl) rfl rfl (Nat.le_of_ble_eq_true rfl) dX2_shareOfTwo_2) rfl (fun v1 μ2 h => ?_)
  refine g_istore 7 X dX2_shareOfTwo_5 (by decide) rfl ?_
  refine g_aload_n 8 X 1 dX2_shareOfTwo_7 rfl rfl ?_
  refine g_iload_n 9 X 3 dX2_shareOfTwo_8 rfl rfl ?_
  refine g_ci 12 h (fun q e => r_V X cd_X2_54_X2_groupOf_X2 ⟨rfl, rfl⟩ ⟨Nat.le_of_ble_eq_true rfl, Nat.le_of_ble_eq_true rfl⟩ (c_X2_groupOf X.2.2.2.2 kt e) PC_blind (pc_pre X) (g_recv X (o2 kt) rfl) rfl rfl (Nat.le_of_ble_eq_true rfl) dX2_shareOfTwo_9) rfl (fun v3 μ4 h => ?_)
  refine g_istore 14 X dX2_shareOfTwo_12 (by decide) rfl ?_
  refine g_iload 16 X 1 dX2_shareOfTwo_14 rfl rfl ?_
  refine g_iload 18 X 0 dX2_shareOfTwo_16 rfl rfl ?_
  refine g_icmp_ne 25 21 X dX2_shareOfTwo_18 (by decide) rfl h (fun h => ?_) (fun h => ?_)
  · refine g_iconst 26 X dX2_shareOfTwo_25 ic0 rfl ?_
    exact G.sub [2, 5, 1, 0] rfl (b_X2_shareOfTwo_26 X hr  _ _ _ _ _ _ kt kx3 h)
  · refine g_iconst 22 X dX2_shareOfTwo_21 ic1 rfl ?_
    refine g_goto 26 X dX2_shareOfTwo_22 (by decide) ?_
    exact G.sub [2, 5, 1, 0] rfl (b_X2_shareOfTwo_26 X hr  _ _ _ _ _ _ kt kx3 h)
set_option maxRecDepth 100000 in
theorem c_X2_shareOfTwo {l : Launch} {D : va_G} {ks : Nat → ClassId} {A : Nat → Prop} {ad : Nat → Nat} (hD : ∀ μ : Mem, va_D A (wsM 75 ad (shC ks ad) μ)) {F : Nat} {μ : Mem} {t : Nat} {x1 : Int32} {x2 : Int32} {x3 : Nat} {r : Unit × Mem} (kt : kindC t = 102) (kx3 : kindC x3 = 101) (h : f_X2_shareOfTwo F μ t x1 x2 x3 = some r) : Met l yX2_shareOfTwo (Cond.code yX2_shareOfTwo cX2_shareOfTwo 7 none :: wg) rm_X2_shareOfTwo (PC D ks 75 ad (shC ks ad) μ [.ref (ad t), .int x1, .int x2, .ref (ad x3)]) (QV D 75 ad (shC ks ad) A r) 0 0 A := by
  refine met_of (by decide) (Nat.le_of_ble_eq_true rfl) hD ?_
  intro p e s m args below meth c X hr
  exact G.sub [0, 1, 2, 3] rfl (b_X2_shareOfTwo_0 X hr  _ _ _ _ _ kt kx3 h)
abbrev rm_X4_drawAlongSizes : Room := { frames := 1, cells := 0, slots := 0, locals := 22 }
set_option maxRecDepth 100000 in
set_option maxHeartbeats 4000000 in
theorem b_X4_drawAlongSizes_62 {p : Program} {l : Launch} {e : Env} {s : State} {m : MethodId} {args : Array Value} {below : List Frame} {meth : Method} {c : Code} {D : va_G} {ks : Nat → ClassId} {A : Nat → Prop} {ad : Nat → Nat} (X : Cx p s m args meth c cX4_drawAlongSizes 6 RX4 D ks A 75 ad (shC ks ad)) (hr : meth.sig.returnType = (some .int)) {F : Nat} {r : Int32 × Mem} {k10 : Mem → Nat → Int32 → Int32 → Int32 → Int32 → Option (Int32 × Mem)} (hk10 : ∀ (μ : Mem) (t : Nat) (x1 : Int32) (x2 : Int32) (x3 : Int32) (x4 : Int32), (kindC t = 104) → k10 μ t x1 x2 x3 x4 = some r → G p l e rm_X4_drawAlongSizes s m args below meth c D A 6 (MQ below (QI D 75 ad (shC ks ad) A r) args s 0 0 A) 75 ad (shC ks ad) μ 10 [(0, .ref (ad t)), (1, .int x1), (2, .int x2), (3, .int x3), (4, .int x4)] []) (μ : Mem) (t : Nat) (x1 : Int32) (x2 : Int32) (x3 : Int32) (x4 : Int32) (kt : kindC t = 104) (h : f_X4_drawAlongSizes_b62 F k10 μ t x1 x2 x3 x4 = some r) : G p l e rm_X4_drawAlongSizes s m args below meth c D A 6 (MQ below (QI D 75 ad (shC ks ad) A r) args s 0 0 A) 75 ad (shC ks ad) μ 62 [(0, .ref (ad t)), (1, .int x1), (2, .int x2), (3, .int x3), (4, .int x4)] [] := by
  refine g_iinc 65 X 4 dX4_drawAlongSizes_62 ic1 rfl (by decide) rfl ?_
  refine g_goto 10 X dX4_drawAlongSizes_65 (by decide) ?_
  exact G.sub [1, 2, 3, 4, 0] rfl (hk10 _ _ _ _ _ _ kt h)
set_option maxRecDepth 100000 in
set_option maxHeartbeats 4000000 in
theorem b_X4_drawAlongSizes_10 {p : Program} {l : Launch} {e : Env} {s : State} {m : MethodId} {args : Array Value} {below : List Frame} {meth : Method} {c : Code} {D : va_G} {ks : Nat → ClassId} {A : Nat → Prop} {ad : Nat → Nat} (X : Cx p s m args meth c cX4_drawAlongSizes 6 RX4 D ks A 75 ad (shC ks ad)) (hr : meth.sig.returnType = (some .int)) {F : Nat} {r : Int32 × Mem} : ∀ n : Nat, ∀ (μ : Mem) (t : Nat) (x1 : Int32) (x2 : Int32) (x3 : Int32) (x4 : Int32), (kindC t = 104) → f_X4_drawAlongSizes_b10 F  n μ t x1 x2 x3 x4 = some r → G p l e rm_X4_drawAlongSizes s m args below meth c D A 6 (MQ below (QI D 75 ad (shC ks ad) A r) args s 0 0 A) 75 ad (shC ks ad) μ 10 [(0, .ref (ad t)), (1, .int x1), (2, .int x2), (3, .int x3), (4, .int x4)] [] := by
  intro n
  induction n with
  | zero =>
    intro _ _ _ _ _ _ _ h
    cases h
  | succ n ih =>
    intro μ t x1 x2 x3 x4 kt h
    refine g_iload 12 X 4 dX4_drawAlongSizes_10 rfl rfl ?_
    refine g_aload_n 13 X 0 dX4_drawAlongSizes_12 rfl rfl ?_
    refine g_getr 16 X fl_X4_19_4 (o4 kt) rfl dX4_drawAlongSizes_13 rfl ?_
    refine g_iconst 17 X dX4_drawAlongSizes_16 ic0 rfl ?_
    refine g_iald 18 X (aiC (n := 4) (by decide) (k4_numbers kt)) dX4_drawAlongSizes_17 h rfl (fun v1 h => ?_)
    refine g_icmp_ge 68 21 X dX4_drawAlongSizes_18 (by decide) rfl h (fun h => ?_) (fun h => ?_)
    · refine g_iload_n 69 X 3 dX4_drawAlongSizes_68 rfl rfl ?_
      exact g_iret X hr dX4_drawAlongSizes_69 h
    · refine g_iload_n 22 X 1 dX4_drawAlongSizes_21 rfl rfl ?_
      refine g_iload 24 X 4 dX4_drawAlongSizes_22 rfl rfl ?_
      refine g_iload_n 25 X 2 dX4_drawAlongSizes_24 rfl rfl ?_
      refine g_imul 26 X dX4_drawAlongSizes_25 rfl ?_
      refine g_iadd 27 X dX4_drawAlongSizes_26 rfl ?_
      refine g_topi h (fun v2 h => ?_)
      refine g_istore 29 X dX4_drawAlongSizes_27 (by decide) rfl ?_
      refine g_iload 31 X 0 dX4_drawAlongSizes_29 rfl rfl ?_
      refine g_iconst 32 X dX4_drawAlongSizes_31 ic0 rfl ?_
      refine g_aload_n 33 X 1 dX4_drawAlongSizes_32 rfl rfl ?_
      refine g_getr 36 X fl_X4_30_4 (o4 kt) rfl dX4_drawAlongSizes_33 rfl ?_
      refine g_geti 39 X fl_X4_34_6 (o6 rfl) rfl dX4_drawAlongSizes_36 h rfl (fun v3 h => ?_)
      refine g_iconst 40 X dX4_drawAlongSizes_39 ic1 rfl ?_
      refine g_isub 41 X dX4_drawAlongSizes_40 rfl ?_
      refine g_ni 44 h (fun q e => r_SN X cd_X4_23_X11_within ⟨rfl, rfl⟩ ⟨Nat.le_of_ble_eq_true rfl, Nat.le_of_ble_eq_true rfl⟩ (c_X11_within e) PC_blind (pn_pre X) rfl rfl (Nat.le_of_ble_eq_true rfl) dX4_drawAlongSizes_41) rfl (fun v4 h => ?_)
      refine g_if_eq 62 47 X dX4_drawAlongSizes_44 (by decide) rfl h (fun h => ?_) (fun h => ?_)
      · exact G.sub [1, 2, 3, 4, 5] rfl (b_X4_drawAlongSizes_62 X hr ih _ _ _ _ _ _ kt h)
      · refine g_iload_n 48 X 4 dX4_drawAlongSizes_47 rfl rfl ?_
        refine g_iconst 49 X dX4_drawAlongSizes_48 ic1 rfl ?_
        refine g_aload_n 50 X 1 dX4_drawAlongSizes_49 rfl rfl ?_
        refine g_getr 53 X fl_X4_30_4 (o4 kt) rfl dX4_drawAlongSizes_50 rfl ?_
        refine g_getr 56 X fl_X4_56_6 (o6 rfl) rfl dX4_drawAlongSizes_53 rfl ?_
        refine g_iload 58 X 0 dX4_drawAlongSizes_56 rfl rfl ?_
        refine g_iald 59 X (aiC (n := 600) (by decide) rfl) dX4_drawAlongSizes_58 h rfl (fun v5 h => ?_)
        refine g_ishl 60 X dX4_drawAlongSizes_59 rfl ?_
        refine g_ior 61 X dX4_drawAlongSizes_60 rfl ?_
        refine g_topi h (fun v6 h => ?_)
        refine g_istore_n 62 X dX4_drawAlongSizes_61 (by decide) rfl ?_
        exact G.sub [2, 3, 4, 0, 5] rfl (b_X4_drawAlongSizes_62 X hr ih _ _ _ _ _ _ kt h)
set_option maxRecDepth 100000 in
set_option maxHeartbeats 4000000 in
theorem b_X4_drawAlongSizes_0 {p : Program} {l : Launch} {e : Env} {s : State} {m : MethodId} {args : Array Value} {below : List Frame} {meth : Method} {c : Code} {D : va_G} {ks : Nat → ClassId} {A : Nat → Prop} {ad : Nat → Nat} (X : Cx p s m args meth c cX4_drawAlongSizes 6 RX4 D ks A 75 ad (shC ks ad)) (hr : meth.sig.returnType = (some .int)) {F : Nat} {r : Int32 × Mem} (μ : Mem) (t : Nat) (x1 : Int32) (kt : kindC t = 104) (h : f_X4_drawAlongSizes F  μ t x1 = some r) : G p l e rm_X4_drawAlongSizes s m args below meth c D A 6 (MQ below (QI D 75 ad (shC ks ad) A r) args s 0 0 A) 75 ad (shC ks ad) μ 0 [(0, .ref (ad t)), (1, .int x1)] [] := by
  refine g_aload_n 1 X 0 dX4_drawAlongSizes_0 rfl rfl ?_
  refine g_ci 4 h (fun q e => r_V X cd_X4_27_X4_lengthOfStep_X4 ⟨rfl, rfl⟩ ⟨Nat.le_of_ble_eq_true rfl, Nat.le_of_ble_eq_true rfl⟩ (c_X4_lengthOfStep X.2.2.2.2 kt e) PC_blind (pc_pre X) (g_recv X (o4 kt) rfl) rfl rfl (Nat.le_of_ble_eq_true rfl) dX4_drawAlongSizes_1) rfl (fun v1 μ2 h => ?_)
  refine g_istore_n 5 X dX4_drawAlongSizes_4 (by decide) rfl ?_
  refine g_iconst 6 X dX4_drawAlongSizes_5 ic0 rfl ?_
  refine g_istore_n 7 X dX4_drawAlongSizes_6 (by decide) rfl ?_
  refine g_iconst 8 X dX4_drawAlongSizes_7 ic0 rfl ?_
  refine g_istore 10 X dX4_drawAlongSizes_8 (by decide) rfl ?_
  exact G.sub [3, 4, 2, 1, 0] rfl (b_X4_drawAlongSizes_10 X hr  F _ _ _ _ _ _ kt h)
set_option maxRecDepth 100000 in
theorem c_X4_drawAlongSizes {l : Launch} {D : va_G} {ks : Nat → ClassId} {A : Nat → Prop} {ad : Nat → Nat} (hD : ∀ μ : Mem, va_D A (wsM 75 ad (shC ks ad) μ)) {F : Nat} {μ : Mem} {t : Nat} {x1 : Int32} {r : Int32 × Mem} (kt : kindC t = 104) (h : f_X4_drawAlongSizes F μ t x1 = some r) : Met l yX4_drawAlongSizes (Cond.code yX4_drawAlongSizes cX4_drawAlongSizes 6 (some .int) :: wg) rm_X4_drawAlongSizes (PC D ks 75 ad (shC ks ad) μ [.ref (ad t), .int x1]) (QI D 75 ad (shC ks ad) A r) 0 0 A := by
  refine met_of (by decide) (Nat.le_of_ble_eq_true rfl) hD ?_
  intro p e s m args below meth c X hr
  exact G.sub [0, 1] rfl (b_X4_drawAlongSizes_0 X hr  _ _ _ kt h)
abbrev rm_X4_drawRoundList : Room := { frames := 1, cells := 0, slots := 0, locals := 22 }
set_option maxRecDepth 100000 in
set_option maxHeartbeats 4000000 in
theorem b_X4_drawRoundList_16 {p : Program} {l : Launch} {e : Env} {s : State} {m : MethodId} {args : Array Value} {below : List Frame} {meth : Method} {c : Code} {D : va_G} {ks : Nat → ClassId} {A : Nat → Prop} {ad : Nat → Nat} (X : Cx p s m args meth c cX4_drawRoundList 5 RX4 D ks A 75 ad (shC ks ad)) (hr : meth.sig.returnType = (some .int)) {F : Nat} {r : Int32 × Mem} : ∀ n : Nat, ∀ (μ : Mem) (t : Nat) (x2 : Int32) (x3 : Int32) (x4 : Int32), (kindC t = 104) → f_X4_drawRoundList_b16 F  n μ t x2 x3 x4 = some r → G p l e rm_X4_drawRoundList s m args below meth c D A 5 (MQ below (QI D 75 ad (shC ks ad) A r) args s 0 0 A) 75 ad (shC ks ad) μ 16 [(0, .ref (ad t)), (2, .int x2), (3, .int x3), (4, .int x4)] [] := by
  intro n
  induction n with
  | zero =>
    intro _ _ _ _ _ _ h
    cases h
  | succ n ih =>
    intro μ t x2 x3 x4 kt h
    refine g_iload 18 X 3 dX4_drawRoundList_16 rfl rfl ?_
    refine g_aload_n 19 X 0 dX4_drawRoundList_18 rfl rfl ?_
    refine g_getr 22 X fl_X4_30_4 (o4 kt) rfl dX4_drawRoundList_19 rfl ?_
    refine g_geti 25 X fl_X4_53_6 (o6 rfl) rfl dX4_drawRoundList_22 h rfl (fun v1 h => ?_)
    refine g_icmp_ge 44 28 X dX4_drawRoundList_25 (by decide) rfl h (fun h => ?_) (fun h => ?_)
    · refine g_iload_n 45 X 1 dX4_drawRoundList_44 rfl rfl ?_
      exact g_iret X hr dX4_drawRoundList_45 h
    · refine g_iload_n 29 X 1 dX4_drawRoundList_28 rfl rfl ?_
      refine g_iconst 30 X dX4_drawRoundList_29 ic1 rfl ?_
      refine g_iload 32 X 3 dX4_drawRoundList_30 rfl rfl ?_
      refine g_ishl 33 X dX4_drawRoundList_32 rfl ?_
      refine g_ior 34 X dX4_drawRoundList_33 rfl ?_
      refine g_topi h (fun v2 h => ?_)
      refine g_istore_n 35 X dX4_drawRoundList_34 (by decide) rfl ?_
      refine g_iload 37 X 3 dX4_drawRoundList_35 rfl rfl ?_
      refine g_iload_n 38 X 2 dX4_drawRoundList_37 rfl rfl ?_
      refine g_iadd 39 X dX4_drawRoundList_38 rfl ?_
      refine g_topi h (fun v3 h => ?_)
      refine g_istore 41 X dX4_drawRoundList_39 (by decide) rfl ?_
      refine g_goto 16 X dX4_drawRoundList_41 (by decide) ?_
      exact G.sub [2, 1, 3, 0] rfl (ih _ _ _ _ _ kt h)
set_option maxRecDepth 100000 in
set_option maxHeartbeats 4000000 in
theorem b_X4_drawRoundList_0 {p : Program} {l : Launch} {e : Env} {s : State} {m : MethodId} {args : Array Value} {below : List Frame} {meth : Method} {c : Code} {D : va_G} {ks : Nat → ClassId} {A : Nat → Prop} {ad : Nat → Nat} (X : Cx p s m args meth c cX4_drawRoundList 5 RX4 D ks A 75 ad (shC ks ad)) (hr : meth.sig.returnType = (some .int)) {F : Nat} {r : Int32 × Mem} (μ : Mem) (t : Nat) (x1 : Int32) (kt : kindC t = 104) (h : f_X4_drawRoundList F  μ t x1 = some r) : G p l e rm_X4_drawRoundList s m args below meth c D A 5 (MQ below (QI D 75 ad (shC ks ad) A r) args s 0 0 A) 75 ad (shC ks ad) μ 0 [(0, .ref (ad t)), (1, .int x1)] [] := by
  refine g_iconst 1 X dX4_drawRoundList_0 ic0 rfl ?_
  refine g_istore_n 2 X dX4_drawRoundList_1 (by decide) rfl ?_
  refine g_iconst 3 X dX4_drawRoundList_2 ic1 rfl ?_
  refine g_aload_n 4 X 1 dX4_drawRoundList_3 rfl rfl ?_
  refine g_getr 7 X fl_X4_19_4 (o4 kt) rfl dX4_drawRoundList_4 rfl ?_
  refine g_iconst 8 X dX4_drawRoundList_7 ic0 rfl ?_
  refine g_iald 9 X (aiC (n := 4) (by decide) (k4_numbers kt)) dX4_drawRoundList_8 h rfl (fun v1 h => ?_)
  refine g_mmax 12 X m669 ⟨Nat.le_of_ble_eq_true rfl, Nat.le_of_ble_eq_true rfl⟩ dX4_drawRoundList_9 h rfl (fun v2 h => ?_)
  refine g_istore_n 13 X dX4_drawRoundList_12 (by decide) rfl ?_
  refine g_iload_n 14 X 3 dX4_drawRoundList_13 rfl rfl ?_
  refine g_istore 16 X dX4_drawRoundList_14 (by decide) rfl ?_
  exact G.sub [3, 2, 1, 0] rfl (b_X4_drawRoundList_16 X hr  F _ _ _ _ _ kt h)
set_option maxRecDepth 100000 in
theorem c_X4_drawRoundList {l : Launch} {D : va_G} {ks : Nat → ClassId} {A : Nat → Prop} {ad : Nat → Nat} (hD : ∀ μ : Mem, va_D A (wsM 75 ad (shC ks ad) μ)) {F : Nat} {μ : Mem} {t : Nat} {x1 : Int32} {r : Int32 × Mem} (kt : kindC t = 104) (h : f_X4_drawRoundList F μ t x1 = some r) : Met l yX4_drawRoundList (Cond.code yX4_drawRoundList cX4_drawRoundList 5 (some .int) :: wg) rm_X4_drawRoundList (PC D ks 75 ad (shC ks ad) μ [.ref (ad t), .int x1]) (QI D 75 ad (shC ks ad) A r) 0 0 A := by
  refine met_of (by decide) (Nat.le_of_ble_eq_true rfl) hD ?_
  intro p e s m args below meth c X hr
  exact G.sub [0, 1] rfl (b_X4_drawRoundList_0 X hr  _ _ _ kt h)
abbrev rm_X4_drawAt : Room := { frames := 2, cells := 0, slots := 0, locals := 47 }
set_option maxRecDepth 100000 in
set_option maxHeartbeats 4000000 in
theorem b_X4_drawAt_0 {p : Program} {l : Launch} {e : Env} {s : State} {m : MethodId} {args : Array Value} {below : List Frame} {meth : Method} {c : Code} {D : va_G} {ks : Nat → ClassId} {A : Nat → Prop} {ad : Nat → Nat} (X : Cx p s m args meth c cX4_drawAt 2 RX4 D ks A 75 ad (shC ks ad)) (hr : meth.sig.returnType = (some .int)) {F : Nat} {r : Int32 × Mem} (μ : Mem) (t : Nat) (x1 : Int32) (kt : kindC t = 104) (h : f_X4_drawAt F  μ t x1 = some r) : G p l e rm_X4_drawAt s m args below meth c D A 2 (MQ below (QI D 75 ad (shC ks ad) A r) args s 0 0 A) 75 ad (shC ks ad) μ 0 [(0, .ref (ad t)), (1, .int x1)] [] := by
  refine g_aload_n 1 X 0 dX4_drawAt_0 rfl rfl ?_
  refine g_geti 4 X fl_X4_9_4 (o4 kt) rfl dX4_drawAt_1 h rfl (fun v1 h => ?_)
  refine g_if_eq 15 7 X dX4_drawAt_4 (by decide) rfl h (fun h => ?_) (fun h => ?_)
  · refine g_aload_n 16 X 0 dX4_drawAt_15 rfl rfl ?_
    refine g_iload_n 17 X 1 dX4_drawAt_16 rfl rfl ?_
    refine g_ci 20 h (fun q e => r_V X cd_X4_44_X4_drawRoundList_X4 ⟨rfl, rfl⟩ ⟨Nat.le_of_ble_eq_true rfl, Nat.le_of_ble_eq_true rfl⟩ (c_X4_drawRoundList X.2.2.2.2 kt e) PC_blind (pc_pre X) (g_recv X (o4 kt) rfl) rfl rfl (Nat.le_of_ble_eq_true rfl) dX4_drawAt_17) rfl (fun v2 μ3 h => ?_)
    exact g_iret X hr dX4_drawAt_20 h
  · refine g_aload_n 8 X 0 dX4_drawAt_7 rfl rfl ?_
    refine g_iload_n 9 X 1 dX4_drawAt_8 rfl rfl ?_
    refine g_ci 12 h (fun q e => r_V X cd_X4_40_X4_drawAlongSizes_X4 ⟨rfl, rfl⟩ ⟨Nat.le_of_ble_eq_true rfl, Nat.le_of_ble_eq_true rfl⟩ (c_X4_drawAlongSizes X.2.2.2.2 kt e) PC_blind (pc_pre X) (g_recv X (o4 kt) rfl) rfl rfl (Nat.le_of_ble_eq_true rfl) dX4_drawAt_9) rfl (fun v4 μ5 h => ?_)
    refine g_goto 20 X dX4_drawAt_12 (by decide) ?_
    exact g_iret X hr dX4_drawAt_20 h
set_option maxRecDepth 100000 in
theorem c_X4_drawAt {l : Launch} {D : va_G} {ks : Nat → ClassId} {A : Nat → Prop} {ad : Nat → Nat} (hD : ∀ μ : Mem, va_D A (wsM 75 ad (shC ks ad) μ)) {F : Nat} {μ : Mem} {t : Nat} {x1 : Int32} {r : Int32 × Mem} (kt : kindC t = 104) (h : f_X4_drawAt F μ t x1 = some r) : Met l yX4_drawAt (Cond.code yX4_drawAt cX4_drawAt 2 (some .int) :: wg) rm_X4_drawAt (PC D ks 75 ad (shC ks ad) μ [.ref (ad t), .int x1]) (QI D 75 ad (shC ks ad) A r) 0 0 A := by
  refine met_of (by decide) (Nat.le_of_ble_eq_true rfl) hD ?_
  intro p e s m args below meth c X hr
  exact G.sub [0, 1] rfl (b_X4_drawAt_0 X hr  _ _ _ kt h)
abbrev rm_X4_shareOfTwo : Room := { frames := 3, cells := 0, slots := 0, locals := 68 }
set_option maxRecDepth 100000 in
set_option maxHeartbeats 4000000 in
theorem b_X4_shareOfTwo_45 {p : Program} {l : Launch} {e : Env} {s : State} {m : MethodId} {args : Array Value} {below : List Frame} {meth : Method} {c : Code} {D : va_G} {ks : Nat → ClassId} {A : Nat → Prop} {ad : Nat → Nat} (X : Cx p s m args meth c cX4_shareOfTwo 8 RX4 D ks A 75 ad (shC ks ad)) (hr : meth.sig.returnType = none) {F : Nat} {r : Unit × Mem} {k21 : Mem → Nat → Nat → Int32 → Int32 → Int32 → Int32 → Option (Unit × Mem)} (hk21 : ∀ (μ : Mem) (t : Nat) (x3 : Nat) (x4 : Int32) (x5 : Int32) (x6 : Int32) (x7 : Int32), (kindC t = 104) → (kindC x3 = 101) → k21 μ t x3 x4 x5 x6 x7 = some r → G p l e rm_X4_shareOfTwo s m args below meth c D A 8 (MQ below (QV D 75 ad (shC ks ad) A r) args s 0 0 A) 75 ad (shC ks ad) μ 21 [(0, .ref (ad t)), (3, .ref (ad x3)), (4, .int x4), (5, .int x5), (6, .int x6), (7, .int x7)] []) (μ : Mem) (t : Nat) (x3 : Nat) (x4 : Int32) (x5 : Int32) (x6 : Int32) (x7 : Int32) (kt : kindC t = 104) (kx3 : kindC x3 = 101) (h : f_X4_shareOfTwo_b45 F k21 μ t x3 x4 x5 x6 x7 = some r) : G p l e rm_X4_shareOfTwo s m args below meth c D A 8 (MQ below (QV D 75 ad (shC ks ad) A r) args s 0 0 A) 75 ad (shC ks ad) μ 45 [(0, .ref (ad t)), (3, .ref (ad x3)), (4, .int x4), (5, .int x5), (6, .int x6), (7, .int x7)] [] := by
  refine g_iinc 48 X 5 dX4_shareOfTwo_45 ic1 rfl (by decide) rfl ?_
  refine g_goto 21 X dX4_shareOfTwo_48 (by decide) ?_
  exact G.sub [1, 2, 3, 4, 5, 0] rfl (hk21 _ _ _ _ _ _ _ kt kx3 h)
set_option maxRecDepth 100000 in
set_option maxHeartbeats 4000000 in
theorem b_X4_shareOfTwo_21 {p : Program} {l : Launch} {e : Env} {s : State} {m : MethodId} {args : Array Value} {below : List Frame} {meth : Method} {c : Code} {D : va_G} {ks : Nat → ClassId} {A : Nat → Prop} {ad : Nat → Nat} (X : Cx p s m args meth c cX4_shareOfTwo 8 RX4 D ks A 75 ad (shC ks ad)) (hr : meth.sig.returnType = none) {F : Nat} {r : Unit × Mem} : ∀ n : Nat, ∀ (μ : Mem) (t : Nat) (x3 : Nat) (x4 : Int32) (x5 : Int32) (x6 : Int32) (x7 : Int32), (kindC t = 104) → (kindC x3 = 101) → f_X4_shareOfTwo_b21 F  n μ t x3 x4 x5 x6 x7 = some r → G p l e rm_X4_shareOfTwo s m args below meth c D A 8 (MQ below (QV D 75 ad (shC ks ad) A r) args s 0 0 A) 75 ad (shC ks ad) μ 21 [(0, .ref (ad t)), (3, .ref (ad x3)), (4, .int x4), (5, .int x5), (6, .int x6), (7, .int x7)] [] := by
  intro n
  induction n with
  | zero =>
    intro _ _ _ _ _ _ _ _ _ h
    cases h
  | succ n ih =>
    intro μ t x3 x4 x5 x6 x7 kt kx3 h
    refine g_iload 23 X 5 dX4_shareOfTwo_21 rfl rfl ?_
    refine g_iload 25 X 2 dX4_shareOfTwo_23 rfl rfl ?_
    refine g_icmp_ge 51 28 X dX4_shareOfTwo_25 (by decide) rfl h (fun h => ?_) (fun h => ?_)
    · refine g_aload_n 52 X 1 dX4_shareOfTwo_51 rfl rfl ?_
      refine g_iload 54 X 4 dX4_shareOfTwo_52 rfl rfl ?_
      refine g_i2l 55 X dX4_shareOfTwo_54 rfl ?_
      refine g_iload 57 X 2 dX4_shareOfTwo_55 rfl rfl ?_
      refine g_i2l 58 X dX4_shareOfTwo_57 rfl ?_
      refine g_cv 61 h (fun q e => r_V X cd_X4_71_X1_become_X1 ⟨rfl, rfl⟩ ⟨Nat.le_of_ble_eq_true rfl, Nat.le_of_ble_eq_true rfl⟩ (c_X1_become X.2.2.2.2 kx3 e) PC_blind (pc_pre X) (g_recv X (o1 kx3) rfl) rfl rfl (Nat.le_of_ble_eq_true rfl) dX4_shareOfTwo_58) rfl (fun _ μ1 h => ?_)
      exact g_vret X hr dX4_shareOfTwo_61 h
    · refine g_aload_n 29 X 0 dX4_shareOfTwo_28 rfl rfl ?_
      refine g_iload 31 X 5 dX4_shareOfTwo_29 rfl rfl ?_
      refine g_ci 34 h (fun q e => r_V X cd_X4_77_X4_drawAt_X4 ⟨rfl, rfl⟩ ⟨Nat.le_of_ble_eq_true rfl, Nat.le_of_ble_eq_true rfl⟩ (c_X4_drawAt X.2.2.2.2 kt e) PC_blind (pc_pre X) (g_recv X (o4 kt) rfl) rfl rfl (Nat.le_of_ble_eq_true rfl) dX4_shareOfTwo_31) rfl (fun v2 μ3 h => ?_)
      refine g_iload 36 X 3 dX4_shareOfTwo_34 rfl rfl ?_
      refine g_iand 37 X dX4_shareOfTwo_36 rfl ?_
      refine g_iload 39 X 3 dX4_shareOfTwo_37 rfl rfl ?_
      refine g_icmp_ne 45 42 X dX4_shareOfTwo_39 (by decide) rfl h (fun h => ?_) (fun h => ?_)
      · exact G.sub [0, 1, 2, 3, 4, 5] rfl (b_X4_shareOfTwo_45 X hr ih _ _ _ _ _ _ _ kt kx3 h)
      · refine g_iinc 45 X 4 dX4_shareOfTwo_42 ic1 rfl (by decide) rfl ?_
        exact G.sub [1, 2, 3, 4, 0, 5] rfl (b_X4_shareOfTwo_45 X hr ih _ _ _ _ _ _ _ kt kx3 h)
set_option maxRecDepth 100000 in
set_option maxHeartbeats 4000000 in
theorem b_X4_shareOfTwo_0 {p : Program} {l : Launch} {e : Env} {s : State} {m : MethodId} {args : Array Value} {below : List Frame} {meth : Method} {c : Code} {D : va_G} {ks : Nat → ClassId} {A : Nat → Prop} {ad : Nat → Nat} (X : Cx p s m args meth c cX4_shareOfTwo 8 RX4 D ks A 75 ad (shC ks ad)) (hr : meth.sig.returnType = none) {F : Nat} {r : Unit × Mem} (μ : Mem) (t : Nat) (x1 : Int32) (x2 : Int32) (x3 : Nat) (kt : kindC t = 104) (kx3 : kindC x3 = 101) (h : f_X4_shareOfTwo F  μ t x1 x2 x3 = some r) : G p l e rm_X4_shareOfTwo s m args below meth c D A 8 (MQ below (QV D 75 ad (shC ks ad) A r) args s 0 0 A) 75 ad (shC ks ad) μ 0 [(0, .ref (ad t)), (1, .int x1), (2, .int x2), (3, .ref (ad x3))] [] := by
  refine g_aload_n 1 X 0 dX4_shareOfTwo_0 rfl rfl ?_
  refine g_ci 4 h (fun q e => r_V X cd_X4_15_X4_pointCount_X4 ⟨rfl, rfl⟩ ⟨Nat.le_of_ble_eq_true rfl, Nat.le_of_ble_eq_true rfl⟩ (c_X4_pointCount X.2.2.2.2 kt e) PC_blind (pc_pre X) (g_recv X (o4 kt) rfl) rfl rfl (Nat.le_of_ble_eq_true rfl) dX4_shareOfTwo_1) rfl (fun v1 μ2 h => ?_)
  refine g_istore 6 X dX4_shareOfTwo_4 (by decide) rfl ?_
  refine g_iconst 7 X dX4_shareOfTwo_6 ic1 rfl ?_
  refine g_iload_n 8 X 2 dX4_shareOfTwo_7 rfl rfl ?_
  refine g_ishl 9 X dX4_shareOfTwo_8 rfl ?_
  refine g_iconst 10 X dX4_shareOfTwo_9 ic1 rfl ?_
  refine g_iload_n 11 X 3 dX4_shareOfTwo_10 rfl rfl ?_
  refine g_ishl 12 X dX4_shareOfTwo_11 rfl ?_
  refine g_ior 13 X dX4_shareOfTwo_12 rfl ?_
  refine g_topi h (fun v3 h => ?_)
  refine g_istore 15 X dX4_shareOfTwo_13 (by decide) rfl ?_
  refine g_iconst 16 X dX4_shareOfTwo_15 ic0 rfl ?_
  refine g_istore 18 X dX4_shareOfTwo_16 (by decide) rfl ?_
  refine g_iconst 19 X dX4_shareOfTwo_18 ic0 rfl ?_
  refine g_istore 21 X dX4_shareOfTwo_19 (by decide) rfl ?_
  exact G.sub [4, 7, 3, 2, 1, 0] rfl (b_X4_shareOfTwo_21 X hr  F _ _ _ _ _ _ _ kt kx3 h)
set_option maxRecDepth 100000 in
theorem c_X4_shareOfTwo {l : Launch} {D : va_G} {ks : Nat → ClassId} {A : Nat → Prop} {ad : Nat → Nat} (hD : ∀ μ : Mem, va_D A (wsM 75 ad (shC ks ad) μ)) {F : Nat} {μ : Mem} {t : Nat} {x1 : Int32} {x2 : Int32} {x3 : Nat} {r : Unit × Mem} (kt : kindC t = 104) (kx3 : kindC x3 = 101) (h : f_X4_shareOfTwo F μ t x1 x2 x3 = some r) : Met l yX4_shareOfTwo (Cond.code yX4_shareOfTwo cX4_shareOfTwo 8 none :: wg) rm_X4_shareOfTwo (PC D ks 75 ad (shC ks ad) μ [.ref (ad t), .int x1, .int x2, .ref (ad x3)]) (QV D 75 ad (shC ks ad) A r) 0 0 A := by
  refine met_of (by decide) (Nat.le_of_ble_eq_true rfl) hD ?_
  intro p e s m args below meth c X hr
  exact G.sub [0, 1, 2, 3] rfl (b_X4_shareOfTwo_0 X hr  _ _ _ _ _ kt kx3 h)
abbrev rm_X8_shareOfTwo : Room := { frames := 3, cells := 0, slots := 0, locals := 62 }
set_option maxRecDepth 100000 in
set_option maxHeartbeats 4000000 in
theorem b_X8_shareOfTwo_0 {p : Program} {l : Launch} {e : Env} {s : State} {m : MethodId} {args : Array Value} {below : List Frame} {meth : Method} {c : Code} {D : va_G} {ks : Nat → ClassId} {A : Nat → Prop} {ad : Nat → Nat} (X : Cx p s m args meth c cX8_shareOfTwo 10 RX8 D ks A 75 ad (shC ks ad)) (hr : meth.sig.returnType = none) {F : Nat} {r : Unit × Mem} (μ : Mem) (t : Nat) (x1 : Int32) (x2 : Int32) (x3 : Nat) (kt : kindC t = 108) (kx3 : kindC x3 = 101) (h : f_X8_shareOfTwo F  μ t x1 x2 x3 = some r) : G p l e rm_X8_shareOfTwo s m args below meth c D A 10 (MQ below (QV D 75 ad (shC ks ad) A r) args s 0 0 A) 75 ad (shC ks ad) μ 0 [(0, .ref (ad t)), (1, .int x1), (2, .int x2), (3, .ref (ad x3))] [] := by
  refine g_aload_n 1 X 0 dX8_shareOfTwo_0 rfl rfl ?_
  refine g_getr 4 X fl_X8_15_8 (o8 kt) rfl dX8_shareOfTwo_1 rfl ?_
  refine g_getr 7 X fl_X8_62_6 (o6 rfl) rfl dX8_shareOfTwo_4 rfl ?_
  refine g_iload_n 8 X 1 dX8_shareOfTwo_7 rfl rfl ?_
  refine g_iald 9 X (aiC (n := 30) (by decide) rfl) dX8_shareOfTwo_8 h rfl (fun v1 h => ?_)
  refine g_istore 11 X dX8_shareOfTwo_9 (by decide) rfl ?_
  refine g_aload_n 12 X 1 dX8_shareOfTwo_11 rfl rfl ?_
  refine g_getr 15 X fl_X8_15_8 (o8 kt) rfl dX8_shareOfTwo_12 rfl ?_
  refine g_getr 18 X fl_X8_62_6 (o6 rfl) rfl dX8_shareOfTwo_15 rfl ?_
  refine g_iload_n 19 X 3 dX8_shareOfTwo_18 rfl rfl ?_
  refine g_iald 20 X (aiC (n := 30) (by decide) rfl) dX8_shareOfTwo_19 h rfl (fun v2 h => ?_)
  refine g_istore 22 X dX8_shareOfTwo_20 (by decide) rfl ?_
  refine g_aload_n 23 X 2 dX8_shareOfTwo_22 rfl rfl ?_
  refine g_getr 26 X fl_X8_35_8 (o8 kt) rfl dX8_shareOfTwo_23 rfl ?_
  refine g_iconst 27 X dX8_shareOfTwo_26 ic0 rfl ?_
  refine g_iald 28 X (aiC (n := 4) (by decide) (k8_numbers kt)) dX8_shareOfTwo_27 h rfl (fun v3 h => ?_)
  refine g_i2l 29 X dX8_shareOfTwo_28 rfl ?_
  refine g_aload_n 30 X 2 dX8_shareOfTwo_29 rfl rfl ?_
  refine g_iload 32 X 1 dX8_shareOfTwo_30 rfl rfl ?_
  refine g_ci 35 h (fun q e => r_V X cd_X8_55_X8_takenOf_X8 ⟨rfl, rfl⟩ ⟨Nat.le_of_ble_eq_true rfl, Nat.le_of_ble_eq_true rfl⟩ (c_X8_takenOf X.2.2.2.2 kt e) PC_blind (pc_pre X) (g_recv X (o8 kt) rfl) rfl rfl (Nat.le_of_ble_eq_true rfl) dX8_shareOfTwo_32) rfl (fun v4 μ5 h => ?_)
  refine g_i2l 36 X dX8_shareOfTwo_35 rfl ?_
  refine g_lmul 37 X dX8_shareOfTwo_36 rfl ?_
  refine g_topl h (fun v6 h => ?_)
  refine g_lstore 39 X dX8_shareOfTwo_37 (by decide) rfl ?_
  refine g_aload_n 40 X 3 dX8_shareOfTwo_39 rfl rfl ?_
  refine g_ci 43 h (fun q e => r_V X cd_X8_47_X8_clusters_X8 ⟨rfl, rfl⟩ ⟨Nat.le_of_ble_eq_true rfl, Nat.le_of_ble_eq_true rfl⟩ (c_X8_clusters X.2.2.2.2 kt e) PC_blind (pc_pre X) (g_recv X (o8 kt) rfl) rfl rfl (Nat.le_of_ble_eq_true rfl) dX8_shareOfTwo_40) rfl (fun v7 μ8 h => ?_)
  refine g_i2l 44 X dX8_shareOfTwo_43 rfl ?_
  refine g_aload_n 45 X 3 dX8_shareOfTwo_44 rfl rfl ?_
  refine g_iload 47 X 2 dX8_shareOfTwo_45 rfl rfl ?_
  refine g_ci 50 h (fun q e => r_V X cd_X8_38_X8_sizeOf_X8 ⟨rfl, rfl⟩ ⟨Nat.le_of_ble_eq_true rfl, Nat.le_of_ble_eq_true rfl⟩ (c_X8_sizeOf X.2.2.2.2 kt e) PC_blind (pc_pre X) (g_recv X (o8 kt) rfl) rfl rfl (Nat.le_of_ble_eq_true rfl) dX8_shareOfTwo_47) rfl (fun v9 μ10 h => ?_)
  refine g_i2l 51 X dX8_shareOfTwo_50 rfl ?_
  refine g_lmul 52 X dX8_shareOfTwo_51 rfl ?_
  refine g_topl h (fun v11 h => ?_)
  refine g_lstore 54 X dX8_shareOfTwo_52 (by decide) rfl ?_
  refine g_iload 56 X 3 dX8_shareOfTwo_54 rfl rfl ?_
  refine g_iload 58 X 2 dX8_shareOfTwo_56 rfl rfl ?_
  refine g_icmp_ne 90 61 X dX8_shareOfTwo_58 (by decide) rfl h (fun h => ?_) (fun h => ?_)
  · refine g_lload 92 X 1 dX8_shareOfTwo_90 rfl rfl ?_
    refine g_aload_n 93 X 4 dX8_shareOfTwo_92 rfl rfl ?_
    refine g_getr 96 X fl_X8_35_8 (o8 kt) rfl dX8_shareOfTwo_93 rfl ?_
    refine g_iconst 97 X dX8_shareOfTwo_96 ic0 rfl ?_
    refine g_iald 98 X (aiC (n := 4) (by decide) (k8_numbers kt)) dX8_shareOfTwo_97 h rfl (fun v12 h => ?_)
    refine g_iconst 99 X dX8_shareOfTwo_98 ic1 rfl ?_
    refine g_isub 100 X dX8_shareOfTwo_99 rfl ?_
    refine g_i2l 101 X dX8_shareOfTwo_100 rfl ?_
    refine g_aload_n 102 X 4 dX8_shareOfTwo_101 rfl rfl ?_
    refine g_iload 104 X 2 dX8_shareOfTwo_102 rfl rfl ?_
    refine g_ci 107 h (fun q e => r_V X cd_X8_55_X8_takenOf_X8 ⟨rfl, rfl⟩ ⟨Nat.le_of_ble_eq_true rfl, Nat.le_of_ble_eq_true rfl⟩ (c_X8_takenOf X.2.2.2.2 kt e) PC_blind (pc_pre X) (g_recv X (o8 kt) rfl) rfl rfl (Nat.le_of_ble_eq_true rfl) dX8_shareOfTwo_104) rfl (fun v13 μ14 h => ?_)
    refine g_i2l 108 X dX8_shareOfTwo_107 rfl ?_
    refine g_lmul 109 X dX8_shareOfTwo_108 rfl ?_
    refine g_lmul 110 X dX8_shareOfTwo_109 rfl ?_
    refine g_topl h (fun v15 h => ?_)
    refine g_lstore 112 X dX8_shareOfTwo_110 (by decide) rfl ?_
    refine g_lload 114 X 1 dX8_shareOfTwo_112 rfl rfl ?_
    refine g_aload_n 115 X 4 dX8_shareOfTwo_114 rfl rfl ?_
    refine g_ci 118 h (fun q e => r_V X cd_X8_47_X8_clusters_X8 ⟨rfl, rfl⟩ ⟨Nat.le_of_ble_eq_true rfl, Nat.le_of_ble_eq_true rfl⟩ (c_X8_clusters X.2.2.2.2 kt e) PC_blind (pc_pre X) (g_recv X (o8 kt) rfl) rfl rfl (Nat.le_of_ble_eq_true rfl) dX8_shareOfTwo_115) rfl (fun v16 μ17 h => ?_)
    refine g_iconst 119 X dX8_shareOfTwo_118 ic1 rfl ?_
    refine g_isub 120 X dX8_shareOfTwo_119 rfl ?_
    refine g_i2l 121 X dX8_shareOfTwo_120 rfl ?_
    refine g_aload_n 122 X 4 dX8_shareOfTwo_121 rfl rfl ?_
    refine g_iload 124 X 2 dX8_shareOfTwo_122 rfl rfl ?_
    refine g_ci 127 h (fun q e => r_V X cd_X8_38_X8_sizeOf_X8 ⟨rfl, rfl⟩ ⟨Nat.le_of_ble_eq_true rfl, Nat.le_of_ble_eq_true rfl⟩ (c_X8_sizeOf X.2.2.2.2 kt e) PC_blind (pc_pre X) (g_recv X (o8 kt) rfl) rfl rfl (Nat.le_of_ble_eq_true rfl) dX8_shareOfTwo_124) rfl (fun v18 μ19 h => ?_)
    refine g_i2l 128 X dX8_shareOfTwo_127 rfl ?_
    refine g_lmul 129 X dX8_shareOfTwo_128 rfl ?_
    refine g_lmul 130 X dX8_shareOfTwo_129 rfl ?_
    refine g_topl h (fun v20 h => ?_)
    refine g_lstore 132 X dX8_shareOfTwo_130 (by decide) rfl ?_
    refine g_aload_n 133 X 7 dX8_shareOfTwo_132 rfl rfl ?_
    refine g_lload 135 X 1 dX8_shareOfTwo_133 rfl rfl ?_
    refine g_lload 137 X 0 dX8_shareOfTwo_135 rfl rfl ?_
    refine g_cv 140 h (fun q e => r_V X cd_X8_65_X1_become_X1 ⟨rfl, rfl⟩ ⟨Nat.le_of_ble_eq_true rfl, Nat.le_of_ble_eq_true rfl⟩ (c_X1_become X.2.2.2.2 kx3 e) PC_blind (pc_pre X) (g_recv X (o1 kx3) rfl) rfl rfl (Nat.le_of_ble_eq_true rfl) dX8_shareOfTwo_137) rfl (fun _ μ21 h => ?_)
    exact g_vret X hr dX8_shareOfTwo_140 h
  · refine g_aload_n 62 X 7 dX8_shareOfTwo_61 rfl rfl ?_
    refine g_lload 64 X 1 dX8_shareOfTwo_62 rfl rfl ?_
    refine g_aload_n 65 X 4 dX8_shareOfTwo_64 rfl rfl ?_
    refine g_iload 67 X 3 dX8_shareOfTwo_65 rfl rfl ?_
    refine g_ci 70 h (fun q e => r_V X cd_X8_55_X8_takenOf_X8 ⟨rfl, rfl⟩ ⟨Nat.le_of_ble_eq_true rfl, Nat.le_of_ble_eq_true rfl⟩ (c_X8_takenOf X.2.2.2.2 kt e) PC_blind (pc_pre X) (g_recv X (o8 kt) rfl) rfl rfl (Nat.le_of_ble_eq_true rfl) dX8_shareOfTwo_67) rfl (fun v22 μ23 h => ?_)
    refine g_iconst 71 X dX8_shareOfTwo_70 ic1 rfl ?_
    refine g_isub 72 X dX8_shareOfTwo_71 rfl ?_
    refine g_i2l 73 X dX8_shareOfTwo_72 rfl ?_
    refine g_lmul 74 X dX8_shareOfTwo_73 rfl ?_
    refine g_lload 76 X 0 dX8_shareOfTwo_74 rfl rfl ?_
    refine g_aload_n 77 X 4 dX8_shareOfTwo_76 rfl rfl ?_
    refine g_iload 79 X 3 dX8_shareOfTwo_77 rfl rfl ?_
    refine g_ci 82 h (fun q e => r_V X cd_X8_38_X8_sizeOf_X8 ⟨rfl, rfl⟩ ⟨Nat.le_of_ble_eq_true rfl, Nat.le_of_ble_eq_true rfl⟩ (c_X8_sizeOf X.2.2.2.2 kt e) PC_blind (pc_pre X) (g_recv X (o8 kt) rfl) rfl rfl (Nat.le_of_ble_eq_true rfl) dX8_shareOfTwo_79) rfl (fun v24 μ25 h => ?_)
    refine g_iconst 83 X dX8_shareOfTwo_82 ic1 rfl ?_
    refine g_isub 84 X dX8_shareOfTwo_83 rfl ?_
    refine g_i2l 85 X dX8_shareOfTwo_84 rfl ?_
    refine g_lmul 86 X dX8_shareOfTwo_85 rfl ?_
    refine g_cv 89 h (fun q e => r_V X cd_X8_65_X1_become_X1 ⟨rfl, rfl⟩ ⟨Nat.le_of_ble_eq_true rfl, Nat.le_of_ble_eq_true rfl⟩ (c_X1_become X.2.2.2.2 kx3 e) PC_blind (pc_pre X) (g_recv X (o1 kx3) rfl) rfl rfl (Nat.le_of_ble_eq_true rfl) dX8_shareOfTwo_86) rfl (fun _ μ26 h => ?_)
    exact g_vret X hr dX8_shareOfTwo_89 h
set_option maxRecDepth 100000 in
theorem c_X8_shareOfTwo {l : Launch} {D : va_G} {ks : Nat → ClassId} {A : Nat → Prop} {ad : Nat → Nat} (hD : ∀ μ : Mem, va_D A (wsM 75 ad (shC ks ad) μ)) {F : Nat} {μ : Mem} {t : Nat} {x1 : Int32} {x2 : Int32} {x3 : Nat} {r : Unit × Mem} (kt : kindC t = 108) (kx3 : kindC x3 = 101) (h : f_X8_shareOfTwo F μ t x1 x2 x3 = some r) : Met l yX8_shareOfTwo (Cond.code yX8_shareOfTwo cX8_shareOfTwo 10 none :: wg) rm_X8_shareOfTwo (PC D ks 75 ad (shC ks ad) μ [.ref (ad t), .int x1, .int x2, .ref (ad x3)]) (QV D 75 ad (shC ks ad) A r) 0 0 A := by
  refine met_of (by decide) (Nat.le_of_ble_eq_true rfl) hD ?_
  intro p e s m args below meth c X hr
  exact G.sub [0, 1, 2, 3] rfl (b_X8_shareOfTwo_0 X hr  _ _ _ _ _ kt kx3 h)
