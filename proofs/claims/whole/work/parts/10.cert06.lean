abbrev rm_X11_cost : Room := { frames := 1, cells := 0, slots := 0, locals := 23 }
set_option maxRecDepth 100000 in
set_option maxHeartbeats 4000000 in
theorem b_X11_cost_0 {p : Program} {l : Launch} {e : Env} {s : State} {m : MethodId} {args : Array Value} {below : List Frame} {meth : Method} {c : Code} {D : va_G} {ks : Nat → ClassId} {A : Nat → Prop} {ad : Nat → Nat} (X : Cx p s m args meth c cX11_cost 3 RX11 D ks A 75 ad (shC ks ad)) (hr : meth.sig.returnType = (some .int)) {F : Nat} {r : Int32 × Mem} (μ : Mem) (x1 : Int32) (x2 : Int32)  (h : f_X11_cost F  μ x1 x2 = some r) : G p l e rm_X11_cost s m args below meth c D A 3 (MQ below (QI D 75 ad (shC ks ad) A r) args s 0 0 A) 75 ad (shC ks ad) μ 0 [(0, .ref (ad 0)), (1, .int x1), (2, .int x2)] [] := by
  refine g_iload_n 1 X 1 dX11_cost_0 rfl rfl ?_
  refine g_iconst 2 X dX11_cost_1 ic0 rfl ?_
  refine g_bipush 4 X dX11_cost_2 bp7 rfl ?_
  refine g_ni 7 h (fun q e => r_S X cd_X11_105_X11_within ⟨rfl, rfl⟩ ⟨Nat.le_of_ble_eq_true rfl, Nat.le_of_ble_eq_true rfl⟩ (c_X11_within e) PC_blind (pn_pre X) rfl rfl (Nat.le_of_ble_eq_true rfl) dX11_cost_4) rfl (fun v1 h => ?_)
  refine g_if_eq 20 10 X dX11_cost_7 (by decide) rfl h (fun h => ?_) (fun h => ?_)
  · refine g_bipush 22 X dX11_cost_20 bpm2 rfl ?_
    exact g_iret X hr dX11_cost_22 h
  · refine g_iload_n 11 X 2 dX11_cost_10 rfl rfl ?_
    refine g_iconst 12 X dX11_cost_11 ic0 rfl ?_
    refine g_bipush 14 X dX11_cost_12 bp100 rfl ?_
    refine g_ni 17 h (fun q e => r_S X cd_X11_105_X11_within ⟨rfl, rfl⟩ ⟨Nat.le_of_ble_eq_true rfl, Nat.le_of_ble_eq_true rfl⟩ (c_X11_within e) PC_blind (pn_pre X) rfl rfl (Nat.le_of_ble_eq_true rfl) dX11_cost_14) rfl (fun v2 h => ?_)
    refine g_if_ne 23 20 X dX11_cost_17 (by decide) rfl h (fun h => ?_) (fun h => ?_)
    · refine g_aload_n 24 X 0 dX11_cost_23 rfl rfl ?_
      refine g_getr 27 X fl_X11_47_11 (o11 rfl) rfl dX11_cost_24 rfl ?_
      refine g_getr 30 X fl_X11_240_3 (o3 rfl) rfl dX11_cost_27 rfl ?_
      refine g_iload_n 31 X 1 dX11_cost_30 rfl rfl ?_
      refine g_iload_n 32 X 2 dX11_cost_31 rfl rfl ?_
      refine g_ci 35 h (fun q e => r_S X cd_X11_220_X11_swap ⟨rfl, rfl⟩ ⟨Nat.le_of_ble_eq_true rfl, Nat.le_of_ble_eq_true rfl⟩ (c_X11_swap X.2.2.2.2 ⟨by decide, by decide⟩ e) PC_blind (pc_pre X) rfl rfl (Nat.le_of_ble_eq_true rfl) dX11_cost_32) rfl (fun v3 μ4 h => ?_)
      exact g_iret X hr dX11_cost_35 h
    · refine g_bipush 22 X dX11_cost_20 bpm2 rfl ?_
      exact g_iret X hr dX11_cost_22 h
set_option maxRecDepth 100000 in
theorem c_X11_cost {l : Launch} {D : va_G} {ks : Nat → ClassId} {A : Nat → Prop} {ad : Nat → Nat} (hD : ∀ μ : Mem, va_D A (wsM 75 ad (shC ks ad) μ)) {F : Nat} {μ : Mem} {x1 : Int32} {x2 : Int32} {r : Int32 × Mem}  (h : f_X11_cost F μ x1 x2 = some r) : Met l yX11_cost (Cond.code yX11_cost cX11_cost 3 (some .int) :: wg) rm_X11_cost (PC D ks 75 ad (shC ks ad) μ [.ref (ad 0), .int x1, .int x2]) (QI D 75 ad (shC ks ad) A r) 0 0 A := by
  refine met_of (by decide) (Nat.le_of_ble_eq_true rfl) hD ?_
  intro p e s m args below meth c X hr
  exact G.sub [0, 1, 2] rfl (b_X11_cost_0 X hr  _ _ _ h)
abbrev rm_X3_gatherGains : Room := { frames := 4, cells := 0, slots := 0, locals := 85 }
set_option maxRecDepth 100000 in
set_option maxHeartbeats 4000000 in
theorem b_X3_gatherGains_104 {p : Program} {l : Launch} {e : Env} {s : State} {m : MethodId} {args : Array Value} {below : List Frame} {meth : Method} {c : Code} {D : va_G} {ks : Nat → ClassId} {A : Nat → Prop} {ad : Nat → Nat} (X : Cx p s m args meth c cX3_gatherGains 5 RX3 D ks A 75 ad (shC ks ad)) (hr : meth.sig.returnType = (some .int)) {F : Nat} {r : Int32 × Mem} {k29 : Mem → (Option Nat) → Int32 → Int32 → Int32 → Option (Int32 × Mem)} (hk29 : ∀ (μ : Mem) (x1 : Option Nat) (x2 : Int32) (x3 : Int32) (x4 : Int32), k29 μ x1 x2 x3 x4 = some r → G p l e rm_X3_gatherGains s m args below meth c D A 5 (MQ below (QI D 75 ad (shC ks ad) A r) args s 0 0 A) 75 ad (shC ks ad) μ 29 [(0, .ref (ad 69)), (1, va_rf (x1.map ad)), (2, .int x2), (3, .int x3), (4, .int x4)] []) (μ : Mem) (x1 : Option Nat) (x2 : Int32) (x3 : Int32) (x4 : Int32)  (h : f_X3_gatherGains_b104 F k29 μ x1 x2 x3 x4 = some r) : G p l e rm_X3_gatherGains s m args below meth c D A 5 (MQ below (QI D 75 ad (shC ks ad) A r) args s 0 0 A) 75 ad (shC ks ad) μ 104 [(0, .ref (ad 69)), (1, va_rf (x1.map ad)), (2, .int x2), (3, .int x3), (4, .int x4)] [] := by
  refine g_iinc 107 X 4 dX3_gatherGains_104 ic1 rfl (by decide) rfl ?_
  refine g_goto 29 X dX3_gatherGains_107 (by decide) ?_
  exact G.sub [1, 2, 3, 4, 0] rfl (hk29 _ _ _ _ _ h)
set_option maxRecDepth 100000 in
set_option maxHeartbeats 4000000 in
theorem b_X3_gatherGains_29 {p : Program} {l : Launch} {e : Env} {s : State} {m : MethodId} {args : Array Value} {below : List Frame} {meth : Method} {c : Code} {D : va_G} {ks : Nat → ClassId} {A : Nat → Prop} {ad : Nat → Nat} (X : Cx p s m args meth c cX3_gatherGains 5 RX3 D ks A 75 ad (shC ks ad)) (hr : meth.sig.returnType = (some .int)) {F : Nat} {r : Int32 × Mem} : ∀ n : Nat, ∀ (μ : Mem) (x1 : Option Nat) (x2 : Int32) (x3 : Int32) (x4 : Int32), f_X3_gatherGains_b29 F  n μ x1 x2 x3 x4 = some r → G p l e rm_X3_gatherGains s m args below meth c D A 5 (MQ below (QI D 75 ad (shC ks ad) A r) args s 0 0 A) 75 ad (shC ks ad) μ 29 [(0, .ref (ad 69)), (1, va_rf (x1.map ad)), (2, .int x2), (3, .int x3), (4, .int x4)] [] := by
  intro n
  induction n with
  | zero =>
    intro _ _ _ _ _ h
    cases h
  | succ n ih =>
    intro μ x1 x2 x3 x4 h
    refine g_iload 31 X 4 dX3_gatherGains_29 rfl rfl ?_
    refine g_aload_n 32 X 0 dX3_gatherGains_31 rfl rfl ?_
    refine g_getr 35 X fl_X3_25_3 (o3 rfl) rfl dX3_gatherGains_32 rfl ?_
    refine g_geti 38 X fl_X3_52_6 (o6 rfl) rfl dX3_gatherGains_35 h rfl (fun v1 h => ?_)
    refine g_icmp_ge 110 41 X dX3_gatherGains_38 (by decide) rfl h (fun h => ?_) (fun h => ?_)
    · refine g_iload_n 111 X 3 dX3_gatherGains_110 rfl rfl ?_
      exact g_iret X hr dX3_gatherGains_111 h
    · refine g_aloadq_n 42 X 1 dX3_gatherGains_41 rfl rfl ?_
      refine g_ifnull 104 45 X dX3_gatherGains_42 (by decide) rfl h (fun hy h2 => ?_) (fun y2 hy h2 => ?_)
      · subst hy
        have h := h2
        exact G.sub [0, 1, 2, 3, 4] rfl (b_X3_gatherGains_104 X hr ih _ _ _ _ _ h)
      · subst hy
        have h := h2
        refine g_iload_n 46 X 2 dX3_gatherGains_45 rfl rfl ?_
        refine g_iload 48 X 4 dX3_gatherGains_46 rfl rfl ?_
        refine g_ni 51 h (fun q e => r_SN X cd_X3_55_X11_isIn ⟨rfl, rfl⟩ ⟨Nat.le_of_ble_eq_true rfl, Nat.le_of_ble_eq_true rfl⟩ (c_X11_isIn e) PC_blind (pn_pre X) rfl rfl (Nat.le_of_ble_eq_true rfl) dX3_gatherGains_48) rfl (fun v3 h => ?_)
        refine g_if_eq 104 54 X dX3_gatherGains_51 (by decide) rfl h (fun h => ?_) (fun h => ?_)
        · exact G.sub [0, 1, 2, 3, 4] rfl (b_X3_gatherGains_104 X hr ih _ _ _ _ _ h)
        · refine g_aload_n 55 X 1 dX3_gatherGains_54 rfl rfl ?_
          refine g_iload 57 X 4 dX3_gatherGains_55 rfl rfl ?_
          refine g_aload_n 58 X 0 dX3_gatherGains_57 rfl rfl ?_
          refine g_getr 61 X fl_X3_21_3 (o3 rfl) rfl dX3_gatherGains_58 rfl ?_
          refine g_cv (rest := []) 64 h (fun q e => ?_) rfl (fun _ μ4 h => ?_)
          · rcases vdis_some e with ⟨kk, e⟩ | ⟨kk, e⟩ | ⟨kk, e⟩
            · exact r_A X cd_X3_59_X2_shareOfOne_X2 ⟨rfl, rfl⟩ ⟨Nat.le_of_ble_eq_true rfl, Nat.le_of_ble_eq_true rfl⟩ (c_X2_shareOfOne X.2.2.2.2 kk rfl e) PC_blind (pc_pre X) (g_recv X (o2 kk) rfl) rfl rfl (Nat.le_of_ble_eq_true rfl) dX3_gatherGains_61
            · exact r_A X cd_X3_59_X4_shareOfOne_X4 ⟨rfl, rfl⟩ ⟨Nat.le_of_ble_eq_true rfl, Nat.le_of_ble_eq_true rfl⟩ (c_X4_shareOfOne X.2.2.2.2 kk rfl e) PC_blind (pc_pre X) (g_recv X (o4 kk) rfl) rfl rfl (Nat.le_of_ble_eq_true rfl) dX3_gatherGains_61
            · exact r_A X cd_X3_59_X8_shareOfOne_X8 ⟨rfl, rfl⟩ ⟨Nat.le_of_ble_eq_true rfl, Nat.le_of_ble_eq_true rfl⟩ (c_X8_shareOfOne X.2.2.2.2 kk rfl e) PC_blind (pc_pre X) (g_recv X (o8 kk) rfl) rfl rfl (Nat.le_of_ble_eq_true rfl) dX3_gatherGains_61
          · refine g_aload_n 65 X 0 dX3_gatherGains_64 rfl rfl ?_
            refine g_getr 68 X fl_X3_15_3 (o3 rfl) rfl dX3_gatherGains_65 rfl ?_
            refine g_aload_n 69 X 0 dX3_gatherGains_68 rfl rfl ?_
            refine g_getr 72 X fl_X3_25_3 (o3 rfl) rfl dX3_gatherGains_69 rfl ?_
            refine g_getr 75 X fl_X3_65_6 (o6 rfl) rfl dX3_gatherGains_72 rfl ?_
            refine g_iload 77 X 4 dX3_gatherGains_75 rfl rfl ?_
            refine g_iald 78 X (aiC (n := 30) (by decide) rfl) dX3_gatherGains_77 h rfl (fun v5 h => ?_)
            refine g_dup2 79 X dX3_gatherGains_78 rfl rfl rfl ?_
            refine g_iald 80 X (aiC (n := 8) (by decide) rfl) dX3_gatherGains_79 h rfl (fun v6 h => ?_)
            refine g_aload_n 81 X 0 dX3_gatherGains_80 rfl rfl ?_
            refine g_getr 84 X fl_X3_21_3 (o3 rfl) rfl dX3_gatherGains_81 rfl ?_
            refine g_ci 87 h (fun q e => r_V X cd_X3_68_X1_thousandBy_X1 ⟨rfl, rfl⟩ ⟨Nat.le_of_ble_eq_true rfl, Nat.le_of_ble_eq_true rfl⟩ (c_X1_thousandBy X.2.2.2.2 rfl e) PC_blind (pc_pre X) (g_recv X (o1 rfl) rfl) rfl rfl (Nat.le_of_ble_eq_true rfl) dX3_gatherGains_84) rfl (fun v7 μ8 h => ?_)
            refine g_iadd 88 X dX3_gatherGains_87 rfl ?_
            refine g_iast 89 X (aiC (n := 8) (by decide) rfl) dX3_gatherGains_88 h rfl (fun μ9 h => ?_)
            refine g_iload_n 90 X 3 dX3_gatherGains_89 rfl rfl ?_
            refine g_iconst 91 X dX3_gatherGains_90 ic1 rfl ?_
            refine g_aload_n 92 X 0 dX3_gatherGains_91 rfl rfl ?_
            refine g_getr 95 X fl_X3_25_3 (o3 rfl) rfl dX3_gatherGains_92 rfl ?_
            refine g_getr 98 X fl_X3_65_6 (o6 rfl) rfl dX3_gatherGains_95 rfl ?_
            refine g_iload 100 X 4 dX3_gatherGains_98 rfl rfl ?_
            refine g_iald 101 X (aiC (n := 30) (by decide) rfl) dX3_gatherGains_100 h rfl (fun v10 h => ?_)
            refine g_ishl 102 X dX3_gatherGains_101 rfl ?_
            refine g_ior 103 X dX3_gatherGains_102 rfl ?_
            refine g_topi h (fun v11 h => ?_)
            refine g_istore_n 104 X dX3_gatherGains_103 (by decide) rfl ?_
            exact G.sub [1, 2, 3, 0, 4] rfl (b_X3_gatherGains_104 X hr ih _ _ _ _ _ h)
set_option maxRecDepth 100000 in
set_option maxHeartbeats 4000000 in
theorem b_X3_gatherGains_5 {p : Program} {l : Launch} {e : Env} {s : State} {m : MethodId} {args : Array Value} {below : List Frame} {meth : Method} {c : Code} {D : va_G} {ks : Nat → ClassId} {A : Nat → Prop} {ad : Nat → Nat} (X : Cx p s m args meth c cX3_gatherGains 5 RX3 D ks A 75 ad (shC ks ad)) (hr : meth.sig.returnType = (some .int)) {F : Nat} {r : Int32 × Mem} : ∀ n : Nat, ∀ (μ : Mem) (x1 : Option Nat) (x2 : Int32) (x3 : Int32) (x4 : Int32), f_X3_gatherGains_b5 F  n μ x1 x2 x3 x4 = some r → G p l e rm_X3_gatherGains s m args below meth c D A 5 (MQ below (QI D 75 ad (shC ks ad) A r) args s 0 0 A) 75 ad (shC ks ad) μ 5 [(0, .ref (ad 69)), (1, va_rf (x1.map ad)), (2, .int x2), (3, .int x3), (4, .int x4)] [] := by
  intro n
  induction n with
  | zero =>
    intro _ _ _ _ _ h
    cases h
  | succ n ih =>
    intro μ x1 x2 x3 x4 h
    refine g_iload 7 X 4 dX3_gatherGains_5 rfl rfl ?_
    refine g_bipush 9 X dX3_gatherGains_7 bp8 rfl ?_
    refine g_icmp_ge 26 12 X dX3_gatherGains_9 (by decide) rfl h (fun h => ?_) (fun h => ?_)
    · refine g_iconst 27 X dX3_gatherGains_26 ic0 rfl ?_
      refine g_istore 29 X dX3_gatherGains_27 (by decide) rfl ?_
      exact G.sub [1, 2, 3, 4, 0] rfl (b_X3_gatherGains_29 X hr  F _ _ _ _ _ h)
    · refine g_aload_n 13 X 0 dX3_gatherGains_12 rfl rfl ?_
      refine g_getr 16 X fl_X3_15_3 (o3 rfl) rfl dX3_gatherGains_13 rfl ?_
      refine g_iload 18 X 4 dX3_gatherGains_16 rfl rfl ?_
      refine g_iconst 19 X dX3_gatherGains_18 ic0 rfl ?_
      refine g_iast 20 X (aiC (n := 8) (by decide) rfl) dX3_gatherGains_19 h rfl (fun μ1 h => ?_)
      refine g_iinc 23 X 4 dX3_gatherGains_20 ic1 rfl (by decide) rfl ?_
      refine g_goto 5 X dX3_gatherGains_23 (by decide) ?_
      exact G.sub [1, 2, 3, 4, 0] rfl (ih _ _ _ _ _ h)
set_option maxRecDepth 100000 in
set_option maxHeartbeats 4000000 in
theorem b_X3_gatherGains_0 {p : Program} {l : Launch} {e : Env} {s : State} {m : MethodId} {args : Array Value} {below : List Frame} {meth : Method} {c : Code} {D : va_G} {ks : Nat → ClassId} {A : Nat → Prop} {ad : Nat → Nat} (X : Cx p s m args meth c cX3_gatherGains 5 RX3 D ks A 75 ad (shC ks ad)) (hr : meth.sig.returnType = (some .int)) {F : Nat} {r : Int32 × Mem} (μ : Mem) (x1 : Option Nat) (x2 : Int32)  (h : f_X3_gatherGains F  μ x1 x2 = some r) : G p l e rm_X3_gatherGains s m args below meth c D A 5 (MQ below (QI D 75 ad (shC ks ad) A r) args s 0 0 A) 75 ad (shC ks ad) μ 0 [(0, .ref (ad 69)), (1, va_rf (x1.map ad)), (2, .int x2)] [] := by
  refine g_iconst 1 X dX3_gatherGains_0 ic0 rfl ?_
  refine g_istore_n 2 X dX3_gatherGains_1 (by decide) rfl ?_
  refine g_iconst 3 X dX3_gatherGains_2 ic0 rfl ?_
  refine g_istore 5 X dX3_gatherGains_3 (by decide) rfl ?_
  exact G.sub [2, 3, 4, 1, 0] rfl (b_X3_gatherGains_5 X hr  F _ _ _ _ _ h)
set_option maxRecDepth 100000 in
theorem c_X3_gatherGains {l : Launch} {D : va_G} {ks : Nat → ClassId} {A : Nat → Prop} {ad : Nat → Nat} (hD : ∀ μ : Mem, va_D A (wsM 75 ad (shC ks ad) μ)) {F : Nat} {μ : Mem} {x1 : Option Nat} {x2 : Int32} {r : Int32 × Mem}  (h : f_X3_gatherGains F μ x1 x2 = some r) : Met l yX3_gatherGains (Cond.code yX3_gatherGains cX3_gatherGains 5 (some .int) :: wg) rm_X3_gatherGains (PC D ks 75 ad (shC ks ad) μ [.ref (ad 69), va_rf (x1.map ad), .int x2]) (QI D 75 ad (shC ks ad) A r) 0 0 A := by
  cases x1 with
  | none =>
    refine met_of (by decide) (Nat.le_of_ble_eq_true rfl) hD ?_
    intro p e s m args below meth c X hr
    exact G.sub [0, 1, 2] rfl (b_X3_gatherGains_0 X hr  _ _ _ h)
  | some y =>
    refine met_of (by decide) (Nat.le_of_ble_eq_true rfl) hD ?_
    intro p e s m args below meth c X hr
    exact G.sub [0, 1, 2] rfl (b_X3_gatherGains_0 X hr  _ _ _ h)
abbrev rm_X3_together : Room := { frames := 1, cells := 0, slots := 0, locals := 21 }
set_option maxRecDepth 100000 in
set_option maxHeartbeats 4000000 in
theorem b_X3_together_24 {p : Program} {l : Launch} {e : Env} {s : State} {m : MethodId} {args : Array Value} {below : List Frame} {meth : Method} {c : Code} {D : va_G} {ks : Nat → ClassId} {A : Nat → Prop} {ad : Nat → Nat} (X : Cx p s m args meth c cX3_together 4 RX3 D ks A 75 ad (shC ks ad)) (hr : meth.sig.returnType = (some .int)) {F : Nat} {r : Int32 × Mem} {k4 : Mem → Nat → Int32 → Int32 → Int32 → Option (Int32 × Mem)} (hk4 : ∀ (μ : Mem) (x0 : Nat) (x1 : Int32) (x2 : Int32) (x3 : Int32), ((1000 ≤ kindC x0 ∧ kindC x0 < 2000)) → k4 μ x0 x1 x2 x3 = some r → G p l e rm_X3_together s m args below meth c D A 4 (MQ below (QI D 75 ad (shC ks ad) A r) args s 0 0 A) 75 ad (shC ks ad) μ 4 [(0, .ref (ad x0)), (1, .int x1), (2, .int x2), (3, .int x3)] []) (μ : Mem) (x0 : Nat) (x1 : Int32) (x2 : Int32) (x3 : Int32) (kx0 : (1000 ≤ kindC x0 ∧ kindC x0 < 2000)) (h : f_X3_together_b24 F k4 μ x0 x1 x2 x3 = some r) : G p l e rm_X3_together s m args below meth c D A 4 (MQ below (QI D 75 ad (shC ks ad) A r) args s 0 0 A) 75 ad (shC ks ad) μ 24 [(0, .ref (ad x0)), (1, .int x1), (2, .int x2), (3, .int x3)] [] := by
  refine g_iinc 27 X 3 dX3_together_24 ic1 rfl (by decide) rfl ?_
  refine g_goto 4 X dX3_together_27 (by decide) ?_
  exact G.sub [1, 2, 3, 0] rfl (hk4 _ _ _ _ _ kx0 h)
set_option maxRecDepth 100000 in
set_option maxHeartbeats 4000000 in
theorem b_X3_together_4 {p : Program} {l : Launch} {e : Env} {s : State} {m : MethodId} {args : Array Value} {below : List Frame} {meth : Method} {c : Code} {D : va_G} {ks : Nat → ClassId} {A : Nat → Prop} {ad : Nat → Nat} (X : Cx p s m args meth c cX3_together 4 RX3 D ks A 75 ad (shC ks ad)) (hr : meth.sig.returnType = (some .int)) {F : Nat} {r : Int32 × Mem} : ∀ n : Nat, ∀ (μ : Mem) (x0 : Nat) (x1 : Int32) (x2 : Int32) (x3 : Int32), ((1000 ≤ kindC x0 ∧ kindC x0 < 2000)) → f_X3_together_b4 F  n μ x0 x1 x2 x3 = some r → G p l e rm_X3_together s m args below meth c D A 4 (MQ below (QI D 75 ad (shC ks ad) A r) args s 0 0 A) 75 ad (shC ks ad) μ 4 [(0, .ref (ad x0)), (1, .int x1), (2, .int x2), (3, .int x3)] [] := by
  intro n
  induction n with
  | zero =>
    intro _ _ _ _ _ _ h
    cases h
  | succ n ih =>
    intro μ x0 x1 x2 x3 kx0 h
    refine g_iload_n 5 X 3 dX3_together_4 rfl rfl ?_
    refine g_bipush 7 X dX3_together_5 bp8 rfl ?_
    refine g_icmp_ge 30 10 X dX3_together_7 (by decide) rfl h (fun h => ?_) (fun h => ?_)
    · refine g_iload_n 31 X 2 dX3_together_30 rfl rfl ?_
      exact g_iret X hr dX3_together_31 h
    · refine g_iload_n 11 X 1 dX3_together_10 rfl rfl ?_
      refine g_iload_n 12 X 3 dX3_together_11 rfl rfl ?_
      refine g_ni 15 h (fun q e => r_SN X cd_X3_55_X11_isIn ⟨rfl, rfl⟩ ⟨Nat.le_of_ble_eq_true rfl, Nat.le_of_ble_eq_true rfl⟩ (c_X11_isIn e) PC_blind (pn_pre X) rfl rfl (Nat.le_of_ble_eq_true rfl) dX3_together_12) rfl (fun v1 h => ?_)
      refine g_if_eq 24 18 X dX3_together_15 (by decide) rfl h (fun h => ?_) (fun h => ?_)
      · exact G.sub [0, 1, 2, 3] rfl (b_X3_together_24 X hr ih _ _ _ _ _ kx0 h)
      · refine g_iload_n 19 X 2 dX3_together_18 rfl rfl ?_
        refine g_aload_n 20 X 0 dX3_together_19 rfl rfl ?_
        refine g_iload_n 21 X 3 dX3_together_20 rfl rfl ?_
        refine g_iald 22 X (aiP kx0) dX3_together_21 h rfl (fun v2 h => ?_)
        refine g_iadd 23 X dX3_together_22 rfl ?_
        refine g_topi h (fun v3 h => ?_)
        refine g_istore_n 24 X dX3_together_23 (by decide) rfl ?_
        exact G.sub [1, 2, 0, 3] rfl (b_X3_together_24 X hr ih _ _ _ _ _ kx0 h)
set_option maxRecDepth 100000 in
set_option maxHeartbeats 4000000 in
theorem b_X3_together_0 {p : Program} {l : Launch} {e : Env} {s : State} {m : MethodId} {args : Array Value} {below : List Frame} {meth : Method} {c : Code} {D : va_G} {ks : Nat → ClassId} {A : Nat → Prop} {ad : Nat → Nat} (X : Cx p s m args meth c cX3_together 4 RX3 D ks A 75 ad (shC ks ad)) (hr : meth.sig.returnType = (some .int)) {F : Nat} {r : Int32 × Mem} (μ : Mem) (x0 : Nat) (x1 : Int32) (kx0 : (1000 ≤ kindC x0 ∧ kindC x0 < 2000)) (h : f_X3_together F  μ x0 x1 = some r) : G p l e rm_X3_together s m args below meth c D A 4 (MQ below (QI D 75 ad (shC ks ad) A r) args s 0 0 A) 75 ad (shC ks ad) μ 0 [(0, .ref (ad x0)), (1, .int x1)] [] := by
  refine g_iconst 1 X dX3_together_0 ic0 rfl ?_
  refine g_istore_n 2 X dX3_together_1 (by decide) rfl ?_
  refine g_iconst 3 X dX3_together_2 ic0 rfl ?_
  refine g_istore_n 4 X dX3_together_3 (by decide) rfl ?_
  exact G.sub [2, 3, 1, 0] rfl (b_X3_together_4 X hr  F _ _ _ _ _ kx0 h)
set_option maxRecDepth 100000 in
theorem c_X3_together {l : Launch} {D : va_G} {ks : Nat → ClassId} {A : Nat → Prop} {ad : Nat → Nat} (hD : ∀ μ : Mem, va_D A (wsM 75 ad (shC ks ad) μ)) {F : Nat} {μ : Mem} {x0 : Nat} {x1 : Int32} {r : Int32 × Mem} (kx0 : (1000 ≤ kindC x0 ∧ kindC x0 < 2000)) (h : f_X3_together F μ x0 x1 = some r) : Met l yX3_together (Cond.code yX3_together cX3_together 4 (some .int) :: wg) rm_X3_together (PC D ks 75 ad (shC ks ad) μ [.ref (ad x0), .int x1]) (QI D 75 ad (shC ks ad) A r) 0 0 A := by
  refine met_of (by decide) (Nat.le_of_ble_eq_true rfl) hD ?_
  intro p e s m args below meth c X hr
  exact G.sub [0, 1] rfl (b_X3_together_0 X hr  _ _ _ kx0 h)
abbrev rm_X3_seek : Room := { frames := 5, cells := 0, slots := 0, locals := 109 }
set_option maxRecDepth 100000 in
set_option maxHeartbeats 4000000 in
theorem b_X3_seek_142 {p : Program} {l : Launch} {e : Env} {s : State} {m : MethodId} {args : Array Value} {below : List Frame} {meth : Method} {c : Code} {D : va_G} {ks : Nat → ClassId} {A : Nat → Prop} {ad : Nat → Nat} (X : Cx p s m args meth c cX3_seek 9 RX3 D ks A 75 ad (shC ks ad)) (hr : meth.sig.returnType = none) {F : Nat} {r : Unit × Mem} {k36 : Mem → Int32 → Int32 → Int32 → Option (Unit × Mem)} (hk36 : ∀ (μ : Mem) (x3 : Int32) (x4 : Int32) (x5 : Int32), k36 μ x3 x4 x5 = some r → G p l e rm_X3_seek s m args below meth c D A 9 (MQ below (QV D 75 ad (shC ks ad) A r) args s 0 0 A) 75 ad (shC ks ad) μ 36 [(0, .ref (ad 69)), (3, .int x3), (4, .int x4), (5, .int x5)] []) (μ : Mem) (x3 : Int32) (x4 : Int32) (x5 : Int32)  (h : f_X3_seek_b142 F k36 μ x3 x4 x5 = some r) : G p l e rm_X3_seek s m args below meth c D A 9 (MQ below (QV D 75 ad (shC ks ad) A r) args s 0 0 A) 75 ad (shC ks ad) μ 142 [(0, .ref (ad 69)), (3, .int x3), (4, .int x4), (5, .int x5)] [] := by
  refine g_iinc 145 X 3 dX3_seek_142 ic1 rfl (by decide) rfl ?_
  refine g_goto 36 X dX3_seek_145 (by decide) ?_
  exact G.sub [1, 2, 3, 0] rfl (hk36 _ _ _ _ h)
set_option maxRecDepth 100000 in
set_option maxHeartbeats 4000000 in
theorem b_X3_seek_111 {p : Program} {l : Launch} {e : Env} {s : State} {m : MethodId} {args : Array Value} {below : List Frame} {meth : Method} {c : Code} {D : va_G} {ks : Nat → ClassId} {A : Nat → Prop} {ad : Nat → Nat} (X : Cx p s m args meth c cX3_seek 9 RX3 D ks A 75 ad (shC ks ad)) (hr : meth.sig.returnType = none) {F : Nat} {r : Unit × Mem} {k36 : Mem → Int32 → Int32 → Int32 → Option (Unit × Mem)} (hk36 : ∀ (μ : Mem) (x3 : Int32) (x4 : Int32) (x5 : Int32), k36 μ x3 x4 x5 = some r → G p l e rm_X3_seek s m args below meth c D A 9 (MQ below (QV D 75 ad (shC ks ad) A r) args s 0 0 A) 75 ad (shC ks ad) μ 36 [(0, .ref (ad 69)), (3, .int x3), (4, .int x4), (5, .int x5)] []) (μ : Mem) (x3 : Int32) (x4 : Int32) (x5 : Int32) (x6 : Int32) (x7 : Int32) (z0 : Int32)  (h : f_X3_seek_b111 F k36 μ x3 x4 x5 x6 x7 z0 = some r) : G p l e rm_X3_seek s m args below meth c D A 9 (MQ below (QV D 75 ad (shC ks ad) A r) args s 0 0 A) 75 ad (shC ks ad) μ 111 [(0, .ref (ad 69)), (3, .int x3), (4, .int x4), (5, .int x5), (6, .int x6), (7, .int x7)] [.int z0] := by
  refine g_istore 113 X dX3_seek_111 (by decide) rfl ?_
  refine g_iload 115 X 5 dX3_seek_113 rfl rfl ?_
  refine g_iload_n 116 X 2 dX3_seek_115 rfl rfl ?_
  refine g_icmp_gt 142 119 X dX3_seek_116 (by decide) rfl h (fun h => ?_) (fun h => ?_)
  · exact G.sub [1, 2, 3, 4] rfl (b_X3_seek_142 X hr hk36 _ _ _ _ h)
  · refine g_iload 121 X 0 dX3_seek_119 rfl rfl ?_
    refine g_if_eq 142 124 X dX3_seek_121 (by decide) rfl h (fun h => ?_) (fun h => ?_)
    · exact G.sub [1, 2, 3, 4] rfl (b_X3_seek_142 X hr hk36 _ _ _ _ h)
    · refine g_aload_n 125 X 1 dX3_seek_124 rfl rfl ?_
      refine g_iload 127 X 4 dX3_seek_125 rfl rfl ?_
      refine g_puti 130 X fp_X3_39_3 (o3 rfl) rfl (Nat.le_of_ble_eq_true rfl) rfl rfl dX3_seek_127 h rfl (fun μ1 h => ?_)
      refine g_aload_n 131 X 1 dX3_seek_130 rfl rfl ?_
      refine g_iload 133 X 6 dX3_seek_131 rfl rfl ?_
      refine g_puti 136 X fp_X3_42_3 (o3 rfl) rfl (Nat.le_of_ble_eq_true rfl) rfl rfl dX3_seek_133 h rfl (fun μ2 h => ?_)
      refine g_aload_n 137 X 1 dX3_seek_136 rfl rfl ?_
      refine g_iload 139 X 5 dX3_seek_137 rfl rfl ?_
      refine g_puti 142 X fp_X3_45_3 (o3 rfl) rfl (Nat.le_of_ble_eq_true rfl) rfl rfl dX3_seek_139 h rfl (fun μ3 h => ?_)
      exact G.sub [1, 2, 3, 4] rfl (b_X3_seek_142 X hr hk36 _ _ _ _ h)
set_option maxRecDepth 100000 in
set_option maxHeartbeats 4000000 in
theorem b_X3_seek_110 {p : Program} {l : Launch} {e : Env} {s : State} {m : MethodId} {args : Array Value} {below : List Frame} {meth : Method} {c : Code} {D : va_G} {ks : Nat → ClassId} {A : Nat → Prop} {ad : Nat → Nat} (X : Cx p s m args meth c cX3_seek 9 RX3 D ks A 75 ad (shC ks ad)) (hr : meth.sig.returnType = none) {F : Nat} {r : Unit × Mem} {k36 : Mem → Int32 → Int32 → Int32 → Option (Unit × Mem)} (hk36 : ∀ (μ : Mem) (x3 : Int32) (x4 : Int32) (x5 : Int32), k36 μ x3 x4 x5 = some r → G p l e rm_X3_seek s m args below meth c D A 9 (MQ below (QV D 75 ad (shC ks ad) A r) args s 0 0 A) 75 ad (shC ks ad) μ 36 [(0, .ref (ad 69)), (3, .int x3), (4, .int x4), (5, .int x5)] []) (μ : Mem) (x3 : Int32) (x4 : Int32) (x5 : Int32) (x6 : Int32) (x7 : Int32)  (h : f_X3_seek_b110 F k36 μ x3 x4 x5 x6 x7 = some r) : G p l e rm_X3_seek s m args below meth c D A 9 (MQ below (QV D 75 ad (shC ks ad) A r) args s 0 0 A) 75 ad (shC ks ad) μ 110 [(0, .ref (ad 69)), (3, .int x3), (4, .int x4), (5, .int x5), (6, .int x6), (7, .int x7)] [] := by
  refine g_iconst 111 X dX3_seek_110 ic0 rfl ?_
  exact G.sub [0, 1, 2, 3, 4, 5] rfl (b_X3_seek_111 X hr hk36 _ _ _ _ _ _ _ h)
set_option maxRecDepth 100000 in
set_option maxHeartbeats 4000000 in
theorem b_X3_seek_106 {p : Program} {l : Launch} {e : Env} {s : State} {m : MethodId} {args : Array Value} {below : List Frame} {meth : Method} {c : Code} {D : va_G} {ks : Nat → ClassId} {A : Nat → Prop} {ad : Nat → Nat} (X : Cx p s m args meth c cX3_seek 9 RX3 D ks A 75 ad (shC ks ad)) (hr : meth.sig.returnType = none) {F : Nat} {r : Unit × Mem} {k36 : Mem → Int32 → Int32 → Int32 → Option (Unit × Mem)} (hk36 : ∀ (μ : Mem) (x3 : Int32) (x4 : Int32) (x5 : Int32), k36 μ x3 x4 x5 = some r → G p l e rm_X3_seek s m args below meth c D A 9 (MQ below (QV D 75 ad (shC ks ad) A r) args s 0 0 A) 75 ad (shC ks ad) μ 36 [(0, .ref (ad 69)), (3, .int x3), (4, .int x4), (5, .int x5)] []) (μ : Mem) (x3 : Int32) (x4 : Int32) (x5 : Int32) (x6 : Int32) (x7 : Int32)  (h : f_X3_seek_b106 F k36 μ x3 x4 x5 x6 x7 = some r) : G p l e rm_X3_seek s m args below meth c D A 9 (MQ below (QV D 75 ad (shC ks ad) A r) args s 0 0 A) 75 ad (shC ks ad) μ 106 [(0, .ref (ad 69)), (3, .int x3), (4, .int x4), (5, .int x5), (6, .int x6), (7, .int x7)] [] := by
  refine g_iconst 107 X dX3_seek_106 ic1 rfl ?_
  refine g_goto 111 X dX3_seek_107 (by decide) ?_
  exact G.sub [0, 1, 2, 3, 4, 5] rfl (b_X3_seek_111 X hr hk36 _ _ _ _ _ _ _ h)
set_option maxRecDepth 100000 in
set_option maxHeartbeats 4000000 in
theorem b_X3_seek_36 {p : Program} {l : Launch} {e : Env} {s : State} {m : MethodId} {args : Array Value} {below : List Frame} {meth : Method} {c : Code} {D : va_G} {ks : Nat → ClassId} {A : Nat → Prop} {ad : Nat → Nat} (X : Cx p s m args meth c cX3_seek 9 RX3 D ks A 75 ad (shC ks ad)) (hr : meth.sig.returnType = none) {F : Nat} {r : Unit × Mem} : ∀ n : Nat, ∀ (μ : Mem) (x3 : Int32) (x4 : Int32) (x5 : Int32), f_X3_seek_b36 F  n μ x3 x4 x5 = some r → G p l e rm_X3_seek s m args below meth c D A 9 (MQ below (QV D 75 ad (shC ks ad) A r) args s 0 0 A) 75 ad (shC ks ad) μ 36 [(0, .ref (ad 69)), (3, .int x3), (4, .int x4), (5, .int x5)] [] := by
  intro n
  induction n with
  | zero =>
    intro _ _ _ _ h
    cases h
  | succ n ih =>
    intro μ x3 x4 x5 h
    refine g_iload 38 X 3 dX3_seek_36 rfl rfl ?_
    refine g_sipush 41 X dX3_seek_38 sp256 rfl ?_
    refine g_icmp_ge 148 44 X dX3_seek_41 (by decide) rfl h (fun h => ?_) (fun h => ?_)
    · exact g_vret X hr dX3_seek_148 h
    · refine g_iload 46 X 3 dX3_seek_44 rfl rfl ?_
      refine g_iload 48 X 2 dX3_seek_46 rfl rfl ?_
      refine g_iconst 49 X dX3_seek_48 icm1 rfl ?_
      refine g_ixor 50 X dX3_seek_49 rfl ?_
      refine g_iand 51 X dX3_seek_50 rfl ?_
      refine g_if_eq 57 54 X dX3_seek_51 (by decide) rfl h (fun h => ?_) (fun h => ?_)
      · refine g_aload_n 58 X 0 dX3_seek_57 rfl rfl ?_
        refine g_getr 61 X fl_X3_9_3 (o3 rfl) rfl dX3_seek_58 rfl ?_
        refine g_iload 63 X 3 dX3_seek_61 rfl rfl ?_
        refine g_ci 66 h (fun q e => r_S X cd_X3_48_X3_together ⟨rfl, rfl⟩ ⟨Nat.le_of_ble_eq_true rfl, Nat.le_of_ble_eq_true rfl⟩ (c_X3_together X.2.2.2.2 ⟨by decide, by decide⟩ e) PC_blind (pc_pre X) rfl rfl (Nat.le_of_ble_eq_true rfl) dX3_seek_63) rfl (fun v1 μ2 h => ?_)
        refine g_istore 68 X dX3_seek_66 (by decide) rfl ?_
        refine g_aload_n 69 X 1 dX3_seek_68 rfl rfl ?_
        refine g_getr 72 X fl_X3_15_3 (o3 rfl) rfl dX3_seek_69 rfl ?_
        refine g_iload 74 X 4 dX3_seek_72 rfl rfl ?_
        refine g_ci 77 h (fun q e => r_S X cd_X3_48_X3_together ⟨rfl, rfl⟩ ⟨Nat.le_of_ble_eq_true rfl, Nat.le_of_ble_eq_true rfl⟩ (c_X3_together X.2.2.2.2 ⟨by decide, by decide⟩ e) PC_blind (pc_pre X) rfl rfl (Nat.le_of_ble_eq_true rfl) dX3_seek_74) rfl (fun v3 μ4 h => ?_)
        refine g_istore 79 X dX3_seek_77 (by decide) rfl ?_
        refine g_iload 81 X 0 dX3_seek_79 rfl rfl ?_
        refine g_aload_n 82 X 2 dX3_seek_81 rfl rfl ?_
        refine g_geti 85 X fl_X3_42_3 (o3 rfl) rfl dX3_seek_82 h rfl (fun v5 h => ?_)
        refine g_icmp_gt 106 88 X dX3_seek_85 (by decide) rfl h (fun h => ?_) (fun h => ?_)
        · exact G.sub [2, 3, 4, 5, 1, 0] rfl (b_X3_seek_106 X hr ih _ _ _ _ _ _ h)
        · refine g_iload 90 X 0 dX3_seek_88 rfl rfl ?_
          refine g_aload_n 91 X 2 dX3_seek_90 rfl rfl ?_
          refine g_geti 94 X fl_X3_42_3 (o3 rfl) rfl dX3_seek_91 h rfl (fun v6 h => ?_)
          refine g_icmp_ne 110 97 X dX3_seek_94 (by decide) rfl h (fun h => ?_) (fun h => ?_)
          · exact G.sub [2, 3, 4, 5, 1, 0] rfl (b_X3_seek_110 X hr ih _ _ _ _ _ _ h)
          · refine g_iload 99 X 1 dX3_seek_97 rfl rfl ?_
            refine g_aload_n 100 X 2 dX3_seek_99 rfl rfl ?_
            refine g_geti 103 X fl_X3_45_3 (o3 rfl) rfl dX3_seek_100 h rfl (fun v7 h => ?_)
            refine g_icmp_ge 110 106 X dX3_seek_103 (by decide) rfl h (fun h => ?_) (fun h => ?_)
            · exact G.sub [2, 3, 4, 5, 1, 0] rfl (b_X3_seek_110 X hr ih _ _ _ _ _ _ h)
            · exact G.sub [2, 3, 4, 5, 1, 0] rfl (b_X3_seek_106 X hr ih _ _ _ _ _ _ h)
      · refine g_goto 142 X dX3_seek_54 (by decide) ?_
        exact G.sub [0, 1, 2, 3] rfl (b_X3_seek_142 X hr ih _ _ _ _ h)
set_option maxRecDepth 100000 in
set_option maxHeartbeats 4000000 in
theorem b_X3_seek_0 {p : Program} {l : Launch} {e : Env} {s : State} {m : MethodId} {args : Array Value} {below : List Frame} {meth : Method} {c : Code} {D : va_G} {ks : Nat → ClassId} {A : Nat → Prop} {ad : Nat → Nat} (X : Cx p s m args meth c cX3_seek 9 RX3 D ks A 75 ad (shC ks ad)) (hr : meth.sig.returnType = none) {F : Nat} {r : Unit × Mem} (μ : Mem) (x1 : Option Nat) (x2 : Int32) (x3 : Int32)  (h : f_X3_seek F  μ x1 x2 x3 = some r) : G p l e rm_X3_seek s m args below meth c D A 9 (MQ below (QV D 75 ad (shC ks ad) A r) args s 0 0 A) 75 ad (shC ks ad) μ 0 [(0, .ref (ad 69)), (1, va_rf (x1.map ad)), (2, .int x2), (3, .int x3)] [] := by
  refine g_aload_n 1 X 0 dX3_seek_0 rfl rfl ?_
  refine g_aloadq_n 2 X 1 dX3_seek_1 rfl rfl ?_
  refine g_iload_n 3 X 2 dX3_seek_2 rfl rfl ?_
  refine g_aload_n 4 X 0 dX3_seek_3 rfl rfl ?_
  refine g_getr 7 X fl_X3_25_3 (o3 rfl) rfl dX3_seek_4 rfl ?_
  refine g_geti 10 X fl_X3_29_6 (o6 rfl) rfl dX3_seek_7 h rfl (fun v1 h => ?_)
  refine g_iconst 11 X dX3_seek_10 icm1 rfl ?_
  refine g_ixor 12 X dX3_seek_11 rfl ?_
  refine g_iand 13 X dX3_seek_12 rfl ?_
  refine g_ci 16 h (fun q e => r_V X cd_X3_35_X3_gatherGains_X3 ⟨rfl, rfl⟩ ⟨Nat.le_of_ble_eq_true rfl, Nat.le_of_ble_eq_true rfl⟩ (c_X3_gatherGains X.2.2.2.2  e) PC_blind (pc_pre X) (g_recv X (o3 rfl) rfl) rfl rfl (Nat.le_of_ble_eq_true rfl) dX3_seek_13) rfl (fun v2 μ3 h => ?_)
  refine g_istore 18 X dX3_seek_16 (by decide) rfl ?_
  refine g_aload_n 19 X 1 dX3_seek_18 rfl rfl ?_
  refine g_iconst 20 X dX3_seek_19 ic0 rfl ?_
  refine g_puti 23 X fp_X3_39_3 (o3 rfl) rfl (Nat.le_of_ble_eq_true rfl) rfl rfl dX3_seek_20 h rfl (fun μ4 h => ?_)
  refine g_aload_n 24 X 1 dX3_seek_23 rfl rfl ?_
  refine g_iconst 25 X dX3_seek_24 ic0 rfl ?_
  refine g_puti 28 X fp_X3_42_3 (o3 rfl) rfl (Nat.le_of_ble_eq_true rfl) rfl rfl dX3_seek_25 h rfl (fun μ5 h => ?_)
  refine g_aload_n 29 X 1 dX3_seek_28 rfl rfl ?_
  refine g_iconst 30 X dX3_seek_29 ic0 rfl ?_
  refine g_puti 33 X fp_X3_45_3 (o3 rfl) rfl (Nat.le_of_ble_eq_true rfl) rfl rfl dX3_seek_30 h rfl (fun μ6 h => ?_)
  refine g_iconst 34 X dX3_seek_33 ic1 rfl ?_
  refine g_istore 36 X dX3_seek_34 (by decide) rfl ?_
  exact G.sub [2, 5, 1, 0] rfl (b_X3_seek_36 X hr  F _ _ _ _ h)
set_option maxRecDepth 100000 in
theorem c_X3_seek {l : Launch} {D : va_G} {ks : Nat → ClassId} {A : Nat → Prop} {ad : Nat → Nat} (hD : ∀ μ : Mem, va_D A (wsM 75 ad (shC ks ad) μ)) {F : Nat} {μ : Mem} {x1 : Option Nat} {x2 : Int32} {x3 : Int32} {r : Unit × Mem}  (h : f_X3_seek F μ x1 x2 x3 = some r) : Met l yX3_seek (Cond.code yX3_seek cX3_seek 9 none :: wg) rm_X3_seek (PC D ks 75 ad (shC ks ad) μ [.ref (ad 69), va_rf (x1.map ad), .int x2, .int x3]) (QV D 75 ad (shC ks ad) A r) 0 0 A := by
  cases x1 with
  | none =>
    refine met_of (by decide) (Nat.le_of_ble_eq_true rfl) hD ?_
    intro p e s m args below meth c X hr
    exact G.sub [0, 1, 2, 3] rfl (b_X3_seek_0 X hr  _ _ _ _ h)
  | some y =>
    refine met_of (by decide) (Nat.le_of_ble_eq_true rfl) hD ?_
    intro p e s m args below meth c X hr
    exact G.sub [0, 1, 2, 3] rfl (b_X3_seek_0 X hr  _ _ _ _ h)
abbrev rm_X11_again : Room := { frames := 6, cells := 0, slots := 0, locals := 137 }
set_option maxRecDepth 100000 in
set_option maxHeartbeats 4000000 in
theorem b_X11_again_0 {p : Program} {l : Launch} {e : Env} {s : State} {m : MethodId} {args : Array Value} {below : List Frame} {meth : Method} {c : Code} {D : va_G} {ks : Nat → ClassId} {A : Nat → Prop} {ad : Nat → Nat} (X : Cx p s m args meth c cX11_again 6 RX11 D ks A 75 ad (shC ks ad)) (hr : meth.sig.returnType = (some .int)) {F : Nat} {r : Int32 × Mem} (μ : Mem) (x1 : Int32) (x2 : Int32) (x3 : Int32) (x4 : Int32)  (h : f_X11_again F  μ x1 x2 x3 x4 = some r) : G p l e rm_X11_again s m args below meth c D A 6 (MQ below (QI D 75 ad (shC ks ad) A r) args s 0 0 A) 75 ad (shC ks ad) μ 0 [(0, .ref (ad 0)), (1, .int x1), (2, .int x2), (3, .int x3), (4, .int x4)] [] := by
  refine g_iload_n 1 X 3 dX11_again_0 rfl rfl ?_
  refine g_iconst 2 X dX11_again_1 ic0 rfl ?_
  refine g_sipush 5 X dX11_again_2 sp800 rfl ?_
  refine g_ni 8 h (fun q e => r_S X cd_X11_105_X11_within ⟨rfl, rfl⟩ ⟨Nat.le_of_ble_eq_true rfl, Nat.le_of_ble_eq_true rfl⟩ (c_X11_within e) PC_blind (pn_pre X) rfl rfl (Nat.le_of_ble_eq_true rfl) dX11_again_5) rfl (fun v1 h => ?_)
  refine g_if_eq 21 11 X dX11_again_8 (by decide) rfl h (fun h => ?_) (fun h => ?_)
  · refine g_bipush 23 X dX11_again_21 bpm2 rfl ?_
    exact g_iret X hr dX11_again_23 h
  · refine g_iload 13 X 4 dX11_again_11 rfl rfl ?_
    refine g_iconst 14 X dX11_again_13 ic0 rfl ?_
    refine g_iconst 15 X dX11_again_14 ic2 rfl ?_
    refine g_ni 18 h (fun q e => r_S X cd_X11_105_X11_within ⟨rfl, rfl⟩ ⟨Nat.le_of_ble_eq_true rfl, Nat.le_of_ble_eq_true rfl⟩ (c_X11_within e) PC_blind (pn_pre X) rfl rfl (Nat.le_of_ble_eq_true rfl) dX11_again_15) rfl (fun v2 h => ?_)
    refine g_if_ne 24 21 X dX11_again_18 (by decide) rfl h (fun h => ?_) (fun h => ?_)
    · refine g_aload_n 25 X 0 dX11_again_24 rfl rfl ?_
      refine g_iload_n 26 X 1 dX11_again_25 rfl rfl ?_
      refine g_iload_n 27 X 2 dX11_again_26 rfl rfl ?_
      refine g_ci 30 h (fun q e => r_V X cd_X11_192_X11_refusalOfDraw_X11 ⟨rfl, rfl⟩ ⟨Nat.le_of_ble_eq_true rfl, Nat.le_of_ble_eq_true rfl⟩ (c_X11_refusalOfDraw X.2.2.2.2  e) PC_blind (pc_pre X) (g_recv X (o11 rfl) rfl) rfl rfl (Nat.le_of_ble_eq_true rfl) dX11_again_27) rfl (fun v3 μ4 h => ?_)
      refine g_istore 32 X dX11_again_30 (by decide) rfl ?_
      refine g_iload 34 X 0 dX11_again_32 rfl rfl ?_
      refine g_if_ge 40 37 X dX11_again_34 (by decide) rfl h (fun h => ?_) (fun h => ?_)
      · refine g_aload_n 41 X 1 dX11_again_40 rfl rfl ?_
        refine g_getr 44 X fl_X11_47_11 (o11 rfl) rfl dX11_again_41 rfl ?_
        refine g_aload_n 45 X 1 dX11_again_44 rfl rfl ?_
        refine g_getr 48 X fl_X11_27_11 (o11 rfl) rfl dX11_again_45 rfl ?_
        refine g_iload_n 49 X 2 dX11_again_48 rfl rfl ?_
        refine g_aald (fn := fun p => 18 + 9 * p) 50 X arP rfl dX11_again_49 h rfl (fun hv5 h => ?_)
        refine g_cr 53 h (fun q e => r_V X cd_X11_146_X5_possibleWay_X5 ⟨rfl, rfl⟩ ⟨Nat.le_of_ble_eq_true rfl, Nat.le_of_ble_eq_true rfl⟩ (c_X5_possibleWay X.2.2.2.2 (kPl hv5) e) PC_blind (pc_pre X) (g_recv X (o5 (kPl hv5)) rfl) rfl rfl (Nat.le_of_ble_eq_true rfl) dX11_again_50) rfl (fun v6 μ7 h => ?_)
        refine g_iload_n 54 X 3 dX11_again_53 rfl rfl ?_
        refine g_iload_n 55 X 4 dX11_again_54 rfl rfl ?_
        refine g_cv 58 h (fun q e => r_V X cd_X11_243_X3_seek_X3 ⟨rfl, rfl⟩ ⟨Nat.le_of_ble_eq_true rfl, Nat.le_of_ble_eq_true rfl⟩ (c_X3_seek X.2.2.2.2  e) PC_blind (pc_pre X) (g_recv X (o3 rfl) rfl) rfl rfl (Nat.le_of_ble_eq_true rfl) dX11_again_55) rfl (fun _ μ8 h => ?_)
        refine g_iload 60 X 5 dX11_again_58 rfl rfl ?_
        by_cases hc9 : x4 = 0
        · have h := if_t h hc9
          refine g_look 88 X dX11_again_60 (by decide +kernel) (off := 28) (by rw [hc9]; decide +kernel) (by decide) ?_
          refine g_aload_n 89 X 1 dX11_again_88 rfl rfl ?_
          refine g_getr 92 X fl_X11_47_11 (o11 rfl) rfl dX11_again_89 rfl ?_
          refine g_geti 95 X fl_X11_246_3 (o3 rfl) rfl dX11_again_92 h rfl (fun v10 h => ?_)
          exact g_iret X hr dX11_again_95 h
        · have h := if_f h hc9
          by_cases hc11 : x4 = 1
          · have h := if_t h hc11
            refine g_look 96 X dX11_again_60 (by decide +kernel) (off := 36) (by rw [hc11]; decide +kernel) (by decide) ?_
            refine g_aload_n 97 X 1 dX11_again_96 rfl rfl ?_
            refine g_getr 100 X fl_X11_47_11 (o11 rfl) rfl dX11_again_97 rfl ?_
            refine g_geti 103 X fl_X11_249_3 (o3 rfl) rfl dX11_again_100 h rfl (fun v12 h => ?_)
            exact g_iret X hr dX11_again_103 h
          · have h := if_f h hc11
            have ehc9 := ne_ti hc9 (k := 0) (by decide)
            have ehc11 := ne_ti hc11 (k := 1) (by decide)
            refine g_look 104 X dX11_again_60 (by decide +kernel) (off := 44) (by simp [Op.lookupswitch.offset, ehc9, ehc9.symm, ehc11, ehc11.symm]) (by decide) ?_
            refine g_aload_n 105 X 1 dX11_again_104 rfl rfl ?_
            refine g_getr 108 X fl_X11_47_11 (o11 rfl) rfl dX11_again_105 rfl ?_
            refine g_geti 111 X fl_X11_252_3 (o3 rfl) rfl dX11_again_108 h rfl (fun v13 h => ?_)
            exact g_iret X hr dX11_again_111 h
      · refine g_iload 39 X 0 dX11_again_37 rfl rfl ?_
        exact g_iret X hr dX11_again_39 h
    · refine g_bipush 23 X dX11_again_21 bpm2 rfl ?_
      exact g_iret X hr dX11_again_23 h
set_option maxRecDepth 100000 in
theorem c_X11_again {l : Launch} {D : va_G} {ks : Nat → ClassId} {A : Nat → Prop} {ad : Nat → Nat} (hD : ∀ μ : Mem, va_D A (wsM 75 ad (shC ks ad) μ)) {F : Nat} {μ : Mem} {x1 : Int32} {x2 : Int32} {x3 : Int32} {x4 : Int32} {r : Int32 × Mem}  (h : f_X11_again F μ x1 x2 x3 x4 = some r) : Met l yX11_again (Cond.code yX11_again cX11_again 6 (some .int) :: wg) rm_X11_again (PC D ks 75 ad (shC ks ad) μ [.ref (ad 0), .int x1, .int x2, .int x3, .int x4]) (QI D 75 ad (shC ks ad) A r) 0 0 A := by
  refine met_of (by decide) (Nat.le_of_ble_eq_true rfl) hD ?_
  intro p e s m args below meth c X hr
  exact G.sub [0, 1, 2, 3, 4] rfl (b_X11_again_0 X hr  _ _ _ _ _ h)
abbrev rm_X11_isForm : Room := { frames := 1, cells := 0, slots := 0, locals := 22 }
set_option maxRecDepth 100000 in
set_option maxHeartbeats 4000000 in
theorem b_X11_isForm_0 {p : Program} {l : Launch} {e : Env} {s : State} {m : MethodId} {args : Array Value} {below : List Frame} {meth : Method} {c : Code} {D : va_G} {ks : Nat → ClassId} (X : Cx p s m args meth c cX11_isForm 1 RX11 D ks (fun _ => False) 0 ad0 sh0) (hr : meth.sig.returnType = (some .boolean)) {F : Nat} {r : Int32} (x0 : Int32)  (h : f_X11_isForm F  x0 = some r) : G p l e rm_X11_isForm s m args below meth c D (fun _ => False) 1 (MQ below (QNi D r) args s 0 0 (fun _ => False)) 0 ad0 sh0 μ0 0 [(0, .int x0)] [] := by
  refine g_iload_n 1 X 0 dX11_isForm_0 rfl rfl ?_
  refine g_iconst 2 X dX11_isForm_1 ic0 rfl ?_
  refine g_iconst 3 X dX11_isForm_2 ic2 rfl ?_
  refine g_ni 6 h (fun q e => r_S X cd_X11_105_X11_within ⟨rfl, rfl⟩ ⟨Nat.le_of_ble_eq_true rfl, Nat.le_of_ble_eq_true rfl⟩ (c_X11_within e) PC_blind (pn_pre X) rfl rfl (Nat.le_of_ble_eq_true rfl) dX11_isForm_3) rfl (fun v1 h => ?_)
  obtain ⟨hz, h⟩ := zk_some h
  exact gn_zret X hr hz dX11_isForm_6 h
set_option maxRecDepth 100000 in
theorem c_X11_isForm {l : Launch} {D : va_G} {ks : Nat → ClassId} {F : Nat} {x0 : Int32} {r : Int32}  (h : f_X11_isForm F x0 = some r) : Met l yX11_isForm (Cond.code yX11_isForm cX11_isForm 1 (some .boolean) :: wg) rm_X11_isForm (PN D ks [.int x0]) (QNi D r) 0 0 (fun _ => False) := by
  refine met_of (by decide) (Nat.le_of_ble_eq_true rfl) d0 ?_
  intro p e s m args below meth c X hr
  exact G.sub [0] rfl (b_X11_isForm_0 X hr  _ h)
abbrev rm_X7_renew : Room := { frames := 0, cells := 0, slots := 0, locals := 0 }
set_option maxRecDepth 100000 in
set_option maxHeartbeats 4000000 in
theorem b_X7_renew_17 {p : Program} {l : Launch} {e : Env} {s : State} {m : MethodId} {args : Array Value} {below : List Frame} {meth : Method} {c : Code} {D : va_G} {ks : Nat → ClassId} {A : Nat → Prop} {ad : Nat → Nat} (X : Cx p s m args meth c cX7_renew 4 RX7 D ks A 75 ad (shC ks ad)) (hr : meth.sig.returnType = none) {F : Nat} {r : Unit × Mem} : ∀ n : Nat, ∀ (μ : Mem) (t : Nat) (x3 : Int32), (kindC t = 107) → f_X7_renew_b17 F  n μ t x3 = some r → G p l e rm_X7_renew s m args below meth c D A 4 (MQ below (QV D 75 ad (shC ks ad) A r) args s 0 0 A) 75 ad (shC ks ad) μ 17 [(0, .ref (ad t)), (3, .int x3)] [] := by
  intro n
  induction n with
  | zero =>
    intro _ _ _ _ h
    cases h
  | succ n ih =>
    intro μ t x3 kt h
    refine g_iload_n 18 X 1 dX7_renew_17 rfl rfl ?_
    refine g_bipush 20 X dX7_renew_18 bp90 rfl ?_
    refine g_icmp_ge 36 23 X dX7_renew_20 (by decide) rfl h (fun h => ?_) (fun h => ?_)
    · exact g_vret X hr dX7_renew_36 h
    · refine g_aload_n 24 X 0 dX7_renew_23 rfl rfl ?_
      refine g_getr 27 X fl_X7_9_7 (o7 kt) rfl dX7_renew_24 rfl ?_
      refine g_iload_n 28 X 1 dX7_renew_27 rfl rfl ?_
      refine g_iconst 29 X dX7_renew_28 ic0 rfl ?_
      refine g_iast 30 X (aiC (n := 90) (by decide) (k7_items kt)) dX7_renew_29 h rfl (fun μ1 h => ?_)
      refine g_iinc 33 X 1 dX7_renew_30 ic1 rfl (by decide) rfl ?_
      refine g_goto 17 X dX7_renew_33 (by decide) ?_
      exact G.sub [1, 0] rfl (ih _ _ _ kt h)
set_option maxRecDepth 100000 in
set_option maxHeartbeats 4000000 in
theorem b_X7_renew_0 {p : Program} {l : Launch} {e : Env} {s : State} {m : MethodId} {args : Array Value} {below : List Frame} {meth : Method} {c : Code} {D : va_G} {ks : Nat → ClassId} {A : Nat → Prop} {ad : Nat → Nat} (X : Cx p s m args meth c cX7_renew 4 RX7 D ks A 75 ad (shC ks ad)) (hr : meth.sig.returnType = none) {F : Nat} {r : Unit × Mem} (μ : Mem) (t : Nat) (x1 : Int32) (x2 : Int32) (kt : kindC t = 107) (h : f_X7_renew F  μ t x1 x2 = some r) : G p l e rm_X7_renew s m args below meth c D A 4 (MQ below (QV D 75 ad (shC ks ad) A r) args s 0 0 A) 75 ad (shC ks ad) μ 0 [(0, .ref (ad t)), (1, .int x1), (2, .int x2)] [] := by
  refine g_aload_n 1 X 0 dX7_renew_0 rfl rfl ?_
  refine g_iconst 2 X dX7_renew_1 ic0 rfl ?_
  refine g_puti 5 X fp_X7_15_7 (o7 kt) rfl (Nat.le_of_ble_eq_true rfl) nb0 fb0 dX7_renew_2 h rfl (fun μ1 h => ?_)
  refine g_aload_n 6 X 0 dX7_renew_5 rfl rfl ?_
  refine g_iload_n 7 X 1 dX7_renew_6 rfl rfl ?_
  refine g_puti 10 X fp_X7_19_7 (o7 kt) rfl (Nat.le_of_ble_eq_true rfl) rfl rfl dX7_renew_7 h rfl (fun μ2 h => ?_)
  refine g_aload_n 11 X 0 dX7_renew_10 rfl rfl ?_
  refine g_iload_n 12 X 2 dX7_renew_11 rfl rfl ?_
  refine g_puti 15 X fp_X7_23_7 (o7 kt) rfl (Nat.le_of_ble_eq_true rfl) rfl rfl dX7_renew_12 h rfl (fun μ3 h => ?_)
  refine g_iconst 16 X dX7_renew_15 ic0 rfl ?_
  refine g_istore_n 17 X dX7_renew_16 (by decide) rfl ?_
  exact G.sub [1, 0] rfl (b_X7_renew_17 X hr  F _ _ _ kt h)
set_option maxRecDepth 100000 in
theorem c_X7_renew {l : Launch} {D : va_G} {ks : Nat → ClassId} {A : Nat → Prop} {ad : Nat → Nat} (hD : ∀ μ : Mem, va_D A (wsM 75 ad (shC ks ad) μ)) {F : Nat} {μ : Mem} {t : Nat} {x1 : Int32} {x2 : Int32} {r : Unit × Mem} (kt : kindC t = 107) (h : f_X7_renew F μ t x1 x2 = some r) : Met l yX7_renew (Cond.code yX7_renew cX7_renew 4 none :: wg) rm_X7_renew (PC D ks 75 ad (shC ks ad) μ [.ref (ad t), .int x1, .int x2]) (QV D 75 ad (shC ks ad) A r) 0 0 A := by
  refine met_of (by decide) (Nat.le_of_ble_eq_true rfl) hD ?_
  intro p e s m args below meth c X hr
  exact G.sub [0, 1, 2] rfl (b_X7_renew_0 X hr  _ _ _ _ kt h)
abbrev rm_X11_sheet : Room := { frames := 2, cells := 0, slots := 0, locals := 42 }
set_option maxRecDepth 100000 in
set_option maxHeartbeats 4000000 in
theorem b_X11_sheet_0 {p : Program} {l : Launch} {e : Env} {s : State} {m : MethodId} {args : Array Value} {below : List Frame} {meth : Method} {c : Code} {D : va_G} {ks : Nat → ClassId} {A : Nat → Prop} {ad : Nat → Nat} (X : Cx p s m args meth c cX11_sheet 4 RX11 D ks A 75 ad (shC ks ad)) (hr : meth.sig.returnType = (some .int)) {F : Nat} {r : Int32 × Mem} (μ : Mem) (x1 : Int32) (x2 : Int32) (x3 : Int32)  (h : f_X11_sheet F  μ x1 x2 x3 = some r) : G p l e rm_X11_sheet s m args below meth c D A 4 (MQ below (QI D 75 ad (shC ks ad) A r) args s 0 0 A) 75 ad (shC ks ad) μ 0 [(0, .ref (ad 0)), (1, .int x1), (2, .int x2), (3, .int x3)] [] := by
  refine g_iload_n 1 X 1 dX11_sheet_0 rfl rfl ?_
  refine g_ni 4 h (fun q e => r_S X cd_X11_67_X11_isSheet ⟨rfl, rfl⟩ ⟨Nat.le_of_ble_eq_true rfl, Nat.le_of_ble_eq_true rfl⟩ (c_X11_isSheet e) PC_blind (pn_pre X) rfl rfl (Nat.le_of_ble_eq_true rfl) dX11_sheet_1) rfl (fun v1 h => ?_)
  refine g_if_eq 20 7 X dX11_sheet_4 (by decide) rfl h (fun h => ?_) (fun h => ?_)
  · refine g_bipush 22 X dX11_sheet_20 bpm2 rfl ?_
    exact g_iret X hr dX11_sheet_22 h
  · refine g_iload_n 8 X 2 dX11_sheet_7 rfl rfl ?_
    refine g_ni 11 h (fun q e => r_S X cd_X11_255_X11_isForm ⟨rfl, rfl⟩ ⟨Nat.le_of_ble_eq_true rfl, Nat.le_of_ble_eq_true rfl⟩ (c_X11_isForm e) PC_blind (pn_pre X) rfl rfl (Nat.le_of_ble_eq_true rfl) dX11_sheet_8) rfl (fun v2 h => ?_)
    refine g_if_eq 20 14 X dX11_sheet_11 (by decide) rfl h (fun h => ?_) (fun h => ?_)
    · refine g_bipush 22 X dX11_sheet_20 bpm2 rfl ?_
      exact g_iret X hr dX11_sheet_22 h
    · refine g_iload_n 15 X 3 dX11_sheet_14 rfl rfl ?_
      refine g_bipush 17 X dX11_sheet_15 bp90 rfl ?_
      refine g_icmp_le 23 20 X dX11_sheet_17 (by decide) rfl h (fun h => ?_) (fun h => ?_)
      · refine g_iload_n 24 X 3 dX11_sheet_23 rfl rfl ?_
        refine g_if_ge 33 27 X dX11_sheet_24 (by decide) rfl h (fun h => ?_) (fun h => ?_)
        · refine g_aload_n 34 X 0 dX11_sheet_33 rfl rfl ?_
          refine g_getr 37 X fl_X11_33_11 (o11 rfl) rfl dX11_sheet_34 rfl ?_
          refine g_iload_n 38 X 1 dX11_sheet_37 rfl rfl ?_
          refine g_aald (fn := fun p => 55 + 2 * p) 39 X arS rfl dX11_sheet_38 h rfl (fun hv3 h => ?_)
          refine g_iload_n 40 X 2 dX11_sheet_39 rfl rfl ?_
          refine g_iload_n 41 X 3 dX11_sheet_40 rfl rfl ?_
          refine g_cv 44 h (fun q e => r_V X cd_X11_258_X7_renew_X7 ⟨rfl, rfl⟩ ⟨Nat.le_of_ble_eq_true rfl, Nat.le_of_ble_eq_true rfl⟩ (c_X7_renew X.2.2.2.2 (kSh hv3) e) PC_blind (pc_pre X) (g_recv X (o7 (kSh hv3)) rfl) rfl rfl (Nat.le_of_ble_eq_true rfl) dX11_sheet_41) rfl (fun _ μ4 h => ?_)
          refine g_iload_n 45 X 3 dX11_sheet_44 rfl rfl ?_
          exact g_iret X hr dX11_sheet_45 h
        · refine g_aload_n 28 X 0 dX11_sheet_27 rfl rfl ?_
          refine g_iconst 29 X dX11_sheet_28 ic5 rfl ?_
          refine g_ci 32 h (fun q e => r_V X cd_X11_75_X11_findingOf_X11 ⟨rfl, rfl⟩ ⟨Nat.le_of_ble_eq_true rfl, Nat.le_of_ble_eq_true rfl⟩ (c_X11_findingOf X.2.2.2.2  e) PC_blind (pc_pre X) (g_recv X (o11 rfl) rfl) rfl rfl (Nat.le_of_ble_eq_true rfl) dX11_sheet_29) rfl (fun v5 μ6 h => ?_)
          exact g_iret X hr dX11_sheet_32 h
      · refine g_bipush 22 X dX11_sheet_20 bpm2 rfl ?_
        exact g_iret X hr dX11_sheet_22 h
set_option maxRecDepth 100000 in
theorem c_X11_sheet {l : Launch} {D : va_G} {ks : Nat → ClassId} {A : Nat → Prop} {ad : Nat → Nat} (hD : ∀ μ : Mem, va_D A (wsM 75 ad (shC ks ad) μ)) {F : Nat} {μ : Mem} {x1 : Int32} {x2 : Int32} {x3 : Int32} {r : Int32 × Mem}  (h : f_X11_sheet F μ x1 x2 x3 = some r) : Met l yX11_sheet (Cond.code yX11_sheet cX11_sheet 4 (some .int) :: wg) rm_X11_sheet (PC D ks 75 ad (shC ks ad) μ [.ref (ad 0), .int x1, .int x2, .int x3]) (QI D 75 ad (shC ks ad) A r) 0 0 A := by
  refine met_of (by decide) (Nat.le_of_ble_eq_true rfl) hD ?_
  intro p e s m args below meth c X hr
  exact G.sub [0, 1, 2, 3] rfl (b_X11_sheet_0 X hr  _ _ _ _ h)
abbrev rm_X11_lose : Room := { frames := 2, cells := 0, slots := 0, locals := 42 }
set_option maxRecDepth 100000 in
set_option maxHeartbeats 4000000 in
theorem b_X11_lose_0 {p : Program} {l : Launch} {e : Env} {s : State} {m : MethodId} {args : Array Value} {below : List Frame} {meth : Method} {c : Code} {D : va_G} {ks : Nat → ClassId} {A : Nat → Prop} {ad : Nat → Nat} (X : Cx p s m args meth c cX11_lose 2 RX11 D ks A 75 ad (shC ks ad)) (hr : meth.sig.returnType = (some .int)) {F : Nat} {r : Int32 × Mem} (μ : Mem) (x1 : Int32)  (h : f_X11_lose F  μ x1 = some r) : G p l e rm_X11_lose s m args below meth c D A 2 (MQ below (QI D 75 ad (shC ks ad) A r) args s 0 0 A) 75 ad (shC ks ad) μ 0 [(0, .ref (ad 0)), (1, .int x1)] [] := by
  refine g_iload_n 1 X 1 dX11_lose_0 rfl rfl ?_
  refine g_ni 4 h (fun q e => r_S X cd_X11_67_X11_isSheet ⟨rfl, rfl⟩ ⟨Nat.le_of_ble_eq_true rfl, Nat.le_of_ble_eq_true rfl⟩ (c_X11_isSheet e) PC_blind (pn_pre X) rfl rfl (Nat.le_of_ble_eq_true rfl) dX11_lose_1) rfl (fun v1 h => ?_)
  refine g_if_ne 10 7 X dX11_lose_4 (by decide) rfl h (fun h => ?_) (fun h => ?_)
  · refine g_aload_n 11 X 0 dX11_lose_10 rfl rfl ?_
    refine g_getr 14 X fl_X11_33_11 (o11 rfl) rfl dX11_lose_11 rfl ?_
    refine g_iload_n 15 X 1 dX11_lose_14 rfl rfl ?_
    refine g_aald (fn := fun p => 55 + 2 * p) 16 X arS rfl dX11_lose_15 h rfl (fun hv2 h => ?_)
    refine g_geti 19 X fl_X11_71_7 (o7 (kSh hv2)) rfl dX11_lose_16 h rfl (fun v3 h => ?_)
    refine g_if_eq 28 22 X dX11_lose_19 (by decide) rfl h (fun h => ?_) (fun h => ?_)
    · refine g_aload_n 29 X 0 dX11_lose_28 rfl rfl ?_
      refine g_getr 32 X fl_X11_33_11 (o11 rfl) rfl dX11_lose_29 rfl ?_
      refine g_iload_n 33 X 1 dX11_lose_32 rfl rfl ?_
      refine g_aald (fn := fun p => 55 + 2 * p) 34 X arS rfl dX11_lose_33 h rfl (fun hv4 h => ?_)
      refine g_iconst 35 X dX11_lose_34 ic1 rfl ?_
      refine g_puti 38 X fp_X11_71_7 (o7 (kSh hv4)) rfl (Nat.le_of_ble_eq_true rfl) nb1 fb1 dX11_lose_35 h rfl (fun μ5 h => ?_)
      refine g_aload_n 39 X 0 dX11_lose_38 rfl rfl ?_
      refine g_getr 42 X fl_X11_33_11 (o11 rfl) rfl dX11_lose_39 rfl ?_
      refine g_iload_n 43 X 1 dX11_lose_42 rfl rfl ?_
      refine g_aald (fn := fun p => 55 + 2 * p) 44 X arS rfl dX11_lose_43 h rfl (fun hv6 h => ?_)
      refine g_geti 47 X fl_X11_79_7 (o7 (kSh hv6)) rfl dX11_lose_44 h rfl (fun v7 h => ?_)
      exact g_iret X hr dX11_lose_47 h
    · refine g_aload_n 23 X 0 dX11_lose_22 rfl rfl ?_
      refine g_iconst 24 X dX11_lose_23 ic1 rfl ?_
      refine g_ci 27 h (fun q e => r_V X cd_X11_75_X11_findingOf_X11 ⟨rfl, rfl⟩ ⟨Nat.le_of_ble_eq_true rfl, Nat.le_of_ble_eq_true rfl⟩ (c_X11_findingOf X.2.2.2.2  e) PC_blind (pc_pre X) (g_recv X (o11 rfl) rfl) rfl rfl (Nat.le_of_ble_eq_true rfl) dX11_lose_24) rfl (fun v8 μ9 h => ?_)
      exact g_iret X hr dX11_lose_27 h
  · refine g_bipush 9 X dX11_lose_7 bpm2 rfl ?_
    exact g_iret X hr dX11_lose_9 h
set_option maxRecDepth 100000 in
theorem c_X11_lose {l : Launch} {D : va_G} {ks : Nat → ClassId} {A : Nat → Prop} {ad : Nat → Nat} (hD : ∀ μ : Mem, va_D A (wsM 75 ad (shC ks ad) μ)) {F : Nat} {μ : Mem} {x1 : Int32} {r : Int32 × Mem}  (h : f_X11_lose F μ x1 = some r) : Met l yX11_lose (Cond.code yX11_lose cX11_lose 2 (some .int) :: wg) rm_X11_lose (PC D ks 75 ad (shC ks ad) μ [.ref (ad 0), .int x1]) (QI D 75 ad (shC ks ad) A r) 0 0 A := by
  refine met_of (by decide) (Nat.le_of_ble_eq_true rfl) hD ?_
  intro p e s m args below meth c X hr
  exact G.sub [0, 1] rfl (b_X11_lose_0 X hr  _ _ h)
abbrev rm_X7_findingAt : Room := { frames := 1, cells := 0, slots := 0, locals := 22 }
set_option maxRecDepth 100000 in
set_option maxHeartbeats 4000000 in
theorem b_X7_findingAt_0 {p : Program} {l : Launch} {e : Env} {s : State} {m : MethodId} {args : Array Value} {below : List Frame} {meth : Method} {c : Code} {D : va_G} {ks : Nat → ClassId} {A : Nat → Prop} {ad : Nat → Nat} (X : Cx p s m args meth c cX7_findingAt 3 RX7 D ks A 75 ad (shC ks ad)) (hr : meth.sig.returnType = (some .int)) {F : Nat} {r : Int32 × Mem} (μ : Mem) (t : Nat) (x1 : Int32) (x2 : Int32) (kt : kindC t = 107) (h : f_X7_findingAt F  μ t x1 x2 = some r) : G p l e rm_X7_findingAt s m args below meth c D A 3 (MQ below (QI D 75 ad (shC ks ad) A r) args s 0 0 A) 75 ad (shC ks ad) μ 0 [(0, .ref (ad t)), (1, .int x1), (2, .int x2)] [] := by
  refine g_aload_n 1 X 0 dX7_findingAt_0 rfl rfl ?_
  refine g_geti 4 X fl_X7_15_7 (o7 kt) rfl dX7_findingAt_1 h rfl (fun v1 h => ?_)
  refine g_if_eq 9 7 X dX7_findingAt_4 (by decide) rfl h (fun h => ?_) (fun h => ?_)
  · refine g_aload_n 10 X 0 dX7_findingAt_9 rfl rfl ?_
    refine g_geti 13 X fl_X7_19_7 (o7 kt) rfl dX7_findingAt_10 h rfl (fun v2 h => ?_)
    refine g_iload_n 14 X 1 dX7_findingAt_13 rfl rfl ?_
    refine g_icmp_eq 19 17 X dX7_findingAt_14 (by decide) rfl h (fun h => ?_) (fun h => ?_)
    · refine g_iload_n 20 X 2 dX7_findingAt_19 rfl rfl ?_
      refine g_iconst 21 X dX7_findingAt_20 ic0 rfl ?_
      refine g_aload_n 22 X 0 dX7_findingAt_21 rfl rfl ?_
      refine g_geti 25 X fl_X7_23_7 (o7 kt) rfl dX7_findingAt_22 h rfl (fun v3 h => ?_)
      refine g_iconst 26 X dX7_findingAt_25 ic1 rfl ?_
      refine g_isub 27 X dX7_findingAt_26 rfl ?_
      refine g_ni 30 h (fun q e => r_SN X cd_X7_26_X11_within ⟨rfl, rfl⟩ ⟨Nat.le_of_ble_eq_true rfl, Nat.le_of_ble_eq_true rfl⟩ (c_X11_within e) PC_blind (pn_pre X) rfl rfl (Nat.le_of_ble_eq_true rfl) dX7_findingAt_27) rfl (fun v4 h => ?_)
      refine g_if_eq 37 33 X dX7_findingAt_30 (by decide) rfl h (fun h => ?_) (fun h => ?_)
      · refine g_iconst 38 X dX7_findingAt_37 ic2 rfl ?_
        exact g_iret X hr dX7_findingAt_38 h
      · refine g_iconst 34 X dX7_findingAt_33 ic0 rfl ?_
        refine g_goto 38 X dX7_findingAt_34 (by decide) ?_
        exact g_iret X hr dX7_findingAt_38 h
    · refine g_iconst 18 X dX7_findingAt_17 ic3 rfl ?_
      exact g_iret X hr dX7_findingAt_18 h
  · refine g_iconst 8 X dX7_findingAt_7 ic1 rfl ?_
    exact g_iret X hr dX7_findingAt_8 h
set_option maxRecDepth 100000 in
theorem c_X7_findingAt {l : Launch} {D : va_G} {ks : Nat → ClassId} {A : Nat → Prop} {ad : Nat → Nat} (hD : ∀ μ : Mem, va_D A (wsM 75 ad (shC ks ad) μ)) {F : Nat} {μ : Mem} {t : Nat} {x1 : Int32} {x2 : Int32} {r : Int32 × Mem} (kt : kindC t = 107) (h : f_X7_findingAt F μ t x1 x2 = some r) : Met l yX7_findingAt (Cond.code yX7_findingAt cX7_findingAt 3 (some .int) :: wg) rm_X7_findingAt (PC D ks 75 ad (shC ks ad) μ [.ref (ad t), .int x1, .int x2]) (QI D 75 ad (shC ks ad) A r) 0 0 A := by
  refine met_of (by decide) (Nat.le_of_ble_eq_true rfl) hD ?_
  intro p e s m args below meth c X hr
  exact G.sub [0, 1, 2] rfl (b_X7_findingAt_0 X hr  _ _ _ _ kt h)
abbrev rm_X7_store : Room := { frames := 0, cells := 0, slots := 0, locals := 0 }
set_option maxRecDepth 100000 in
set_option maxHeartbeats 4000000 in
theorem b_X7_store_0 {p : Program} {l : Launch} {e : Env} {s : State} {m : MethodId} {args : Array Value} {below : List Frame} {meth : Method} {c : Code} {D : va_G} {ks : Nat → ClassId} {A : Nat → Prop} {ad : Nat → Nat} (X : Cx p s m args meth c cX7_store 3 RX7 D ks A 75 ad (shC ks ad)) (hr : meth.sig.returnType = none) {F : Nat} {r : Unit × Mem} (μ : Mem) (t : Nat) (x1 : Int32) (x2 : Int32) (kt : kindC t = 107) (h : f_X7_store F  μ t x1 x2 = some r) : G p l e rm_X7_store s m args below meth c D A 3 (MQ below (QV D 75 ad (shC ks ad) A r) args s 0 0 A) 75 ad (shC ks ad) μ 0 [(0, .ref (ad t)), (1, .int x1), (2, .int x2)] [] := by
  refine g_aload_n 1 X 0 dX7_store_0 rfl rfl ?_
  refine g_geti 4 X fl_X7_19_7 (o7 kt) rfl dX7_store_1 h rfl (fun v1 h => ?_)
  refine g_if_ne 18 7 X dX7_store_4 (by decide) rfl h (fun h => ?_) (fun h => ?_)
  · refine g_aload_n 19 X 0 dX7_store_18 rfl rfl ?_
    refine g_geti 22 X fl_X7_19_7 (o7 kt) rfl dX7_store_19 h rfl (fun v2 h => ?_)
    refine g_iconst 23 X dX7_store_22 ic1 rfl ?_
    refine g_icmp_ne 37 26 X dX7_store_23 (by decide) rfl h (fun h => ?_) (fun h => ?_)
    · refine g_aload_n 38 X 0 dX7_store_37 rfl rfl ?_
      refine g_getr 41 X fl_X7_9_7 (o7 kt) rfl dX7_store_38 rfl ?_
      refine g_iload_n 42 X 1 dX7_store_41 rfl rfl ?_
      refine g_iload_n 43 X 2 dX7_store_42 rfl rfl ?_
      refine g_iast 44 X (aiC (n := 90) (by decide) (k7_items kt)) dX7_store_43 h rfl (fun μ3 h => ?_)
      exact g_vret X hr dX7_store_44 h
    · refine g_aload_n 27 X 0 dX7_store_26 rfl rfl ?_
      refine g_getr 30 X fl_X7_9_7 (o7 kt) rfl dX7_store_27 rfl ?_
      refine g_iload_n 31 X 1 dX7_store_30 rfl rfl ?_
      refine g_iload_n 32 X 2 dX7_store_31 rfl rfl ?_
      refine g_i2s 33 X dX7_store_32 rfl ?_
      refine g_iast 34 X (aiC (n := 90) (by decide) (k7_items kt)) dX7_store_33 h rfl (fun μ4 h => ?_)
      refine g_goto 44 X dX7_store_34 (by decide) ?_
      exact g_vret X hr dX7_store_44 h
  · refine g_aload_n 8 X 0 dX7_store_7 rfl rfl ?_
    refine g_getr 11 X fl_X7_9_7 (o7 kt) rfl dX7_store_8 rfl ?_
    refine g_iload_n 12 X 1 dX7_store_11 rfl rfl ?_
    refine g_iload_n 13 X 2 dX7_store_12 rfl rfl ?_
    refine g_i2b 14 X dX7_store_13 rfl ?_
    refine g_iast 15 X (aiC (n := 90) (by decide) (k7_items kt)) dX7_store_14 h rfl (fun μ5 h => ?_)
    refine g_goto 44 X dX7_store_15 (by decide) ?_
    exact g_vret X hr dX7_store_44 h
set_option maxRecDepth 100000 in
theorem c_X7_store {l : Launch} {D : va_G} {ks : Nat → ClassId} {A : Nat → Prop} {ad : Nat → Nat} (hD : ∀ μ : Mem, va_D A (wsM 75 ad (shC ks ad) μ)) {F : Nat} {μ : Mem} {t : Nat} {x1 : Int32} {x2 : Int32} {r : Unit × Mem} (kt : kindC t = 107) (h : f_X7_store F μ t x1 x2 = some r) : Met l yX7_store (Cond.code yX7_store cX7_store 3 none :: wg) rm_X7_store (PC D ks 75 ad (shC ks ad) μ [.ref (ad t), .int x1, .int x2]) (QV D 75 ad (shC ks ad) A r) 0 0 A := by
  refine met_of (by decide) (Nat.le_of_ble_eq_true rfl) hD ?_
  intro p e s m args below meth c X hr
  exact G.sub [0, 1, 2] rfl (b_X7_store_0 X hr  _ _ _ _ kt h)
abbrev rm_X11_put : Room := { frames := 2, cells := 0, slots := 0, locals := 44 }
set_option maxRecDepth 100000 in
set_option maxHeartbeats 4000000 in
theorem b_X11_put_0 {p : Program} {l : Launch} {e : Env} {s : State} {m : MethodId} {args : Array Value} {below : List Frame} {meth : Method} {c : Code} {D : va_G} {ks : Nat → ClassId} {A : Nat → Prop} {ad : Nat → Nat} (X : Cx p s m args meth c cX11_put 6 RX11 D ks A 75 ad (shC ks ad)) (hr : meth.sig.returnType = (some .int)) {F : Nat} {r : Int32 × Mem} (μ : Mem) (x1 : Int32) (x2 : Int32) (x3 : Int32) (x4 : Int32)  (h : f_X11_put F  μ x1 x2 x3 x4 = some r) : G p l e rm_X11_put s m args below meth c D A 6 (MQ below (QI D 75 ad (shC ks ad) A r) args s 0 0 A) 75 ad (shC ks ad) μ 0 [(0, .ref (ad 0)), (1, .int x1), (2, .int x2), (3, .int x3), (4, .int x4)] [] := by
  refine g_iload_n 1 X 1 dX11_put_0 rfl rfl ?_
  refine g_ni 4 h (fun q e => r_S X cd_X11_67_X11_isSheet ⟨rfl, rfl⟩ ⟨Nat.le_of_ble_eq_true rfl, Nat.le_of_ble_eq_true rfl⟩ (c_X11_isSheet e) PC_blind (pn_pre X) rfl rfl (Nat.le_of_ble_eq_true rfl) dX11_put_1) rfl (fun v1 h => ?_)
  refine g_if_eq 14 7 X dX11_put_4 (by decide) rfl h (fun h => ?_) (fun h => ?_)
  · refine g_bipush 16 X dX11_put_14 bpm2 rfl ?_
    exact g_iret X hr dX11_put_16 h
  · refine g_iload_n 8 X 2 dX11_put_7 rfl rfl ?_
    refine g_ni 11 h (fun q e => r_S X cd_X11_255_X11_isForm ⟨rfl, rfl⟩ ⟨Nat.le_of_ble_eq_true rfl, Nat.le_of_ble_eq_true rfl⟩ (c_X11_isForm e) PC_blind (pn_pre X) rfl rfl (Nat.le_of_ble_eq_true rfl) dX11_put_8) rfl (fun v2 h => ?_)
    refine g_if_ne 17 14 X dX11_put_11 (by decide) rfl h (fun h => ?_) (fun h => ?_)
    · refine g_aload_n 18 X 0 dX11_put_17 rfl rfl ?_
      refine g_getr 21 X fl_X11_33_11 (o11 rfl) rfl dX11_put_18 rfl ?_
      refine g_iload_n 22 X 1 dX11_put_21 rfl rfl ?_
      refine g_aald (fn := fun p => 55 + 2 * p) 23 X arS rfl dX11_put_22 h rfl (fun hv3 h => ?_)
      refine g_iload_n 24 X 2 dX11_put_23 rfl rfl ?_
      refine g_iload_n 25 X 3 dX11_put_24 rfl rfl ?_
      refine g_ci 28 h (fun q e => r_V X cd_X11_262_X7_findingAt_X7 ⟨rfl, rfl⟩ ⟨Nat.le_of_ble_eq_true rfl, Nat.le_of_ble_eq_true rfl⟩ (c_X7_findingAt X.2.2.2.2 (kSh hv3) e) PC_blind (pc_pre X) (g_recv X (o7 (kSh hv3)) rfl) rfl rfl (Nat.le_of_ble_eq_true rfl) dX11_put_25) rfl (fun v4 μ5 h => ?_)
      refine g_istore 30 X dX11_put_28 (by decide) rfl ?_
      refine g_iload 32 X 0 dX11_put_30 rfl rfl ?_
      refine g_if_le 42 35 X dX11_put_32 (by decide) rfl h (fun h => ?_) (fun h => ?_)
      · refine g_aload_n 43 X 1 dX11_put_42 rfl rfl ?_
        refine g_getr 46 X fl_X11_33_11 (o11 rfl) rfl dX11_put_43 rfl ?_
        refine g_iload_n 47 X 2 dX11_put_46 rfl rfl ?_
        refine g_aald (fn := fun p => 55 + 2 * p) 48 X arS rfl dX11_put_47 h rfl (fun hv6 h => ?_)
        refine g_iload_n 49 X 4 dX11_put_48 rfl rfl ?_
        refine g_iload 51 X 5 dX11_put_49 rfl rfl ?_
        refine g_cv 54 h (fun q e => r_V X cd_X11_265_X7_store_X7 ⟨rfl, rfl⟩ ⟨Nat.le_of_ble_eq_true rfl, Nat.le_of_ble_eq_true rfl⟩ (c_X7_store X.2.2.2.2 (kSh hv6) e) PC_blind (pc_pre X) (g_recv X (o7 (kSh hv6)) rfl) rfl rfl (Nat.le_of_ble_eq_true rfl) dX11_put_51) rfl (fun _ μ7 h => ?_)
        refine g_iconst 55 X dX11_put_54 ic1 rfl ?_
        exact g_iret X hr dX11_put_55 h
      · refine g_aload_n 36 X 1 dX11_put_35 rfl rfl ?_
        refine g_iload 38 X 0 dX11_put_36 rfl rfl ?_
        refine g_ci 41 h (fun q e => r_V X cd_X11_75_X11_findingOf_X11 ⟨rfl, rfl⟩ ⟨Nat.le_of_ble_eq_true rfl, Nat.le_of_ble_eq_true rfl⟩ (c_X11_findingOf X.2.2.2.2  e) PC_blind (pc_pre X) (g_recv X (o11 rfl) rfl) rfl rfl (Nat.le_of_ble_eq_true rfl) dX11_put_38) rfl (fun v8 μ9 h => ?_)
        exact g_iret X hr dX11_put_41 h
    · refine g_bipush 16 X dX11_put_14 bpm2 rfl ?_
      exact g_iret X hr dX11_put_16 h
set_option maxRecDepth 100000 in
theorem c_X11_put {l : Launch} {D : va_G} {ks : Nat → ClassId} {A : Nat → Prop} {ad : Nat → Nat} (hD : ∀ μ : Mem, va_D A (wsM 75 ad (shC ks ad) μ)) {F : Nat} {μ : Mem} {x1 : Int32} {x2 : Int32} {x3 : Int32} {x4 : Int32} {r : Int32 × Mem}  (h : f_X11_put F μ x1 x2 x3 x4 = some r) : Met l yX11_put (Cond.code yX11_put cX11_put 6 (some .int) :: wg) rm_X11_put (PC D ks 75 ad (shC ks ad) μ [.ref (ad 0), .int x1, .int x2, .int x3, .int x4]) (QI D 75 ad (shC ks ad) A r) 0 0 A := by
  refine met_of (by decide) (Nat.le_of_ble_eq_true rfl) hD ?_
  intro p e s m args below meth c X hr
  exact G.sub [0, 1, 2, 3, 4] rfl (b_X11_put_0 X hr  _ _ _ _ _ h)
abbrev rm_X11_get : Room := { frames := 2, cells := 0, slots := 0, locals := 44 }
set_option maxRecDepth 100000 in
set_option maxHeartbeats 4000000 in
theorem b_X11_get_0 {p : Program} {l : Launch} {e : Env} {s : State} {m : MethodId} {args : Array Value} {below : List Frame} {meth : Method} {c : Code} {D : va_G} {ks : Nat → ClassId} {A : Nat → Prop} {ad : Nat → Nat} (X : Cx p s m args meth c cX11_get 5 RX11 D ks A 75 ad (shC ks ad)) (hr : meth.sig.returnType = (some .int)) {F : Nat} {r : Int32 × Mem} (μ : Mem) (x1 : Int32) (x2 : Int32) (x3 : Int32)  (h : f_X11_get F  μ x1 x2 x3 = some r) : G p l e rm_X11_get s m args below meth c D A 5 (MQ below (QI D 75 ad (shC ks ad) A r) args s 0 0 A) 75 ad (shC ks ad) μ 0 [(0, .ref (ad 0)), (1, .int x1), (2, .int x2), (3, .int x3)] [] := by
  refine g_iload_n 1 X 1 dX11_get_0 rfl rfl ?_
  refine g_ni 4 h (fun q e => r_S X cd_X11_67_X11_isSheet ⟨rfl, rfl⟩ ⟨Nat.le_of_ble_eq_true rfl, Nat.le_of_ble_eq_true rfl⟩ (c_X11_isSheet e) PC_blind (pn_pre X) rfl rfl (Nat.le_of_ble_eq_true rfl) dX11_get_1) rfl (fun v1 h => ?_)
  refine g_if_eq 14 7 X dX11_get_4 (by decide) rfl h (fun h => ?_) (fun h => ?_)
  · refine g_ldcw 17 X m984 dX11_get_14 rfl ?_
    exact g_iret X hr dX11_get_17 h
  · refine g_iload_n 8 X 2 dX11_get_7 rfl rfl ?_
    refine g_ni 11 h (fun q e => r_S X cd_X11_255_X11_isForm ⟨rfl, rfl⟩ ⟨Nat.le_of_ble_eq_true rfl, Nat.le_of_ble_eq_true rfl⟩ (c_X11_isForm e) PC_blind (pn_pre X) rfl rfl (Nat.le_of_ble_eq_true rfl) dX11_get_8) rfl (fun v2 h => ?_)
    refine g_if_ne 18 14 X dX11_get_11 (by decide) rfl h (fun h => ?_) (fun h => ?_)
    · refine g_aload_n 19 X 0 dX11_get_18 rfl rfl ?_
      refine g_getr 22 X fl_X11_33_11 (o11 rfl) rfl dX11_get_19 rfl ?_
      refine g_iload_n 23 X 1 dX11_get_22 rfl rfl ?_
      refine g_aald (fn := fun p => 55 + 2 * p) 24 X arS rfl dX11_get_23 h rfl (fun hv3 h => ?_)
      refine g_iload_n 25 X 2 dX11_get_24 rfl rfl ?_
      refine g_iload_n 26 X 3 dX11_get_25 rfl rfl ?_
      refine g_ci 29 h (fun q e => r_V X cd_X11_262_X7_findingAt_X7 ⟨rfl, rfl⟩ ⟨Nat.le_of_ble_eq_true rfl, Nat.le_of_ble_eq_true rfl⟩ (c_X7_findingAt X.2.2.2.2 (kSh hv3) e) PC_blind (pc_pre X) (g_recv X (o7 (kSh hv3)) rfl) rfl rfl (Nat.le_of_ble_eq_true rfl) dX11_get_26) rfl (fun v4 μ5 h => ?_)
      refine g_istore 31 X dX11_get_29 (by decide) rfl ?_
      refine g_iload 33 X 0 dX11_get_31 rfl rfl ?_
      refine g_if_le 46 36 X dX11_get_33 (by decide) rfl h (fun h => ?_) (fun h => ?_)
      · refine g_aload_n 47 X 1 dX11_get_46 rfl rfl ?_
        refine g_getr 50 X fl_X11_33_11 (o11 rfl) rfl dX11_get_47 rfl ?_
        refine g_iload_n 51 X 2 dX11_get_50 rfl rfl ?_
        refine g_aald (fn := fun p => 55 + 2 * p) 52 X arS rfl dX11_get_51 h rfl (fun hv6 h => ?_)
        refine g_getr 55 X fl_X11_83_7 (o7 (kSh hv6)) rfl dX11_get_52 rfl ?_
        refine g_iload_n 56 X 4 dX11_get_55 rfl rfl ?_
        refine g_iald 57 X (aiC (n := 90) (by decide) (k7_items (kSh hv6))) dX11_get_56 h rfl (fun v7 h => ?_)
        exact g_iret X hr dX11_get_57 h
      · refine g_aload_n 37 X 1 dX11_get_36 rfl rfl ?_
        refine g_iload 39 X 0 dX11_get_37 rfl rfl ?_
        refine g_puti 42 X fp_X11_269_11 (o11 rfl) rfl (Nat.le_of_ble_eq_true rfl) rfl rfl dX11_get_39 h rfl (fun μ8 h => ?_)
        refine g_ldcw 45 X m984 dX11_get_42 rfl ?_
        exact g_iret X hr dX11_get_45 h
    · refine g_ldcw 17 X m984 dX11_get_14 rfl ?_
      exact g_iret X hr dX11_get_17 h
set_option maxRecDepth 100000 in
theorem c_X11_get {l : Launch} {D : va_G} {ks : Nat → ClassId} {A : Nat → Prop} {ad : Nat → Nat} (hD : ∀ μ : Mem, va_D A (wsM 75 ad (shC ks ad) μ)) {F : Nat} {μ : Mem} {x1 : Int32} {x2 : Int32} {x3 : Int32} {r : Int32 × Mem}  (h : f_X11_get F μ x1 x2 x3 = some r) : Met l yX11_get (Cond.code yX11_get cX11_get 5 (some .int) :: wg) rm_X11_get (PC D ks 75 ad (shC ks ad) μ [.ref (ad 0), .int x1, .int x2, .int x3]) (QI D 75 ad (shC ks ad) A r) 0 0 A := by
  refine met_of (by decide) (Nat.le_of_ble_eq_true rfl) hD ?_
  intro p e s m args below meth c X hr
  exact G.sub [0, 1, 2, 3] rfl (b_X11_get_0 X hr  _ _ _ _ h)
abbrev rm_X7_reaches : Room := { frames := 0, cells := 0, slots := 0, locals := 0 }
set_option maxRecDepth 100000 in
set_option maxHeartbeats 4000000 in
theorem b_X7_reaches_0 {p : Program} {l : Launch} {e : Env} {s : State} {m : MethodId} {args : Array Value} {below : List Frame} {meth : Method} {c : Code} {D : va_G} {ks : Nat → ClassId} {A : Nat → Prop} {ad : Nat → Nat} (X : Cx p s m args meth c cX7_reaches 3 RX7 D ks A 75 ad (shC ks ad)) (hr : meth.sig.returnType = (some .boolean)) {F : Nat} {r : Int32 × Mem} (μ : Mem) (t : Nat) (x1 : Int32) (x2 : Int32) (kt : kindC t = 107) (h : f_X7_reaches F  μ t x1 x2 = some r) : G p l e rm_X7_reaches s m args below meth c D A 3 (MQ below (QI D 75 ad (shC ks ad) A r) args s 0 0 A) 75 ad (shC ks ad) μ 0 [(0, .ref (ad t)), (1, .int x1), (2, .int x2)] [] := by
  refine g_iload_n 1 X 1 dX7_reaches_0 rfl rfl ?_
  refine g_if_lt 30 4 X dX7_reaches_1 (by decide) rfl h (fun h => ?_) (fun h => ?_)
  · refine g_iconst 31 X dX7_reaches_30 ic0 rfl ?_
    exact g_zret X hr nb0 dX7_reaches_31 h
  · refine g_iload_n 5 X 2 dX7_reaches_4 rfl rfl ?_
    refine g_if_lt 30 8 X dX7_reaches_5 (by decide) rfl h (fun h => ?_) (fun h => ?_)
    · refine g_iconst 31 X dX7_reaches_30 ic0 rfl ?_
      exact g_zret X hr nb0 dX7_reaches_31 h
    · refine g_iload_n 9 X 1 dX7_reaches_8 rfl rfl ?_
      refine g_aload_n 10 X 0 dX7_reaches_9 rfl rfl ?_
      refine g_geti 13 X fl_X7_23_7 (o7 kt) rfl dX7_reaches_10 h rfl (fun v1 h => ?_)
      refine g_icmp_gt 30 16 X dX7_reaches_13 (by decide) rfl h (fun h => ?_) (fun h => ?_)
      · refine g_iconst 31 X dX7_reaches_30 ic0 rfl ?_
        exact g_zret X hr nb0 dX7_reaches_31 h
      · refine g_iload_n 17 X 2 dX7_reaches_16 rfl rfl ?_
        refine g_aload_n 18 X 0 dX7_reaches_17 rfl rfl ?_
        refine g_geti 21 X fl_X7_23_7 (o7 kt) rfl dX7_reaches_18 h rfl (fun v2 h => ?_)
        refine g_iload_n 22 X 1 dX7_reaches_21 rfl rfl ?_
        refine g_isub 23 X dX7_reaches_22 rfl ?_
        refine g_icmp_gt 30 26 X dX7_reaches_23 (by decide) rfl h (fun h => ?_) (fun h => ?_)
        · refine g_iconst 31 X dX7_reaches_30 ic0 rfl ?_
          exact g_zret X hr nb0 dX7_reaches_31 h
        · refine g_iconst 27 X dX7_reaches_26 ic1 rfl ?_
          refine g_goto 31 X dX7_reaches_27 (by decide) ?_
          exact g_zret X hr nb1 dX7_reaches_31 h
set_option maxRecDepth 100000 in
theorem c_X7_reaches {l : Launch} {D : va_G} {ks : Nat → ClassId} {A : Nat → Prop} {ad : Nat → Nat} (hD : ∀ μ : Mem, va_D A (wsM 75 ad (shC ks ad) μ)) {F : Nat} {μ : Mem} {t : Nat} {x1 : Int32} {x2 : Int32} {r : Int32 × Mem} (kt : kindC t = 107) (h : f_X7_reaches F μ t x1 x2 = some r) : Met l yX7_reaches (Cond.code yX7_reaches cX7_reaches 3 (some .boolean) :: wg) rm_X7_reaches (PC D ks 75 ad (shC ks ad) μ [.ref (ad t), .int x1, .int x2]) (QI D 75 ad (shC ks ad) A r) 0 0 A := by
  refine met_of (by decide) (Nat.le_of_ble_eq_true rfl) hD ?_
  intro p e s m args below meth c X hr
  exact G.sub [0, 1, 2] rfl (b_X7_reaches_0 X hr  _ _ _ _ kt h)
abbrev rm_X11_copy : Room := { frames := 2, cells := 0, slots := 0, locals := 60 }
set_option maxRecDepth 100000 in
set_option maxHeartbeats 4000000 in
theorem b_X11_copy_97 {p : Program} {l : Launch} {e : Env} {s : State} {m : MethodId} {args : Array Value} {below : List Frame} {meth : Method} {c : Code} {D : va_G} {ks : Nat → ClassId} {A : Nat → Prop} {ad : Nat → Nat} (X : Cx p s m args meth c cX11_copy 8 RX11 D ks A 75 ad (shC ks ad)) (hr : meth.sig.returnType = (some .int)) {F : Nat} {r : Int32 × Mem} (μ : Mem)  (h : f_X11_copy_b97 F  μ = some r) : G p l e rm_X11_copy s m args below meth c D A 8 (MQ below (QI D 75 ad (shC ks ad) A r) args s 0 0 A) 75 ad (shC ks ad) μ 97 [(0, .ref (ad 0))] [] := by
  refine g_aload_n 98 X 0 dX11_copy_97 rfl rfl ?_
  refine g_iconst 99 X dX11_copy_98 ic2 rfl ?_
  refine g_ci 102 h (fun q e => r_V X cd_X11_75_X11_findingOf_X11 ⟨rfl, rfl⟩ ⟨Nat.le_of_ble_eq_true rfl, Nat.le_of_ble_eq_true rfl⟩ (c_X11_findingOf X.2.2.2.2  e) PC_blind (pc_pre X) (g_recv X (o11 rfl) rfl) rfl rfl (Nat.le_of_ble_eq_true rfl) dX11_copy_99) rfl (fun v1 μ2 h => ?_)
  exact g_iret X hr dX11_copy_102 h
set_option maxRecDepth 100000 in
set_option maxHeartbeats 4000000 in
theorem b_X11_copy_49 {p : Program} {l : Launch} {e : Env} {s : State} {m : MethodId} {args : Array Value} {below : List Frame} {meth : Method} {c : Code} {D : va_G} {ks : Nat → ClassId} {A : Nat → Prop} {ad : Nat → Nat} (X : Cx p s m args meth c cX11_copy 8 RX11 D ks A 75 ad (shC ks ad)) (hr : meth.sig.returnType = (some .int)) {F : Nat} {r : Int32 × Mem} (μ : Mem)  (h : f_X11_copy_b49 F  μ = some r) : G p l e rm_X11_copy s m args below meth c D A 8 (MQ below (QI D 75 ad (shC ks ad) A r) args s 0 0 A) 75 ad (shC ks ad) μ 49 [(0, .ref (ad 0))] [] := by
  refine g_aload_n 50 X 0 dX11_copy_49 rfl rfl ?_
  refine g_iconst 51 X dX11_copy_50 ic1 rfl ?_
  refine g_ci 54 h (fun q e => r_V X cd_X11_75_X11_findingOf_X11 ⟨rfl, rfl⟩ ⟨Nat.le_of_ble_eq_true rfl, Nat.le_of_ble_eq_true rfl⟩ (c_X11_findingOf X.2.2.2.2  e) PC_blind (pc_pre X) (g_recv X (o11 rfl) rfl) rfl rfl (Nat.le_of_ble_eq_true rfl) dX11_copy_51) rfl (fun v1 μ2 h => ?_)
  exact g_iret X hr dX11_copy_54 h
set_option maxRecDepth 100000 in
set_option maxHeartbeats 4000000 in
theorem b_X11_copy_0 {p : Program} {l : Launch} {e : Env} {s : State} {m : MethodId} {args : Array Value} {below : List Frame} {meth : Method} {c : Code} {D : va_G} {ks : Nat → ClassId} {A : Nat → Prop} {ad : Nat → Nat} (X : Cx p s m args meth c cX11_copy 8 RX11 D ks A 75 ad (shC ks ad)) (hr : meth.sig.returnType = (some .int)) {F : Nat} {r : Int32 × Mem} (μ : Mem) (x1 : Int32) (x2 : Int32) (x3 : Int32) (x4 : Int32) (x5 : Int32)  (h : f_X11_copy F  μ x1 x2 x3 x4 x5 = some r) : G p l e rm_X11_copy s m args below meth c D A 8 (MQ below (QI D 75 ad (shC ks ad) A r) args s 0 0 A) 75 ad (shC ks ad) μ 0 [(0, .ref (ad 0)), (1, .int x1), (2, .int x2), (3, .int x3), (4, .int x4), (5, .int x5)] [] := by
  refine g_iload_n 1 X 1 dX11_copy_0 rfl rfl ?_
  refine g_ni 4 h (fun q e => r_S X cd_X11_67_X11_isSheet ⟨rfl, rfl⟩ ⟨Nat.le_of_ble_eq_true rfl, Nat.le_of_ble_eq_true rfl⟩ (c_X11_isSheet e) PC_blind (pn_pre X) rfl rfl (Nat.le_of_ble_eq_true rfl) dX11_copy_1) rfl (fun v1 h => ?_)
  refine g_if_eq 14 7 X dX11_copy_4 (by decide) rfl h (fun h => ?_) (fun h => ?_)
  · refine g_bipush 16 X dX11_copy_14 bpm2 rfl ?_
    exact g_iret X hr dX11_copy_16 h
  · refine g_iload_n 8 X 3 dX11_copy_7 rfl rfl ?_
    refine g_ni 11 h (fun q e => r_S X cd_X11_67_X11_isSheet ⟨rfl, rfl⟩ ⟨Nat.le_of_ble_eq_true rfl, Nat.le_of_ble_eq_true rfl⟩ (c_X11_isSheet e) PC_blind (pn_pre X) rfl rfl (Nat.le_of_ble_eq_true rfl) dX11_copy_8) rfl (fun v2 h => ?_)
    refine g_if_ne 17 14 X dX11_copy_11 (by decide) rfl h (fun h => ?_) (fun h => ?_)
    · refine g_aload_n 18 X 0 dX11_copy_17 rfl rfl ?_
      refine g_getr 21 X fl_X11_33_11 (o11 rfl) rfl dX11_copy_18 rfl ?_
      refine g_iload_n 22 X 1 dX11_copy_21 rfl rfl ?_
      refine g_aald (fn := fun p => 55 + 2 * p) 23 X arS rfl dX11_copy_22 h rfl (fun hv3 h => ?_)
      refine g_astore 25 X dX11_copy_23 (by decide) rfl ?_
      refine g_aload_n 26 X 1 dX11_copy_25 rfl rfl ?_
      refine g_getr 29 X fl_X11_33_11 (o11 rfl) rfl dX11_copy_26 rfl ?_
      refine g_iload_n 30 X 4 dX11_copy_29 rfl rfl ?_
      refine g_aald (fn := fun p => 55 + 2 * p) 31 X arS rfl dX11_copy_30 h rfl (fun hv4 h => ?_)
      refine g_astore 33 X dX11_copy_31 (by decide) rfl ?_
      refine g_aload 35 X 1 dX11_copy_33 rfl rfl ?_
      refine g_geti 38 X fl_X11_71_7 (o7 (kSh hv3)) rfl dX11_copy_35 h rfl (fun v5 h => ?_)
      refine g_if_ne 49 41 X dX11_copy_38 (by decide) rfl h (fun h => ?_) (fun h => ?_)
      · exact G.sub [2] rfl (b_X11_copy_49 X hr  _ h)
      · refine g_aload 43 X 0 dX11_copy_41 rfl rfl ?_
        refine g_geti 46 X fl_X11_71_7 (o7 (kSh hv4)) rfl dX11_copy_43 h rfl (fun v6 h => ?_)
        refine g_if_eq 55 49 X dX11_copy_46 (by decide) rfl h (fun h => ?_) (fun h => ?_)
        · refine g_aload 57 X 1 dX11_copy_55 rfl rfl ?_
          refine g_geti 60 X fl_X11_272_7 (o7 (kSh hv3)) rfl dX11_copy_57 h rfl (fun v7 h => ?_)
          refine g_aload 62 X 0 dX11_copy_60 rfl rfl ?_
          refine g_geti 65 X fl_X11_272_7 (o7 (kSh hv4)) rfl dX11_copy_62 h rfl (fun v8 h => ?_)
          refine g_icmp_eq 74 68 X dX11_copy_65 (by decide) rfl h (fun h => ?_) (fun h => ?_)
          · refine g_aload 76 X 1 dX11_copy_74 rfl rfl ?_
            refine g_iload_n 77 X 4 dX11_copy_76 rfl rfl ?_
            refine g_iload 79 X 7 dX11_copy_77 rfl rfl ?_
            refine g_ci 82 h (fun q e => r_V X cd_X11_275_X7_reaches_X7 ⟨rfl, rfl⟩ ⟨Nat.le_of_ble_eq_true rfl, Nat.le_of_ble_eq_true rfl⟩ (c_X7_reaches X.2.2.2.2 (kSh hv3) e) PC_blind (pc_pre X) (g_recv X (o7 (kSh hv3)) rfl) rfl rfl (Nat.le_of_ble_eq_true rfl) dX11_copy_79) rfl (fun v9 μ10 h => ?_)
            refine g_if_eq 97 85 X dX11_copy_82 (by decide) rfl h (fun h => ?_) (fun h => ?_)
            · exact G.sub [2] rfl (b_X11_copy_97 X hr  _ h)
            · refine g_aload 87 X 0 dX11_copy_85 rfl rfl ?_
              refine g_iload 89 X 6 dX11_copy_87 rfl rfl ?_
              refine g_iload 91 X 7 dX11_copy_89 rfl rfl ?_
              refine g_ci 94 h (fun q e => r_V X cd_X11_275_X7_reaches_X7 ⟨rfl, rfl⟩ ⟨Nat.le_of_ble_eq_true rfl, Nat.le_of_ble_eq_true rfl⟩ (c_X7_reaches X.2.2.2.2 (kSh hv4) e) PC_blind (pc_pre X) (g_recv X (o7 (kSh hv4)) rfl) rfl rfl (Nat.le_of_ble_eq_true rfl) dX11_copy_91) rfl (fun v11 μ12 h => ?_)
              refine g_if_ne 103 97 X dX11_copy_94 (by decide) rfl h (fun h => ?_) (fun h => ?_)
              · refine g_aload 105 X 1 dX11_copy_103 rfl rfl ?_
                refine g_getr 108 X fl_X11_83_7 (o7 (kSh hv3)) rfl dX11_copy_105 rfl ?_
                refine g_iload_n 109 X 4 dX11_copy_108 rfl rfl ?_
                refine g_aload 111 X 0 dX11_copy_109 rfl rfl ?_
                refine g_getr 114 X fl_X11_83_7 (o7 (kSh hv4)) rfl dX11_copy_111 rfl ?_
                refine g_iload 116 X 6 dX11_copy_114 rfl rfl ?_
                refine g_iload 118 X 7 dX11_copy_116 rfl rfl ?_
                refine g_copy 121 X (aiC (n := 90) (by decide) (k7_items (kSh hv3))) (aiC (n := 90) (by decide) (k7_items (kSh hv4))) ⟨Nat.le_of_ble_eq_true rfl, Nat.le_of_ble_eq_true rfl⟩ dX11_copy_118 h rfl (fun μ13 h => ?_)
                refine g_iconst 122 X dX11_copy_121 ic1 rfl ?_
                exact g_iret X hr dX11_copy_122 h
              · exact G.sub [2] rfl (b_X11_copy_97 X hr  _ h)
          · refine g_aload_n 69 X 2 dX11_copy_68 rfl rfl ?_
            refine g_iconst 70 X dX11_copy_69 ic4 rfl ?_
            refine g_ci 73 h (fun q e => r_V X cd_X11_75_X11_findingOf_X11 ⟨rfl, rfl⟩ ⟨Nat.le_of_ble_eq_true rfl, Nat.le_of_ble_eq_true rfl⟩ (c_X11_findingOf X.2.2.2.2  e) PC_blind (pc_pre X) (g_recv X (o11 rfl) rfl) rfl rfl (Nat.le_of_ble_eq_true rfl) dX11_copy_70) rfl (fun v14 μ15 h => ?_)
            exact g_iret X hr dX11_copy_73 h
        · exact G.sub [2] rfl (b_X11_copy_49 X hr  _ h)
    · refine g_bipush 16 X dX11_copy_14 bpm2 rfl ?_
      exact g_iret X hr dX11_copy_16 h
set_option maxRecDepth 100000 in
theorem c_X11_copy {l : Launch} {D : va_G} {ks : Nat → ClassId} {A : Nat → Prop} {ad : Nat → Nat} (hD : ∀ μ : Mem, va_D A (wsM 75 ad (shC ks ad) μ)) {F : Nat} {μ : Mem} {x1 : Int32} {x2 : Int32} {x3 : Int32} {x4 : Int32} {x5 : Int32} {r : Int32 × Mem}  (h : f_X11_copy F μ x1 x2 x3 x4 x5 = some r) : Met l yX11_copy (Cond.code yX11_copy cX11_copy 8 (some .int) :: wg) rm_X11_copy (PC D ks 75 ad (shC ks ad) μ [.ref (ad 0), .int x1, .int x2, .int x3, .int x4, .int x5]) (QI D 75 ad (shC ks ad) A r) 0 0 A := by
  refine met_of (by decide) (Nat.le_of_ble_eq_true rfl) hD ?_
  intro p e s m args below meth c X hr
  exact G.sub [0, 1, 2, 3, 4, 5] rfl (b_X11_copy_0 X hr  _ _ _ _ _ _ h)
abbrev rm_X11_write : Room := { frames := 2, cells := 0, slots := 0, locals := 42 }
set_option maxRecDepth 100000 in
set_option maxHeartbeats 4000000 in
theorem b_X11_write_88 {p : Program} {l : Launch} {e : Env} {s : State} {m : MethodId} {args : Array Value} {below : List Frame} {meth : Method} {c : Code} {D : va_G} {ks : Nat → ClassId} {A : Nat → Prop} {ad : Nat → Nat} (X : Cx p s m args meth c cX11_write 6 RX11 D ks A 75 ad (shC ks ad)) (hr : meth.sig.returnType = (some .int)) {F : Nat} {r : Int32 × Mem} {k47 : Mem → Int32 → Nat → Int32 → Int32 → Option (Int32 × Mem)} (hk47 : ∀ (μ : Mem) (x2 : Int32) (x3 : Nat) (x4 : Int32) (x5 : Int32), (kindC x3 = 107) → k47 μ x2 x3 x4 x5 = some r → G p l e rm_X11_write s m args below meth c D A 6 (MQ below (QI D 75 ad (shC ks ad) A r) args s 0 0 A) 75 ad (shC ks ad) μ 47 [(0, .ref (ad 0)), (2, .int x2), (3, .ref (ad x3)), (4, .int x4), (5, .int x5)] []) (μ : Mem) (x2 : Int32) (x3 : Nat) (x4 : Int32) (x5 : Int32) (kx3 : kindC x3 = 107) (h : f_X11_write_b88 F k47 μ x2 x3 x4 x5 = some r) : G p l e rm_X11_write s m args below meth c D A 6 (MQ below (QI D 75 ad (shC ks ad) A r) args s 0 0 A) 75 ad (shC ks ad) μ 88 [(0, .ref (ad 0)), (2, .int x2), (3, .ref (ad x3)), (4, .int x4), (5, .int x5)] [] := by
  refine g_iinc 91 X 4 dX11_write_88 ic1 rfl (by decide) rfl ?_
  refine g_goto 47 X dX11_write_91 (by decide) ?_
  exact G.sub [1, 2, 3, 4, 0] rfl (hk47 _ _ _ _ _ kx3 h)
set_option maxRecDepth 100000 in
set_option maxHeartbeats 4000000 in
theorem b_X11_write_47 {p : Program} {l : Launch} {e : Env} {s : State} {m : MethodId} {args : Array Value} {below : List Frame} {meth : Method} {c : Code} {D : va_G} {ks : Nat → ClassId} {A : Nat → Prop} {ad : Nat → Nat} (X : Cx p s m args meth c cX11_write 6 RX11 D ks A 75 ad (shC ks ad)) (hr : meth.sig.returnType = (some .int)) {F : Nat} {r : Int32 × Mem} : ∀ n : Nat, ∀ (μ : Mem) (x2 : Int32) (x3 : Nat) (x4 : Int32) (x5 : Int32), (kindC x3 = 107) → f_X11_write_b47 F  n μ x2 x3 x4 x5 = some r → G p l e rm_X11_write s m args below meth c D A 6 (MQ below (QI D 75 ad (shC ks ad) A r) args s 0 0 A) 75 ad (shC ks ad) μ 47 [(0, .ref (ad 0)), (2, .int x2), (3, .ref (ad x3)), (4, .int x4), (5, .int x5)] [] := by
  intro n
  induction n with
  | zero =>
    intro _ _ _ _ _ _ h
    cases h
  | succ n ih =>
    intro μ x2 x3 x4 x5 kx3 h
    refine g_iload 49 X 4 dX11_write_47 rfl rfl ?_
    refine g_aload_n 50 X 0 dX11_write_49 rfl rfl ?_
    refine g_getr 53 X fl_X11_10_11 (o11 rfl) rfl dX11_write_50 rfl ?_
    refine g_geti 56 X fl_X11_130_6 (o6 rfl) rfl dX11_write_53 h rfl (fun v1 h => ?_)
    refine g_icmp_ge 94 59 X dX11_write_56 (by decide) rfl h (fun h => ?_) (fun h => ?_)
    · refine g_iload 96 X 3 dX11_write_94 rfl rfl ?_
      exact g_iret X hr dX11_write_96 h
    · refine g_iload 61 X 3 dX11_write_59 rfl rfl ?_
      refine g_aload_n 62 X 2 dX11_write_61 rfl rfl ?_
      refine g_geti 65 X fl_X11_79_7 (o7 kx3) rfl dX11_write_62 h rfl (fun v2 h => ?_)
      refine g_icmp_ge 94 68 X dX11_write_65 (by decide) rfl h (fun h => ?_) (fun h => ?_)
      · refine g_iload 96 X 3 dX11_write_94 rfl rfl ?_
        exact g_iret X hr dX11_write_96 h
      · refine g_iload_n 69 X 1 dX11_write_68 rfl rfl ?_
        refine g_iload 71 X 4 dX11_write_69 rfl rfl ?_
        refine g_ni 74 h (fun q e => r_S X cd_X11_285_X11_isIn ⟨rfl, rfl⟩ ⟨Nat.le_of_ble_eq_true rfl, Nat.le_of_ble_eq_true rfl⟩ (c_X11_isIn e) PC_blind (pn_pre X) rfl rfl (Nat.le_of_ble_eq_true rfl) dX11_write_71) rfl (fun v3 h => ?_)
        refine g_if_eq 88 77 X dX11_write_74 (by decide) rfl h (fun h => ?_) (fun h => ?_)
        · exact G.sub [0, 1, 2, 3, 4] rfl (b_X11_write_88 X hr ih _ _ _ _ _ kx3 h)
        · refine g_aload_n 78 X 2 dX11_write_77 rfl rfl ?_
          refine g_iload 80 X 3 dX11_write_78 rfl rfl ?_
          refine g_iload 82 X 4 dX11_write_80 rfl rfl ?_
          refine g_cv 85 h (fun q e => r_V X cd_X11_265_X7_store_X7 ⟨rfl, rfl⟩ ⟨Nat.le_of_ble_eq_true rfl, Nat.le_of_ble_eq_true rfl⟩ (c_X7_store X.2.2.2.2 kx3 e) PC_blind (pc_pre X) (g_recv X (o7 kx3) rfl) rfl rfl (Nat.le_of_ble_eq_true rfl) dX11_write_82) rfl (fun _ μ4 h => ?_)
          refine g_iinc 88 X 3 dX11_write_85 ic1 rfl (by decide) rfl ?_
          exact G.sub [1, 2, 3, 0, 4] rfl (b_X11_write_88 X hr ih _ _ _ _ _ kx3 h)
set_option maxRecDepth 100000 in
set_option maxHeartbeats 4000000 in
theorem b_X11_write_0 {p : Program} {l : Launch} {e : Env} {s : State} {m : MethodId} {args : Array Value} {below : List Frame} {meth : Method} {c : Code} {D : va_G} {ks : Nat → ClassId} {A : Nat → Prop} {ad : Nat → Nat} (X : Cx p s m args meth c cX11_write 6 RX11 D ks A 75 ad (shC ks ad)) (hr : meth.sig.returnType = (some .int)) {F : Nat} {r : Int32 × Mem} (μ : Mem) (x1 : Int32) (x2 : Int32)  (h : f_X11_write F  μ x1 x2 = some r) : G p l e rm_X11_write s m args below meth c D A 6 (MQ below (QI D 75 ad (shC ks ad) A r) args s 0 0 A) 75 ad (shC ks ad) μ 0 [(0, .ref (ad 0)), (1, .int x1), (2, .int x2)] [] := by
  refine g_iload_n 1 X 1 dX11_write_0 rfl rfl ?_
  refine g_ni 4 h (fun q e => r_S X cd_X11_67_X11_isSheet ⟨rfl, rfl⟩ ⟨Nat.le_of_ble_eq_true rfl, Nat.le_of_ble_eq_true rfl⟩ (c_X11_isSheet e) PC_blind (pn_pre X) rfl rfl (Nat.le_of_ble_eq_true rfl) dX11_write_1) rfl (fun v1 h => ?_)
  refine g_if_eq 18 7 X dX11_write_4 (by decide) rfl h (fun h => ?_) (fun h => ?_)
  · refine g_bipush 20 X dX11_write_18 bpm2 rfl ?_
    exact g_iret X hr dX11_write_20 h
  · refine g_aload_n 8 X 0 dX11_write_7 rfl rfl ?_
    refine g_getr 11 X fl_X11_10_11 (o11 rfl) rfl dX11_write_8 rfl ?_
    refine g_iload_n 12 X 2 dX11_write_11 rfl rfl ?_
    refine g_ci 15 h (fun q e => r_V X cd_X11_186_X6_hasAll_X6 ⟨rfl, rfl⟩ ⟨Nat.le_of_ble_eq_true rfl, Nat.le_of_ble_eq_true rfl⟩ (c_X6_hasAll X.2.2.2.2  e) PC_blind (pc_pre X) (g_recv X (o6 rfl) rfl) rfl rfl (Nat.le_of_ble_eq_true rfl) dX11_write_12) rfl (fun v2 μ3 h => ?_)
    refine g_if_ne 21 18 X dX11_write_15 (by decide) rfl h (fun h => ?_) (fun h => ?_)
    · refine g_aload_n 22 X 0 dX11_write_21 rfl rfl ?_
      refine g_getr 25 X fl_X11_33_11 (o11 rfl) rfl dX11_write_22 rfl ?_
      refine g_iload_n 26 X 1 dX11_write_25 rfl rfl ?_
      refine g_aald (fn := fun p => 55 + 2 * p) 27 X arS rfl dX11_write_26 h rfl (fun hv4 h => ?_)
      refine g_astore_n 28 X dX11_write_27 (by decide) rfl ?_
      refine g_aload_n 29 X 0 dX11_write_28 rfl rfl ?_
      refine g_geti 32 X fl_X11_71_7 (o7 (kSh hv4)) rfl dX11_write_29 h rfl (fun v5 h => ?_)
      refine g_if_eq 41 35 X dX11_write_32 (by decide) rfl h (fun h => ?_) (fun h => ?_)
      · refine g_iconst 42 X dX11_write_41 ic0 rfl ?_
        refine g_istore 44 X dX11_write_42 (by decide) rfl ?_
        refine g_iconst 45 X dX11_write_44 ic0 rfl ?_
        refine g_istore 47 X dX11_write_45 (by decide) rfl ?_
        exact G.sub [3, 5, 2, 1, 0] rfl (b_X11_write_47 X hr  F _ _ _ _ _ (kSh hv4) h)
      · refine g_aload_n 36 X 1 dX11_write_35 rfl rfl ?_
        refine g_iconst 37 X dX11_write_36 ic1 rfl ?_
        refine g_ci 40 h (fun q e => r_V X cd_X11_75_X11_findingOf_X11 ⟨rfl, rfl⟩ ⟨Nat.le_of_ble_eq_true rfl, Nat.le_of_ble_eq_true rfl⟩ (c_X11_findingOf X.2.2.2.2  e) PC_blind (pc_pre X) (g_recv X (o11 rfl) rfl) rfl rfl (Nat.le_of_ble_eq_true rfl) dX11_write_37) rfl (fun v6 μ7 h => ?_)
        exact g_iret X hr dX11_write_40 h
    · refine g_bipush 20 X dX11_write_18 bpm2 rfl ?_
      exact g_iret X hr dX11_write_20 h
set_option maxRecDepth 100000 in
theorem c_X11_write {l : Launch} {D : va_G} {ks : Nat → ClassId} {A : Nat → Prop} {ad : Nat → Nat} (hD : ∀ μ : Mem, va_D A (wsM 75 ad (shC ks ad) μ)) {F : Nat} {μ : Mem} {x1 : Int32} {x2 : Int32} {r : Int32 × Mem}  (h : f_X11_write F μ x1 x2 = some r) : Met l yX11_write (Cond.code yX11_write cX11_write 6 (some .int) :: wg) rm_X11_write (PC D ks 75 ad (shC ks ad) μ [.ref (ad 0), .int x1, .int x2]) (QI D 75 ad (shC ks ad) A r) 0 0 A := by
  refine met_of (by decide) (Nat.le_of_ble_eq_true rfl) hD ?_
  intro p e s m args below meth c X hr
  exact G.sub [0, 1, 2] rfl (b_X11_write_0 X hr  _ _ _ h)
