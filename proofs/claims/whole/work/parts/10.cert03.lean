abbrev rm_X11_both : Room := { frames := 4, cells := 0, slots := 0, locals := 95 }
set_option maxRecDepth 100000 in
set_option maxHeartbeats 4000000 in
theorem b_X11_both_42 {p : Program} {l : Launch} {e : Env} {s : State} {m : MethodId} {args : Array Value} {below : List Frame} {meth : Method} {c : Code} {D : va_G} {ks : Nat → ClassId} {A : Nat → Prop} {ad : Nat → Nat} (X : Cx p s m args meth c cX11_both 6 RX11 D ks A 75 ad (shC ks ad)) (hr : meth.sig.returnType = (some .long)) {F : Nat} {r : Int64 × Mem} (μ : Mem)  (h : f_X11_both_b42 F  μ = some r) : G p l e rm_X11_both s m args below meth c D A 6 (MQ below (QL D 75 ad (shC ks ad) A r) args s 0 0 A) 75 ad (shC ks ad) μ 42 [] [] := by
  refine g_bipush 44 X dX11_both_42 bpm2 rfl ?_
  refine g_nl 47 h (fun q e => r_S X cd_X11_150_X11_asLong ⟨rfl, rfl⟩ ⟨Nat.le_of_ble_eq_true rfl, Nat.le_of_ble_eq_true rfl⟩ (c_X11_asLong e) PC_blind (pn_pre X) rfl rfl (Nat.le_of_ble_eq_true rfl) dX11_both_44) rfl (fun v1 h => ?_)
  exact g_lret X hr dX11_both_47 h
set_option maxRecDepth 100000 in
set_option maxHeartbeats 4000000 in
theorem b_X11_both_0 {p : Program} {l : Launch} {e : Env} {s : State} {m : MethodId} {args : Array Value} {below : List Frame} {meth : Method} {c : Code} {D : va_G} {ks : Nat → ClassId} {A : Nat → Prop} {ad : Nat → Nat} (X : Cx p s m args meth c cX11_both 6 RX11 D ks A 75 ad (shC ks ad)) (hr : meth.sig.returnType = (some .long)) {F : Nat} {r : Int64 × Mem} (μ : Mem) (x1 : Int32) (x2 : Int32) (x3 : Int32) (x4 : Int32)  (h : f_X11_both F  μ x1 x2 x3 x4 = some r) : G p l e rm_X11_both s m args below meth c D A 6 (MQ below (QL D 75 ad (shC ks ad) A r) args s 0 0 A) 75 ad (shC ks ad) μ 0 [(0, .ref (ad 0)), (1, .int x1), (2, .int x2), (3, .int x3), (4, .int x4)] [] := by
  refine g_iload_n 1 X 1 dX11_both_0 rfl rfl ?_
  refine g_ni 4 h (fun q e => r_S X cd_X11_133_X11_isPlan ⟨rfl, rfl⟩ ⟨Nat.le_of_ble_eq_true rfl, Nat.le_of_ble_eq_true rfl⟩ (c_X11_isPlan e) PC_blind (pn_pre X) rfl rfl (Nat.le_of_ble_eq_true rfl) dX11_both_1) rfl (fun v1 h => ?_)
  refine g_if_eq 42 7 X dX11_both_4 (by decide) rfl h (fun h => ?_) (fun h => ?_)
  · exact G.sub [] rfl (b_X11_both_42 X hr  _ h)
  · refine g_aload_n 8 X 0 dX11_both_7 rfl rfl ?_
    refine g_getr 11 X fl_X11_10_11 (o11 rfl) rfl dX11_both_8 rfl ?_
    refine g_iload_n 12 X 2 dX11_both_11 rfl rfl ?_
    refine g_ci 15 h (fun q e => r_V X cd_X11_87_X6_has_X6 ⟨rfl, rfl⟩ ⟨Nat.le_of_ble_eq_true rfl, Nat.le_of_ble_eq_true rfl⟩ (c_X6_has X.2.2.2.2  e) PC_blind (pc_pre X) (g_recv X (o6 rfl) rfl) rfl rfl (Nat.le_of_ble_eq_true rfl) dX11_both_12) rfl (fun v2 μ3 h => ?_)
    refine g_if_eq 42 18 X dX11_both_15 (by decide) rfl h (fun h => ?_) (fun h => ?_)
    · exact G.sub [] rfl (b_X11_both_42 X hr  _ h)
    · refine g_aload_n 19 X 0 dX11_both_18 rfl rfl ?_
      refine g_getr 22 X fl_X11_10_11 (o11 rfl) rfl dX11_both_19 rfl ?_
      refine g_iload_n 23 X 3 dX11_both_22 rfl rfl ?_
      refine g_ci 26 h (fun q e => r_V X cd_X11_87_X6_has_X6 ⟨rfl, rfl⟩ ⟨Nat.le_of_ble_eq_true rfl, Nat.le_of_ble_eq_true rfl⟩ (c_X6_has X.2.2.2.2  e) PC_blind (pc_pre X) (g_recv X (o6 rfl) rfl) rfl rfl (Nat.le_of_ble_eq_true rfl) dX11_both_23) rfl (fun v4 μ5 h => ?_)
      refine g_if_eq 42 29 X dX11_both_26 (by decide) rfl h (fun h => ?_) (fun h => ?_)
      · exact G.sub [] rfl (b_X11_both_42 X hr  _ h)
      · refine g_iload_n 30 X 2 dX11_both_29 rfl rfl ?_
        refine g_iload_n 31 X 3 dX11_both_30 rfl rfl ?_
        refine g_icmp_eq 42 34 X dX11_both_31 (by decide) rfl h (fun h => ?_) (fun h => ?_)
        · exact G.sub [] rfl (b_X11_both_42 X hr  _ h)
        · refine g_iload 36 X 4 dX11_both_34 rfl rfl ?_
          refine g_ni 39 h (fun q e => r_S X cd_X11_160_X11_isAboveOrBelow ⟨rfl, rfl⟩ ⟨Nat.le_of_ble_eq_true rfl, Nat.le_of_ble_eq_true rfl⟩ (c_X11_isAboveOrBelow e) PC_blind (pn_pre X) rfl rfl (Nat.le_of_ble_eq_true rfl) dX11_both_36) rfl (fun v6 h => ?_)
          refine g_if_ne 48 42 X dX11_both_39 (by decide) rfl h (fun h => ?_) (fun h => ?_)
          · refine g_aload_n 49 X 0 dX11_both_48 rfl rfl ?_
            refine g_getr 52 X fl_X11_27_11 (o11 rfl) rfl dX11_both_49 rfl ?_
            refine g_iload_n 53 X 1 dX11_both_52 rfl rfl ?_
            refine g_aald (fn := fun p => 18 + 9 * p) 54 X arP rfl dX11_both_53 h rfl (fun hv7 h => ?_)
            refine g_cr 57 h (fun q e => r_V X cd_X11_146_X5_possibleWay_X5 ⟨rfl, rfl⟩ ⟨Nat.le_of_ble_eq_true rfl, Nat.le_of_ble_eq_true rfl⟩ (c_X5_possibleWay X.2.2.2.2 (kPl hv7) e) PC_blind (pc_pre X) (g_recv X (o5 (kPl hv7)) rfl) rfl rfl (Nat.le_of_ble_eq_true rfl) dX11_both_54) rfl (fun v8 μ9 h => ?_)
            refine g_astoreq 59 X dX11_both_57 (by decide) rfl ?_
            refine g_aloadq 61 X 0 dX11_both_59 rfl rfl ?_
            refine g_ifnonnull 70 64 X dX11_both_61 (by decide) rfl h (fun y10 hy h2 => ?_) (fun hy h2 => ?_)
            · subst hy
              have h := h2
              refine g_aload 72 X 0 dX11_both_70 rfl rfl ?_
              refine g_iload_n 73 X 3 dX11_both_72 rfl rfl ?_
              refine g_iload_n 74 X 4 dX11_both_73 rfl rfl ?_
              refine g_aload_n 75 X 1 dX11_both_74 rfl rfl ?_
              refine g_getr 78 X fl_X11_54_11 (o11 rfl) rfl dX11_both_75 rfl ?_
              refine g_cv (rest := []) 81 h (fun q e => ?_) rfl (fun _ μ11 h => ?_)
              · rcases vdis_some e with ⟨kk, e⟩ | ⟨kk, e⟩ | ⟨kk, e⟩
                · exact r_A X cd_X11_170_X2_shareOfTwo_X2 ⟨rfl, rfl⟩ ⟨Nat.le_of_ble_eq_true rfl, Nat.le_of_ble_eq_true rfl⟩ (c_X2_shareOfTwo X.2.2.2.2 kk rfl e) PC_blind (pc_pre X) (g_recv X (o2 kk) rfl) rfl rfl (Nat.le_of_ble_eq_true rfl) dX11_both_78
                · exact r_A X cd_X11_170_X4_shareOfTwo_X4 ⟨rfl, rfl⟩ ⟨Nat.le_of_ble_eq_true rfl, Nat.le_of_ble_eq_true rfl⟩ (c_X4_shareOfTwo X.2.2.2.2 kk rfl e) PC_blind (pc_pre X) (g_recv X (o4 kk) rfl) rfl rfl (Nat.le_of_ble_eq_true rfl) dX11_both_78
                · exact r_A X cd_X11_170_X8_shareOfTwo_X8 ⟨rfl, rfl⟩ ⟨Nat.le_of_ble_eq_true rfl, Nat.le_of_ble_eq_true rfl⟩ (c_X8_shareOfTwo X.2.2.2.2 kk rfl e) PC_blind (pc_pre X) (g_recv X (o8 kk) rfl) rfl rfl (Nat.le_of_ble_eq_true rfl) dX11_both_78
              · refine g_aload_n 82 X 1 dX11_both_81 rfl rfl ?_
                refine g_getr 85 X fl_X11_54_11 (o11 rfl) rfl dX11_both_82 rfl ?_
                refine g_iload 87 X 5 dX11_both_85 rfl rfl ?_
                refine g_cl 90 h (fun q e => r_V X cd_X11_167_X1_told_X1 ⟨rfl, rfl⟩ ⟨Nat.le_of_ble_eq_true rfl, Nat.le_of_ble_eq_true rfl⟩ (c_X1_told X.2.2.2.2 rfl e) PC_blind (pc_pre X) (g_recv X (o1 rfl) rfl) rfl rfl (Nat.le_of_ble_eq_true rfl) dX11_both_87) rfl (fun v12 μ13 h => ?_)
                exact g_lret X hr dX11_both_90 h
            · subst hy
              have h := h2
              refine g_bipush 66 X dX11_both_64 bpm3 rfl ?_
              refine g_nl 69 h (fun q e => r_S X cd_X11_150_X11_asLong ⟨rfl, rfl⟩ ⟨Nat.le_of_ble_eq_true rfl, Nat.le_of_ble_eq_true rfl⟩ (c_X11_asLong e) PC_blind (pn_pre X) rfl rfl (Nat.le_of_ble_eq_true rfl) dX11_both_66) rfl (fun v14 h => ?_)
              exact g_lret X hr dX11_both_69 h
          · exact G.sub [] rfl (b_X11_both_42 X hr  _ h)
set_option maxRecDepth 100000 in
theorem c_X11_both {l : Launch} {D : va_G} {ks : Nat → ClassId} {A : Nat → Prop} {ad : Nat → Nat} (hD : ∀ μ : Mem, va_D A (wsM 75 ad (shC ks ad) μ)) {F : Nat} {μ : Mem} {x1 : Int32} {x2 : Int32} {x3 : Int32} {x4 : Int32} {r : Int64 × Mem}  (h : f_X11_both F μ x1 x2 x3 x4 = some r) : Met l yX11_both (Cond.code yX11_both cX11_both 6 (some .long) :: wg) rm_X11_both (PC D ks 75 ad (shC ks ad) μ [.ref (ad 0), .int x1, .int x2, .int x3, .int x4]) (QL D 75 ad (shC ks ad) A r) 0 0 A := by
  refine met_of (by decide) (Nat.le_of_ble_eq_true rfl) hD ?_
  intro p e s m args below meth c X hr
  exact G.sub [0, 1, 2, 3, 4] rfl (b_X11_both_0 X hr  _ _ _ _ _ h)
abbrev rm_X2_most : Room := { frames := 0, cells := 0, slots := 0, locals := 0 }
set_option maxRecDepth 100000 in
set_option maxHeartbeats 4000000 in
theorem b_X2_most_4 {p : Program} {l : Launch} {e : Env} {s : State} {m : MethodId} {args : Array Value} {below : List Frame} {meth : Method} {c : Code} {D : va_G} {ks : Nat → ClassId} {A : Nat → Prop} {ad : Nat → Nat} (X : Cx p s m args meth c cX2_most 3 RX2 D ks A 75 ad (shC ks ad)) (hr : meth.sig.returnType = (some .int)) {F : Nat} {r : Int32 × Mem} : ∀ n : Nat, ∀ (μ : Mem) (t : Nat) (x1 : Int32) (x2 : Int32), (kindC t = 102) → f_X2_most_b4 F  n μ t x1 x2 = some r → G p l e rm_X2_most s m args below meth c D A 3 (MQ below (QI D 75 ad (shC ks ad) A r) args s 0 0 A) 75 ad (shC ks ad) μ 4 [(0, .ref (ad t)), (1, .int x1), (2, .int x2)] [] := by
  intro n
  induction n with
  | zero =>
    intro _ _ _ _ _ h
    cases h
  | succ n ih =>
    intro μ t x1 x2 kt h
    refine g_iload_n 5 X 2 dX2_most_4 rfl rfl ?_
    refine g_aload_n 6 X 0 dX2_most_5 rfl rfl ?_
    refine g_geti 9 X fl_X2_15_2 (o2 kt) rfl dX2_most_6 h rfl (fun v1 h => ?_)
    refine g_icmp_ge 27 12 X dX2_most_9 (by decide) rfl h (fun h => ?_) (fun h => ?_)
    · refine g_iload_n 28 X 1 dX2_most_27 rfl rfl ?_
      exact g_iret X hr dX2_most_28 h
    · refine g_iload_n 13 X 1 dX2_most_12 rfl rfl ?_
      refine g_aload_n 14 X 0 dX2_most_13 rfl rfl ?_
      refine g_getr 17 X fl_X2_44_2 (o2 kt) rfl dX2_most_14 rfl ?_
      refine g_iload_n 18 X 2 dX2_most_17 rfl rfl ?_
      refine g_iald 19 X (aiC (n := 4) (by decide) (k2_numbers kt)) dX2_most_18 h rfl (fun v2 h => ?_)
      refine g_iadd 20 X dX2_most_19 rfl ?_
      refine g_topi h (fun v3 h => ?_)
      refine g_istore_n 21 X dX2_most_20 (by decide) rfl ?_
      refine g_iinc 24 X 2 dX2_most_21 ic1 rfl (by decide) rfl ?_
      refine g_goto 4 X dX2_most_24 (by decide) ?_
      exact G.sub [2, 1, 0] rfl (ih _ _ _ _ kt h)
set_option maxRecDepth 100000 in
set_option maxHeartbeats 4000000 in
theorem b_X2_most_0 {p : Program} {l : Launch} {e : Env} {s : State} {m : MethodId} {args : Array Value} {below : List Frame} {meth : Method} {c : Code} {D : va_G} {ks : Nat → ClassId} {A : Nat → Prop} {ad : Nat → Nat} (X : Cx p s m args meth c cX2_most 3 RX2 D ks A 75 ad (shC ks ad)) (hr : meth.sig.returnType = (some .int)) {F : Nat} {r : Int32 × Mem} (μ : Mem) (t : Nat) (kt : kindC t = 102) (h : f_X2_most F  μ t = some r) : G p l e rm_X2_most s m args below meth c D A 3 (MQ below (QI D 75 ad (shC ks ad) A r) args s 0 0 A) 75 ad (shC ks ad) μ 0 [(0, .ref (ad t))] [] := by
  refine g_iconst 1 X dX2_most_0 ic0 rfl ?_
  refine g_istore_n 2 X dX2_most_1 (by decide) rfl ?_
  refine g_iconst 3 X dX2_most_2 ic0 rfl ?_
  refine g_istore_n 4 X dX2_most_3 (by decide) rfl ?_
  exact G.sub [2, 1, 0] rfl (b_X2_most_4 X hr  F _ _ _ _ kt h)
set_option maxRecDepth 100000 in
theorem c_X2_most {l : Launch} {D : va_G} {ks : Nat → ClassId} {A : Nat → Prop} {ad : Nat → Nat} (hD : ∀ μ : Mem, va_D A (wsM 75 ad (shC ks ad) μ)) {F : Nat} {μ : Mem} {t : Nat} {r : Int32 × Mem} (kt : kindC t = 102) (h : f_X2_most F μ t = some r) : Met l yX2_most (Cond.code yX2_most cX2_most 3 (some .int) :: wg) rm_X2_most (PC D ks 75 ad (shC ks ad) μ [.ref (ad t)]) (QI D 75 ad (shC ks ad) A r) 0 0 A := by
  refine met_of (by decide) (Nat.le_of_ble_eq_true rfl) hD ?_
  intro p e s m args below meth c X hr
  exact G.sub [0] rfl (b_X2_most_0 X hr  _ _ kt h)
abbrev rm_X2_fewest : Room := { frames := 1, cells := 0, slots := 0, locals := 22 }
set_option maxRecDepth 100000 in
set_option maxHeartbeats 4000000 in
theorem b_X2_fewest_0 {p : Program} {l : Launch} {e : Env} {s : State} {m : MethodId} {args : Array Value} {below : List Frame} {meth : Method} {c : Code} {D : va_G} {ks : Nat → ClassId} {A : Nat → Prop} {ad : Nat → Nat} (X : Cx p s m args meth c cX2_fewest 1 RX2 D ks A 75 ad (shC ks ad)) (hr : meth.sig.returnType = (some .int)) {F : Nat} {r : Int32 × Mem} (μ : Mem) (t : Nat) (kt : kindC t = 102) (h : f_X2_fewest F  μ t = some r) : G p l e rm_X2_fewest s m args below meth c D A 1 (MQ below (QI D 75 ad (shC ks ad) A r) args s 0 0 A) 75 ad (shC ks ad) μ 0 [(0, .ref (ad t))] [] := by
  refine g_aload_n 1 X 0 dX2_fewest_0 rfl rfl ?_
  refine g_ci 4 h (fun q e => r_V X cd_X2_63_X2_most_X2 ⟨rfl, rfl⟩ ⟨Nat.le_of_ble_eq_true rfl, Nat.le_of_ble_eq_true rfl⟩ (c_X2_most X.2.2.2.2 kt e) PC_blind (pc_pre X) (g_recv X (o2 kt) rfl) rfl rfl (Nat.le_of_ble_eq_true rfl) dX2_fewest_1) rfl (fun v1 μ2 h => ?_)
  exact g_iret X hr dX2_fewest_4 h
set_option maxRecDepth 100000 in
theorem c_X2_fewest {l : Launch} {D : va_G} {ks : Nat → ClassId} {A : Nat → Prop} {ad : Nat → Nat} (hD : ∀ μ : Mem, va_D A (wsM 75 ad (shC ks ad) μ)) {F : Nat} {μ : Mem} {t : Nat} {r : Int32 × Mem} (kt : kindC t = 102) (h : f_X2_fewest F μ t = some r) : Met l yX2_fewest (Cond.code yX2_fewest cX2_fewest 1 (some .int) :: wg) rm_X2_fewest (PC D ks 75 ad (shC ks ad) μ [.ref (ad t)]) (QI D 75 ad (shC ks ad) A r) 0 0 A := by
  refine met_of (by decide) (Nat.le_of_ble_eq_true rfl) hD ?_
  intro p e s m args below meth c X hr
  exact G.sub [0] rfl (b_X2_fewest_0 X hr  _ _ kt h)
abbrev rm_X4_fewest : Room := { frames := 3, cells := 0, slots := 0, locals := 68 }
set_option maxRecDepth 100000 in
set_option maxHeartbeats 4000000 in
theorem b_X4_fewest_10 {p : Program} {l : Launch} {e : Env} {s : State} {m : MethodId} {args : Array Value} {below : List Frame} {meth : Method} {c : Code} {D : va_G} {ks : Nat → ClassId} {A : Nat → Prop} {ad : Nat → Nat} (X : Cx p s m args meth c cX4_fewest 4 RX4 D ks A 75 ad (shC ks ad)) (hr : meth.sig.returnType = (some .int)) {F : Nat} {r : Int32 × Mem} : ∀ n : Nat, ∀ (μ : Mem) (t : Nat) (x1 : Int32) (x2 : Int32) (x3 : Int32), (kindC t = 104) → f_X4_fewest_b10 F  n μ t x1 x2 x3 = some r → G p l e rm_X4_fewest s m args below meth c D A 4 (MQ below (QI D 75 ad (shC ks ad) A r) args s 0 0 A) 75 ad (shC ks ad) μ 10 [(0, .ref (ad t)), (1, .int x1), (2, .int x2), (3, .int x3)] [] := by
  intro n
  induction n with
  | zero =>
    intro _ _ _ _ _ _ h
    cases h
  | succ n ih =>
    intro μ t x1 x2 x3 kt h
    refine g_iload_n 11 X 3 dX4_fewest_10 rfl rfl ?_
    refine g_iload_n 12 X 1 dX4_fewest_11 rfl rfl ?_
    refine g_icmp_ge 34 15 X dX4_fewest_12 (by decide) rfl h (fun h => ?_) (fun h => ?_)
    · refine g_iload_n 35 X 2 dX4_fewest_34 rfl rfl ?_
      exact g_iret X hr dX4_fewest_35 h
    · refine g_iload_n 16 X 2 dX4_fewest_15 rfl rfl ?_
      refine g_aload_n 17 X 0 dX4_fewest_16 rfl rfl ?_
      refine g_iload_n 18 X 3 dX4_fewest_17 rfl rfl ?_
      refine g_ci 21 h (fun q e => r_V X cd_X4_77_X4_drawAt_X4 ⟨rfl, rfl⟩ ⟨Nat.le_of_ble_eq_true rfl, Nat.le_of_ble_eq_true rfl⟩ (c_X4_drawAt X.2.2.2.2 kt e) PC_blind (pc_pre X) (g_recv X (o4 kt) rfl) rfl rfl (Nat.le_of_ble_eq_true rfl) dX4_fewest_18) rfl (fun v1 μ2 h => ?_)
      refine g_ni 24 h (fun q e => r_S X cd_X4_80_J6_bitCount_0f7a4 ⟨rfl, rfl⟩ ⟨Nat.le_of_ble_eq_true rfl, Nat.le_of_ble_eq_true rfl⟩ (c_J6_bitCount_0f7a4 e) PC_blind (pn_pre X) rfl rfl (Nat.le_of_ble_eq_true rfl) dX4_fewest_21) rfl (fun v3 h => ?_)
      refine g_mmin 27 X m668 ⟨Nat.le_of_ble_eq_true rfl, Nat.le_of_ble_eq_true rfl⟩ dX4_fewest_24 h rfl (fun v4 h => ?_)
      refine g_istore_n 28 X dX4_fewest_27 (by decide) rfl ?_
      refine g_iinc 31 X 3 dX4_fewest_28 ic1 rfl (by decide) rfl ?_
      refine g_goto 10 X dX4_fewest_31 (by decide) ?_
      exact G.sub [2, 3, 1, 0] rfl (ih _ _ _ _ _ kt h)
set_option maxRecDepth 100000 in
set_option maxHeartbeats 4000000 in
theorem b_X4_fewest_0 {p : Program} {l : Launch} {e : Env} {s : State} {m : MethodId} {args : Array Value} {below : List Frame} {meth : Method} {c : Code} {D : va_G} {ks : Nat → ClassId} {A : Nat → Prop} {ad : Nat → Nat} (X : Cx p s m args meth c cX4_fewest 4 RX4 D ks A 75 ad (shC ks ad)) (hr : meth.sig.returnType = (some .int)) {F : Nat} {r : Int32 × Mem} (μ : Mem) (t : Nat) (kt : kindC t = 104) (h : f_X4_fewest F  μ t = some r) : G p l e rm_X4_fewest s m args below meth c D A 4 (MQ below (QI D 75 ad (shC ks ad) A r) args s 0 0 A) 75 ad (shC ks ad) μ 0 [(0, .ref (ad t))] [] := by
  refine g_aload_n 1 X 0 dX4_fewest_0 rfl rfl ?_
  refine g_ci 4 h (fun q e => r_V X cd_X4_15_X4_pointCount_X4 ⟨rfl, rfl⟩ ⟨Nat.le_of_ble_eq_true rfl, Nat.le_of_ble_eq_true rfl⟩ (c_X4_pointCount X.2.2.2.2 kt e) PC_blind (pc_pre X) (g_recv X (o4 kt) rfl) rfl rfl (Nat.le_of_ble_eq_true rfl) dX4_fewest_1) rfl (fun v1 μ2 h => ?_)
  refine g_istore_n 5 X dX4_fewest_4 (by decide) rfl ?_
  refine g_bipush 7 X dX4_fewest_5 bp30 rfl ?_
  refine g_istore_n 8 X dX4_fewest_7 (by decide) rfl ?_
  refine g_iconst 9 X dX4_fewest_8 ic0 rfl ?_
  refine g_istore_n 10 X dX4_fewest_9 (by decide) rfl ?_
  exact G.sub [3, 2, 1, 0] rfl (b_X4_fewest_10 X hr  F _ _ _ _ _ kt h)
set_option maxRecDepth 100000 in
theorem c_X4_fewest {l : Launch} {D : va_G} {ks : Nat → ClassId} {A : Nat → Prop} {ad : Nat → Nat} (hD : ∀ μ : Mem, va_D A (wsM 75 ad (shC ks ad) μ)) {F : Nat} {μ : Mem} {t : Nat} {r : Int32 × Mem} (kt : kindC t = 104) (h : f_X4_fewest F μ t = some r) : Met l yX4_fewest (Cond.code yX4_fewest cX4_fewest 4 (some .int) :: wg) rm_X4_fewest (PC D ks 75 ad (shC ks ad) μ [.ref (ad t)]) (QI D 75 ad (shC ks ad) A r) 0 0 A := by
  refine met_of (by decide) (Nat.le_of_ble_eq_true rfl) hD ?_
  intro p e s m args below meth c X hr
  exact G.sub [0] rfl (b_X4_fewest_0 X hr  _ _ kt h)
abbrev rm_X8_clustersThatGive : Room := { frames := 3, cells := 0, slots := 0, locals := 62 }
set_option maxRecDepth 100000 in
set_option maxHeartbeats 4000000 in
theorem b_X8_clustersThatGive_22 {p : Program} {l : Launch} {e : Env} {s : State} {m : MethodId} {args : Array Value} {below : List Frame} {meth : Method} {c : Code} {D : va_G} {ks : Nat → ClassId} {A : Nat → Prop} {ad : Nat → Nat} (X : Cx p s m args meth c cX8_clustersThatGive 4 RX8 D ks A 75 ad (shC ks ad)) (hr : meth.sig.returnType = (some .int)) {F : Nat} {r : Int32 × Mem} {k4 : Mem → Nat → Int32 → Int32 → Int32 → Option (Int32 × Mem)} (hk4 : ∀ (μ : Mem) (t : Nat) (x1 : Int32) (x2 : Int32) (x3 : Int32), (kindC t = 108) → k4 μ t x1 x2 x3 = some r → G p l e rm_X8_clustersThatGive s m args below meth c D A 4 (MQ below (QI D 75 ad (shC ks ad) A r) args s 0 0 A) 75 ad (shC ks ad) μ 4 [(0, .ref (ad t)), (1, .int x1), (2, .int x2), (3, .int x3)] []) (μ : Mem) (t : Nat) (x1 : Int32) (x2 : Int32) (x3 : Int32) (kt : kindC t = 108) (h : f_X8_clustersThatGive_b22 F k4 μ t x1 x2 x3 = some r) : G p l e rm_X8_clustersThatGive s m args below meth c D A 4 (MQ below (QI D 75 ad (shC ks ad) A r) args s 0 0 A) 75 ad (shC ks ad) μ 22 [(0, .ref (ad t)), (1, .int x1), (2, .int x2), (3, .int x3)] [] := by
  refine g_iinc 25 X 3 dX8_clustersThatGive_22 ic1 rfl (by decide) rfl ?_
  refine g_goto 4 X dX8_clustersThatGive_25 (by decide) ?_
  exact G.sub [1, 2, 3, 0] rfl (hk4 _ _ _ _ _ kt h)
set_option maxRecDepth 100000 in
set_option maxHeartbeats 4000000 in
theorem b_X8_clustersThatGive_4 {p : Program} {l : Launch} {e : Env} {s : State} {m : MethodId} {args : Array Value} {below : List Frame} {meth : Method} {c : Code} {D : va_G} {ks : Nat → ClassId} {A : Nat → Prop} {ad : Nat → Nat} (X : Cx p s m args meth c cX8_clustersThatGive 4 RX8 D ks A 75 ad (shC ks ad)) (hr : meth.sig.returnType = (some .int)) {F : Nat} {r : Int32 × Mem} : ∀ n : Nat, ∀ (μ : Mem) (t : Nat) (x1 : Int32) (x2 : Int32) (x3 : Int32), (kindC t = 108) → f_X8_clustersThatGive_b4 F  n μ t x1 x2 x3 = some r → G p l e rm_X8_clustersThatGive s m args below meth c D A 4 (MQ below (QI D 75 ad (shC ks ad) A r) args s 0 0 A) 75 ad (shC ks ad) μ 4 [(0, .ref (ad t)), (1, .int x1), (2, .int x2), (3, .int x3)] [] := by
  intro n
  induction n with
  | zero =>
    intro _ _ _ _ _ _ h
    cases h
  | succ n ih =>
    intro μ t x1 x2 x3 kt h
    refine g_iload_n 5 X 3 dX8_clustersThatGive_4 rfl rfl ?_
    refine g_bipush 7 X dX8_clustersThatGive_5 bp8 rfl ?_
    refine g_icmp_ge 28 10 X dX8_clustersThatGive_7 (by decide) rfl h (fun h => ?_) (fun h => ?_)
    · refine g_iload_n 29 X 2 dX8_clustersThatGive_28 rfl rfl ?_
      exact g_iret X hr dX8_clustersThatGive_29 h
    · refine g_aload_n 11 X 0 dX8_clustersThatGive_10 rfl rfl ?_
      refine g_iload_n 12 X 3 dX8_clustersThatGive_11 rfl rfl ?_
      refine g_ci 15 h (fun q e => r_V X cd_X8_55_X8_takenOf_X8 ⟨rfl, rfl⟩ ⟨Nat.le_of_ble_eq_true rfl, Nat.le_of_ble_eq_true rfl⟩ (c_X8_takenOf X.2.2.2.2 kt e) PC_blind (pc_pre X) (g_recv X (o8 kt) rfl) rfl rfl (Nat.le_of_ble_eq_true rfl) dX8_clustersThatGive_12) rfl (fun v1 μ2 h => ?_)
      refine g_iload_n 16 X 1 dX8_clustersThatGive_15 rfl rfl ?_
      refine g_icmp_ne 22 19 X dX8_clustersThatGive_16 (by decide) rfl h (fun h => ?_) (fun h => ?_)
      · exact G.sub [0, 1, 2, 3] rfl (b_X8_clustersThatGive_22 X hr ih _ _ _ _ _ kt h)
      · refine g_iinc 22 X 2 dX8_clustersThatGive_19 ic1 rfl (by decide) rfl ?_
        exact G.sub [1, 2, 0, 3] rfl (b_X8_clustersThatGive_22 X hr ih _ _ _ _ _ kt h)
set_option maxRecDepth 100000 in
set_option maxHeartbeats 4000000 in
theorem b_X8_clustersThatGive_0 {p : Program} {l : Launch} {e : Env} {s : State} {m : MethodId} {args : Array Value} {below : List Frame} {meth : Method} {c : Code} {D : va_G} {ks : Nat → ClassId} {A : Nat → Prop} {ad : Nat → Nat} (X : Cx p s m args meth c cX8_clustersThatGive 4 RX8 D ks A 75 ad (shC ks ad)) (hr : meth.sig.returnType = (some .int)) {F : Nat} {r : Int32 × Mem} (μ : Mem) (t : Nat) (x1 : Int32) (kt : kindC t = 108) (h : f_X8_clustersThatGive F  μ t x1 = some r) : G p l e rm_X8_clustersThatGive s m args below meth c D A 4 (MQ below (QI D 75 ad (shC ks ad) A r) args s 0 0 A) 75 ad (shC ks ad) μ 0 [(0, .ref (ad t)), (1, .int x1)] [] := by
  refine g_iconst 1 X dX8_clustersThatGive_0 ic0 rfl ?_
  refine g_istore_n 2 X dX8_clustersThatGive_1 (by decide) rfl ?_
  refine g_iconst 3 X dX8_clustersThatGive_2 ic0 rfl ?_
  refine g_istore_n 4 X dX8_clustersThatGive_3 (by decide) rfl ?_
  exact G.sub [2, 3, 1, 0] rfl (b_X8_clustersThatGive_4 X hr  F _ _ _ _ _ kt h)
set_option maxRecDepth 100000 in
theorem c_X8_clustersThatGive {l : Launch} {D : va_G} {ks : Nat → ClassId} {A : Nat → Prop} {ad : Nat → Nat} (hD : ∀ μ : Mem, va_D A (wsM 75 ad (shC ks ad) μ)) {F : Nat} {μ : Mem} {t : Nat} {x1 : Int32} {r : Int32 × Mem} (kt : kindC t = 108) (h : f_X8_clustersThatGive F μ t x1 = some r) : Met l yX8_clustersThatGive (Cond.code yX8_clustersThatGive cX8_clustersThatGive 4 (some .int) :: wg) rm_X8_clustersThatGive (PC D ks 75 ad (shC ks ad) μ [.ref (ad t), .int x1]) (QI D 75 ad (shC ks ad) A r) 0 0 A := by
  refine met_of (by decide) (Nat.le_of_ble_eq_true rfl) hD ?_
  intro p e s m args below meth c X hr
  exact G.sub [0, 1] rfl (b_X8_clustersThatGive_0 X hr  _ _ _ kt h)
abbrev rm_X8_fewest : Room := { frames := 4, cells := 0, slots := 0, locals := 85 }
set_option maxRecDepth 100000 in
set_option maxHeartbeats 4000000 in
theorem b_X8_fewest_11 {p : Program} {l : Launch} {e : Env} {s : State} {m : MethodId} {args : Array Value} {below : List Frame} {meth : Method} {c : Code} {D : va_G} {ks : Nat → ClassId} {A : Nat → Prop} {ad : Nat → Nat} (X : Cx p s m args meth c cX8_fewest 5 RX8 D ks A 75 ad (shC ks ad)) (hr : meth.sig.returnType = (some .int)) {F : Nat} {r : Int32 × Mem} : ∀ n : Nat, ∀ (μ : Mem) (t : Nat) (x1 : Int32) (x2 : Int32) (x3 : Int32), (kindC t = 108) → f_X8_fewest_b11 F  n μ t x1 x2 x3 = some r → G p l e rm_X8_fewest s m args below meth c D A 5 (MQ below (QI D 75 ad (shC ks ad) A r) args s 0 0 A) 75 ad (shC ks ad) μ 11 [(0, .ref (ad t)), (1, .int x1), (2, .int x2), (3, .int x3)] [] := by
  intro n
  induction n with
  | zero =>
    intro _ _ _ _ _ _ h
    cases h
  | succ n ih =>
    intro μ t x1 x2 x3 kt h
    refine g_iload_n 12 X 3 dX8_fewest_11 rfl rfl ?_
    refine g_bipush 14 X dX8_fewest_12 bp30 rfl ?_
    refine g_icmp_gt 46 17 X dX8_fewest_14 (by decide) rfl h (fun h => ?_) (fun h => ?_)
    · refine g_iload_n 47 X 1 dX8_fewest_46 rfl rfl ?_
      exact g_iret X hr dX8_fewest_47 h
    · refine g_iload_n 18 X 2 dX8_fewest_17 rfl rfl ?_
      refine g_aload_n 19 X 0 dX8_fewest_18 rfl rfl ?_
      refine g_iload_n 20 X 3 dX8_fewest_19 rfl rfl ?_
      refine g_ci 23 h (fun q e => r_V X cd_X8_71_X8_clustersThatGive_X8 ⟨rfl, rfl⟩ ⟨Nat.le_of_ble_eq_true rfl, Nat.le_of_ble_eq_true rfl⟩ (c_X8_clustersThatGive X.2.2.2.2 kt e) PC_blind (pc_pre X) (g_recv X (o8 kt) rfl) rfl rfl (Nat.le_of_ble_eq_true rfl) dX8_fewest_20) rfl (fun v1 μ2 h => ?_)
      refine g_mmin 26 X m632 ⟨Nat.le_of_ble_eq_true rfl, Nat.le_of_ble_eq_true rfl⟩ dX8_fewest_23 h rfl (fun v3 h => ?_)
      refine g_istore 28 X dX8_fewest_26 (by decide) rfl ?_
      refine g_iload_n 29 X 2 dX8_fewest_28 rfl rfl ?_
      refine g_iload 31 X 0 dX8_fewest_29 rfl rfl ?_
      refine g_iload_n 32 X 4 dX8_fewest_31 rfl rfl ?_
      refine g_imul 33 X dX8_fewest_32 rfl ?_
      refine g_iadd 34 X dX8_fewest_33 rfl ?_
      refine g_topi h (fun v4 h => ?_)
      refine g_istore_n 35 X dX8_fewest_34 (by decide) rfl ?_
      refine g_iload_n 36 X 3 dX8_fewest_35 rfl rfl ?_
      refine g_iload 38 X 1 dX8_fewest_36 rfl rfl ?_
      refine g_isub 39 X dX8_fewest_38 rfl ?_
      refine g_topi h (fun v5 h => ?_)
      refine g_istore_n 40 X dX8_fewest_39 (by decide) rfl ?_
      refine g_iinc 43 X 4 dX8_fewest_40 ic1 rfl (by decide) rfl ?_
      refine g_goto 11 X dX8_fewest_43 (by decide) ?_
      exact G.sub [4, 2, 1, 0] rfl (ih _ _ _ _ _ kt h)
set_option maxRecDepth 100000 in
set_option maxHeartbeats 4000000 in
theorem b_X8_fewest_0 {p : Program} {l : Launch} {e : Env} {s : State} {m : MethodId} {args : Array Value} {below : List Frame} {meth : Method} {c : Code} {D : va_G} {ks : Nat → ClassId} {A : Nat → Prop} {ad : Nat → Nat} (X : Cx p s m args meth c cX8_fewest 5 RX8 D ks A 75 ad (shC ks ad)) (hr : meth.sig.returnType = (some .int)) {F : Nat} {r : Int32 × Mem} (μ : Mem) (t : Nat) (kt : kindC t = 108) (h : f_X8_fewest F  μ t = some r) : G p l e rm_X8_fewest s m args below meth c D A 5 (MQ below (QI D 75 ad (shC ks ad) A r) args s 0 0 A) 75 ad (shC ks ad) μ 0 [(0, .ref (ad t))] [] := by
  refine g_iconst 1 X dX8_fewest_0 ic0 rfl ?_
  refine g_istore_n 2 X dX8_fewest_1 (by decide) rfl ?_
  refine g_aload_n 3 X 1 dX8_fewest_2 rfl rfl ?_
  refine g_getr 6 X fl_X8_35_8 (o8 kt) rfl dX8_fewest_3 rfl ?_
  refine g_iconst 7 X dX8_fewest_6 ic0 rfl ?_
  refine g_iald 8 X (aiC (n := 4) (by decide) (k8_numbers kt)) dX8_fewest_7 h rfl (fun v1 h => ?_)
  refine g_istore_n 9 X dX8_fewest_8 (by decide) rfl ?_
  refine g_iconst 10 X dX8_fewest_9 ic1 rfl ?_
  refine g_istore_n 11 X dX8_fewest_10 (by decide) rfl ?_
  exact G.sub [3, 2, 1, 0] rfl (b_X8_fewest_11 X hr  F _ _ _ _ _ kt h)
set_option maxRecDepth 100000 in
theorem c_X8_fewest {l : Launch} {D : va_G} {ks : Nat → ClassId} {A : Nat → Prop} {ad : Nat → Nat} (hD : ∀ μ : Mem, va_D A (wsM 75 ad (shC ks ad) μ)) {F : Nat} {μ : Mem} {t : Nat} {r : Int32 × Mem} (kt : kindC t = 108) (h : f_X8_fewest F μ t = some r) : Met l yX8_fewest (Cond.code yX8_fewest cX8_fewest 5 (some .int) :: wg) rm_X8_fewest (PC D ks 75 ad (shC ks ad) μ [.ref (ad t)]) (QI D 75 ad (shC ks ad) A r) 0 0 A := by
  refine met_of (by decide) (Nat.le_of_ble_eq_true rfl) hD ?_
  intro p e s m args below meth c X hr
  exact G.sub [0] rfl (b_X8_fewest_0 X hr  _ _ kt h)
abbrev rm_X4_most : Room := { frames := 3, cells := 0, slots := 0, locals := 68 }
set_option maxRecDepth 100000 in
set_option maxHeartbeats 4000000 in
theorem b_X4_most_9 {p : Program} {l : Launch} {e : Env} {s : State} {m : MethodId} {args : Array Value} {below : List Frame} {meth : Method} {c : Code} {D : va_G} {ks : Nat → ClassId} {A : Nat → Prop} {ad : Nat → Nat} (X : Cx p s m args meth c cX4_most 4 RX4 D ks A 75 ad (shC ks ad)) (hr : meth.sig.returnType = (some .int)) {F : Nat} {r : Int32 × Mem} : ∀ n : Nat, ∀ (μ : Mem) (t : Nat) (x1 : Int32) (x2 : Int32) (x3 : Int32), (kindC t = 104) → f_X4_most_b9 F  n μ t x1 x2 x3 = some r → G p l e rm_X4_most s m args below meth c D A 4 (MQ below (QI D 75 ad (shC ks ad) A r) args s 0 0 A) 75 ad (shC ks ad) μ 9 [(0, .ref (ad t)), (1, .int x1), (2, .int x2), (3, .int x3)] [] := by
  intro n
  induction n with
  | zero =>
    intro _ _ _ _ _ _ h
    cases h
  | succ n ih =>
    intro μ t x1 x2 x3 kt h
    refine g_iload_n 10 X 3 dX4_most_9 rfl rfl ?_
    refine g_iload_n 11 X 1 dX4_most_10 rfl rfl ?_
    refine g_icmp_ge 33 14 X dX4_most_11 (by decide) rfl h (fun h => ?_) (fun h => ?_)
    · refine g_iload_n 34 X 2 dX4_most_33 rfl rfl ?_
      exact g_iret X hr dX4_most_34 h
    · refine g_iload_n 15 X 2 dX4_most_14 rfl rfl ?_
      refine g_aload_n 16 X 0 dX4_most_15 rfl rfl ?_
      refine g_iload_n 17 X 3 dX4_most_16 rfl rfl ?_
      refine g_ci 20 h (fun q e => r_V X cd_X4_77_X4_drawAt_X4 ⟨rfl, rfl⟩ ⟨Nat.le_of_ble_eq_true rfl, Nat.le_of_ble_eq_true rfl⟩ (c_X4_drawAt X.2.2.2.2 kt e) PC_blind (pc_pre X) (g_recv X (o4 kt) rfl) rfl rfl (Nat.le_of_ble_eq_true rfl) dX4_most_17) rfl (fun v1 μ2 h => ?_)
      refine g_ni 23 h (fun q e => r_S X cd_X4_80_J6_bitCount_0f7a4 ⟨rfl, rfl⟩ ⟨Nat.le_of_ble_eq_true rfl, Nat.le_of_ble_eq_true rfl⟩ (c_J6_bitCount_0f7a4 e) PC_blind (pn_pre X) rfl rfl (Nat.le_of_ble_eq_true rfl) dX4_most_20) rfl (fun v3 h => ?_)
      refine g_mmax 26 X m669 ⟨Nat.le_of_ble_eq_true rfl, Nat.le_of_ble_eq_true rfl⟩ dX4_most_23 h rfl (fun v4 h => ?_)
      refine g_istore_n 27 X dX4_most_26 (by decide) rfl ?_
      refine g_iinc 30 X 3 dX4_most_27 ic1 rfl (by decide) rfl ?_
      refine g_goto 9 X dX4_most_30 (by decide) ?_
      exact G.sub [2, 3, 1, 0] rfl (ih _ _ _ _ _ kt h)
set_option maxRecDepth 100000 in
set_option maxHeartbeats 4000000 in
theorem b_X4_most_0 {p : Program} {l : Launch} {e : Env} {s : State} {m : MethodId} {args : Array Value} {below : List Frame} {meth : Method} {c : Code} {D : va_G} {ks : Nat → ClassId} {A : Nat → Prop} {ad : Nat → Nat} (X : Cx p s m args meth c cX4_most 4 RX4 D ks A 75 ad (shC ks ad)) (hr : meth.sig.returnType = (some .int)) {F : Nat} {r : Int32 × Mem} (μ : Mem) (t : Nat) (kt : kindC t = 104) (h : f_X4_most F  μ t = some r) : G p l e rm_X4_most s m args below meth c D A 4 (MQ below (QI D 75 ad (shC ks ad) A r) args s 0 0 A) 75 ad (shC ks ad) μ 0 [(0, .ref (ad t))] [] := by
  refine g_aload_n 1 X 0 dX4_most_0 rfl rfl ?_
  refine g_ci 4 h (fun q e => r_V X cd_X4_15_X4_pointCount_X4 ⟨rfl, rfl⟩ ⟨Nat.le_of_ble_eq_true rfl, Nat.le_of_ble_eq_true rfl⟩ (c_X4_pointCount X.2.2.2.2 kt e) PC_blind (pc_pre X) (g_recv X (o4 kt) rfl) rfl rfl (Nat.le_of_ble_eq_true rfl) dX4_most_1) rfl (fun v1 μ2 h => ?_)
  refine g_istore_n 5 X dX4_most_4 (by decide) rfl ?_
  refine g_iconst 6 X dX4_most_5 ic0 rfl ?_
  refine g_istore_n 7 X dX4_most_6 (by decide) rfl ?_
  refine g_iconst 8 X dX4_most_7 ic0 rfl ?_
  refine g_istore_n 9 X dX4_most_8 (by decide) rfl ?_
  exact G.sub [3, 2, 1, 0] rfl (b_X4_most_9 X hr  F _ _ _ _ _ kt h)
set_option maxRecDepth 100000 in
theorem c_X4_most {l : Launch} {D : va_G} {ks : Nat → ClassId} {A : Nat → Prop} {ad : Nat → Nat} (hD : ∀ μ : Mem, va_D A (wsM 75 ad (shC ks ad) μ)) {F : Nat} {μ : Mem} {t : Nat} {r : Int32 × Mem} (kt : kindC t = 104) (h : f_X4_most F μ t = some r) : Met l yX4_most (Cond.code yX4_most cX4_most 4 (some .int) :: wg) rm_X4_most (PC D ks 75 ad (shC ks ad) μ [.ref (ad t)]) (QI D 75 ad (shC ks ad) A r) 0 0 A := by
  refine met_of (by decide) (Nat.le_of_ble_eq_true rfl) hD ?_
  intro p e s m args below meth c X hr
  exact G.sub [0] rfl (b_X4_most_0 X hr  _ _ kt h)
abbrev rm_X8_most : Room := { frames := 4, cells := 0, slots := 0, locals := 85 }
set_option maxRecDepth 100000 in
set_option maxHeartbeats 4000000 in
theorem b_X8_most_12 {p : Program} {l : Launch} {e : Env} {s : State} {m : MethodId} {args : Array Value} {below : List Frame} {meth : Method} {c : Code} {D : va_G} {ks : Nat → ClassId} {A : Nat → Prop} {ad : Nat → Nat} (X : Cx p s m args meth c cX8_most 5 RX8 D ks A 75 ad (shC ks ad)) (hr : meth.sig.returnType = (some .int)) {F : Nat} {r : Int32 × Mem} : ∀ n : Nat, ∀ (μ : Mem) (t : Nat) (x1 : Int32) (x2 : Int32) (x3 : Int32), (kindC t = 108) → f_X8_most_b12 F  n μ t x1 x2 x3 = some r → G p l e rm_X8_most s m args below meth c D A 5 (MQ below (QI D 75 ad (shC ks ad) A r) args s 0 0 A) 75 ad (shC ks ad) μ 12 [(0, .ref (ad t)), (1, .int x1), (2, .int x2), (3, .int x3)] [] := by
  intro n
  induction n with
  | zero =>
    intro _ _ _ _ _ _ h
    cases h
  | succ n ih =>
    intro μ t x1 x2 x3 kt h
    refine g_iload_n 13 X 3 dX8_most_12 rfl rfl ?_
    refine g_iconst 14 X dX8_most_13 ic1 rfl ?_
    refine g_icmp_lt 46 17 X dX8_most_14 (by decide) rfl h (fun h => ?_) (fun h => ?_)
    · refine g_iload_n 47 X 1 dX8_most_46 rfl rfl ?_
      exact g_iret X hr dX8_most_47 h
    · refine g_iload_n 18 X 2 dX8_most_17 rfl rfl ?_
      refine g_aload_n 19 X 0 dX8_most_18 rfl rfl ?_
      refine g_iload_n 20 X 3 dX8_most_19 rfl rfl ?_
      refine g_ci 23 h (fun q e => r_V X cd_X8_71_X8_clustersThatGive_X8 ⟨rfl, rfl⟩ ⟨Nat.le_of_ble_eq_true rfl, Nat.le_of_ble_eq_true rfl⟩ (c_X8_clustersThatGive X.2.2.2.2 kt e) PC_blind (pc_pre X) (g_recv X (o8 kt) rfl) rfl rfl (Nat.le_of_ble_eq_true rfl) dX8_most_20) rfl (fun v1 μ2 h => ?_)
      refine g_mmin 26 X m632 ⟨Nat.le_of_ble_eq_true rfl, Nat.le_of_ble_eq_true rfl⟩ dX8_most_23 h rfl (fun v3 h => ?_)
      refine g_istore 28 X dX8_most_26 (by decide) rfl ?_
      refine g_iload_n 29 X 2 dX8_most_28 rfl rfl ?_
      refine g_iload 31 X 0 dX8_most_29 rfl rfl ?_
      refine g_iload_n 32 X 4 dX8_most_31 rfl rfl ?_
      refine g_imul 33 X dX8_most_32 rfl ?_
      refine g_iadd 34 X dX8_most_33 rfl ?_
      refine g_topi h (fun v4 h => ?_)
      refine g_istore_n 35 X dX8_most_34 (by decide) rfl ?_
      refine g_iload_n 36 X 3 dX8_most_35 rfl rfl ?_
      refine g_iload 38 X 1 dX8_most_36 rfl rfl ?_
      refine g_isub 39 X dX8_most_38 rfl ?_
      refine g_topi h (fun v5 h => ?_)
      refine g_istore_n 40 X dX8_most_39 (by decide) rfl ?_
      refine g_iinc 43 X 4 dX8_most_40 icm1 rfl (by decide) rfl ?_
      refine g_goto 12 X dX8_most_43 (by decide) ?_
      exact G.sub [4, 2, 1, 0] rfl (ih _ _ _ _ _ kt h)
set_option maxRecDepth 100000 in
set_option maxHeartbeats 4000000 in
theorem b_X8_most_0 {p : Program} {l : Launch} {e : Env} {s : State} {m : MethodId} {args : Array Value} {below : List Frame} {meth : Method} {c : Code} {D : va_G} {ks : Nat → ClassId} {A : Nat → Prop} {ad : Nat → Nat} (X : Cx p s m args meth c cX8_most 5 RX8 D ks A 75 ad (shC ks ad)) (hr : meth.sig.returnType = (some .int)) {F : Nat} {r : Int32 × Mem} (μ : Mem) (t : Nat) (kt : kindC t = 108) (h : f_X8_most F  μ t = some r) : G p l e rm_X8_most s m args below meth c D A 5 (MQ below (QI D 75 ad (shC ks ad) A r) args s 0 0 A) 75 ad (shC ks ad) μ 0 [(0, .ref (ad t))] [] := by
  refine g_iconst 1 X dX8_most_0 ic0 rfl ?_
  refine g_istore_n 2 X dX8_most_1 (by decide) rfl ?_
  refine g_aload_n 3 X 1 dX8_most_2 rfl rfl ?_
  refine g_getr 6 X fl_X8_35_8 (o8 kt) rfl dX8_most_3 rfl ?_
  refine g_iconst 7 X dX8_most_6 ic0 rfl ?_
  refine g_iald 8 X (aiC (n := 4) (by decide) (k8_numbers kt)) dX8_most_7 h rfl (fun v1 h => ?_)
  refine g_istore_n 9 X dX8_most_8 (by decide) rfl ?_
  refine g_bipush 11 X dX8_most_9 bp30 rfl ?_
  refine g_istore_n 12 X dX8_most_11 (by decide) rfl ?_
  exact G.sub [3, 2, 1, 0] rfl (b_X8_most_12 X hr  F _ _ _ _ _ kt h)
set_option maxRecDepth 100000 in
theorem c_X8_most {l : Launch} {D : va_G} {ks : Nat → ClassId} {A : Nat → Prop} {ad : Nat → Nat} (hD : ∀ μ : Mem, va_D A (wsM 75 ad (shC ks ad) μ)) {F : Nat} {μ : Mem} {t : Nat} {r : Int32 × Mem} (kt : kindC t = 108) (h : f_X8_most F μ t = some r) : Met l yX8_most (Cond.code yX8_most cX8_most 5 (some .int) :: wg) rm_X8_most (PC D ks 75 ad (shC ks ad) μ [.ref (ad t)]) (QI D 75 ad (shC ks ad) A r) 0 0 A := by
  refine met_of (by decide) (Nat.le_of_ble_eq_true rfl) hD ?_
  intro p e s m args below meth c X hr
  exact G.sub [0] rfl (b_X8_most_0 X hr  _ _ kt h)
abbrev rm_X11_width : Room := { frames := 5, cells := 0, slots := 0, locals := 109 }
set_option maxRecDepth 100000 in
set_option maxHeartbeats 4000000 in
theorem b_X11_width_0 {p : Program} {l : Launch} {e : Env} {s : State} {m : MethodId} {args : Array Value} {below : List Frame} {meth : Method} {c : Code} {D : va_G} {ks : Nat → ClassId} {A : Nat → Prop} {ad : Nat → Nat} (X : Cx p s m args meth c cX11_width 4 RX11 D ks A 75 ad (shC ks ad)) (hr : meth.sig.returnType = (some .int)) {F : Nat} {r : Int32 × Mem} (μ : Mem) (x1 : Int32) (x2 : Int32)  (h : f_X11_width F  μ x1 x2 = some r) : G p l e rm_X11_width s m args below meth c D A 4 (MQ below (QI D 75 ad (shC ks ad) A r) args s 0 0 A) 75 ad (shC ks ad) μ 0 [(0, .ref (ad 0)), (1, .int x1), (2, .int x2)] [] := by
  refine g_iload_n 1 X 1 dX11_width_0 rfl rfl ?_
  refine g_ni 4 h (fun q e => r_S X cd_X11_133_X11_isPlan ⟨rfl, rfl⟩ ⟨Nat.le_of_ble_eq_true rfl, Nat.le_of_ble_eq_true rfl⟩ (c_X11_isPlan e) PC_blind (pn_pre X) rfl rfl (Nat.le_of_ble_eq_true rfl) dX11_width_1) rfl (fun v1 h => ?_)
  refine g_if_eq 16 7 X dX11_width_4 (by decide) rfl h (fun h => ?_) (fun h => ?_)
  · refine g_bipush 18 X dX11_width_16 bpm2 rfl ?_
    exact g_iret X hr dX11_width_18 h
  · refine g_iload_n 8 X 2 dX11_width_7 rfl rfl ?_
    refine g_iconst 9 X dX11_width_8 ic0 rfl ?_
    refine g_iconst 10 X dX11_width_9 ic1 rfl ?_
    refine g_ni 13 h (fun q e => r_S X cd_X11_105_X11_within ⟨rfl, rfl⟩ ⟨Nat.le_of_ble_eq_true rfl, Nat.le_of_ble_eq_true rfl⟩ (c_X11_within e) PC_blind (pn_pre X) rfl rfl (Nat.le_of_ble_eq_true rfl) dX11_width_10) rfl (fun v2 h => ?_)
    refine g_if_ne 19 16 X dX11_width_13 (by decide) rfl h (fun h => ?_) (fun h => ?_)
    · refine g_aload_n 20 X 0 dX11_width_19 rfl rfl ?_
      refine g_getr 23 X fl_X11_27_11 (o11 rfl) rfl dX11_width_20 rfl ?_
      refine g_iload_n 24 X 1 dX11_width_23 rfl rfl ?_
      refine g_aald (fn := fun p => 18 + 9 * p) 25 X arP rfl dX11_width_24 h rfl (fun hv3 h => ?_)
      refine g_cr 28 h (fun q e => r_V X cd_X11_146_X5_possibleWay_X5 ⟨rfl, rfl⟩ ⟨Nat.le_of_ble_eq_true rfl, Nat.le_of_ble_eq_true rfl⟩ (c_X5_possibleWay X.2.2.2.2 (kPl hv3) e) PC_blind (pc_pre X) (g_recv X (o5 (kPl hv3)) rfl) rfl rfl (Nat.le_of_ble_eq_true rfl) dX11_width_25) rfl (fun v4 μ5 h => ?_)
      refine g_astoreq_n 29 X dX11_width_28 (by decide) rfl ?_
      refine g_aloadq_n 30 X 0 dX11_width_29 rfl rfl ?_
      refine g_ifnonnull 36 33 X dX11_width_30 (by decide) rfl h (fun y6 hy h2 => ?_) (fun hy h2 => ?_)
      · subst hy
        have h := h2
        refine g_iload_n 37 X 3 dX11_width_36 rfl rfl ?_
        refine g_if_ne 47 40 X dX11_width_37 (by decide) rfl h (fun h => ?_) (fun h => ?_)
        · refine g_aload_n 48 X 0 dX11_width_47 rfl rfl ?_
          refine g_ci (rest := []) 51 h (fun q e => ?_) rfl (fun v7 μ8 h => ?_)
          · rcases vdis_some e with ⟨kk, e⟩ | ⟨kk, e⟩ | ⟨kk, e⟩
            · exact r_A X cd_X11_177_X2_most_X2 ⟨rfl, rfl⟩ ⟨Nat.le_of_ble_eq_true rfl, Nat.le_of_ble_eq_true rfl⟩ (c_X2_most X.2.2.2.2 kk e) PC_blind (pc_pre X) (g_recv X (o2 kk) rfl) rfl rfl (Nat.le_of_ble_eq_true rfl) dX11_width_48
            · exact r_A X cd_X11_177_X4_most_X4 ⟨rfl, rfl⟩ ⟨Nat.le_of_ble_eq_true rfl, Nat.le_of_ble_eq_true rfl⟩ (c_X4_most X.2.2.2.2 kk e) PC_blind (pc_pre X) (g_recv X (o4 kk) rfl) rfl rfl (Nat.le_of_ble_eq_true rfl) dX11_width_48
            · exact r_A X cd_X11_177_X8_most_X8 ⟨rfl, rfl⟩ ⟨Nat.le_of_ble_eq_true rfl, Nat.le_of_ble_eq_true rfl⟩ (c_X8_most X.2.2.2.2 kk e) PC_blind (pc_pre X) (g_recv X (o8 kk) rfl) rfl rfl (Nat.le_of_ble_eq_true rfl) dX11_width_48
          · exact g_iret X hr dX11_width_51 h
        · refine g_aload_n 41 X 0 dX11_width_40 rfl rfl ?_
          refine g_ci (rest := []) 44 h (fun q e => ?_) rfl (fun v9 μ10 h => ?_)
          · rcases vdis_some e with ⟨kk, e⟩ | ⟨kk, e⟩ | ⟨kk, e⟩
            · exact r_A X cd_X11_174_X2_fewest_X2 ⟨rfl, rfl⟩ ⟨Nat.le_of_ble_eq_true rfl, Nat.le_of_ble_eq_true rfl⟩ (c_X2_fewest X.2.2.2.2 kk e) PC_blind (pc_pre X) (g_recv X (o2 kk) rfl) rfl rfl (Nat.le_of_ble_eq_true rfl) dX11_width_41
            · exact r_A X cd_X11_174_X4_fewest_X4 ⟨rfl, rfl⟩ ⟨Nat.le_of_ble_eq_true rfl, Nat.le_of_ble_eq_true rfl⟩ (c_X4_fewest X.2.2.2.2 kk e) PC_blind (pc_pre X) (g_recv X (o4 kk) rfl) rfl rfl (Nat.le_of_ble_eq_true rfl) dX11_width_41
            · exact r_A X cd_X11_174_X8_fewest_X8 ⟨rfl, rfl⟩ ⟨Nat.le_of_ble_eq_true rfl, Nat.le_of_ble_eq_true rfl⟩ (c_X8_fewest X.2.2.2.2 kk e) PC_blind (pc_pre X) (g_recv X (o8 kk) rfl) rfl rfl (Nat.le_of_ble_eq_true rfl) dX11_width_41
          · refine g_goto 51 X dX11_width_44 (by decide) ?_
            exact g_iret X hr dX11_width_51 h
      · subst hy
        have h := h2
        refine g_bipush 35 X dX11_width_33 bpm3 rfl ?_
        exact g_iret X hr dX11_width_35 h
    · refine g_bipush 18 X dX11_width_16 bpm2 rfl ?_
      exact g_iret X hr dX11_width_18 h
set_option maxRecDepth 100000 in
theorem c_X11_width {l : Launch} {D : va_G} {ks : Nat → ClassId} {A : Nat → Prop} {ad : Nat → Nat} (hD : ∀ μ : Mem, va_D A (wsM 75 ad (shC ks ad) μ)) {F : Nat} {μ : Mem} {x1 : Int32} {x2 : Int32} {r : Int32 × Mem}  (h : f_X11_width F μ x1 x2 = some r) : Met l yX11_width (Cond.code yX11_width cX11_width 4 (some .int) :: wg) rm_X11_width (PC D ks 75 ad (shC ks ad) μ [.ref (ad 0), .int x1, .int x2]) (QI D 75 ad (shC ks ad) A r) 0 0 A := by
  refine met_of (by decide) (Nat.le_of_ble_eq_true rfl) hD ?_
  intro p e s m args below meth c X hr
  exact G.sub [0, 1, 2] rfl (b_X11_width_0 X hr  _ _ _ h)
abbrev rm_X11_isIn : Room := { frames := 0, cells := 0, slots := 0, locals := 0 }
set_option maxRecDepth 100000 in
set_option maxHeartbeats 4000000 in
theorem b_X11_isIn_0 {p : Program} {l : Launch} {e : Env} {s : State} {m : MethodId} {args : Array Value} {below : List Frame} {meth : Method} {c : Code} {D : va_G} {ks : Nat → ClassId} (X : Cx p s m args meth c cX11_isIn 2 RX11 D ks (fun _ => False) 0 ad0 sh0) (hr : meth.sig.returnType = (some .boolean)) {F : Nat} {r : Int32} (x0 : Int32) (x1 : Int32)  (h : f_X11_isIn F  x0 x1 = some r) : G p l e rm_X11_isIn s m args below meth c D (fun _ => False) 2 (MQ below (QNi D r) args s 0 0 (fun _ => False)) 0 ad0 sh0 μ0 0 [(0, .int x0), (1, .int x1)] [] := by
  refine g_iload_n 1 X 0 dX11_isIn_0 rfl rfl ?_
  refine g_iload_n 2 X 1 dX11_isIn_1 rfl rfl ?_
  refine g_ishr 3 X dX11_isIn_2 rfl ?_
  refine g_iconst 4 X dX11_isIn_3 ic1 rfl ?_
  refine g_iand 5 X dX11_isIn_4 rfl ?_
  refine g_iconst 6 X dX11_isIn_5 ic1 rfl ?_
  refine g_icmp_ne 13 9 X dX11_isIn_6 (by decide) rfl h (fun h => ?_) (fun h => ?_)
  · refine g_iconst 14 X dX11_isIn_13 ic0 rfl ?_
    exact gn_zret X hr nb0 dX11_isIn_14 h
  · refine g_iconst 10 X dX11_isIn_9 ic1 rfl ?_
    refine g_goto 14 X dX11_isIn_10 (by decide) ?_
    exact gn_zret X hr nb1 dX11_isIn_14 h
set_option maxRecDepth 100000 in
theorem c_X11_isIn {l : Launch} {D : va_G} {ks : Nat → ClassId} {F : Nat} {x0 : Int32} {x1 : Int32} {r : Int32}  (h : f_X11_isIn F x0 x1 = some r) : Met l yX11_isIn (Cond.code yX11_isIn cX11_isIn 2 (some .boolean) :: wg) rm_X11_isIn (PN D ks [.int x0, .int x1]) (QNi D r) 0 0 (fun _ => False) := by
  refine met_of (by decide) (Nat.le_of_ble_eq_true rfl) d0 ?_
  intro p e s m args below meth c X hr
  exact G.sub [0, 1] rfl (b_X11_isIn_0 X hr  _ _ h)
abbrev rm_X9_castLot : Room := { frames := 0, cells := 0, slots := 0, locals := 0 }
set_option maxRecDepth 100000 in
set_option maxHeartbeats 4000000 in
theorem b_X9_castLot_X2_0 {p : Program} {l : Launch} {e : Env} {s : State} {m : MethodId} {args : Array Value} {below : List Frame} {meth : Method} {c : Code} {D : va_G} {ks : Nat → ClassId} {A : Nat → Prop} {ad : Nat → Nat} (X : Cx p s m args meth c cX9_castLot 2 RX9 D ks A 75 ad (shC ks ad)) (hr : meth.sig.returnType = (some .int)) {F : Nat} {r : Int32 × Mem} (μ : Mem) (t : Nat) (x1 : Int32) (kt : kindC t = 102) (h : f_X9_castLot F  μ t x1 = some r) : G p l e rm_X9_castLot s m args below meth c D A 2 (MQ below (QI D 75 ad (shC ks ad) A r) args s 0 0 A) 75 ad (shC ks ad) μ 0 [(0, .ref (ad t)), (1, .int x1)] [] := by
  refine g_aload_n 1 X 0 dX9_castLot_0 rfl rfl ?_
  refine g_ldc 3 X m771 dX9_castLot_1 rfl ?_
  refine g_aload_n 4 X 0 dX9_castLot_3 rfl rfl ?_
  refine g_geti 7 X fl_X9_20_2 (o2 kt) rfl dX9_castLot_4 h rfl (fun v1 h => ?_)
  refine g_imul 8 X dX9_castLot_7 rfl ?_
  refine g_sipush 11 X dX9_castLot_8 sp12345 rfl ?_
  refine g_iadd 12 X dX9_castLot_11 rfl ?_
  refine g_puti 15 X fp_X9_20_2 (o2 kt) rfl (Nat.le_of_ble_eq_true rfl) rfl rfl dX9_castLot_12 h rfl (fun μ2 h => ?_)
  refine g_iload_n 16 X 1 dX9_castLot_15 rfl rfl ?_
  refine g_if_gt 23 19 X dX9_castLot_16 (by decide) rfl h (fun h => ?_) (fun h => ?_)
  · refine g_aload_n 24 X 0 dX9_castLot_23 rfl rfl ?_
    refine g_geti 27 X fl_X9_20_2 (o2 kt) rfl dX9_castLot_24 h rfl (fun v3 h => ?_)
    refine g_bipush 29 X dX9_castLot_27 bp16 rfl ?_
    refine g_iushr 30 X dX9_castLot_29 rfl ?_
    refine g_topi h (fun v4 h => ?_)
    refine g_iload_n 31 X 1 dX9_castLot_30 rfl rfl ?_
    refine g_irem 32 X dX9_castLot_31 h rfl (fun h => ?_)
    refine g_topi h (fun v5 h => ?_)
    exact g_iret X hr dX9_castLot_32 h
  · refine g_iconst 20 X dX9_castLot_19 ic0 rfl ?_
    refine g_goto 32 X dX9_castLot_20 (by decide) ?_
    exact g_iret X hr dX9_castLot_32 h
set_option maxRecDepth 100000 in
theorem c_X9_castLot_X2 {l : Launch} {D : va_G} {ks : Nat → ClassId} {A : Nat → Prop} {ad : Nat → Nat} (hD : ∀ μ : Mem, va_D A (wsM 75 ad (shC ks ad) μ)) {F : Nat} {μ : Mem} {t : Nat} {x1 : Int32} {r : Int32 × Mem} (kt : kindC t = 102) (h : f_X9_castLot F μ t x1 = some r) : Met l yX9_castLot (Cond.code yX9_castLot cX9_castLot 2 (some .int) :: wg) rm_X9_castLot (PC D ks 75 ad (shC ks ad) μ [.ref (ad t), .int x1]) (QI D 75 ad (shC ks ad) A r) 0 0 A := by
  refine met_of (by decide) (Nat.le_of_ble_eq_true rfl) hD ?_
  intro p e s m args below meth c X hr
  exact G.sub [0, 1] rfl (b_X9_castLot_X2_0 X hr  _ _ _ kt h)
set_option maxRecDepth 100000 in
set_option maxHeartbeats 4000000 in
theorem b_X9_castLot_X4_0 {p : Program} {l : Launch} {e : Env} {s : State} {m : MethodId} {args : Array Value} {below : List Frame} {meth : Method} {c : Code} {D : va_G} {ks : Nat → ClassId} {A : Nat → Prop} {ad : Nat → Nat} (X : Cx p s m args meth c cX9_castLot 2 RX9 D ks A 75 ad (shC ks ad)) (hr : meth.sig.returnType = (some .int)) {F : Nat} {r : Int32 × Mem} (μ : Mem) (t : Nat) (x1 : Int32) (kt : kindC t = 104) (h : f_X9_castLot F  μ t x1 = some r) : G p l e rm_X9_castLot s m args below meth c D A 2 (MQ below (QI D 75 ad (shC ks ad) A r) args s 0 0 A) 75 ad (shC ks ad) μ 0 [(0, .ref (ad t)), (1, .int x1)] [] := by
  refine g_aload_n 1 X 0 dX9_castLot_0 rfl rfl ?_
  refine g_ldc 3 X m771 dX9_castLot_1 rfl ?_
  refine g_aload_n 4 X 0 dX9_castLot_3 rfl rfl ?_
  refine g_geti 7 X fl_X9_20_4 (o4 kt) rfl dX9_castLot_4 h rfl (fun v1 h => ?_)
  refine g_imul 8 X dX9_castLot_7 rfl ?_
  refine g_sipush 11 X dX9_castLot_8 sp12345 rfl ?_
  refine g_iadd 12 X dX9_castLot_11 rfl ?_
  refine g_puti 15 X fp_X9_20_4 (o4 kt) rfl (Nat.le_of_ble_eq_true rfl) rfl rfl dX9_castLot_12 h rfl (fun μ2 h => ?_)
  refine g_iload_n 16 X 1 dX9_castLot_15 rfl rfl ?_
  refine g_if_gt 23 19 X dX9_castLot_16 (by decide) rfl h (fun h => ?_) (fun h => ?_)
  · refine g_aload_n 24 X 0 dX9_castLot_23 rfl rfl ?_
    refine g_geti 27 X fl_X9_20_4 (o4 kt) rfl dX9_castLot_24 h rfl (fun v3 h => ?_)
    refine g_bipush 29 X dX9_castLot_27 bp16 rfl ?_
    refine g_iushr 30 X dX9_castLot_29 rfl ?_
    refine g_topi h (fun v4 h => ?_)
    refine g_iload_n 31 X 1 dX9_castLot_30 rfl rfl ?_
    refine g_irem 32 X dX9_castLot_31 h rfl (fun h => ?_)
    refine g_topi h (fun v5 h => ?_)
    exact g_iret X hr dX9_castLot_32 h
  · refine g_iconst 20 X dX9_castLot_19 ic0 rfl ?_
    refine g_goto 32 X dX9_castLot_20 (by decide) ?_
    exact g_iret X hr dX9_castLot_32 h
set_option maxRecDepth 100000 in
theorem c_X9_castLot_X4 {l : Launch} {D : va_G} {ks : Nat → ClassId} {A : Nat → Prop} {ad : Nat → Nat} (hD : ∀ μ : Mem, va_D A (wsM 75 ad (shC ks ad) μ)) {F : Nat} {μ : Mem} {t : Nat} {x1 : Int32} {r : Int32 × Mem} (kt : kindC t = 104) (h : f_X9_castLot F μ t x1 = some r) : Met l yX9_castLot (Cond.code yX9_castLot cX9_castLot 2 (some .int) :: wg) rm_X9_castLot (PC D ks 75 ad (shC ks ad) μ [.ref (ad t), .int x1]) (QI D 75 ad (shC ks ad) A r) 0 0 A := by
  refine met_of (by decide) (Nat.le_of_ble_eq_true rfl) hD ?_
  intro p e s m args below meth c X hr
  exact G.sub [0, 1] rfl (b_X9_castLot_X4_0 X hr  _ _ _ kt h)
set_option maxRecDepth 100000 in
set_option maxHeartbeats 4000000 in
theorem b_X9_castLot_X8_0 {p : Program} {l : Launch} {e : Env} {s : State} {m : MethodId} {args : Array Value} {below : List Frame} {meth : Method} {c : Code} {D : va_G} {ks : Nat → ClassId} {A : Nat → Prop} {ad : Nat → Nat} (X : Cx p s m args meth c cX9_castLot 2 RX9 D ks A 75 ad (shC ks ad)) (hr : meth.sig.returnType = (some .int)) {F : Nat} {r : Int32 × Mem} (μ : Mem) (t : Nat) (x1 : Int32) (kt : kindC t = 108) (h : f_X9_castLot F  μ t x1 = some r) : G p l e rm_X9_castLot s m args below meth c D A 2 (MQ below (QI D 75 ad (shC ks ad) A r) args s 0 0 A) 75 ad (shC ks ad) μ 0 [(0, .ref (ad t)), (1, .int x1)] [] := by
  refine g_aload_n 1 X 0 dX9_castLot_0 rfl rfl ?_
  refine g_ldc 3 X m771 dX9_castLot_1 rfl ?_
  refine g_aload_n 4 X 0 dX9_castLot_3 rfl rfl ?_
  refine g_geti 7 X fl_X9_20_8 (o8 kt) rfl dX9_castLot_4 h rfl (fun v1 h => ?_)
  refine g_imul 8 X dX9_castLot_7 rfl ?_
  refine g_sipush 11 X dX9_castLot_8 sp12345 rfl ?_
  refine g_iadd 12 X dX9_castLot_11 rfl ?_
  refine g_puti 15 X fp_X9_20_8 (o8 kt) rfl (Nat.le_of_ble_eq_true rfl) rfl rfl dX9_castLot_12 h rfl (fun μ2 h => ?_)
  refine g_iload_n 16 X 1 dX9_castLot_15 rfl rfl ?_
  refine g_if_gt 23 19 X dX9_castLot_16 (by decide) rfl h (fun h => ?_) (fun h => ?_)
  · refine g_aload_n 24 X 0 dX9_castLot_23 rfl rfl ?_
    refine g_geti 27 X fl_X9_20_8 (o8 kt) rfl dX9_castLot_24 h rfl (fun v3 h => ?_)
    refine g_bipush 29 X dX9_castLot_27 bp16 rfl ?_
    refine g_iushr 30 X dX9_castLot_29 rfl ?_
    refine g_topi h (fun v4 h => ?_)
    refine g_iload_n 31 X 1 dX9_castLot_30 rfl rfl ?_
    refine g_irem 32 X dX9_castLot_31 h rfl (fun h => ?_)
    refine g_topi h (fun v5 h => ?_)
    exact g_iret X hr dX9_castLot_32 h
  · refine g_iconst 20 X dX9_castLot_19 ic0 rfl ?_
    refine g_goto 32 X dX9_castLot_20 (by decide) ?_
    exact g_iret X hr dX9_castLot_32 h
set_option maxRecDepth 100000 in
theorem c_X9_castLot_X8 {l : Launch} {D : va_G} {ks : Nat → ClassId} {A : Nat → Prop} {ad : Nat → Nat} (hD : ∀ μ : Mem, va_D A (wsM 75 ad (shC ks ad) μ)) {F : Nat} {μ : Mem} {t : Nat} {x1 : Int32} {r : Int32 × Mem} (kt : kindC t = 108) (h : f_X9_castLot F μ t x1 = some r) : Met l yX9_castLot (Cond.code yX9_castLot cX9_castLot 2 (some .int) :: wg) rm_X9_castLot (PC D ks 75 ad (shC ks ad) μ [.ref (ad t), .int x1]) (QI D 75 ad (shC ks ad) A r) 0 0 A := by
  refine met_of (by decide) (Nat.le_of_ble_eq_true rfl) hD ?_
  intro p e s m args below meth c X hr
  exact G.sub [0, 1] rfl (b_X9_castLot_X8_0 X hr  _ _ _ kt h)
abbrev rm_X9_takeByLots : Room := { frames := 1, cells := 0, slots := 0, locals := 21 }
set_option maxRecDepth 100000 in
set_option maxHeartbeats 4000000 in
theorem b_X9_takeByLots_X2_57 {p : Program} {l : Launch} {e : Env} {s : State} {m : MethodId} {args : Array Value} {below : List Frame} {meth : Method} {c : Code} {D : va_G} {ks : Nat → ClassId} {A : Nat → Prop} {ad : Nat → Nat} (X : Cx p s m args meth c cX9_takeByLots 7 RX9 D ks A 75 ad (shC ks ad)) (hr : meth.sig.returnType = (some .int)) {F : Nat} {r : Int32 × Mem} {k14 : Mem → Nat → Int32 → Int32 → Int32 → Int32 → Int32 → Option (Int32 × Mem)} (hk14 : ∀ (μ : Mem) (t : Nat) (x1 : Int32) (x3 : Int32) (x4 : Int32) (x5 : Int32) (x6 : Int32), (kindC t = 102) → k14 μ t x1 x3 x4 x5 x6 = some r → G p l e rm_X9_takeByLots s m args below meth c D A 7 (MQ below (QI D 75 ad (shC ks ad) A r) args s 0 0 A) 75 ad (shC ks ad) μ 14 [(0, .ref (ad t)), (1, .int x1), (3, .int x3), (4, .int x4), (5, .int x5), (6, .int x6)] []) (μ : Mem) (t : Nat) (x1 : Int32) (x3 : Int32) (x4 : Int32) (x5 : Int32) (x6 : Int32) (kt : kindC t = 102) (h : f_X9_takeByLots_b57 F k14 μ t x1 x3 x4 x5 x6 = some r) : G p l e rm_X9_takeByLots s m args below meth c D A 7 (MQ below (QI D 75 ad (shC ks ad) A r) args s 0 0 A) 75 ad (shC ks ad) μ 57 [(0, .ref (ad t)), (1, .int x1), (3, .int x3), (4, .int x4), (5, .int x5), (6, .int x6)] [] := by
  refine g_iinc 60 X 5 dX9_takeByLots_57 ic1 rfl (by decide) rfl ?_
  refine g_goto 14 X dX9_takeByLots_60 (by decide) ?_
  exact G.sub [1, 2, 3, 4, 5, 0] rfl (hk14 _ _ _ _ _ _ _ kt h)
set_option maxRecDepth 100000 in
set_option maxHeartbeats 4000000 in
theorem b_X9_takeByLots_X2_54 {p : Program} {l : Launch} {e : Env} {s : State} {m : MethodId} {args : Array Value} {below : List Frame} {meth : Method} {c : Code} {D : va_G} {ks : Nat → ClassId} {A : Nat → Prop} {ad : Nat → Nat} (X : Cx p s m args meth c cX9_takeByLots 7 RX9 D ks A 75 ad (shC ks ad)) (hr : meth.sig.returnType = (some .int)) {F : Nat} {r : Int32 × Mem} {k14 : Mem → Nat → Int32 → Int32 → Int32 → Int32 → Int32 → Option (Int32 × Mem)} (hk14 : ∀ (μ : Mem) (t : Nat) (x1 : Int32) (x3 : Int32) (x4 : Int32) (x5 : Int32) (x6 : Int32), (kindC t = 102) → k14 μ t x1 x3 x4 x5 x6 = some r → G p l e rm_X9_takeByLots s m args below meth c D A 7 (MQ below (QI D 75 ad (shC ks ad) A r) args s 0 0 A) 75 ad (shC ks ad) μ 14 [(0, .ref (ad t)), (1, .int x1), (3, .int x3), (4, .int x4), (5, .int x5), (6, .int x6)] []) (μ : Mem) (t : Nat) (x1 : Int32) (x3 : Int32) (x4 : Int32) (x5 : Int32) (x6 : Int32) (kt : kindC t = 102) (h : f_X9_takeByLots_b54 F k14 μ t x1 x3 x4 x5 x6 = some r) : G p l e rm_X9_takeByLots s m args below meth c D A 7 (MQ below (QI D 75 ad (shC ks ad) A r) args s 0 0 A) 75 ad (shC ks ad) μ 54 [(0, .ref (ad t)), (1, .int x1), (3, .int x3), (4, .int x4), (5, .int x5), (6, .int x6)] [] := by
  refine g_iinc 57 X 3 dX9_takeByLots_54 icm1 rfl (by decide) rfl ?_
  exact G.sub [1, 2, 3, 0, 4, 5] rfl (b_X9_takeByLots_X2_57 X hr hk14 _ _ _ _ _ _ _ kt h)
set_option maxRecDepth 100000 in
set_option maxHeartbeats 4000000 in
theorem b_X9_takeByLots_X2_14 {p : Program} {l : Launch} {e : Env} {s : State} {m : MethodId} {args : Array Value} {below : List Frame} {meth : Method} {c : Code} {D : va_G} {ks : Nat → ClassId} {A : Nat → Prop} {ad : Nat → Nat} (X : Cx p s m args meth c cX9_takeByLots 7 RX9 D ks A 75 ad (shC ks ad)) (hr : meth.sig.returnType = (some .int)) {F : Nat} {r : Int32 × Mem} : ∀ n : Nat, ∀ (μ : Mem) (t : Nat) (x1 : Int32) (x3 : Int32) (x4 : Int32) (x5 : Int32) (x6 : Int32), (kindC t = 102) → f_X9_takeByLots_b14 F  n μ t x1 x3 x4 x5 x6 = some r → G p l e rm_X9_takeByLots s m args below meth c D A 7 (MQ below (QI D 75 ad (shC ks ad) A r) args s 0 0 A) 75 ad (shC ks ad) μ 14 [(0, .ref (ad t)), (1, .int x1), (3, .int x3), (4, .int x4), (5, .int x5), (6, .int x6)] [] := by
  intro n
  induction n with
  | zero =>
    intro _ _ _ _ _ _ _ _ h
    cases h
  | succ n ih =>
    intro μ t x1 x3 x4 x5 x6 kt h
    refine g_iload 16 X 5 dX9_takeByLots_14 rfl rfl ?_
    refine g_bipush 18 X dX9_takeByLots_16 bp30 rfl ?_
    refine g_icmp_ge 63 21 X dX9_takeByLots_18 (by decide) rfl h (fun h => ?_) (fun h => ?_)
    · refine g_iload_n 64 X 2 dX9_takeByLots_63 rfl rfl ?_
      exact g_iret X hr dX9_takeByLots_64 h
    · refine g_iload_n 22 X 1 dX9_takeByLots_21 rfl rfl ?_
      refine g_iload 24 X 5 dX9_takeByLots_22 rfl rfl ?_
      refine g_ni 27 h (fun q e => r_SN X cd_X9_30_X11_isIn ⟨rfl, rfl⟩ ⟨Nat.le_of_ble_eq_true rfl, Nat.le_of_ble_eq_true rfl⟩ (c_X11_isIn e) PC_blind (pn_pre X) rfl rfl (Nat.le_of_ble_eq_true rfl) dX9_takeByLots_24) rfl (fun v1 h => ?_)
      refine g_if_ne 33 30 X dX9_takeByLots_27 (by decide) rfl h (fun h => ?_) (fun h => ?_)
      · refine g_aload_n 34 X 0 dX9_takeByLots_33 rfl rfl ?_
        refine g_iload 36 X 3 dX9_takeByLots_34 rfl rfl ?_
        refine g_ci 39 h (fun q e => r_V X cd_X9_34_X9_castLot_X2 ⟨rfl, rfl⟩ ⟨Nat.le_of_ble_eq_true rfl, Nat.le_of_ble_eq_true rfl⟩ (c_X9_castLot_X2 X.2.2.2.2 kt e) PC_blind (pc_pre X) (g_recv X (o2 kt) rfl) rfl rfl (Nat.le_of_ble_eq_true rfl) dX9_takeByLots_36) rfl (fun v2 μ3 h => ?_)
        refine g_iload 41 X 4 dX9_takeByLots_39 rfl rfl ?_
        refine g_icmp_ge 54 44 X dX9_takeByLots_41 (by decide) rfl h (fun h => ?_) (fun h => ?_)
        · exact G.sub [0, 1, 2, 3, 4, 5] rfl (b_X9_takeByLots_X2_54 X hr ih _ _ _ _ _ _ _ kt h)
        · refine g_iload_n 45 X 2 dX9_takeByLots_44 rfl rfl ?_
          refine g_iconst 46 X dX9_takeByLots_45 ic1 rfl ?_
          refine g_iload 48 X 5 dX9_takeByLots_46 rfl rfl ?_
          refine g_ishl 49 X dX9_takeByLots_48 rfl ?_
          refine g_ior 50 X dX9_takeByLots_49 rfl ?_
          refine g_topi h (fun v4 h => ?_)
          refine g_istore_n 51 X dX9_takeByLots_50 (by decide) rfl ?_
          refine g_iinc 54 X 4 dX9_takeByLots_51 icm1 rfl (by decide) rfl ?_
          exact G.sub [2, 3, 1, 4, 0, 5] rfl (b_X9_takeByLots_X2_54 X hr ih _ _ _ _ _ _ _ kt h)
      · refine g_goto 57 X dX9_takeByLots_30 (by decide) ?_
        exact G.sub [0, 1, 2, 3, 4, 5] rfl (b_X9_takeByLots_X2_57 X hr ih _ _ _ _ _ _ _ kt h)
set_option maxRecDepth 100000 in
set_option maxHeartbeats 4000000 in
theorem b_X9_takeByLots_X2_0 {p : Program} {l : Launch} {e : Env} {s : State} {m : MethodId} {args : Array Value} {below : List Frame} {meth : Method} {c : Code} {D : va_G} {ks : Nat → ClassId} {A : Nat → Prop} {ad : Nat → Nat} (X : Cx p s m args meth c cX9_takeByLots 7 RX9 D ks A 75 ad (shC ks ad)) (hr : meth.sig.returnType = (some .int)) {F : Nat} {r : Int32 × Mem} (μ : Mem) (t : Nat) (x1 : Int32) (x2 : Int32) (kt : kindC t = 102) (h : f_X9_takeByLots F  μ t x1 x2 = some r) : G p l e rm_X9_takeByLots s m args below meth c D A 7 (MQ below (QI D 75 ad (shC ks ad) A r) args s 0 0 A) 75 ad (shC ks ad) μ 0 [(0, .ref (ad t)), (1, .int x1), (2, .int x2)] [] := by
  refine g_iconst 1 X dX9_takeByLots_0 ic0 rfl ?_
  refine g_istore_n 2 X dX9_takeByLots_1 (by decide) rfl ?_
  refine g_iload_n 3 X 2 dX9_takeByLots_2 rfl rfl ?_
  refine g_ni 6 h (fun q e => r_S X cd_X9_24_J6_bitCount_0f7a4 ⟨rfl, rfl⟩ ⟨Nat.le_of_ble_eq_true rfl, Nat.le_of_ble_eq_true rfl⟩ (c_J6_bitCount_0f7a4 e) PC_blind (pn_pre X) rfl rfl (Nat.le_of_ble_eq_true rfl) dX9_takeByLots_3) rfl (fun v1 h => ?_)
  refine g_istore 8 X dX9_takeByLots_6 (by decide) rfl ?_
  refine g_iload_n 9 X 4 dX9_takeByLots_8 rfl rfl ?_
  refine g_istore 11 X dX9_takeByLots_9 (by decide) rfl ?_
  refine g_iconst 12 X dX9_takeByLots_11 ic0 rfl ?_
  refine g_istore 14 X dX9_takeByLots_12 (by decide) rfl ?_
  exact G.sub [4, 5, 3, 2, 1, 0] rfl (b_X9_takeByLots_X2_14 X hr  F _ _ _ _ _ _ _ kt h)
set_option maxRecDepth 100000 in
theorem c_X9_takeByLots_X2 {l : Launch} {D : va_G} {ks : Nat → ClassId} {A : Nat → Prop} {ad : Nat → Nat} (hD : ∀ μ : Mem, va_D A (wsM 75 ad (shC ks ad) μ)) {F : Nat} {μ : Mem} {t : Nat} {x1 : Int32} {x2 : Int32} {r : Int32 × Mem} (kt : kindC t = 102) (h : f_X9_takeByLots F μ t x1 x2 = some r) : Met l yX9_takeByLots (Cond.code yX9_takeByLots cX9_takeByLots 7 (some .int) :: wg) rm_X9_takeByLots (PC D ks 75 ad (shC ks ad) μ [.ref (ad t), .int x1, .int x2]) (QI D 75 ad (shC ks ad) A r) 0 0 A := by
  refine met_of (by decide) (Nat.le_of_ble_eq_true rfl) hD ?_
  intro p e s m args below meth c X hr
  exact G.sub [0, 1, 2] rfl (b_X9_takeByLots_X2_0 X hr  _ _ _ _ kt h)
set_option maxRecDepth 100000 in
set_option maxHeartbeats 4000000 in
theorem b_X9_takeByLots_X4_57 {p : Program} {l : Launch} {e : Env} {s : State} {m : MethodId} {args : Array Value} {below : List Frame} {meth : Method} {c : Code} {D : va_G} {ks : Nat → ClassId} {A : Nat → Prop} {ad : Nat → Nat} (X : Cx p s m args meth c cX9_takeByLots 7 RX9 D ks A 75 ad (shC ks ad)) (hr : meth.sig.returnType = (some .int)) {F : Nat} {r : Int32 × Mem} {k14 : Mem → Nat → Int32 → Int32 → Int32 → Int32 → Int32 → Option (Int32 × Mem)} (hk14 : ∀ (μ : Mem) (t : Nat) (x1 : Int32) (x3 : Int32) (x4 : Int32) (x5 : Int32) (x6 : Int32), (kindC t = 104) → k14 μ t x1 x3 x4 x5 x6 = some r → G p l e rm_X9_takeByLots s m args below meth c D A 7 (MQ below (QI D 75 ad (shC ks ad) A r) args s 0 0 A) 75 ad (shC ks ad) μ 14 [(0, .ref (ad t)), (1, .int x1), (3, .int x3), (4, .int x4), (5, .int x5), (6, .int x6)] []) (μ : Mem) (t : Nat) (x1 : Int32) (x3 : Int32) (x4 : Int32) (x5 : Int32) (x6 : Int32) (kt : kindC t = 104) (h : f_X9_takeByLots_b57 F k14 μ t x1 x3 x4 x5 x6 = some r) : G p l e rm_X9_takeByLots s m args below meth c D A 7 (MQ below (QI D 75 ad (shC ks ad) A r) args s 0 0 A) 75 ad (shC ks ad) μ 57 [(0, .ref (ad t)), (1, .int x1), (3, .int x3), (4, .int x4), (5, .int x5), (6, .int x6)] [] := by
  refine g_iinc 60 X 5 dX9_takeByLots_57 ic1 rfl (by decide) rfl ?_
  refine g_goto 14 X dX9_takeByLots_60 (by decide) ?_
  exact G.sub [1, 2, 3, 4, 5, 0] rfl (hk14 _ _ _ _ _ _ _ kt h)
set_option maxRecDepth 100000 in
set_option maxHeartbeats 4000000 in
theorem b_X9_takeByLots_X4_54 {p : Program} {l : Launch} {e : Env} {s : State} {m : MethodId} {args : Array Value} {below : List Frame} {meth : Method} {c : Code} {D : va_G} {ks : Nat → ClassId} {A : Nat → Prop} {ad : Nat → Nat} (X : Cx p s m args meth c cX9_takeByLots 7 RX9 D ks A 75 ad (shC ks ad)) (hr : meth.sig.returnType = (some .int)) {F : Nat} {r : Int32 × Mem} {k14 : Mem → Nat → Int32 → Int32 → Int32 → Int32 → Int32 → Option (Int32 × Mem)} (hk14 : ∀ (μ : Mem) (t : Nat) (x1 : Int32) (x3 : Int32) (x4 : Int32) (x5 : Int32) (x6 : Int32), (kindC t = 104) → k14 μ t x1 x3 x4 x5 x6 = some r → G p l e rm_X9_takeByLots s m args below meth c D A 7 (MQ below (QI D 75 ad (shC ks ad) A r) args s 0 0 A) 75 ad (shC ks ad) μ 14 [(0, .ref (ad t)), (1, .int x1), (3, .int x3), (4, .int x4), (5, .int x5), (6, .int x6)] []) (μ : Mem) (t : Nat) (x1 : Int32) (x3 : Int32) (x4 : Int32) (x5 : Int32) (x6 : Int32) (kt : kindC t = 104) (h : f_X9_takeByLots_b54 F k14 μ t x1 x3 x4 x5 x6 = some r) : G p l e rm_X9_takeByLots s m args below meth c D A 7 (MQ below (QI D 75 ad (shC ks ad) A r) args s 0 0 A) 75 ad (shC ks ad) μ 54 [(0, .ref (ad t)), (1, .int x1), (3, .int x3), (4, .int x4), (5, .int x5), (6, .int x6)] [] := by
  refine g_iinc 57 X 3 dX9_takeByLots_54 icm1 rfl (by decide) rfl ?_
  exact G.sub [1, 2, 3, 0, 4, 5] rfl (b_X9_takeByLots_X4_57 X hr hk14 _ _ _ _ _ _ _ kt h)
set_option maxRecDepth 100000 in
set_option maxHeartbeats 4000000 in
theorem b_X9_takeByLots_X4_14 {p : Program} {l : Launch} {e : Env} {s : State} {m : MethodId} {args : Array Value} {below : List Frame} {meth : Method} {c : Code} {D : va_G} {ks : Nat → ClassId} {A : Nat → Prop} {ad : Nat → Nat} (X : Cx p s m args meth c cX9_takeByLots 7 RX9 D ks A 75 ad (shC ks ad)) (hr : meth.sig.returnType = (some .int)) {F : Nat} {r : Int32 × Mem} : ∀ n : Nat, ∀ (μ : Mem) (t : Nat) (x1 : Int32) (x3 : Int32) (x4 : Int32) (x5 : Int32) (x6 : Int32), (kindC t = 104) → f_X9_takeByLots_b14 F  n μ t x1 x3 x4 x5 x6 = some r → G p l e rm_X9_takeByLots s m args below meth c D A 7 (MQ below (QI D 75 ad (shC ks ad) A r) args s 0 0 A) 75 ad (shC ks ad) μ 14 [(0, .ref (ad t)), (1, .int x1), (3, .int x3), (4, .int x4), (5, .int x5), (6, .int x6)] [] := by
  intro n
  induction n with
  | zero =>
    intro _ _ _ _ _ _ _ _ h
    cases h
  | succ n ih =>
    intro μ t x1 x3 x4 x5 x6 kt h
    refine g_iload 16 X 5 dX9_takeByLots_14 rfl rfl ?_
    refine g_bipush 18 X dX9_takeByLots_16 bp30 rfl ?_
    refine g_icmp_ge 63 21 X dX9_takeByLots_18 (by decide) rfl h (fun h => ?_) (fun h => ?_)
    · refine g_iload_n 64 X 2 dX9_takeByLots_63 rfl rfl ?_
      exact g_iret X hr dX9_takeByLots_64 h
    · refine g_iload_n 22 X 1 dX9_takeByLots_21 rfl rfl ?_
      refine g_iload 24 X 5 dX9_takeByLots_22 rfl rfl ?_
      refine g_ni 27 h (fun q e => r_SN X cd_X9_30_X11_isIn ⟨rfl, rfl⟩ ⟨Nat.le_of_ble_eq_true rfl, Nat.le_of_ble_eq_true rfl⟩ (c_X11_isIn e) PC_blind (pn_pre X) rfl rfl (Nat.le_of_ble_eq_true rfl) dX9_takeByLots_24) rfl (fun v1 h => ?_)
      refine g_if_ne 33 30 X dX9_takeByLots_27 (by decide) rfl h (fun h => ?_) (fun h => ?_)
      · refine g_aload_n 34 X 0 dX9_takeByLots_33 rfl rfl ?_
        refine g_iload 36 X 3 dX9_takeByLots_34 rfl rfl ?_
        refine g_ci 39 h (fun q e => r_V X cd_X9_34_X9_castLot_X4 ⟨rfl, rfl⟩ ⟨Nat.le_of_ble_eq_true rfl, Nat.le_of_ble_eq_true rfl⟩ (c_X9_castLot_X4 X.2.2.2.2 kt e) PC_blind (pc_pre X) (g_recv X (o4 kt) rfl) rfl rfl (Nat.le_of_ble_eq_true rfl) dX9_takeByLots_36) rfl (fun v2 μ3 h => ?_)
        refine g_iload 41 X 4 dX9_takeByLots_39 rfl rfl ?_
        refine g_icmp_ge 54 44 X dX9_takeByLots_41 (by decide) rfl h (fun h => ?_) (fun h => ?_)
        · exact G.sub [0, 1, 2, 3, 4, 5] rfl (b_X9_takeByLots_X4_54 X hr ih _ _ _ _ _ _ _ kt h)
        · refine g_iload_n 45 X 2 dX9_takeByLots_44 rfl rfl ?_
          refine g_iconst 46 X dX9_takeByLots_45 ic1 rfl ?_
          refine g_iload 48 X 5 dX9_takeByLots_46 rfl rfl ?_
          refine g_ishl 49 X dX9_takeByLots_48 rfl ?_
          refine g_ior 50 X dX9_takeByLots_49 rfl ?_
          refine g_topi h (fun v4 h => ?_)
          refine g_istore_n 51 X dX9_takeByLots_50 (by decide) rfl ?_
          refine g_iinc 54 X 4 dX9_takeByLots_51 icm1 rfl (by decide) rfl ?_
          exact G.sub [2, 3, 1, 4, 0, 5] rfl (b_X9_takeByLots_X4_54 X hr ih _ _ _ _ _ _ _ kt h)
      · refine g_goto 57 X dX9_takeByLots_30 (by decide) ?_
        exact G.sub [0, 1, 2, 3, 4, 5] rfl (b_X9_takeByLots_X4_57 X hr ih _ _ _ _ _ _ _ kt h)
set_option maxRecDepth 100000 in
set_option maxHeartbeats 4000000 in
theorem b_X9_takeByLots_X4_0 {p : Program} {l : Launch} {e : Env} {s : State} {m : MethodId} {args : Array Value} {below : List Frame} {meth : Method} {c : Code} {D : va_G} {ks : Nat → ClassId} {A : Nat → Prop} {ad : Nat → Nat} (X : Cx p s m args meth c cX9_takeByLots 7 RX9 D ks A 75 ad (shC ks ad)) (hr : meth.sig.returnType = (some .int)) {F : Nat} {r : Int32 × Mem} (μ : Mem) (t : Nat) (x1 : Int32) (x2 : Int32) (kt : kindC t = 104) (h : f_X9_takeByLots F  μ t x1 x2 = some r) : G p l e rm_X9_takeByLots s m args below meth c D A 7 (MQ below (QI D 75 ad (shC ks ad) A r) args s 0 0 A) 75 ad (shC ks ad) μ 0 [(0, .ref (ad t)), (1, .int x1), (2, .int x2)] [] := by
  refine g_iconst 1 X dX9_takeByLots_0 ic0 rfl ?_
  refine g_istore_n 2 X dX9_takeByLots_1 (by decide) rfl ?_
  refine g_iload_n 3 X 2 dX9_takeByLots_2 rfl rfl ?_
  refine g_ni 6 h (fun q e => r_S X cd_X9_24_J6_bitCount_0f7a4 ⟨rfl, rfl⟩ ⟨Nat.le_of_ble_eq_true rfl, Nat.le_of_ble_eq_true rfl⟩ (c_J6_bitCount_0f7a4 e) PC_blind (pn_pre X) rfl rfl (Nat.le_of_ble_eq_true rfl) dX9_takeByLots_3) rfl (fun v1 h => ?_)
  refine g_istore 8 X dX9_takeByLots_6 (by decide) rfl ?_
  refine g_iload_n 9 X 4 dX9_takeByLots_8 rfl rfl ?_
  refine g_istore 11 X dX9_takeByLots_9 (by decide) rfl ?_
  refine g_iconst 12 X dX9_takeByLots_11 ic0 rfl ?_
  refine g_istore 14 X dX9_takeByLots_12 (by decide) rfl ?_
  exact G.sub [4, 5, 3, 2, 1, 0] rfl (b_X9_takeByLots_X4_14 X hr  F _ _ _ _ _ _ _ kt h)
set_option maxRecDepth 100000 in
theorem c_X9_takeByLots_X4 {l : Launch} {D : va_G} {ks : Nat → ClassId} {A : Nat → Prop} {ad : Nat → Nat} (hD : ∀ μ : Mem, va_D A (wsM 75 ad (shC ks ad) μ)) {F : Nat} {μ : Mem} {t : Nat} {x1 : Int32} {x2 : Int32} {r : Int32 × Mem} (kt : kindC t = 104) (h : f_X9_takeByLots F μ t x1 x2 = some r) : Met l yX9_takeByLots (Cond.code yX9_takeByLots cX9_takeByLots 7 (some .int) :: wg) rm_X9_takeByLots (PC D ks 75 ad (shC ks ad) μ [.ref (ad t), .int x1, .int x2]) (QI D 75 ad (shC ks ad) A r) 0 0 A := by
  refine met_of (by decide) (Nat.le_of_ble_eq_true rfl) hD ?_
  intro p e s m args below meth c X hr
  exact G.sub [0, 1, 2] rfl (b_X9_takeByLots_X4_0 X hr  _ _ _ _ kt h)
set_option maxRecDepth 100000 in
set_option maxHeartbeats 4000000 in
theorem b_X9_takeByLots_X8_57 {p : Program} {l : Launch} {e : Env} {s : State} {m : MethodId} {args : Array Value} {below : List Frame} {meth : Method} {c : Code} {D : va_G} {ks : Nat → ClassId} {A : Nat → Prop} {ad : Nat → Nat} (X : Cx p s m args meth c cX9_takeByLots 7 RX9 D ks A 75 ad (shC ks ad)) (hr : meth.sig.returnType = (some .int)) {F : Nat} {r : Int32 × Mem} {k14 : Mem → Nat → Int32 → Int32 → Int32 → Int32 → Int32 → Option (Int32 × Mem)} (hk14 : ∀ (μ : Mem) (t : Nat) (x1 : Int32) (x3 : Int32) (x4 : Int32) (x5 : Int32) (x6 : Int32), (kindC t = 108) → k14 μ t x1 x3 x4 x5 x6 = some r → G p l e rm_X9_takeByLots s m args below meth c D A 7 (MQ below (QI D 75 ad (shC ks ad) A r) args s 0 0 A) 75 ad (shC ks ad) μ 14 [(0, .ref (ad t)), (1, .int x1), (3, .int x3), (4, .int x4), (5, .int x5), (6, .int x6)] []) (μ : Mem) (t : Nat) (x1 : Int32) (x3 : Int32) (x4 : Int32) (x5 : Int32) (x6 : Int32) (kt : kindC t = 108) (h : f_X9_takeByLots_b57 F k14 μ t x1 x3 x4 x5 x6 = some r) : G p l e rm_X9_takeByLots s m args below meth c D A 7 (MQ below (QI D 75 ad (shC ks ad) A r) args s 0 0 A) 75 ad (shC ks ad) μ 57 [(0, .ref (ad t)), (1, .int x1), (3, .int x3), (4, .int x4), (5, .int x5), (6, .int x6)] [] := by
  refine g_iinc 60 X 5 dX9_takeByLots_57 ic1 rfl (by decide) rfl ?_
  refine g_goto 14 X dX9_takeByLots_60 (by decide) ?_
  exact G.sub [1, 2, 3, 4, 5, 0] rfl (hk14 _ _ _ _ _ _ _ kt h)
set_option maxRecDepth 100000 in
set_option maxHeartbeats 4000000 in
theorem b_X9_takeByLots_X8_54 {p : Program} {l : Launch} {e : Env} {s : State} {m : MethodId} {args : Array Value} {below : List Frame} {meth : Method} {c : Code} {D : va_G} {ks : Nat → ClassId} {A : Nat → Prop} {ad : Nat → Nat} (X : Cx p s m args meth c cX9_takeByLots 7 RX9 D ks A 75 ad (shC ks ad)) (hr : meth.sig.returnType = (some .int)) {F : Nat} {r : Int32 × Mem} {k14 : Mem → Nat → Int32 → Int32 → Int32 → Int32 → Int32 → Option (Int32 × Mem)} (hk14 : ∀ (μ : Mem) (t : Nat) (x1 : Int32) (x3 : Int32) (x4 : Int32) (x5 : Int32) (x6 : Int32), (kindC t = 108) → k14 μ t x1 x3 x4 x5 x6 = some r → G p l e rm_X9_takeByLots s m args below meth c D A 7 (MQ below (QI D 75 ad (shC ks ad) A r) args s 0 0 A) 75 ad (shC ks ad) μ 14 [(0, .ref (ad t)), (1, .int x1), (3, .int x3), (4, .int x4), (5, .int x5), (6, .int x6)] []) (μ : Mem) (t : Nat) (x1 : Int32) (x3 : Int32) (x4 : Int32) (x5 : Int32) (x6 : Int32) (kt : kindC t = 108) (h : f_X9_takeByLots_b54 F k14 μ t x1 x3 x4 x5 x6 = some r) : G p l e rm_X9_takeByLots s m args below meth c D A 7 (MQ below (QI D 75 ad (shC ks ad) A r) args s 0 0 A) 75 ad (shC ks ad) μ 54 [(0, .ref (ad t)), (1, .int x1), (3, .int x3), (4, .int x4), (5, .int x5), (6, .int x6)] [] := by
  refine g_iinc 57 X 3 dX9_takeByLots_54 icm1 rfl (by decide) rfl ?_
  exact G.sub [1, 2, 3, 0, 4, 5] rfl (b_X9_takeByLots_X8_57 X hr hk14 _ _ _ _ _ _ _ kt h)
set_option maxRecDepth 100000 in
set_option maxHeartbeats 4000000 in
theorem b_X9_takeByLots_X8_14 {p : Program} {l : Launch} {e : Env} {s : State} {m : MethodId} {args : Array Value} {below : List Frame} {meth : Method} {c : Code} {D : va_G} {ks : Nat → ClassId} {A : Nat → Prop} {ad : Nat → Nat} (X : Cx p s m args meth c cX9_takeByLots 7 RX9 D ks A 75 ad (shC ks ad)) (hr : meth.sig.returnType = (some .int)) {F : Nat} {r : Int32 × Mem} : ∀ n : Nat, ∀ (μ : Mem) (t : Nat) (x1 : Int32) (x3 : Int32) (x4 : Int32) (x5 : Int32) (x6 : Int32), (kindC t = 108) → f_X9_takeByLots_b14 F  n μ t x1 x3 x4 x5 x6 = some r → G p l e rm_X9_takeByLots s m args below meth c D A 7 (MQ below (QI D 75 ad (shC ks ad) A r) args s 0 0 A) 75 ad (shC ks ad) μ 14 [(0, .ref (ad t)), (1, .int x1), (3, .int x3), (4, .int x4), (5, .int x5), (6, .int x6)] [] := by
  intro n
  induction n with
  | zero =>
    intro _ _ _ _ _ _ _ _ h
    cases h
  | succ n ih =>
    intro μ t x1 x3 x4 x5 x6 kt h
    refine g_iload 16 X 5 dX9_takeByLots_14 rfl rfl ?_
    refine g_bipush 18 X dX9_takeByLots_16 bp30 rfl ?_
    refine g_icmp_ge 63 21 X dX9_takeByLots_18 (by decide) rfl h (fun h => ?_) (fun h => ?_)
    · refine g_iload_n 64 X 2 dX9_takeByLots_63 rfl rfl ?_
      exact g_iret X hr dX9_takeByLots_64 h
    · refine g_iload_n 22 X 1 dX9_takeByLots_21 rfl rfl ?_
      refine g_iload 24 X 5 dX9_takeByLots_22 rfl rfl ?_
      refine g_ni 27 h (fun q e => r_SN X cd_X9_30_X11_isIn ⟨rfl, rfl⟩ ⟨Nat.le_of_ble_eq_true rfl, Nat.le_of_ble_eq_true rfl⟩ (c_X11_isIn e) PC_blind (pn_pre X) rfl rfl (Nat.le_of_ble_eq_true rfl) dX9_takeByLots_24) rfl (fun v1 h => ?_)
      refine g_if_ne 33 30 X dX9_takeByLots_27 (by decide) rfl h (fun h => ?_) (fun h => ?_)
      · refine g_aload_n 34 X 0 dX9_takeByLots_33 rfl rfl ?_
        refine g_iload 36 X 3 dX9_takeByLots_34 rfl rfl ?_
        refine g_ci 39 h (fun q e => r_V X cd_X9_34_X9_castLot_X8 ⟨rfl, rfl⟩ ⟨Nat.le_of_ble_eq_true rfl, Nat.le_of_ble_eq_true rfl⟩ (c_X9_castLot_X8 X.2.2.2.2 kt e) PC_blind (pc_pre X) (g_recv X (o8 kt) rfl) rfl rfl (Nat.le_of_ble_eq_true rfl) dX9_takeByLots_36) rfl (fun v2 μ3 h => ?_)
        refine g_iload 41 X 4 dX9_takeByLots_39 rfl rfl ?_
        refine g_icmp_ge 54 44 X dX9_takeByLots_41 (by decide) rfl h (fun h => ?_) (fun h => ?_)
        · exact G.sub [0, 1, 2, 3, 4, 5] rfl (b_X9_takeByLots_X8_54 X hr ih _ _ _ _ _ _ _ kt h)
        · refine g_iload_n 45 X 2 dX9_takeByLots_44 rfl rfl ?_
          refine g_iconst 46 X dX9_takeByLots_45 ic1 rfl ?_
          refine g_iload 48 X 5 dX9_takeByLots_46 rfl rfl ?_
          refine g_ishl 49 X dX9_takeByLots_48 rfl ?_
          refine g_ior 50 X dX9_takeByLots_49 rfl ?_
          refine g_topi h (fun v4 h => ?_)
          refine g_istore_n 51 X dX9_takeByLots_50 (by decide) rfl ?_
          refine g_iinc 54 X 4 dX9_takeByLots_51 icm1 rfl (by decide) rfl ?_
          exact G.sub [2, 3, 1, 4, 0, 5] rfl (b_X9_takeByLots_X8_54 X hr ih _ _ _ _ _ _ _ kt h)
      · refine g_goto 57 X dX9_takeByLots_30 (by decide) ?_
        exact G.sub [0, 1, 2, 3, 4, 5] rfl (b_X9_takeByLots_X8_57 X hr ih _ _ _ _ _ _ _ kt h)
set_option maxRecDepth 100000 in
set_option maxHeartbeats 4000000 in
theorem b_X9_takeByLots_X8_0 {p : Program} {l : Launch} {e : Env} {s : State} {m : MethodId} {args : Array Value} {below : List Frame} {meth : Method} {c : Code} {D : va_G} {ks : Nat → ClassId} {A : Nat → Prop} {ad : Nat → Nat} (X : Cx p s m args meth c cX9_takeByLots 7 RX9 D ks A 75 ad (shC ks ad)) (hr : meth.sig.returnType = (some .int)) {F : Nat} {r : Int32 × Mem} (μ : Mem) (t : Nat) (x1 : Int32) (x2 : Int32) (kt : kindC t = 108) (h : f_X9_takeByLots F  μ t x1 x2 = some r) : G p l e rm_X9_takeByLots s m args below meth c D A 7 (MQ below (QI D 75 ad (shC ks ad) A r) args s 0 0 A) 75 ad (shC ks ad) μ 0 [(0, .ref (ad t)), (1, .int x1), (2, .int x2)] [] := by
  refine g_iconst 1 X dX9_takeByLots_0 ic0 rfl ?_
  refine g_istore_n 2 X dX9_takeByLots_1 (by decide) rfl ?_
  refine g_iload_n 3 X 2 dX9_takeByLots_2 rfl rfl ?_
  refine g_ni 6 h (fun q e => r_S X cd_X9_24_J6_bitCount_0f7a4 ⟨rfl, rfl⟩ ⟨Nat.le_of_ble_eq_true rfl, Nat.le_of_ble_eq_true rfl⟩ (c_J6_bitCount_0f7a4 e) PC_blind (pn_pre X) rfl rfl (Nat.le_of_ble_eq_true rfl) dX9_takeByLots_3) rfl (fun v1 h => ?_)
  refine g_istore 8 X dX9_takeByLots_6 (by decide) rfl ?_
  refine g_iload_n 9 X 4 dX9_takeByLots_8 rfl rfl ?_
  refine g_istore 11 X dX9_takeByLots_9 (by decide) rfl ?_
  refine g_iconst 12 X dX9_takeByLots_11 ic0 rfl ?_
  refine g_istore 14 X dX9_takeByLots_12 (by decide) rfl ?_
  exact G.sub [4, 5, 3, 2, 1, 0] rfl (b_X9_takeByLots_X8_14 X hr  F _ _ _ _ _ _ _ kt h)
set_option maxRecDepth 100000 in
theorem c_X9_takeByLots_X8 {l : Launch} {D : va_G} {ks : Nat → ClassId} {A : Nat → Prop} {ad : Nat → Nat} (hD : ∀ μ : Mem, va_D A (wsM 75 ad (shC ks ad) μ)) {F : Nat} {μ : Mem} {t : Nat} {x1 : Int32} {x2 : Int32} {r : Int32 × Mem} (kt : kindC t = 108) (h : f_X9_takeByLots F μ t x1 x2 = some r) : Met l yX9_takeByLots (Cond.code yX9_takeByLots cX9_takeByLots 7 (some .int) :: wg) rm_X9_takeByLots (PC D ks 75 ad (shC ks ad) μ [.ref (ad t), .int x1, .int x2]) (QI D 75 ad (shC ks ad) A r) 0 0 A := by
  refine met_of (by decide) (Nat.le_of_ble_eq_true rfl) hD ?_
  intro p e s m args below meth c X hr
  exact G.sub [0, 1, 2] rfl (b_X9_takeByLots_X8_0 X hr  _ _ _ _ kt h)
abbrev rm_X2_drawByLots : Room := { frames := 2, cells := 0, slots := 0, locals := 47 }
set_option maxRecDepth 100000 in
set_option maxHeartbeats 4000000 in
theorem b_X2_drawByLots_4 {p : Program} {l : Launch} {e : Env} {s : State} {m : MethodId} {args : Array Value} {below : List Frame} {meth : Method} {c : Code} {D : va_G} {ks : Nat → ClassId} {A : Nat → Prop} {ad : Nat → Nat} (X : Cx p s m args meth c cX2_drawByLots 3 RX2 D ks A 75 ad (shC ks ad)) (hr : meth.sig.returnType = (some .int)) {F : Nat} {r : Int32 × Mem} : ∀ n : Nat, ∀ (μ : Mem) (t : Nat) (x1 : Int32) (x2 : Int32), (kindC t = 102) → f_X2_drawByLots_b4 F  n μ t x1 x2 = some r → G p l e rm_X2_drawByLots s m args below meth c D A 3 (MQ below (QI D 75 ad (shC ks ad) A r) args s 0 0 A) 75 ad (shC ks ad) μ 4 [(0, .ref (ad t)), (1, .int x1), (2, .int x2)] [] := by
  intro n
  induction n with
  | zero =>
    intro _ _ _ _ _ h
    cases h
  | succ n ih =>
    intro μ t x1 x2 kt h
    refine g_iload_n 5 X 2 dX2_drawByLots_4 rfl rfl ?_
    refine g_aload_n 6 X 0 dX2_drawByLots_5 rfl rfl ?_
    refine g_geti 9 X fl_X2_15_2 (o2 kt) rfl dX2_drawByLots_6 h rfl (fun v1 h => ?_)
    refine g_icmp_ge 36 12 X dX2_drawByLots_9 (by decide) rfl h (fun h => ?_) (fun h => ?_)
    · refine g_iload_n 37 X 1 dX2_drawByLots_36 rfl rfl ?_
      exact g_iret X hr dX2_drawByLots_37 h
    · refine g_iload_n 13 X 1 dX2_drawByLots_12 rfl rfl ?_
      refine g_aload_n 14 X 0 dX2_drawByLots_13 rfl rfl ?_
      refine g_aload_n 15 X 0 dX2_drawByLots_14 rfl rfl ?_
      refine g_iload_n 16 X 2 dX2_drawByLots_15 rfl rfl ?_
      refine g_ci 19 h (fun q e => r_V X cd_X2_35_X2_membersOf_X2 ⟨rfl, rfl⟩ ⟨Nat.le_of_ble_eq_true rfl, Nat.le_of_ble_eq_true rfl⟩ (c_X2_membersOf X.2.2.2.2 kt e) PC_blind (pc_pre X) (g_recv X (o2 kt) rfl) rfl rfl (Nat.le_of_ble_eq_true rfl) dX2_drawByLots_16) rfl (fun v2 μ3 h => ?_)
      refine g_aload_n 20 X 0 dX2_drawByLots_19 rfl rfl ?_
      refine g_getr 23 X fl_X2_44_2 (o2 kt) rfl dX2_drawByLots_20 rfl ?_
      refine g_iload_n 24 X 2 dX2_drawByLots_23 rfl rfl ?_
      refine g_iald 25 X (aiC (n := 4) (by decide) (k2_numbers kt)) dX2_drawByLots_24 h rfl (fun v4 h => ?_)
      refine g_ci 28 h (fun q e => r_U X cd_X2_67_X9_takeByLots_X2 ⟨rfl, rfl⟩ ⟨Nat.le_of_ble_eq_true rfl, Nat.le_of_ble_eq_true rfl⟩ (c_X9_takeByLots_X2 X.2.2.2.2 kt e) PC_blind (pc_pre X) (g_recv X (o2 kt) rfl) rfl rfl (Nat.le_of_ble_eq_true rfl) dX2_drawByLots_25) rfl (fun v5 μ6 h => ?_)
      refine g_ior 29 X dX2_drawByLots_28 rfl ?_
      refine g_topi h (fun v7 h => ?_)
      refine g_istore_n 30 X dX2_drawByLots_29 (by decide) rfl ?_
      refine g_iinc 33 X 2 dX2_drawByLots_30 ic1 rfl (by decide) rfl ?_
      refine g_goto 4 X dX2_drawByLots_33 (by decide) ?_
      exact G.sub [2, 1, 0] rfl (ih _ _ _ _ kt h)
set_option maxRecDepth 100000 in
set_option maxHeartbeats 4000000 in
theorem b_X2_drawByLots_0 {p : Program} {l : Launch} {e : Env} {s : State} {m : MethodId} {args : Array Value} {below : List Frame} {meth : Method} {c : Code} {D : va_G} {ks : Nat → ClassId} {A : Nat → Prop} {ad : Nat → Nat} (X : Cx p s m args meth c cX2_drawByLots 3 RX2 D ks A 75 ad (shC ks ad)) (hr : meth.sig.returnType = (some .int)) {F : Nat} {r : Int32 × Mem} (μ : Mem) (t : Nat) (kt : kindC t = 102) (h : f_X2_drawByLots F  μ t = some r) : G p l e rm_X2_drawByLots s m args below meth c D A 3 (MQ below (QI D 75 ad (shC ks ad) A r) args s 0 0 A) 75 ad (shC ks ad) μ 0 [(0, .ref (ad t))] [] := by
  refine g_iconst 1 X dX2_drawByLots_0 ic0 rfl ?_
  refine g_istore_n 2 X dX2_drawByLots_1 (by decide) rfl ?_
  refine g_iconst 3 X dX2_drawByLots_2 ic0 rfl ?_
  refine g_istore_n 4 X dX2_drawByLots_3 (by decide) rfl ?_
  exact G.sub [2, 1, 0] rfl (b_X2_drawByLots_4 X hr  F _ _ _ _ kt h)
set_option maxRecDepth 100000 in
theorem c_X2_drawByLots {l : Launch} {D : va_G} {ks : Nat → ClassId} {A : Nat → Prop} {ad : Nat → Nat} (hD : ∀ μ : Mem, va_D A (wsM 75 ad (shC ks ad) μ)) {F : Nat} {μ : Mem} {t : Nat} {r : Int32 × Mem} (kt : kindC t = 102) (h : f_X2_drawByLots F μ t = some r) : Met l yX2_drawByLots (Cond.code yX2_drawByLots cX2_drawByLots 3 (some .int) :: wg) rm_X2_drawByLots (PC D ks 75 ad (shC ks ad) μ [.ref (ad t)]) (QI D 75 ad (shC ks ad) A r) 0 0 A := by
  refine met_of (by decide) (Nat.le_of_ble_eq_true rfl) hD ?_
  intro p e s m args below meth c X hr
  exact G.sub [0] rfl (b_X2_drawByLots_0 X hr  _ _ kt h)
abbrev rm_X4_drawByLots : Room := { frames := 3, cells := 0, slots := 0, locals := 68 }
set_option maxRecDepth 100000 in
set_option maxHeartbeats 4000000 in
theorem b_X4_drawByLots_0 {p : Program} {l : Launch} {e : Env} {s : State} {m : MethodId} {args : Array Value} {below : List Frame} {meth : Method} {c : Code} {D : va_G} {ks : Nat → ClassId} {A : Nat → Prop} {ad : Nat → Nat} (X : Cx p s m args meth c cX4_drawByLots 1 RX4 D ks A 75 ad (shC ks ad)) (hr : meth.sig.returnType = (some .int)) {F : Nat} {r : Int32 × Mem} (μ : Mem) (t : Nat) (kt : kindC t = 104) (h : f_X4_drawByLots F  μ t = some r) : G p l e rm_X4_drawByLots s m args below meth c D A 1 (MQ below (QI D 75 ad (shC ks ad) A r) args s 0 0 A) 75 ad (shC ks ad) μ 0 [(0, .ref (ad t))] [] := by
  refine g_aload_n 1 X 0 dX4_drawByLots_0 rfl rfl ?_
  refine g_aload_n 2 X 0 dX4_drawByLots_1 rfl rfl ?_
  refine g_aload_n 3 X 0 dX4_drawByLots_2 rfl rfl ?_
  refine g_ci 6 h (fun q e => r_V X cd_X4_15_X4_pointCount_X4 ⟨rfl, rfl⟩ ⟨Nat.le_of_ble_eq_true rfl, Nat.le_of_ble_eq_true rfl⟩ (c_X4_pointCount X.2.2.2.2 kt e) PC_blind (pc_pre X) (g_recv X (o4 kt) rfl) rfl rfl (Nat.le_of_ble_eq_true rfl) dX4_drawByLots_3) rfl (fun v1 μ2 h => ?_)
  refine g_ci 9 h (fun q e => r_U X cd_X4_85_X9_castLot_X4 ⟨rfl, rfl⟩ ⟨Nat.le_of_ble_eq_true rfl, Nat.le_of_ble_eq_true rfl⟩ (c_X9_castLot_X4 X.2.2.2.2 kt e) PC_blind (pc_pre X) (g_recv X (o4 kt) rfl) rfl rfl (Nat.le_of_ble_eq_true rfl) dX4_drawByLots_6) rfl (fun v3 μ4 h => ?_)
  refine g_ci 12 h (fun q e => r_V X cd_X4_77_X4_drawAt_X4 ⟨rfl, rfl⟩ ⟨Nat.le_of_ble_eq_true rfl, Nat.le_of_ble_eq_true rfl⟩ (c_X4_drawAt X.2.2.2.2 kt e) PC_blind (pc_pre X) (g_recv X (o4 kt) rfl) rfl rfl (Nat.le_of_ble_eq_true rfl) dX4_drawByLots_9) rfl (fun v5 μ6 h => ?_)
  exact g_iret X hr dX4_drawByLots_12 h
set_option maxRecDepth 100000 in
theorem c_X4_drawByLots {l : Launch} {D : va_G} {ks : Nat → ClassId} {A : Nat → Prop} {ad : Nat → Nat} (hD : ∀ μ : Mem, va_D A (wsM 75 ad (shC ks ad) μ)) {F : Nat} {μ : Mem} {t : Nat} {r : Int32 × Mem} (kt : kindC t = 104) (h : f_X4_drawByLots F μ t = some r) : Met l yX4_drawByLots (Cond.code yX4_drawByLots cX4_drawByLots 1 (some .int) :: wg) rm_X4_drawByLots (PC D ks 75 ad (shC ks ad) μ [.ref (ad t)]) (QI D 75 ad (shC ks ad) A r) 0 0 A := by
  refine met_of (by decide) (Nat.le_of_ble_eq_true rfl) hD ?_
  intro p e s m args below meth c X hr
  exact G.sub [0] rfl (b_X4_drawByLots_0 X hr  _ _ kt h)
abbrev rm_X8_drawByLots : Room := { frames := 3, cells := 0, slots := 0, locals := 62 }
set_option maxRecDepth 100000 in
set_option maxHeartbeats 4000000 in
theorem b_X8_drawByLots_57 {p : Program} {l : Launch} {e : Env} {s : State} {m : MethodId} {args : Array Value} {below : List Frame} {meth : Method} {c : Code} {D : va_G} {ks : Nat → ClassId} {A : Nat → Prop} {ad : Nat → Nat} (X : Cx p s m args meth c cX8_drawByLots 4 RX8 D ks A 75 ad (shC ks ad)) (hr : meth.sig.returnType = (some .int)) {F : Nat} {r : Int32 × Mem} {k22 : Mem → Nat → Int32 → Int32 → Int32 → Option (Int32 × Mem)} (hk22 : ∀ (μ : Mem) (t : Nat) (x1 : Int32) (x2 : Int32) (x3 : Int32), (kindC t = 108) → k22 μ t x1 x2 x3 = some r → G p l e rm_X8_drawByLots s m args below meth c D A 4 (MQ below (QI D 75 ad (shC ks ad) A r) args s 0 0 A) 75 ad (shC ks ad) μ 22 [(0, .ref (ad t)), (1, .int x1), (2, .int x2), (3, .int x3)] []) (μ : Mem) (t : Nat) (x1 : Int32) (x2 : Int32) (x3 : Int32) (kt : kindC t = 108) (h : f_X8_drawByLots_b57 F k22 μ t x1 x2 x3 = some r) : G p l e rm_X8_drawByLots s m args below meth c D A 4 (MQ below (QI D 75 ad (shC ks ad) A r) args s 0 0 A) 75 ad (shC ks ad) μ 57 [(0, .ref (ad t)), (1, .int x1), (2, .int x2), (3, .int x3)] [] := by
  refine g_iinc 60 X 3 dX8_drawByLots_57 ic1 rfl (by decide) rfl ?_
  refine g_goto 22 X dX8_drawByLots_60 (by decide) ?_
  exact G.sub [1, 2, 3, 0] rfl (hk22 _ _ _ _ _ kt h)
set_option maxRecDepth 100000 in
set_option maxHeartbeats 4000000 in
theorem b_X8_drawByLots_22 {p : Program} {l : Launch} {e : Env} {s : State} {m : MethodId} {args : Array Value} {below : List Frame} {meth : Method} {c : Code} {D : va_G} {ks : Nat → ClassId} {A : Nat → Prop} {ad : Nat → Nat} (X : Cx p s m args meth c cX8_drawByLots 4 RX8 D ks A 75 ad (shC ks ad)) (hr : meth.sig.returnType = (some .int)) {F : Nat} {r : Int32 × Mem} : ∀ n : Nat, ∀ (μ : Mem) (t : Nat) (x1 : Int32) (x2 : Int32) (x3 : Int32), (kindC t = 108) → f_X8_drawByLots_b22 F  n μ t x1 x2 x3 = some r → G p l e rm_X8_drawByLots s m args below meth c D A 4 (MQ below (QI D 75 ad (shC ks ad) A r) args s 0 0 A) 75 ad (shC ks ad) μ 22 [(0, .ref (ad t)), (1, .int x1), (2, .int x2), (3, .int x3)] [] := by
  intro n
  induction n with
  | zero =>
    intro _ _ _ _ _ _ h
    cases h
  | succ n ih =>
    intro μ t x1 x2 x3 kt h
    refine g_iload_n 23 X 3 dX8_drawByLots_22 rfl rfl ?_
    refine g_bipush 25 X dX8_drawByLots_23 bp8 rfl ?_
    refine g_icmp_ge 63 28 X dX8_drawByLots_25 (by decide) rfl h (fun h => ?_) (fun h => ?_)
    · refine g_iload_n 64 X 2 dX8_drawByLots_63 rfl rfl ?_
      exact g_iret X hr dX8_drawByLots_64 h
    · refine g_iload_n 29 X 1 dX8_drawByLots_28 rfl rfl ?_
      refine g_iload_n 30 X 3 dX8_drawByLots_29 rfl rfl ?_
      refine g_ni 33 h (fun q e => r_SN X cd_X8_77_X11_isIn ⟨rfl, rfl⟩ ⟨Nat.le_of_ble_eq_true rfl, Nat.le_of_ble_eq_true rfl⟩ (c_X11_isIn e) PC_blind (pn_pre X) rfl rfl (Nat.le_of_ble_eq_true rfl) dX8_drawByLots_30) rfl (fun v1 h => ?_)
      refine g_if_eq 57 36 X dX8_drawByLots_33 (by decide) rfl h (fun h => ?_) (fun h => ?_)
      · exact G.sub [0, 1, 2, 3] rfl (b_X8_drawByLots_57 X hr ih _ _ _ _ _ kt h)
      · refine g_iload_n 37 X 2 dX8_drawByLots_36 rfl rfl ?_
        refine g_aload_n 38 X 0 dX8_drawByLots_37 rfl rfl ?_
        refine g_aload_n 39 X 0 dX8_drawByLots_38 rfl rfl ?_
        refine g_getr 42 X fl_X8_15_8 (o8 kt) rfl dX8_drawByLots_39 rfl ?_
        refine g_getr 45 X fl_X8_31_6 (o6 rfl) rfl dX8_drawByLots_42 rfl ?_
        refine g_iload_n 46 X 3 dX8_drawByLots_45 rfl rfl ?_
        refine g_iald 47 X (aiC (n := 8) (by decide) rfl) dX8_drawByLots_46 h rfl (fun v2 h => ?_)
        refine g_aload_n 48 X 0 dX8_drawByLots_47 rfl rfl ?_
        refine g_iload_n 49 X 3 dX8_drawByLots_48 rfl rfl ?_
        refine g_ci 52 h (fun q e => r_V X cd_X8_55_X8_takenOf_X8 ⟨rfl, rfl⟩ ⟨Nat.le_of_ble_eq_true rfl, Nat.le_of_ble_eq_true rfl⟩ (c_X8_takenOf X.2.2.2.2 kt e) PC_blind (pc_pre X) (g_recv X (o8 kt) rfl) rfl rfl (Nat.le_of_ble_eq_true rfl) dX8_drawByLots_49) rfl (fun v3 μ4 h => ?_)
        refine g_ci 55 h (fun q e => r_U X cd_X8_74_X9_takeByLots_X8 ⟨rfl, rfl⟩ ⟨Nat.le_of_ble_eq_true rfl, Nat.le_of_ble_eq_true rfl⟩ (c_X9_takeByLots_X8 X.2.2.2.2 kt e) PC_blind (pc_pre X) (g_recv X (o8 kt) rfl) rfl rfl (Nat.le_of_ble_eq_true rfl) dX8_drawByLots_52) rfl (fun v5 μ6 h => ?_)
        refine g_ior 56 X dX8_drawByLots_55 rfl ?_
        refine g_topi h (fun v7 h => ?_)
        refine g_istore_n 57 X dX8_drawByLots_56 (by decide) rfl ?_
        exact G.sub [1, 2, 0, 3] rfl (b_X8_drawByLots_57 X hr ih _ _ _ _ _ kt h)
set_option maxRecDepth 100000 in
set_option maxHeartbeats 4000000 in
theorem b_X8_drawByLots_0 {p : Program} {l : Launch} {e : Env} {s : State} {m : MethodId} {args : Array Value} {below : List Frame} {meth : Method} {c : Code} {D : va_G} {ks : Nat → ClassId} {A : Nat → Prop} {ad : Nat → Nat} (X : Cx p s m args meth c cX8_drawByLots 4 RX8 D ks A 75 ad (shC ks ad)) (hr : meth.sig.returnType = (some .int)) {F : Nat} {r : Int32 × Mem} (μ : Mem) (t : Nat) (kt : kindC t = 108) (h : f_X8_drawByLots F  μ t = some r) : G p l e rm_X8_drawByLots s m args below meth c D A 4 (MQ below (QI D 75 ad (shC ks ad) A r) args s 0 0 A) 75 ad (shC ks ad) μ 0 [(0, .ref (ad t))] [] := by
  refine g_aload_n 1 X 0 dX8_drawByLots_0 rfl rfl ?_
  refine g_aload_n 2 X 0 dX8_drawByLots_1 rfl rfl ?_
  refine g_getr 5 X fl_X8_15_8 (o8 kt) rfl dX8_drawByLots_2 rfl ?_
  refine g_geti 8 X fl_X8_19_6 (o6 rfl) rfl dX8_drawByLots_5 h rfl (fun v1 h => ?_)
  refine g_aload_n 9 X 0 dX8_drawByLots_8 rfl rfl ?_
  refine g_getr 12 X fl_X8_35_8 (o8 kt) rfl dX8_drawByLots_9 rfl ?_
  refine g_iconst 13 X dX8_drawByLots_12 ic0 rfl ?_
  refine g_iald 14 X (aiC (n := 4) (by decide) (k8_numbers kt)) dX8_drawByLots_13 h rfl (fun v2 h => ?_)
  refine g_ci 17 h (fun q e => r_U X cd_X8_74_X9_takeByLots_X8 ⟨rfl, rfl⟩ ⟨Nat.le_of_ble_eq_true rfl, Nat.le_of_ble_eq_true rfl⟩ (c_X9_takeByLots_X8 X.2.2.2.2 kt e) PC_blind (pc_pre X) (g_recv X (o8 kt) rfl) rfl rfl (Nat.le_of_ble_eq_true rfl) dX8_drawByLots_14) rfl (fun v3 μ4 h => ?_)
  refine g_istore_n 18 X dX8_drawByLots_17 (by decide) rfl ?_
  refine g_iconst 19 X dX8_drawByLots_18 ic0 rfl ?_
  refine g_istore_n 20 X dX8_drawByLots_19 (by decide) rfl ?_
  refine g_iconst 21 X dX8_drawByLots_20 ic0 rfl ?_
  refine g_istore_n 22 X dX8_drawByLots_21 (by decide) rfl ?_
  exact G.sub [3, 2, 1, 0] rfl (b_X8_drawByLots_22 X hr  F _ _ _ _ _ kt h)
set_option maxRecDepth 100000 in
theorem c_X8_drawByLots {l : Launch} {D : va_G} {ks : Nat → ClassId} {A : Nat → Prop} {ad : Nat → Nat} (hD : ∀ μ : Mem, va_D A (wsM 75 ad (shC ks ad) μ)) {F : Nat} {μ : Mem} {t : Nat} {r : Int32 × Mem} (kt : kindC t = 108) (h : f_X8_drawByLots F μ t = some r) : Met l yX8_drawByLots (Cond.code yX8_drawByLots cX8_drawByLots 4 (some .int) :: wg) rm_X8_drawByLots (PC D ks 75 ad (shC ks ad) μ [.ref (ad t)]) (QI D 75 ad (shC ks ad) A r) 0 0 A := by
  refine met_of (by decide) (Nat.le_of_ble_eq_true rfl) hD ?_
  intro p e s m args below meth c X hr
  exact G.sub [0] rfl (b_X8_drawByLots_0 X hr  _ _ kt h)
