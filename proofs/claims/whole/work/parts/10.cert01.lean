abbrev rm_X5_faultOfNumbers : Room := { frames := 3, cells := 0, slots := 0, locals := 64 }
set_option maxRecDepth 100000 in
set_option maxHeartbeats 4000000 in
theorem b_X5_faultOfNumbers_111 {p : Program} {l : Launch} {e : Env} {s : State} {m : MethodId} {args : Array Value} {below : List Frame} {meth : Method} {c : Code} {D : va_G} {ks : Nat → ClassId} {A : Nat → Prop} {ad : Nat → Nat} (X : Cx p s m args meth c cX5_faultOfNumbers 5 RX5 D ks A 75 ad (shC ks ad)) (hr : meth.sig.returnType = (some .int)) {F : Nat} {r : Int32 × Mem} (μ : Mem) (t : Nat) (x3 : Int32) (kt : kindC t = 105) (h : f_X5_faultOfNumbers_b111 F  μ t x3 = some r) : G p l e rm_X5_faultOfNumbers s m args below meth c D A 5 (MQ below (QI D 75 ad (shC ks ad) A r) args s 0 0 A) 75 ad (shC ks ad) μ 111 [(0, .ref (ad t)), (3, .int x3)] [] := by
  refine g_iload_n 112 X 1 dX5_faultOfNumbers_111 rfl rfl ?_
  refine g_aload_n 113 X 0 dX5_faultOfNumbers_112 rfl rfl ?_
  refine g_geti 116 X fl_X5_47_5 (o5 kt) rfl dX5_faultOfNumbers_113 h rfl (fun v1 h => ?_)
  refine g_icmp_ge 123 119 X dX5_faultOfNumbers_116 (by decide) rfl h (fun h => ?_) (fun h => ?_)
  · refine g_iconst 124 X dX5_faultOfNumbers_123 icm1 rfl ?_
    exact g_iret X hr dX5_faultOfNumbers_124 h
  · refine g_iload_n 120 X 1 dX5_faultOfNumbers_119 rfl rfl ?_
    refine g_goto 124 X dX5_faultOfNumbers_120 (by decide) ?_
    exact g_iret X hr dX5_faultOfNumbers_124 h
set_option maxRecDepth 100000 in
set_option maxHeartbeats 4000000 in
theorem b_X5_faultOfNumbers_105 {p : Program} {l : Launch} {e : Env} {s : State} {m : MethodId} {args : Array Value} {below : List Frame} {meth : Method} {c : Code} {D : va_G} {ks : Nat → ClassId} {A : Nat → Prop} {ad : Nat → Nat} (X : Cx p s m args meth c cX5_faultOfNumbers 5 RX5 D ks A 75 ad (shC ks ad)) (hr : meth.sig.returnType = (some .int)) {F : Nat} {r : Int32 × Mem} {k5 : Mem → Nat → Int32 → Int32 → Int32 → Int32 → Option (Int32 × Mem)} (hk5 : ∀ (μ : Mem) (t : Nat) (x1 : Int32) (x2 : Int32) (x3 : Int32) (x4 : Int32), (kindC t = 105) → k5 μ t x1 x2 x3 x4 = some r → G p l e rm_X5_faultOfNumbers s m args below meth c D A 5 (MQ below (QI D 75 ad (shC ks ad) A r) args s 0 0 A) 75 ad (shC ks ad) μ 5 [(0, .ref (ad t)), (1, .int x1), (2, .int x2), (3, .int x3), (4, .int x4)] []) (μ : Mem) (t : Nat) (x1 : Int32) (x2 : Int32) (x3 : Int32) (x4 : Int32) (kt : kindC t = 105) (h : f_X5_faultOfNumbers_b105 F k5 μ t x1 x2 x3 x4 = some r) : G p l e rm_X5_faultOfNumbers s m args below meth c D A 5 (MQ below (QI D 75 ad (shC ks ad) A r) args s 0 0 A) 75 ad (shC ks ad) μ 105 [(0, .ref (ad t)), (1, .int x1), (2, .int x2), (3, .int x3), (4, .int x4)] [] := by
  refine g_iinc 108 X 4 dX5_faultOfNumbers_105 ic1 rfl (by decide) rfl ?_
  refine g_goto 5 X dX5_faultOfNumbers_108 (by decide) ?_
  exact G.sub [1, 2, 3, 4, 0] rfl (hk5 _ _ _ _ _ _ kt h)
set_option maxRecDepth 100000 in
set_option maxHeartbeats 4000000 in
theorem b_X5_faultOfNumbers_40 {p : Program} {l : Launch} {e : Env} {s : State} {m : MethodId} {args : Array Value} {below : List Frame} {meth : Method} {c : Code} {D : va_G} {ks : Nat → ClassId} {A : Nat → Prop} {ad : Nat → Nat} (X : Cx p s m args meth c cX5_faultOfNumbers 5 RX5 D ks A 75 ad (shC ks ad)) (hr : meth.sig.returnType = (some .int)) {F : Nat} {r : Int32 × Mem} {k5 : Mem → Nat → Int32 → Int32 → Int32 → Int32 → Option (Int32 × Mem)} (hk5 : ∀ (μ : Mem) (t : Nat) (x1 : Int32) (x2 : Int32) (x3 : Int32) (x4 : Int32), (kindC t = 105) → k5 μ t x1 x2 x3 x4 = some r → G p l e rm_X5_faultOfNumbers s m args below meth c D A 5 (MQ below (QI D 75 ad (shC ks ad) A r) args s 0 0 A) 75 ad (shC ks ad) μ 5 [(0, .ref (ad t)), (1, .int x1), (2, .int x2), (3, .int x3), (4, .int x4)] []) (μ : Mem) (t : Nat) (x1 : Int32) (x2 : Int32) (x3 : Int32) (x4 : Int32) (kt : kindC t = 105) (h : f_X5_faultOfNumbers_b40 F k5 μ t x1 x2 x3 x4 = some r) : G p l e rm_X5_faultOfNumbers s m args below meth c D A 5 (MQ below (QI D 75 ad (shC ks ad) A r) args s 0 0 A) 75 ad (shC ks ad) μ 40 [(0, .ref (ad t)), (1, .int x1), (2, .int x2), (3, .int x3), (4, .int x4)] [] := by
  refine g_aload_n 41 X 0 dX5_faultOfNumbers_40 rfl rfl ?_
  refine g_iload_n 42 X 3 dX5_faultOfNumbers_41 rfl rfl ?_
  refine g_ci 45 h (fun q e => r_V X cd_X5_74_X5_isFigure_X5 ⟨rfl, rfl⟩ ⟨Nat.le_of_ble_eq_true rfl, Nat.le_of_ble_eq_true rfl⟩ (c_X5_isFigure X.2.2.2.2 kt e) PC_blind (pc_pre X) (g_recv X (o5 kt) rfl) rfl rfl (Nat.le_of_ble_eq_true rfl) dX5_faultOfNumbers_42) rfl (fun v1 μ2 h => ?_)
  refine g_if_ne 50 48 X dX5_faultOfNumbers_45 (by decide) rfl h (fun h => ?_) (fun h => ?_)
  · refine g_aload_n 51 X 0 dX5_faultOfNumbers_50 rfl rfl ?_
    refine g_getr 54 X fl_X5_15_5 (o5 kt) rfl dX5_faultOfNumbers_51 rfl ?_
    refine g_iload 56 X 4 dX5_faultOfNumbers_54 rfl rfl ?_
    refine g_aload_n 57 X 0 dX5_faultOfNumbers_56 rfl rfl ?_
    refine g_iload_n 58 X 3 dX5_faultOfNumbers_57 rfl rfl ?_
    refine g_ci 61 h (fun q e => r_V X cd_X5_66_X5_byteAt_X5 ⟨rfl, rfl⟩ ⟨Nat.le_of_ble_eq_true rfl, Nat.le_of_ble_eq_true rfl⟩ (c_X5_byteAt X.2.2.2.2 kt e) PC_blind (pc_pre X) (g_recv X (o5 kt) rfl) rfl rfl (Nat.le_of_ble_eq_true rfl) dX5_faultOfNumbers_58) rfl (fun v3 μ4 h => ?_)
    refine g_bipush 63 X dX5_faultOfNumbers_61 bp48 rfl ?_
    refine g_isub 64 X dX5_faultOfNumbers_63 rfl ?_
    refine g_iast 65 X (aiC (n := 4) (by decide) (k5_numbers kt)) dX5_faultOfNumbers_64 h rfl (fun μ5 h => ?_)
    refine g_iinc 68 X 3 dX5_faultOfNumbers_65 ic1 rfl (by decide) rfl ?_
    refine g_aload_n 69 X 1 dX5_faultOfNumbers_68 rfl rfl ?_
    refine g_iload_n 70 X 0 dX5_faultOfNumbers_69 rfl rfl ?_
    refine g_ci 73 h (fun q e => r_V X cd_X5_74_X5_isFigure_X5 ⟨rfl, rfl⟩ ⟨Nat.le_of_ble_eq_true rfl, Nat.le_of_ble_eq_true rfl⟩ (c_X5_isFigure X.2.2.2.2 kt e) PC_blind (pc_pre X) (g_recv X (o5 kt) rfl) rfl rfl (Nat.le_of_ble_eq_true rfl) dX5_faultOfNumbers_70) rfl (fun v6 μ7 h => ?_)
    refine g_if_eq 105 76 X dX5_faultOfNumbers_73 (by decide) rfl h (fun h => ?_) (fun h => ?_)
    · exact G.sub [1, 2, 3, 0, 4] rfl (b_X5_faultOfNumbers_105 X hr hk5 _ _ _ _ _ _ kt h)
    · refine g_aload_n 77 X 1 dX5_faultOfNumbers_76 rfl rfl ?_
      refine g_getr 80 X fl_X5_15_5 (o5 kt) rfl dX5_faultOfNumbers_77 rfl ?_
      refine g_iload 82 X 4 dX5_faultOfNumbers_80 rfl rfl ?_
      refine g_bipush 84 X dX5_faultOfNumbers_82 bp10 rfl ?_
      refine g_aload_n 85 X 1 dX5_faultOfNumbers_84 rfl rfl ?_
      refine g_getr 88 X fl_X5_15_5 (o5 kt) rfl dX5_faultOfNumbers_85 rfl ?_
      refine g_iload 90 X 4 dX5_faultOfNumbers_88 rfl rfl ?_
      refine g_iald 91 X (aiC (n := 4) (by decide) (k5_numbers kt)) dX5_faultOfNumbers_90 h rfl (fun v8 h => ?_)
      refine g_imul 92 X dX5_faultOfNumbers_91 rfl ?_
      refine g_aload_n 93 X 1 dX5_faultOfNumbers_92 rfl rfl ?_
      refine g_iload_n 94 X 0 dX5_faultOfNumbers_93 rfl rfl ?_
      refine g_ci 97 h (fun q e => r_V X cd_X5_66_X5_byteAt_X5 ⟨rfl, rfl⟩ ⟨Nat.le_of_ble_eq_true rfl, Nat.le_of_ble_eq_true rfl⟩ (c_X5_byteAt X.2.2.2.2 kt e) PC_blind (pc_pre X) (g_recv X (o5 kt) rfl) rfl rfl (Nat.le_of_ble_eq_true rfl) dX5_faultOfNumbers_94) rfl (fun v9 μ10 h => ?_)
      refine g_iadd 98 X dX5_faultOfNumbers_97 rfl ?_
      refine g_bipush 100 X dX5_faultOfNumbers_98 bp48 rfl ?_
      refine g_isub 101 X dX5_faultOfNumbers_100 rfl ?_
      refine g_iast 102 X (aiC (n := 4) (by decide) (k5_numbers kt)) dX5_faultOfNumbers_101 h rfl (fun μ11 h => ?_)
      refine g_iinc 105 X 0 dX5_faultOfNumbers_102 ic1 rfl (by decide) rfl ?_
      exact G.sub [1, 2, 3, 0, 4] rfl (b_X5_faultOfNumbers_105 X hr hk5 _ _ _ _ _ _ kt h)
  · refine g_iload_n 49 X 3 dX5_faultOfNumbers_48 rfl rfl ?_
    exact g_iret X hr dX5_faultOfNumbers_49 h
set_option maxRecDepth 100000 in
set_option maxHeartbeats 4000000 in
theorem b_X5_faultOfNumbers_5 {p : Program} {l : Launch} {e : Env} {s : State} {m : MethodId} {args : Array Value} {below : List Frame} {meth : Method} {c : Code} {D : va_G} {ks : Nat → ClassId} {A : Nat → Prop} {ad : Nat → Nat} (X : Cx p s m args meth c cX5_faultOfNumbers 5 RX5 D ks A 75 ad (shC ks ad)) (hr : meth.sig.returnType = (some .int)) {F : Nat} {r : Int32 × Mem} : ∀ n : Nat, ∀ (μ : Mem) (t : Nat) (x1 : Int32) (x2 : Int32) (x3 : Int32) (x4 : Int32), (kindC t = 105) → f_X5_faultOfNumbers_b5 F  n μ t x1 x2 x3 x4 = some r → G p l e rm_X5_faultOfNumbers s m args below meth c D A 5 (MQ below (QI D 75 ad (shC ks ad) A r) args s 0 0 A) 75 ad (shC ks ad) μ 5 [(0, .ref (ad t)), (1, .int x1), (2, .int x2), (3, .int x3), (4, .int x4)] [] := by
  intro n
  induction n with
  | zero =>
    intro _ _ _ _ _ _ _ h
    cases h
  | succ n ih =>
    intro μ t x1 x2 x3 x4 kt h
    refine g_iload 7 X 4 dX5_faultOfNumbers_5 rfl rfl ?_
    refine g_iload_n 8 X 1 dX5_faultOfNumbers_7 rfl rfl ?_
    refine g_icmp_ge 111 11 X dX5_faultOfNumbers_8 (by decide) rfl h (fun h => ?_) (fun h => ?_)
    · exact G.sub [0, 3] rfl (b_X5_faultOfNumbers_111 X hr  _ _ _ kt h)
    · refine g_iload 13 X 4 dX5_faultOfNumbers_11 rfl rfl ?_
      refine g_aload_n 14 X 0 dX5_faultOfNumbers_13 rfl rfl ?_
      refine g_getr 17 X fl_X5_15_5 (o5 kt) rfl dX5_faultOfNumbers_14 rfl ?_
      refine g_alen 18 X (aiC (n := 4) (by decide) (k5_numbers kt)) rfl dX5_faultOfNumbers_17 rfl ?_
      refine g_icmp_ge 111 21 X dX5_faultOfNumbers_18 (by decide) rfl h (fun h => ?_) (fun h => ?_)
      · exact G.sub [0, 3] rfl (b_X5_faultOfNumbers_111 X hr  _ _ _ kt h)
      · refine g_iload 23 X 4 dX5_faultOfNumbers_21 rfl rfl ?_
        refine g_if_le 40 26 X dX5_faultOfNumbers_23 (by decide) rfl h (fun h => ?_) (fun h => ?_)
        · exact G.sub [0, 1, 2, 3, 4] rfl (b_X5_faultOfNumbers_40 X hr ih _ _ _ _ _ _ kt h)
        · refine g_aload_n 27 X 0 dX5_faultOfNumbers_26 rfl rfl ?_
          refine g_iload_n 28 X 3 dX5_faultOfNumbers_27 rfl rfl ?_
          refine g_ci 31 h (fun q e => r_V X cd_X5_66_X5_byteAt_X5 ⟨rfl, rfl⟩ ⟨Nat.le_of_ble_eq_true rfl, Nat.le_of_ble_eq_true rfl⟩ (c_X5_byteAt X.2.2.2.2 kt e) PC_blind (pc_pre X) (g_recv X (o5 kt) rfl) rfl rfl (Nat.le_of_ble_eq_true rfl) dX5_faultOfNumbers_28) rfl (fun v1 μ2 h => ?_)
          refine g_iload_n 32 X 2 dX5_faultOfNumbers_31 rfl rfl ?_
          refine g_icmp_eq 37 35 X dX5_faultOfNumbers_32 (by decide) rfl h (fun h => ?_) (fun h => ?_)
          · refine g_iinc 40 X 3 dX5_faultOfNumbers_37 ic1 rfl (by decide) rfl ?_
            exact G.sub [1, 2, 3, 0, 4] rfl (b_X5_faultOfNumbers_40 X hr ih _ _ _ _ _ _ kt h)
          · refine g_iload_n 36 X 3 dX5_faultOfNumbers_35 rfl rfl ?_
            exact g_iret X hr dX5_faultOfNumbers_36 h
set_option maxRecDepth 100000 in
set_option maxHeartbeats 4000000 in
theorem b_X5_faultOfNumbers_0 {p : Program} {l : Launch} {e : Env} {s : State} {m : MethodId} {args : Array Value} {below : List Frame} {meth : Method} {c : Code} {D : va_G} {ks : Nat → ClassId} {A : Nat → Prop} {ad : Nat → Nat} (X : Cx p s m args meth c cX5_faultOfNumbers 5 RX5 D ks A 75 ad (shC ks ad)) (hr : meth.sig.returnType = (some .int)) {F : Nat} {r : Int32 × Mem} (μ : Mem) (t : Nat) (x1 : Int32) (x2 : Int32) (kt : kindC t = 105) (h : f_X5_faultOfNumbers F  μ t x1 x2 = some r) : G p l e rm_X5_faultOfNumbers s m args below meth c D A 5 (MQ below (QI D 75 ad (shC ks ad) A r) args s 0 0 A) 75 ad (shC ks ad) μ 0 [(0, .ref (ad t)), (1, .int x1), (2, .int x2)] [] := by
  refine g_iconst 1 X dX5_faultOfNumbers_0 ic1 rfl ?_
  refine g_istore_n 2 X dX5_faultOfNumbers_1 (by decide) rfl ?_
  refine g_iconst 3 X dX5_faultOfNumbers_2 ic0 rfl ?_
  refine g_istore 5 X dX5_faultOfNumbers_3 (by decide) rfl ?_
  exact G.sub [2, 3, 4, 1, 0] rfl (b_X5_faultOfNumbers_5 X hr  F _ _ _ _ _ _ kt h)
set_option maxRecDepth 100000 in
theorem c_X5_faultOfNumbers {l : Launch} {D : va_G} {ks : Nat → ClassId} {A : Nat → Prop} {ad : Nat → Nat} (hD : ∀ μ : Mem, va_D A (wsM 75 ad (shC ks ad) μ)) {F : Nat} {μ : Mem} {t : Nat} {x1 : Int32} {x2 : Int32} {r : Int32 × Mem} (kt : kindC t = 105) (h : f_X5_faultOfNumbers F μ t x1 x2 = some r) : Met l yX5_faultOfNumbers (Cond.code yX5_faultOfNumbers cX5_faultOfNumbers 5 (some .int) :: wg) rm_X5_faultOfNumbers (PC D ks 75 ad (shC ks ad) μ [.ref (ad t), .int x1, .int x2]) (QI D 75 ad (shC ks ad) A r) 0 0 A := by
  refine met_of (by decide) (Nat.le_of_ble_eq_true rfl) hD ?_
  intro p e s m args below meth c X hr
  exact G.sub [0, 1, 2] rfl (b_X5_faultOfNumbers_0 X hr  _ _ _ _ kt h)
abbrev rm_X5_understand : Room := { frames := 4, cells := 0, slots := 0, locals := 88 }
set_option maxRecDepth 100000 in
set_option maxHeartbeats 4000000 in
theorem b_X5_understand_0 {p : Program} {l : Launch} {e : Env} {s : State} {m : MethodId} {args : Array Value} {below : List Frame} {meth : Method} {c : Code} {D : va_G} {ks : Nat → ClassId} {A : Nat → Prop} {ad : Nat → Nat} (X : Cx p s m args meth c cX5_understand 1 RX5 D ks A 75 ad (shC ks ad)) (hr : meth.sig.returnType = none) {F : Nat} {r : Unit × Mem} (μ : Mem) (t : Nat) (kt : kindC t = 105) (h : f_X5_understand F  μ t = some r) : G p l e rm_X5_understand s m args below meth c D A 1 (MQ below (QV D 75 ad (shC ks ad) A r) args s 0 0 A) 75 ad (shC ks ad) μ 0 [(0, .ref (ad t))] [] := by
  refine g_aload_n 1 X 0 dX5_understand_0 rfl rfl ?_
  refine g_iconst 2 X dX5_understand_1 ic0 rfl ?_
  refine g_ci 5 h (fun q e => r_V X cd_X5_66_X5_byteAt_X5 ⟨rfl, rfl⟩ ⟨Nat.le_of_ble_eq_true rfl, Nat.le_of_ble_eq_true rfl⟩ (c_X5_byteAt X.2.2.2.2 kt e) PC_blind (pc_pre X) (g_recv X (o5 kt) rfl) rfl rfl (Nat.le_of_ble_eq_true rfl) dX5_understand_2) rfl (fun v1 μ2 h => ?_)
  by_cases hc3 : v1 = 97
  · have h := if_t h hc3
    refine g_look 56 X dX5_understand_5 (by decide +kernel) (off := 51) (by rw [hc3]; decide +kernel) (by decide) ?_
    refine g_aload_n 57 X 0 dX5_understand_56 rfl rfl ?_
    refine g_aload_n 58 X 0 dX5_understand_57 rfl rfl ?_
    refine g_getr 61 X fl_X5_23_5 (o5 kt) rfl dX5_understand_58 rfl ?_
    refine g_putr (v := (some (t + 3))) 64 X fp_X5_54_5 (o5 kt) rfl (Nat.le_of_ble_eq_true rfl) rfl rfl dX5_understand_61 h rfl (fun μ4 h => ?_)
    refine g_aload_n 65 X 0 dX5_understand_64 rfl rfl ?_
    refine g_aload_n 66 X 0 dX5_understand_65 rfl rfl ?_
    refine g_iconst 67 X dX5_understand_66 ic1 rfl ?_
    refine g_iconst 68 X dX5_understand_67 icm1 rfl ?_
    refine g_ci 71 h (fun q e => r_V X cd_X5_70_X5_faultOfNumbers_X5 ⟨rfl, rfl⟩ ⟨Nat.le_of_ble_eq_true rfl, Nat.le_of_ble_eq_true rfl⟩ (c_X5_faultOfNumbers X.2.2.2.2 kt e) PC_blind (pc_pre X) (g_recv X (o5 kt) rfl) rfl rfl (Nat.le_of_ble_eq_true rfl) dX5_understand_68) rfl (fun v5 μ6 h => ?_)
    refine g_puti 74 X fp_X5_57_5 (o5 kt) rfl (Nat.le_of_ble_eq_true rfl) rfl rfl dX5_understand_71 h rfl (fun μ7 h => ?_)
    refine g_goto 173 X dX5_understand_74 (by decide) ?_
    exact g_vret X hr dX5_understand_173 h
  · have h := if_f h hc3
    by_cases hc8 : v1 = 101
    · have h := if_t h hc8
      refine g_look 99 X dX5_understand_5 (by decide +kernel) (off := 94) (by rw [hc8]; decide +kernel) (by decide) ?_
      refine g_aload_n 100 X 0 dX5_understand_99 rfl rfl ?_
      refine g_aload_n 101 X 0 dX5_understand_100 rfl rfl ?_
      refine g_getr 104 X fl_X5_33_5 (o5 kt) rfl dX5_understand_101 rfl ?_
      refine g_putr (v := (some (t + 5))) 107 X fp_X5_54_5 (o5 kt) rfl (Nat.le_of_ble_eq_true rfl) rfl rfl dX5_understand_104 h rfl (fun μ9 h => ?_)
      refine g_aload_n 108 X 0 dX5_understand_107 rfl rfl ?_
      refine g_aload_n 109 X 0 dX5_understand_108 rfl rfl ?_
      refine g_iconst 110 X dX5_understand_109 ic1 rfl ?_
      refine g_iconst 111 X dX5_understand_110 icm1 rfl ?_
      refine g_ci 114 h (fun q e => r_V X cd_X5_70_X5_faultOfNumbers_X5 ⟨rfl, rfl⟩ ⟨Nat.le_of_ble_eq_true rfl, Nat.le_of_ble_eq_true rfl⟩ (c_X5_faultOfNumbers X.2.2.2.2 kt e) PC_blind (pc_pre X) (g_recv X (o5 kt) rfl) rfl rfl (Nat.le_of_ble_eq_true rfl) dX5_understand_111) rfl (fun v10 μ11 h => ?_)
      refine g_puti 117 X fp_X5_57_5 (o5 kt) rfl (Nat.le_of_ble_eq_true rfl) rfl rfl dX5_understand_114 h rfl (fun μ12 h => ?_)
      refine g_goto 173 X dX5_understand_117 (by decide) ?_
      exact g_vret X hr dX5_understand_173 h
    · have h := if_f h hc8
      by_cases hc13 : v1 = 108
      · have h := if_t h hc13
        refine g_look 77 X dX5_understand_5 (by decide +kernel) (off := 72) (by rw [hc13]; decide +kernel) (by decide) ?_
        refine g_aload_n 78 X 0 dX5_understand_77 rfl rfl ?_
        refine g_aload_n 79 X 0 dX5_understand_78 rfl rfl ?_
        refine g_getr 82 X fl_X5_27_5 (o5 kt) rfl dX5_understand_79 rfl ?_
        refine g_putr (v := (some (t + 4))) 85 X fp_X5_54_5 (o5 kt) rfl (Nat.le_of_ble_eq_true rfl) rfl rfl dX5_understand_82 h rfl (fun μ14 h => ?_)
        refine g_aload_n 86 X 0 dX5_understand_85 rfl rfl ?_
        refine g_aload_n 87 X 0 dX5_understand_86 rfl rfl ?_
        refine g_iconst 88 X dX5_understand_87 ic4 rfl ?_
        refine g_bipush 90 X dX5_understand_88 bp44 rfl ?_
        refine g_ci 93 h (fun q e => r_V X cd_X5_70_X5_faultOfNumbers_X5 ⟨rfl, rfl⟩ ⟨Nat.le_of_ble_eq_true rfl, Nat.le_of_ble_eq_true rfl⟩ (c_X5_faultOfNumbers X.2.2.2.2 kt e) PC_blind (pc_pre X) (g_recv X (o5 kt) rfl) rfl rfl (Nat.le_of_ble_eq_true rfl) dX5_understand_90) rfl (fun v15 μ16 h => ?_)
        refine g_puti 96 X fp_X5_57_5 (o5 kt) rfl (Nat.le_of_ble_eq_true rfl) rfl rfl dX5_understand_93 h rfl (fun μ17 h => ?_)
        refine g_goto 173 X dX5_understand_96 (by decide) ?_
        exact g_vret X hr dX5_understand_173 h
      · have h := if_f h hc13
        by_cases hc18 : v1 = 116
        · have h := if_t h hc18
          refine g_look 141 X dX5_understand_5 (by decide +kernel) (off := 136) (by rw [hc18]; decide +kernel) (by decide) ?_
          refine g_aload_n 142 X 0 dX5_understand_141 rfl rfl ?_
          refine g_aload_n 143 X 0 dX5_understand_142 rfl rfl ?_
          refine g_getr 146 X fl_X5_44_5 (o5 kt) rfl dX5_understand_143 rfl ?_
          refine g_putr (v := (some (t + 7))) 149 X fp_X5_54_5 (o5 kt) rfl (Nat.le_of_ble_eq_true rfl) rfl rfl dX5_understand_146 h rfl (fun μ19 h => ?_)
          refine g_aload_n 150 X 0 dX5_understand_149 rfl rfl ?_
          refine g_aload_n 151 X 0 dX5_understand_150 rfl rfl ?_
          refine g_iconst 152 X dX5_understand_151 ic2 rfl ?_
          refine g_bipush 154 X dX5_understand_152 bp120 rfl ?_
          refine g_ci 157 h (fun q e => r_V X cd_X5_70_X5_faultOfNumbers_X5 ⟨rfl, rfl⟩ ⟨Nat.le_of_ble_eq_true rfl, Nat.le_of_ble_eq_true rfl⟩ (c_X5_faultOfNumbers X.2.2.2.2 kt e) PC_blind (pc_pre X) (g_recv X (o5 kt) rfl) rfl rfl (Nat.le_of_ble_eq_true rfl) dX5_understand_154) rfl (fun v20 μ21 h => ?_)
          refine g_puti 160 X fp_X5_57_5 (o5 kt) rfl (Nat.le_of_ble_eq_true rfl) rfl rfl dX5_understand_157 h rfl (fun μ22 h => ?_)
          refine g_goto 173 X dX5_understand_160 (by decide) ?_
          exact g_vret X hr dX5_understand_173 h
        · have h := if_f h hc18
          by_cases hc23 : v1 = 122
          · have h := if_t h hc23
            refine g_look 120 X dX5_understand_5 (by decide +kernel) (off := 115) (by rw [hc23]; decide +kernel) (by decide) ?_
            refine g_aload_n 121 X 0 dX5_understand_120 rfl rfl ?_
            refine g_aload_n 122 X 0 dX5_understand_121 rfl rfl ?_
            refine g_getr 125 X fl_X5_36_5 (o5 kt) rfl dX5_understand_122 rfl ?_
            refine g_putr (v := (some (t + 6))) 128 X fp_X5_54_5 (o5 kt) rfl (Nat.le_of_ble_eq_true rfl) rfl rfl dX5_understand_125 h rfl (fun μ24 h => ?_)
            refine g_aload_n 129 X 0 dX5_understand_128 rfl rfl ?_
            refine g_aload_n 130 X 0 dX5_understand_129 rfl rfl ?_
            refine g_iconst 131 X dX5_understand_130 ic1 rfl ?_
            refine g_iconst 132 X dX5_understand_131 icm1 rfl ?_
            refine g_ci 135 h (fun q e => r_V X cd_X5_70_X5_faultOfNumbers_X5 ⟨rfl, rfl⟩ ⟨Nat.le_of_ble_eq_true rfl, Nat.le_of_ble_eq_true rfl⟩ (c_X5_faultOfNumbers X.2.2.2.2 kt e) PC_blind (pc_pre X) (g_recv X (o5 kt) rfl) rfl rfl (Nat.le_of_ble_eq_true rfl) dX5_understand_132) rfl (fun v25 μ26 h => ?_)
            refine g_puti 138 X fp_X5_57_5 (o5 kt) rfl (Nat.le_of_ble_eq_true rfl) rfl rfl dX5_understand_135 h rfl (fun μ27 h => ?_)
            refine g_goto 173 X dX5_understand_138 (by decide) ?_
            exact g_vret X hr dX5_understand_173 h
          · have h := if_f h hc23
            have ehc3 := ne_ti hc3 (k := 97) (by decide)
            have ehc8 := ne_ti hc8 (k := 101) (by decide)
            have ehc13 := ne_ti hc13 (k := 108) (by decide)
            have ehc18 := ne_ti hc18 (k := 116) (by decide)
            have ehc23 := ne_ti hc23 (k := 122) (by decide)
            refine g_look 163 X dX5_understand_5 (by decide +kernel) (off := 158) (by simp [Op.lookupswitch.offset, ehc3, ehc3.symm, ehc8, ehc8.symm, ehc13, ehc13.symm, ehc18, ehc18.symm, ehc23, ehc23.symm]) (by decide) ?_
            refine g_aload_n 164 X 0 dX5_understand_163 rfl rfl ?_
            refine g_null 165 X dX5_understand_164 rfl ?_
            refine g_putr (v := none) 168 X fp_X5_54_5 (o5 kt) rfl (Nat.le_of_ble_eq_true rfl) rfl rfl dX5_understand_165 h rfl (fun μ28 h => ?_)
            refine g_aload_n 169 X 0 dX5_understand_168 rfl rfl ?_
            refine g_iconst 170 X dX5_understand_169 ic0 rfl ?_
            refine g_puti 173 X fp_X5_57_5 (o5 kt) rfl (Nat.le_of_ble_eq_true rfl) rfl rfl dX5_understand_170 h rfl (fun μ29 h => ?_)
            exact g_vret X hr dX5_understand_173 h
set_option maxRecDepth 100000 in
theorem c_X5_understand {l : Launch} {D : va_G} {ks : Nat → ClassId} {A : Nat → Prop} {ad : Nat → Nat} (hD : ∀ μ : Mem, va_D A (wsM 75 ad (shC ks ad) μ)) {F : Nat} {μ : Mem} {t : Nat} {r : Unit × Mem} (kt : kindC t = 105) (h : f_X5_understand F μ t = some r) : Met l yX5_understand (Cond.code yX5_understand cX5_understand 1 none :: wg) rm_X5_understand (PC D ks 75 ad (shC ks ad) μ [.ref (ad t)]) (QV D 75 ad (shC ks ad) A r) 0 0 A := by
  refine met_of (by decide) (Nat.le_of_ble_eq_true rfl) hD ?_
  intro p e s m args below meth c X hr
  exact G.sub [0] rfl (b_X5_understand_0 X hr  _ _ kt h)
abbrev rm_X5_append : Room := { frames := 5, cells := 0, slots := 0, locals := 108 }
set_option maxRecDepth 100000 in
set_option maxHeartbeats 4000000 in
theorem b_X5_append_0 {p : Program} {l : Launch} {e : Env} {s : State} {m : MethodId} {args : Array Value} {below : List Frame} {meth : Method} {c : Code} {D : va_G} {ks : Nat → ClassId} {A : Nat → Prop} {ad : Nat → Nat} (X : Cx p s m args meth c cX5_append 2 RX5 D ks A 75 ad (shC ks ad)) (hr : meth.sig.returnType = (some .int)) {F : Nat} {r : Int32 × Mem} (μ : Mem) (t : Nat) (x1 : Int32) (kt : kindC t = 105) (h : f_X5_append F  μ t x1 = some r) : G p l e rm_X5_append s m args below meth c D A 2 (MQ below (QI D 75 ad (shC ks ad) A r) args s 0 0 A) 75 ad (shC ks ad) μ 0 [(0, .ref (ad t)), (1, .int x1)] [] := by
  refine g_aload_n 1 X 0 dX5_append_0 rfl rfl ?_
  refine g_geti 4 X fl_X5_47_5 (o5 kt) rfl dX5_append_1 h rfl (fun v1 h => ?_)
  refine g_bipush 6 X dX5_append_4 bp20 rfl ?_
  refine g_icmp_lt 12 9 X dX5_append_6 (by decide) rfl h (fun h => ?_) (fun h => ?_)
  · refine g_aload_n 13 X 0 dX5_append_12 rfl rfl ?_
    refine g_getr 16 X fl_X5_9_5 (o5 kt) rfl dX5_append_13 rfl ?_
    refine g_aload_n 17 X 0 dX5_append_16 rfl rfl ?_
    refine g_geti 20 X fl_X5_47_5 (o5 kt) rfl dX5_append_17 h rfl (fun v2 h => ?_)
    refine g_iload_n 21 X 1 dX5_append_20 rfl rfl ?_
    refine g_iast 22 X (aiC (n := 20) (by decide) (k5_text kt)) dX5_append_21 h rfl (fun μ3 h => ?_)
    refine g_aload_n 23 X 0 dX5_append_22 rfl rfl ?_
    refine g_dup 24 X dX5_append_23 rfl rfl ?_
    refine g_geti 27 X fl_X5_47_5 (o5 kt) rfl dX5_append_24 h rfl (fun v4 h => ?_)
    refine g_iconst 28 X dX5_append_27 ic1 rfl ?_
    refine g_iadd 29 X dX5_append_28 rfl ?_
    refine g_puti 32 X fp_X5_47_5 (o5 kt) rfl (Nat.le_of_ble_eq_true rfl) rfl rfl dX5_append_29 h rfl (fun μ5 h => ?_)
    refine g_aload_n 33 X 0 dX5_append_32 rfl rfl ?_
    refine g_cv 36 h (fun q e => r_V X cd_X5_51_X5_understand_X5 ⟨rfl, rfl⟩ ⟨Nat.le_of_ble_eq_true rfl, Nat.le_of_ble_eq_true rfl⟩ (c_X5_understand X.2.2.2.2 kt e) PC_blind (pc_pre X) (g_recv X (o5 kt) rfl) rfl rfl (Nat.le_of_ble_eq_true rfl) dX5_append_33) rfl (fun _ μ6 h => ?_)
    refine g_aload_n 37 X 0 dX5_append_36 rfl rfl ?_
    refine g_geti 40 X fl_X5_47_5 (o5 kt) rfl dX5_append_37 h rfl (fun v7 h => ?_)
    exact g_iret X hr dX5_append_40 h
  · refine g_bipush 11 X dX5_append_9 bpm4 rfl ?_
    exact g_iret X hr dX5_append_11 h
set_option maxRecDepth 100000 in
theorem c_X5_append {l : Launch} {D : va_G} {ks : Nat → ClassId} {A : Nat → Prop} {ad : Nat → Nat} (hD : ∀ μ : Mem, va_D A (wsM 75 ad (shC ks ad) μ)) {F : Nat} {μ : Mem} {t : Nat} {x1 : Int32} {r : Int32 × Mem} (kt : kindC t = 105) (h : f_X5_append F μ t x1 = some r) : Met l yX5_append (Cond.code yX5_append cX5_append 2 (some .int) :: wg) rm_X5_append (PC D ks 75 ad (shC ks ad) μ [.ref (ad t), .int x1]) (QI D 75 ad (shC ks ad) A r) 0 0 A := by
  refine met_of (by decide) (Nat.le_of_ble_eq_true rfl) hD ?_
  intro p e s m args below meth c X hr
  exact G.sub [0, 1] rfl (b_X5_append_0 X hr  _ _ _ kt h)
abbrev rm_X11_type : Room := { frames := 6, cells := 0, slots := 0, locals := 129 }
set_option maxRecDepth 100000 in
set_option maxHeartbeats 4000000 in
theorem b_X11_type_0 {p : Program} {l : Launch} {e : Env} {s : State} {m : MethodId} {args : Array Value} {below : List Frame} {meth : Method} {c : Code} {D : va_G} {ks : Nat → ClassId} {A : Nat → Prop} {ad : Nat → Nat} (X : Cx p s m args meth c cX11_type 3 RX11 D ks A 75 ad (shC ks ad)) (hr : meth.sig.returnType = (some .int)) {F : Nat} {r : Int32 × Mem} (μ : Mem) (x1 : Int32) (x2 : Int32)  (h : f_X11_type F  μ x1 x2 = some r) : G p l e rm_X11_type s m args below meth c D A 3 (MQ below (QI D 75 ad (shC ks ad) A r) args s 0 0 A) 75 ad (shC ks ad) μ 0 [(0, .ref (ad 0)), (1, .int x1), (2, .int x2)] [] := by
  refine g_iload_n 1 X 1 dX11_type_0 rfl rfl ?_
  refine g_ni 4 h (fun q e => r_S X cd_X11_133_X11_isPlan ⟨rfl, rfl⟩ ⟨Nat.le_of_ble_eq_true rfl, Nat.le_of_ble_eq_true rfl⟩ (c_X11_isPlan e) PC_blind (pn_pre X) rfl rfl (Nat.le_of_ble_eq_true rfl) dX11_type_1) rfl (fun v1 h => ?_)
  refine g_if_eq 18 7 X dX11_type_4 (by decide) rfl h (fun h => ?_) (fun h => ?_)
  · refine g_bipush 20 X dX11_type_18 bpm2 rfl ?_
    exact g_iret X hr dX11_type_20 h
  · refine g_iload_n 8 X 2 dX11_type_7 rfl rfl ?_
    refine g_iconst 9 X dX11_type_8 ic0 rfl ?_
    refine g_sipush 12 X dX11_type_9 sp255 rfl ?_
    refine g_ni 15 h (fun q e => r_S X cd_X11_105_X11_within ⟨rfl, rfl⟩ ⟨Nat.le_of_ble_eq_true rfl, Nat.le_of_ble_eq_true rfl⟩ (c_X11_within e) PC_blind (pn_pre X) rfl rfl (Nat.le_of_ble_eq_true rfl) dX11_type_12) rfl (fun v2 h => ?_)
    refine g_if_ne 21 18 X dX11_type_15 (by decide) rfl h (fun h => ?_) (fun h => ?_)
    · refine g_aload_n 22 X 0 dX11_type_21 rfl rfl ?_
      refine g_getr 25 X fl_X11_27_11 (o11 rfl) rfl dX11_type_22 rfl ?_
      refine g_iload_n 26 X 1 dX11_type_25 rfl rfl ?_
      refine g_aald (fn := fun p => 18 + 9 * p) 27 X arP rfl dX11_type_26 h rfl (fun hv3 h => ?_)
      refine g_iload_n 28 X 2 dX11_type_27 rfl rfl ?_
      refine g_ci 31 h (fun q e => r_V X cd_X11_136_X5_append_X5 ⟨rfl, rfl⟩ ⟨Nat.le_of_ble_eq_true rfl, Nat.le_of_ble_eq_true rfl⟩ (c_X5_append X.2.2.2.2 (kPl hv3) e) PC_blind (pc_pre X) (g_recv X (o5 (kPl hv3)) rfl) rfl rfl (Nat.le_of_ble_eq_true rfl) dX11_type_28) rfl (fun v4 μ5 h => ?_)
      exact g_iret X hr dX11_type_31 h
    · refine g_bipush 20 X dX11_type_18 bpm2 rfl ?_
      exact g_iret X hr dX11_type_20 h
set_option maxRecDepth 100000 in
theorem c_X11_type {l : Launch} {D : va_G} {ks : Nat → ClassId} {A : Nat → Prop} {ad : Nat → Nat} (hD : ∀ μ : Mem, va_D A (wsM 75 ad (shC ks ad) μ)) {F : Nat} {μ : Mem} {x1 : Int32} {x2 : Int32} {r : Int32 × Mem}  (h : f_X11_type F μ x1 x2 = some r) : Met l yX11_type (Cond.code yX11_type cX11_type 3 (some .int) :: wg) rm_X11_type (PC D ks 75 ad (shC ks ad) μ [.ref (ad 0), .int x1, .int x2]) (QI D 75 ad (shC ks ad) A r) 0 0 A := by
  refine met_of (by decide) (Nat.le_of_ble_eq_true rfl) hD ?_
  intro p e s m args below meth c X hr
  exact G.sub [0, 1, 2] rfl (b_X11_type_0 X hr  _ _ _ h)
abbrev rm_X5_clear : Room := { frames := 5, cells := 0, slots := 0, locals := 108 }
set_option maxRecDepth 100000 in
set_option maxHeartbeats 4000000 in
theorem b_X5_clear_0 {p : Program} {l : Launch} {e : Env} {s : State} {m : MethodId} {args : Array Value} {below : List Frame} {meth : Method} {c : Code} {D : va_G} {ks : Nat → ClassId} {A : Nat → Prop} {ad : Nat → Nat} (X : Cx p s m args meth c cX5_clear 2 RX5 D ks A 75 ad (shC ks ad)) (hr : meth.sig.returnType = (some .int)) {F : Nat} {r : Int32 × Mem} (μ : Mem) (t : Nat) (kt : kindC t = 105) (h : f_X5_clear F  μ t = some r) : G p l e rm_X5_clear s m args below meth c D A 2 (MQ below (QI D 75 ad (shC ks ad) A r) args s 0 0 A) 75 ad (shC ks ad) μ 0 [(0, .ref (ad t))] [] := by
  refine g_aload_n 1 X 0 dX5_clear_0 rfl rfl ?_
  refine g_geti 4 X fl_X5_47_5 (o5 kt) rfl dX5_clear_1 h rfl (fun v1 h => ?_)
  refine g_istore_n 5 X dX5_clear_4 (by decide) rfl ?_
  refine g_aload_n 6 X 1 dX5_clear_5 rfl rfl ?_
  refine g_iconst 7 X dX5_clear_6 ic0 rfl ?_
  refine g_puti 10 X fp_X5_47_5 (o5 kt) rfl (Nat.le_of_ble_eq_true rfl) rfl rfl dX5_clear_7 h rfl (fun μ2 h => ?_)
  refine g_aload_n 11 X 1 dX5_clear_10 rfl rfl ?_
  refine g_cv 14 h (fun q e => r_V X cd_X5_51_X5_understand_X5 ⟨rfl, rfl⟩ ⟨Nat.le_of_ble_eq_true rfl, Nat.le_of_ble_eq_true rfl⟩ (c_X5_understand X.2.2.2.2 kt e) PC_blind (pc_pre X) (g_recv X (o5 kt) rfl) rfl rfl (Nat.le_of_ble_eq_true rfl) dX5_clear_11) rfl (fun _ μ3 h => ?_)
  refine g_iload_n 15 X 0 dX5_clear_14 rfl rfl ?_
  exact g_iret X hr dX5_clear_15 h
set_option maxRecDepth 100000 in
theorem c_X5_clear {l : Launch} {D : va_G} {ks : Nat → ClassId} {A : Nat → Prop} {ad : Nat → Nat} (hD : ∀ μ : Mem, va_D A (wsM 75 ad (shC ks ad) μ)) {F : Nat} {μ : Mem} {t : Nat} {r : Int32 × Mem} (kt : kindC t = 105) (h : f_X5_clear F μ t = some r) : Met l yX5_clear (Cond.code yX5_clear cX5_clear 2 (some .int) :: wg) rm_X5_clear (PC D ks 75 ad (shC ks ad) μ [.ref (ad t)]) (QI D 75 ad (shC ks ad) A r) 0 0 A := by
  refine met_of (by decide) (Nat.le_of_ble_eq_true rfl) hD ?_
  intro p e s m args below meth c X hr
  exact G.sub [0] rfl (b_X5_clear_0 X hr  _ _ kt h)
abbrev rm_X11_wipe : Room := { frames := 6, cells := 0, slots := 0, locals := 129 }
set_option maxRecDepth 100000 in
set_option maxHeartbeats 4000000 in
theorem b_X11_wipe_0 {p : Program} {l : Launch} {e : Env} {s : State} {m : MethodId} {args : Array Value} {below : List Frame} {meth : Method} {c : Code} {D : va_G} {ks : Nat → ClassId} {A : Nat → Prop} {ad : Nat → Nat} (X : Cx p s m args meth c cX11_wipe 2 RX11 D ks A 75 ad (shC ks ad)) (hr : meth.sig.returnType = (some .int)) {F : Nat} {r : Int32 × Mem} (μ : Mem) (x1 : Int32)  (h : f_X11_wipe F  μ x1 = some r) : G p l e rm_X11_wipe s m args below meth c D A 2 (MQ below (QI D 75 ad (shC ks ad) A r) args s 0 0 A) 75 ad (shC ks ad) μ 0 [(0, .ref (ad 0)), (1, .int x1)] [] := by
  refine g_iload_n 1 X 1 dX11_wipe_0 rfl rfl ?_
  refine g_ni 4 h (fun q e => r_S X cd_X11_133_X11_isPlan ⟨rfl, rfl⟩ ⟨Nat.le_of_ble_eq_true rfl, Nat.le_of_ble_eq_true rfl⟩ (c_X11_isPlan e) PC_blind (pn_pre X) rfl rfl (Nat.le_of_ble_eq_true rfl) dX11_wipe_1) rfl (fun v1 h => ?_)
  refine g_if_ne 10 7 X dX11_wipe_4 (by decide) rfl h (fun h => ?_) (fun h => ?_)
  · refine g_aload_n 11 X 0 dX11_wipe_10 rfl rfl ?_
    refine g_getr 14 X fl_X11_27_11 (o11 rfl) rfl dX11_wipe_11 rfl ?_
    refine g_iload_n 15 X 1 dX11_wipe_14 rfl rfl ?_
    refine g_aald (fn := fun p => 18 + 9 * p) 16 X arP rfl dX11_wipe_15 h rfl (fun hv2 h => ?_)
    refine g_ci 19 h (fun q e => r_V X cd_X11_139_X5_clear_X5 ⟨rfl, rfl⟩ ⟨Nat.le_of_ble_eq_true rfl, Nat.le_of_ble_eq_true rfl⟩ (c_X5_clear X.2.2.2.2 (kPl hv2) e) PC_blind (pc_pre X) (g_recv X (o5 (kPl hv2)) rfl) rfl rfl (Nat.le_of_ble_eq_true rfl) dX11_wipe_16) rfl (fun v3 μ4 h => ?_)
    exact g_iret X hr dX11_wipe_19 h
  · refine g_bipush 9 X dX11_wipe_7 bpm2 rfl ?_
    exact g_iret X hr dX11_wipe_9 h
set_option maxRecDepth 100000 in
theorem c_X11_wipe {l : Launch} {D : va_G} {ks : Nat → ClassId} {A : Nat → Prop} {ad : Nat → Nat} (hD : ∀ μ : Mem, va_D A (wsM 75 ad (shC ks ad) μ)) {F : Nat} {μ : Mem} {x1 : Int32} {r : Int32 × Mem}  (h : f_X11_wipe F μ x1 = some r) : Met l yX11_wipe (Cond.code yX11_wipe cX11_wipe 2 (some .int) :: wg) rm_X11_wipe (PC D ks 75 ad (shC ks ad) μ [.ref (ad 0), .int x1]) (QI D 75 ad (shC ks ad) A r) 0 0 A := by
  refine met_of (by decide) (Nat.le_of_ble_eq_true rfl) hD ?_
  intro p e s m args below meth c X hr
  exact G.sub [0, 1] rfl (b_X11_wipe_0 X hr  _ _ h)
abbrev rm_X11_fault : Room := { frames := 2, cells := 0, slots := 0, locals := 42 }
set_option maxRecDepth 100000 in
set_option maxHeartbeats 4000000 in
theorem b_X11_fault_0 {p : Program} {l : Launch} {e : Env} {s : State} {m : MethodId} {args : Array Value} {below : List Frame} {meth : Method} {c : Code} {D : va_G} {ks : Nat → ClassId} {A : Nat → Prop} {ad : Nat → Nat} (X : Cx p s m args meth c cX11_fault 2 RX11 D ks A 75 ad (shC ks ad)) (hr : meth.sig.returnType = (some .int)) {F : Nat} {r : Int32 × Mem} (μ : Mem) (x1 : Int32)  (h : f_X11_fault F  μ x1 = some r) : G p l e rm_X11_fault s m args below meth c D A 2 (MQ below (QI D 75 ad (shC ks ad) A r) args s 0 0 A) 75 ad (shC ks ad) μ 0 [(0, .ref (ad 0)), (1, .int x1)] [] := by
  refine g_iload_n 1 X 1 dX11_fault_0 rfl rfl ?_
  refine g_ni 4 h (fun q e => r_S X cd_X11_133_X11_isPlan ⟨rfl, rfl⟩ ⟨Nat.le_of_ble_eq_true rfl, Nat.le_of_ble_eq_true rfl⟩ (c_X11_isPlan e) PC_blind (pn_pre X) rfl rfl (Nat.le_of_ble_eq_true rfl) dX11_fault_1) rfl (fun v1 h => ?_)
  refine g_if_ne 10 7 X dX11_fault_4 (by decide) rfl h (fun h => ?_) (fun h => ?_)
  · refine g_aload_n 11 X 0 dX11_fault_10 rfl rfl ?_
    refine g_getr 14 X fl_X11_27_11 (o11 rfl) rfl dX11_fault_11 rfl ?_
    refine g_iload_n 15 X 1 dX11_fault_14 rfl rfl ?_
    refine g_aald (fn := fun p => 18 + 9 * p) 16 X arP rfl dX11_fault_15 h rfl (fun hv2 h => ?_)
    refine g_geti 19 X fl_X11_143_5 (o5 (kPl hv2)) rfl dX11_fault_16 h rfl (fun v3 h => ?_)
    exact g_iret X hr dX11_fault_19 h
  · refine g_bipush 9 X dX11_fault_7 bpm2 rfl ?_
    exact g_iret X hr dX11_fault_9 h
set_option maxRecDepth 100000 in
theorem c_X11_fault {l : Launch} {D : va_G} {ks : Nat → ClassId} {A : Nat → Prop} {ad : Nat → Nat} (hD : ∀ μ : Mem, va_D A (wsM 75 ad (shC ks ad) μ)) {F : Nat} {μ : Mem} {x1 : Int32} {r : Int32 × Mem}  (h : f_X11_fault F μ x1 = some r) : Met l yX11_fault (Cond.code yX11_fault cX11_fault 2 (some .int) :: wg) rm_X11_fault (PC D ks 75 ad (shC ks ad) μ [.ref (ad 0), .int x1]) (QI D 75 ad (shC ks ad) A r) 0 0 A := by
  refine met_of (by decide) (Nat.le_of_ble_eq_true rfl) hD ?_
  intro p e s m args below meth c X hr
  exact G.sub [0, 1] rfl (b_X11_fault_0 X hr  _ _ h)
abbrev rm_X2_membersOf : Room := { frames := 0, cells := 0, slots := 0, locals := 0 }
set_option maxRecDepth 100000 in
set_option maxHeartbeats 4000000 in
theorem b_X2_membersOf_0 {p : Program} {l : Launch} {e : Env} {s : State} {m : MethodId} {args : Array Value} {below : List Frame} {meth : Method} {c : Code} {D : va_G} {ks : Nat → ClassId} {A : Nat → Prop} {ad : Nat → Nat} (X : Cx p s m args meth c cX2_membersOf 2 RX2 D ks A 75 ad (shC ks ad)) (hr : meth.sig.returnType = (some .int)) {F : Nat} {r : Int32 × Mem} (μ : Mem) (t : Nat) (x1 : Int32) (kt : kindC t = 102) (h : f_X2_membersOf F  μ t x1 = some r) : G p l e rm_X2_membersOf s m args below meth c D A 2 (MQ below (QI D 75 ad (shC ks ad) A r) args s 0 0 A) 75 ad (shC ks ad) μ 0 [(0, .ref (ad t)), (1, .int x1)] [] := by
  refine g_aload_n 1 X 0 dX2_membersOf_0 rfl rfl ?_
  refine g_geti 4 X fl_X2_9_2 (o2 kt) rfl dX2_membersOf_1 h rfl (fun v1 h => ?_)
  refine g_if_eq 19 7 X dX2_membersOf_4 (by decide) rfl h (fun h => ?_) (fun h => ?_)
  · refine g_aload_n 20 X 0 dX2_membersOf_19 rfl rfl ?_
    refine g_getr 23 X fl_X2_19_2 (o2 kt) rfl dX2_membersOf_20 rfl ?_
    refine g_geti 26 X fl_X2_32_6 (o6 rfl) rfl dX2_membersOf_23 h rfl (fun v2 h => ?_)
    exact g_iret X hr dX2_membersOf_26 h
  · refine g_aload_n 8 X 0 dX2_membersOf_7 rfl rfl ?_
    refine g_getr 11 X fl_X2_19_2 (o2 kt) rfl dX2_membersOf_8 rfl ?_
    refine g_getr 14 X fl_X2_29_6 (o6 rfl) rfl dX2_membersOf_11 rfl ?_
    refine g_iload_n 15 X 1 dX2_membersOf_14 rfl rfl ?_
    refine g_iald 16 X (aiC (n := 4) (by decide) rfl) dX2_membersOf_15 h rfl (fun v3 h => ?_)
    refine g_goto 26 X dX2_membersOf_16 (by decide) ?_
    exact g_iret X hr dX2_membersOf_26 h
set_option maxRecDepth 100000 in
theorem c_X2_membersOf {l : Launch} {D : va_G} {ks : Nat → ClassId} {A : Nat → Prop} {ad : Nat → Nat} (hD : ∀ μ : Mem, va_D A (wsM 75 ad (shC ks ad) μ)) {F : Nat} {μ : Mem} {t : Nat} {x1 : Int32} {r : Int32 × Mem} (kt : kindC t = 102) (h : f_X2_membersOf F μ t x1 = some r) : Met l yX2_membersOf (Cond.code yX2_membersOf cX2_membersOf 2 (some .int) :: wg) rm_X2_membersOf (PC D ks 75 ad (shC ks ad) μ [.ref (ad t), .int x1]) (QI D 75 ad (shC ks ad) A r) 0 0 A := by
  refine met_of (by decide) (Nat.le_of_ble_eq_true rfl) hD ?_
  intro p e s m args below meth c X hr
  exact G.sub [0, 1] rfl (b_X2_membersOf_0 X hr  _ _ _ kt h)
abbrev rm_X2_sizeOf : Room := { frames := 1, cells := 0, slots := 0, locals := 21 }
set_option maxRecDepth 100000 in
set_option maxHeartbeats 4000000 in
theorem b_X2_sizeOf_0 {p : Program} {l : Launch} {e : Env} {s : State} {m : MethodId} {args : Array Value} {below : List Frame} {meth : Method} {c : Code} {D : va_G} {ks : Nat → ClassId} {A : Nat → Prop} {ad : Nat → Nat} (X : Cx p s m args meth c cX2_sizeOf 2 RX2 D ks A 75 ad (shC ks ad)) (hr : meth.sig.returnType = (some .int)) {F : Nat} {r : Int32 × Mem} (μ : Mem) (t : Nat) (x1 : Int32) (kt : kindC t = 102) (h : f_X2_sizeOf F  μ t x1 = some r) : G p l e rm_X2_sizeOf s m args below meth c D A 2 (MQ below (QI D 75 ad (shC ks ad) A r) args s 0 0 A) 75 ad (shC ks ad) μ 0 [(0, .ref (ad t)), (1, .int x1)] [] := by
  refine g_aload_n 1 X 0 dX2_sizeOf_0 rfl rfl ?_
  refine g_iload_n 2 X 1 dX2_sizeOf_1 rfl rfl ?_
  refine g_ci 5 h (fun q e => r_V X cd_X2_35_X2_membersOf_X2 ⟨rfl, rfl⟩ ⟨Nat.le_of_ble_eq_true rfl, Nat.le_of_ble_eq_true rfl⟩ (c_X2_membersOf X.2.2.2.2 kt e) PC_blind (pc_pre X) (g_recv X (o2 kt) rfl) rfl rfl (Nat.le_of_ble_eq_true rfl) dX2_sizeOf_2) rfl (fun v1 μ2 h => ?_)
  refine g_ni 8 h (fun q e => r_S X cd_X2_39_J6_bitCount_0f7a4 ⟨rfl, rfl⟩ ⟨Nat.le_of_ble_eq_true rfl, Nat.le_of_ble_eq_true rfl⟩ (c_J6_bitCount_0f7a4 e) PC_blind (pn_pre X) rfl rfl (Nat.le_of_ble_eq_true rfl) dX2_sizeOf_5) rfl (fun v3 h => ?_)
  exact g_iret X hr dX2_sizeOf_8 h
set_option maxRecDepth 100000 in
theorem c_X2_sizeOf {l : Launch} {D : va_G} {ks : Nat → ClassId} {A : Nat → Prop} {ad : Nat → Nat} (hD : ∀ μ : Mem, va_D A (wsM 75 ad (shC ks ad) μ)) {F : Nat} {μ : Mem} {t : Nat} {x1 : Int32} {r : Int32 × Mem} (kt : kindC t = 102) (h : f_X2_sizeOf F μ t x1 = some r) : Met l yX2_sizeOf (Cond.code yX2_sizeOf cX2_sizeOf 2 (some .int) :: wg) rm_X2_sizeOf (PC D ks 75 ad (shC ks ad) μ [.ref (ad t), .int x1]) (QI D 75 ad (shC ks ad) A r) 0 0 A := by
  refine met_of (by decide) (Nat.le_of_ble_eq_true rfl) hD ?_
  intro p e s m args below meth c X hr
  exact G.sub [0, 1] rfl (b_X2_sizeOf_0 X hr  _ _ _ kt h)
abbrev rm_X2_canBe : Room := { frames := 2, cells := 0, slots := 0, locals := 42 }
set_option maxRecDepth 100000 in
set_option maxHeartbeats 4000000 in
theorem b_X2_canBe_46 {p : Program} {l : Launch} {e : Env} {s : State} {m : MethodId} {args : Array Value} {below : List Frame} {meth : Method} {c : Code} {D : va_G} {ks : Nat → ClassId} {A : Nat → Prop} {ad : Nat → Nat} (X : Cx p s m args meth c cX2_canBe 3 RX2 D ks A 75 ad (shC ks ad)) (hr : meth.sig.returnType = (some .boolean)) {F : Nat} {r : Int32 × Mem} {k4 : Mem → Nat → Int32 → Int32 → Option (Int32 × Mem)} (hk4 : ∀ (μ : Mem) (t : Nat) (x1 : Int32) (x2 : Int32), (kindC t = 102) → k4 μ t x1 x2 = some r → G p l e rm_X2_canBe s m args below meth c D A 3 (MQ below (QI D 75 ad (shC ks ad) A r) args s 0 0 A) 75 ad (shC ks ad) μ 4 [(0, .ref (ad t)), (1, .int x1), (2, .int x2)] []) (μ : Mem) (t : Nat) (x2 : Int32) (z0 : Int32) (kt : kindC t = 102) (h : f_X2_canBe_b46 F k4 μ t x2 z0 = some r) : G p l e rm_X2_canBe s m args below meth c D A 3 (MQ below (QI D 75 ad (shC ks ad) A r) args s 0 0 A) 75 ad (shC ks ad) μ 46 [(0, .ref (ad t)), (2, .int x2)] [.int z0] := by
  refine g_istore_n 47 X dX2_canBe_46 (by decide) rfl ?_
  refine g_iinc 50 X 2 dX2_canBe_47 ic1 rfl (by decide) rfl ?_
  refine g_goto 4 X dX2_canBe_50 (by decide) ?_
  exact G.sub [2, 1, 0] rfl (hk4 _ _ _ _ kt h)
set_option maxRecDepth 100000 in
set_option maxHeartbeats 4000000 in
theorem b_X2_canBe_41 {p : Program} {l : Launch} {e : Env} {s : State} {m : MethodId} {args : Array Value} {below : List Frame} {meth : Method} {c : Code} {D : va_G} {ks : Nat → ClassId} {A : Nat → Prop} {ad : Nat → Nat} (X : Cx p s m args meth c cX2_canBe 3 RX2 D ks A 75 ad (shC ks ad)) (hr : meth.sig.returnType = (some .boolean)) {F : Nat} {r : Int32 × Mem} {k4 : Mem → Nat → Int32 → Int32 → Option (Int32 × Mem)} (hk4 : ∀ (μ : Mem) (t : Nat) (x1 : Int32) (x2 : Int32), (kindC t = 102) → k4 μ t x1 x2 = some r → G p l e rm_X2_canBe s m args below meth c D A 3 (MQ below (QI D 75 ad (shC ks ad) A r) args s 0 0 A) 75 ad (shC ks ad) μ 4 [(0, .ref (ad t)), (1, .int x1), (2, .int x2)] []) (μ : Mem) (t : Nat) (x2 : Int32) (kt : kindC t = 102) (h : f_X2_canBe_b41 F k4 μ t x2 = some r) : G p l e rm_X2_canBe s m args below meth c D A 3 (MQ below (QI D 75 ad (shC ks ad) A r) args s 0 0 A) 75 ad (shC ks ad) μ 41 [(0, .ref (ad t)), (2, .int x2)] [] := by
  refine g_iconst 42 X dX2_canBe_41 ic1 rfl ?_
  refine g_goto 46 X dX2_canBe_42 (by decide) ?_
  exact G.sub [0, 1] rfl (b_X2_canBe_46 X hr hk4 _ _ _ _ kt h)
set_option maxRecDepth 100000 in
set_option maxHeartbeats 4000000 in
theorem b_X2_canBe_4 {p : Program} {l : Launch} {e : Env} {s : State} {m : MethodId} {args : Array Value} {below : List Frame} {meth : Method} {c : Code} {D : va_G} {ks : Nat → ClassId} {A : Nat → Prop} {ad : Nat → Nat} (X : Cx p s m args meth c cX2_canBe 3 RX2 D ks A 75 ad (shC ks ad)) (hr : meth.sig.returnType = (some .boolean)) {F : Nat} {r : Int32 × Mem} : ∀ n : Nat, ∀ (μ : Mem) (t : Nat) (x1 : Int32) (x2 : Int32), (kindC t = 102) → f_X2_canBe_b4 F  n μ t x1 x2 = some r → G p l e rm_X2_canBe s m args below meth c D A 3 (MQ below (QI D 75 ad (shC ks ad) A r) args s 0 0 A) 75 ad (shC ks ad) μ 4 [(0, .ref (ad t)), (1, .int x1), (2, .int x2)] [] := by
  intro n
  induction n with
  | zero =>
    intro _ _ _ _ _ h
    cases h
  | succ n ih =>
    intro μ t x1 x2 kt h
    refine g_iload_n 5 X 2 dX2_canBe_4 rfl rfl ?_
    refine g_aload_n 6 X 0 dX2_canBe_5 rfl rfl ?_
    refine g_geti 9 X fl_X2_15_2 (o2 kt) rfl dX2_canBe_6 h rfl (fun v1 h => ?_)
    refine g_icmp_ge 53 12 X dX2_canBe_9 (by decide) rfl h (fun h => ?_) (fun h => ?_)
    · refine g_iload_n 54 X 1 dX2_canBe_53 rfl rfl ?_
      obtain ⟨hz, h⟩ := zk_some h
      exact g_zret X hr hz dX2_canBe_54 h
    · refine g_aload_n 13 X 0 dX2_canBe_12 rfl rfl ?_
      refine g_getr 16 X fl_X2_44_2 (o2 kt) rfl dX2_canBe_13 rfl ?_
      refine g_iload_n 17 X 2 dX2_canBe_16 rfl rfl ?_
      refine g_iald 18 X (aiC (n := 4) (by decide) (k2_numbers kt)) dX2_canBe_17 h rfl (fun v2 h => ?_)
      refine g_aload_n 19 X 0 dX2_canBe_18 rfl rfl ?_
      refine g_iload_n 20 X 2 dX2_canBe_19 rfl rfl ?_
      refine g_ci 23 h (fun q e => r_V X cd_X2_47_X2_sizeOf_X2 ⟨rfl, rfl⟩ ⟨Nat.le_of_ble_eq_true rfl, Nat.le_of_ble_eq_true rfl⟩ (c_X2_sizeOf X.2.2.2.2 kt e) PC_blind (pc_pre X) (g_recv X (o2 kt) rfl) rfl rfl (Nat.le_of_ble_eq_true rfl) dX2_canBe_20) rfl (fun v3 μ4 h => ?_)
      refine g_icmp_le 28 26 X dX2_canBe_23 (by decide) rfl h (fun h => ?_) (fun h => ?_)
      · refine g_iload_n 29 X 1 dX2_canBe_28 rfl rfl ?_
        refine g_if_ne 41 32 X dX2_canBe_29 (by decide) rfl h (fun h => ?_) (fun h => ?_)
        · exact G.sub [0, 2] rfl (b_X2_canBe_41 X hr ih _ _ _ kt h)
        · refine g_aload_n 33 X 0 dX2_canBe_32 rfl rfl ?_
          refine g_getr 36 X fl_X2_44_2 (o2 kt) rfl dX2_canBe_33 rfl ?_
          refine g_iload_n 37 X 2 dX2_canBe_36 rfl rfl ?_
          refine g_iald 38 X (aiC (n := 4) (by decide) (k2_numbers kt)) dX2_canBe_37 h rfl (fun v5 h => ?_)
          refine g_if_le 45 41 X dX2_canBe_38 (by decide) rfl h (fun h => ?_) (fun h => ?_)
          · refine g_iconst 46 X dX2_canBe_45 ic0 rfl ?_
            exact G.sub [0, 2] rfl (b_X2_canBe_46 X hr ih _ _ _ _ kt h)
          · exact G.sub [0, 2] rfl (b_X2_canBe_41 X hr ih _ _ _ kt h)
      · refine g_iconst 27 X dX2_canBe_26 ic0 rfl ?_
        exact g_zret X hr nb0 dX2_canBe_27 h
set_option maxRecDepth 100000 in
set_option maxHeartbeats 4000000 in
theorem b_X2_canBe_0 {p : Program} {l : Launch} {e : Env} {s : State} {m : MethodId} {args : Array Value} {below : List Frame} {meth : Method} {c : Code} {D : va_G} {ks : Nat → ClassId} {A : Nat → Prop} {ad : Nat → Nat} (X : Cx p s m args meth c cX2_canBe 3 RX2 D ks A 75 ad (shC ks ad)) (hr : meth.sig.returnType = (some .boolean)) {F : Nat} {r : Int32 × Mem} (μ : Mem) (t : Nat) (kt : kindC t = 102) (h : f_X2_canBe F  μ t = some r) : G p l e rm_X2_canBe s m args below meth c D A 3 (MQ below (QI D 75 ad (shC ks ad) A r) args s 0 0 A) 75 ad (shC ks ad) μ 0 [(0, .ref (ad t))] [] := by
  refine g_iconst 1 X dX2_canBe_0 ic0 rfl ?_
  refine g_istore_n 2 X dX2_canBe_1 (by decide) rfl ?_
  refine g_iconst 3 X dX2_canBe_2 ic0 rfl ?_
  refine g_istore_n 4 X dX2_canBe_3 (by decide) rfl ?_
  exact G.sub [2, 1, 0] rfl (b_X2_canBe_4 X hr  F _ _ _ _ kt h)
set_option maxRecDepth 100000 in
theorem c_X2_canBe {l : Launch} {D : va_G} {ks : Nat → ClassId} {A : Nat → Prop} {ad : Nat → Nat} (hD : ∀ μ : Mem, va_D A (wsM 75 ad (shC ks ad) μ)) {F : Nat} {μ : Mem} {t : Nat} {r : Int32 × Mem} (kt : kindC t = 102) (h : f_X2_canBe F μ t = some r) : Met l yX2_canBe (Cond.code yX2_canBe cX2_canBe 3 (some .boolean) :: wg) rm_X2_canBe (PC D ks 75 ad (shC ks ad) μ [.ref (ad t)]) (QI D 75 ad (shC ks ad) A r) 0 0 A := by
  refine met_of (by decide) (Nat.le_of_ble_eq_true rfl) hD ?_
  intro p e s m args below meth c X hr
  exact G.sub [0] rfl (b_X2_canBe_0 X hr  _ _ kt h)
abbrev rm_X4_lengthOfStep : Room := { frames := 0, cells := 0, slots := 0, locals := 0 }
set_option maxRecDepth 100000 in
set_option maxHeartbeats 4000000 in
theorem b_X4_lengthOfStep_0 {p : Program} {l : Launch} {e : Env} {s : State} {m : MethodId} {args : Array Value} {below : List Frame} {meth : Method} {c : Code} {D : va_G} {ks : Nat → ClassId} {A : Nat → Prop} {ad : Nat → Nat} (X : Cx p s m args meth c cX4_lengthOfStep 1 RX4 D ks A 75 ad (shC ks ad)) (hr : meth.sig.returnType = (some .int)) {F : Nat} {r : Int32 × Mem} (μ : Mem) (t : Nat) (kt : kindC t = 104) (h : f_X4_lengthOfStep F  μ t = some r) : G p l e rm_X4_lengthOfStep s m args below meth c D A 1 (MQ below (QI D 75 ad (shC ks ad) A r) args s 0 0 A) 75 ad (shC ks ad) μ 0 [(0, .ref (ad t))] [] := by
  refine g_aload_n 1 X 0 dX4_lengthOfStep_0 rfl rfl ?_
  refine g_getr 4 X fl_X4_19_4 (o4 kt) rfl dX4_lengthOfStep_1 rfl ?_
  refine g_iconst 5 X dX4_lengthOfStep_4 ic0 rfl ?_
  refine g_iald 6 X (aiC (n := 4) (by decide) (k4_numbers kt)) dX4_lengthOfStep_5 h rfl (fun v1 h => ?_)
  refine g_iconst 7 X dX4_lengthOfStep_6 ic1 rfl ?_
  refine g_icmp_ge 14 10 X dX4_lengthOfStep_7 (by decide) rfl h (fun h => ?_) (fun h => ?_)
  · refine g_aload_n 15 X 0 dX4_lengthOfStep_14 rfl rfl ?_
    refine g_getr 18 X fl_X4_30_4 (o4 kt) rfl dX4_lengthOfStep_15 rfl ?_
    refine g_geti 21 X fl_X4_34_6 (o6 rfl) rfl dX4_lengthOfStep_18 h rfl (fun v2 h => ?_)
    refine g_aload_n 22 X 0 dX4_lengthOfStep_21 rfl rfl ?_
    refine g_getr 25 X fl_X4_19_4 (o4 kt) rfl dX4_lengthOfStep_22 rfl ?_
    refine g_iconst 26 X dX4_lengthOfStep_25 ic0 rfl ?_
    refine g_iald 27 X (aiC (n := 4) (by decide) (k4_numbers kt)) dX4_lengthOfStep_26 h rfl (fun v3 h => ?_)
    refine g_idiv 28 X dX4_lengthOfStep_27 h rfl (fun h => ?_)
    refine g_topi h (fun v4 h => ?_)
    exact g_iret X hr dX4_lengthOfStep_28 h
  · refine g_iconst 11 X dX4_lengthOfStep_10 ic0 rfl ?_
    refine g_goto 28 X dX4_lengthOfStep_11 (by decide) ?_
    exact g_iret X hr dX4_lengthOfStep_28 h
set_option maxRecDepth 100000 in
theorem c_X4_lengthOfStep {l : Launch} {D : va_G} {ks : Nat → ClassId} {A : Nat → Prop} {ad : Nat → Nat} (hD : ∀ μ : Mem, va_D A (wsM 75 ad (shC ks ad) μ)) {F : Nat} {μ : Mem} {t : Nat} {r : Int32 × Mem} (kt : kindC t = 104) (h : f_X4_lengthOfStep F μ t = some r) : Met l yX4_lengthOfStep (Cond.code yX4_lengthOfStep cX4_lengthOfStep 1 (some .int) :: wg) rm_X4_lengthOfStep (PC D ks 75 ad (shC ks ad) μ [.ref (ad t)]) (QI D 75 ad (shC ks ad) A r) 0 0 A := by
  refine met_of (by decide) (Nat.le_of_ble_eq_true rfl) hD ?_
  intro p e s m args below meth c X hr
  exact G.sub [0] rfl (b_X4_lengthOfStep_0 X hr  _ _ kt h)
abbrev rm_X4_pointCount : Room := { frames := 1, cells := 0, slots := 0, locals := 20 }
set_option maxRecDepth 100000 in
set_option maxHeartbeats 4000000 in
theorem b_X4_pointCount_0 {p : Program} {l : Launch} {e : Env} {s : State} {m : MethodId} {args : Array Value} {below : List Frame} {meth : Method} {c : Code} {D : va_G} {ks : Nat → ClassId} {A : Nat → Prop} {ad : Nat → Nat} (X : Cx p s m args meth c cX4_pointCount 1 RX4 D ks A 75 ad (shC ks ad)) (hr : meth.sig.returnType = (some .int)) {F : Nat} {r : Int32 × Mem} (μ : Mem) (t : Nat) (kt : kindC t = 104) (h : f_X4_pointCount F  μ t = some r) : G p l e rm_X4_pointCount s m args below meth c D A 1 (MQ below (QI D 75 ad (shC ks ad) A r) args s 0 0 A) 75 ad (shC ks ad) μ 0 [(0, .ref (ad t))] [] := by
  refine g_aload_n 1 X 0 dX4_pointCount_0 rfl rfl ?_
  refine g_geti 4 X fl_X4_9_4 (o4 kt) rfl dX4_pointCount_1 h rfl (fun v1 h => ?_)
  refine g_if_eq 14 7 X dX4_pointCount_4 (by decide) rfl h (fun h => ?_) (fun h => ?_)
  · refine g_aload_n 15 X 0 dX4_pointCount_14 rfl rfl ?_
    refine g_getr 18 X fl_X4_19_4 (o4 kt) rfl dX4_pointCount_15 rfl ?_
    refine g_iconst 19 X dX4_pointCount_18 ic0 rfl ?_
    refine g_iald 20 X (aiC (n := 4) (by decide) (k4_numbers kt)) dX4_pointCount_19 h rfl (fun v2 h => ?_)
    exact g_iret X hr dX4_pointCount_20 h
  · refine g_aload_n 8 X 0 dX4_pointCount_7 rfl rfl ?_
    refine g_ci 11 h (fun q e => r_V X cd_X4_27_X4_lengthOfStep_X4 ⟨rfl, rfl⟩ ⟨Nat.le_of_ble_eq_true rfl, Nat.le_of_ble_eq_true rfl⟩ (c_X4_lengthOfStep X.2.2.2.2 kt e) PC_blind (pc_pre X) (g_recv X (o4 kt) rfl) rfl rfl (Nat.le_of_ble_eq_true rfl) dX4_pointCount_8) rfl (fun v3 μ4 h => ?_)
    refine g_goto 20 X dX4_pointCount_11 (by decide) ?_
    exact g_iret X hr dX4_pointCount_20 h
set_option maxRecDepth 100000 in
theorem c_X4_pointCount {l : Launch} {D : va_G} {ks : Nat → ClassId} {A : Nat → Prop} {ad : Nat → Nat} (hD : ∀ μ : Mem, va_D A (wsM 75 ad (shC ks ad) μ)) {F : Nat} {μ : Mem} {t : Nat} {r : Int32 × Mem} (kt : kindC t = 104) (h : f_X4_pointCount F μ t = some r) : Met l yX4_pointCount (Cond.code yX4_pointCount cX4_pointCount 1 (some .int) :: wg) rm_X4_pointCount (PC D ks 75 ad (shC ks ad) μ [.ref (ad t)]) (QI D 75 ad (shC ks ad) A r) 0 0 A := by
  refine met_of (by decide) (Nat.le_of_ble_eq_true rfl) hD ?_
  intro p e s m args below meth c X hr
  exact G.sub [0] rfl (b_X4_pointCount_0 X hr  _ _ kt h)
abbrev rm_X4_canBe : Room := { frames := 2, cells := 0, slots := 0, locals := 40 }
set_option maxRecDepth 100000 in
set_option maxHeartbeats 4000000 in
theorem b_X4_canBe_0 {p : Program} {l : Launch} {e : Env} {s : State} {m : MethodId} {args : Array Value} {below : List Frame} {meth : Method} {c : Code} {D : va_G} {ks : Nat → ClassId} {A : Nat → Prop} {ad : Nat → Nat} (X : Cx p s m args meth c cX4_canBe 1 RX4 D ks A 75 ad (shC ks ad)) (hr : meth.sig.returnType = (some .boolean)) {F : Nat} {r : Int32 × Mem} (μ : Mem) (t : Nat) (kt : kindC t = 104) (h : f_X4_canBe F  μ t = some r) : G p l e rm_X4_canBe s m args below meth c D A 1 (MQ below (QI D 75 ad (shC ks ad) A r) args s 0 0 A) 75 ad (shC ks ad) μ 0 [(0, .ref (ad t))] [] := by
  refine g_aload_n 1 X 0 dX4_canBe_0 rfl rfl ?_
  refine g_geti 4 X fl_X4_9_4 (o4 kt) rfl dX4_canBe_1 h rfl (fun v1 h => ?_)
  refine g_if_eq 23 7 X dX4_canBe_4 (by decide) rfl h (fun h => ?_) (fun h => ?_)
  · refine g_aload_n 24 X 0 dX4_canBe_23 rfl rfl ?_
    refine g_getr 27 X fl_X4_19_4 (o4 kt) rfl dX4_canBe_24 rfl ?_
    refine g_iconst 28 X dX4_canBe_27 ic0 rfl ?_
    refine g_iald 29 X (aiC (n := 4) (by decide) (k4_numbers kt)) dX4_canBe_28 h rfl (fun v2 h => ?_)
    refine g_iconst 30 X dX4_canBe_29 ic1 rfl ?_
    refine g_bipush 32 X dX4_canBe_30 bp30 rfl ?_
    refine g_ni 35 h (fun q e => r_SN X cd_X4_23_X11_within ⟨rfl, rfl⟩ ⟨Nat.le_of_ble_eq_true rfl, Nat.le_of_ble_eq_true rfl⟩ (c_X11_within e) PC_blind (pn_pre X) rfl rfl (Nat.le_of_ble_eq_true rfl) dX4_canBe_32) rfl (fun v3 h => ?_)
    obtain ⟨hz, h⟩ := zk_some h
    exact g_zret X hr hz dX4_canBe_35 h
  · refine g_aload_n 8 X 0 dX4_canBe_7 rfl rfl ?_
    refine g_ci 11 h (fun q e => r_V X cd_X4_15_X4_pointCount_X4 ⟨rfl, rfl⟩ ⟨Nat.le_of_ble_eq_true rfl, Nat.le_of_ble_eq_true rfl⟩ (c_X4_pointCount X.2.2.2.2 kt e) PC_blind (pc_pre X) (g_recv X (o4 kt) rfl) rfl rfl (Nat.le_of_ble_eq_true rfl) dX4_canBe_8) rfl (fun v4 μ5 h => ?_)
    refine g_iconst 12 X dX4_canBe_11 ic1 rfl ?_
    refine g_icmp_lt 19 15 X dX4_canBe_12 (by decide) rfl h (fun h => ?_) (fun h => ?_)
    · refine g_iconst 20 X dX4_canBe_19 ic0 rfl ?_
      refine g_goto 35 X dX4_canBe_20 (by decide) ?_
      exact g_zret X hr nb0 dX4_canBe_35 h
    · refine g_iconst 16 X dX4_canBe_15 ic1 rfl ?_
      refine g_goto 35 X dX4_canBe_16 (by decide) ?_
      exact g_zret X hr nb1 dX4_canBe_35 h
set_option maxRecDepth 100000 in
theorem c_X4_canBe {l : Launch} {D : va_G} {ks : Nat → ClassId} {A : Nat → Prop} {ad : Nat → Nat} (hD : ∀ μ : Mem, va_D A (wsM 75 ad (shC ks ad) μ)) {F : Nat} {μ : Mem} {t : Nat} {r : Int32 × Mem} (kt : kindC t = 104) (h : f_X4_canBe F μ t = some r) : Met l yX4_canBe (Cond.code yX4_canBe cX4_canBe 1 (some .boolean) :: wg) rm_X4_canBe (PC D ks 75 ad (shC ks ad) μ [.ref (ad t)]) (QI D 75 ad (shC ks ad) A r) 0 0 A := by
  refine met_of (by decide) (Nat.le_of_ble_eq_true rfl) hD ?_
  intro p e s m args below meth c X hr
  exact G.sub [0] rfl (b_X4_canBe_0 X hr  _ _ kt h)
abbrev rm_X8_clusters : Room := { frames := 1, cells := 0, slots := 0, locals := 20 }
set_option maxRecDepth 100000 in
set_option maxHeartbeats 4000000 in
theorem b_X8_clusters_0 {p : Program} {l : Launch} {e : Env} {s : State} {m : MethodId} {args : Array Value} {below : List Frame} {meth : Method} {c : Code} {D : va_G} {ks : Nat → ClassId} {A : Nat → Prop} {ad : Nat → Nat} (X : Cx p s m args meth c cX8_clusters 1 RX8 D ks A 75 ad (shC ks ad)) (hr : meth.sig.returnType = (some .int)) {F : Nat} {r : Int32 × Mem} (μ : Mem) (t : Nat) (kt : kindC t = 108) (h : f_X8_clusters F  μ t = some r) : G p l e rm_X8_clusters s m args below meth c D A 1 (MQ below (QI D 75 ad (shC ks ad) A r) args s 0 0 A) 75 ad (shC ks ad) μ 0 [(0, .ref (ad t))] [] := by
  refine g_aload_n 1 X 0 dX8_clusters_0 rfl rfl ?_
  refine g_getr 4 X fl_X8_15_8 (o8 kt) rfl dX8_clusters_1 rfl ?_
  refine g_geti 7 X fl_X8_19_6 (o6 rfl) rfl dX8_clusters_4 h rfl (fun v1 h => ?_)
  refine g_ni 10 h (fun q e => r_S X cd_X8_25_J6_bitCount_0f7a4 ⟨rfl, rfl⟩ ⟨Nat.le_of_ble_eq_true rfl, Nat.le_of_ble_eq_true rfl⟩ (c_J6_bitCount_0f7a4 e) PC_blind (pn_pre X) rfl rfl (Nat.le_of_ble_eq_true rfl) dX8_clusters_7) rfl (fun v2 h => ?_)
  exact g_iret X hr dX8_clusters_10 h
set_option maxRecDepth 100000 in
theorem c_X8_clusters {l : Launch} {D : va_G} {ks : Nat → ClassId} {A : Nat → Prop} {ad : Nat → Nat} (hD : ∀ μ : Mem, va_D A (wsM 75 ad (shC ks ad) μ)) {F : Nat} {μ : Mem} {t : Nat} {r : Int32 × Mem} (kt : kindC t = 108) (h : f_X8_clusters F μ t = some r) : Met l yX8_clusters (Cond.code yX8_clusters cX8_clusters 1 (some .int) :: wg) rm_X8_clusters (PC D ks 75 ad (shC ks ad) μ [.ref (ad t)]) (QI D 75 ad (shC ks ad) A r) 0 0 A := by
  refine met_of (by decide) (Nat.le_of_ble_eq_true rfl) hD ?_
  intro p e s m args below meth c X hr
  exact G.sub [0] rfl (b_X8_clusters_0 X hr  _ _ kt h)
abbrev rm_X8_canBe : Room := { frames := 2, cells := 0, slots := 0, locals := 40 }
set_option maxRecDepth 100000 in
set_option maxHeartbeats 4000000 in
theorem b_X8_canBe_0 {p : Program} {l : Launch} {e : Env} {s : State} {m : MethodId} {args : Array Value} {below : List Frame} {meth : Method} {c : Code} {D : va_G} {ks : Nat → ClassId} {A : Nat → Prop} {ad : Nat → Nat} (X : Cx p s m args meth c cX8_canBe 1 RX8 D ks A 75 ad (shC ks ad)) (hr : meth.sig.returnType = (some .boolean)) {F : Nat} {r : Int32 × Mem} (μ : Mem) (t : Nat) (kt : kindC t = 108) (h : f_X8_canBe F  μ t = some r) : G p l e rm_X8_canBe s m args below meth c D A 1 (MQ below (QI D 75 ad (shC ks ad) A r) args s 0 0 A) 75 ad (shC ks ad) μ 0 [(0, .ref (ad t))] [] := by
  refine g_aload_n 1 X 0 dX8_canBe_0 rfl rfl ?_
  refine g_getr 4 X fl_X8_35_8 (o8 kt) rfl dX8_canBe_1 rfl ?_
  refine g_iconst 5 X dX8_canBe_4 ic0 rfl ?_
  refine g_iald 6 X (aiC (n := 4) (by decide) (k8_numbers kt)) dX8_canBe_5 h rfl (fun v1 h => ?_)
  refine g_iconst 7 X dX8_canBe_6 ic1 rfl ?_
  refine g_aload_n 8 X 0 dX8_canBe_7 rfl rfl ?_
  refine g_ci 11 h (fun q e => r_V X cd_X8_47_X8_clusters_X8 ⟨rfl, rfl⟩ ⟨Nat.le_of_ble_eq_true rfl, Nat.le_of_ble_eq_true rfl⟩ (c_X8_clusters X.2.2.2.2 kt e) PC_blind (pc_pre X) (g_recv X (o8 kt) rfl) rfl rfl (Nat.le_of_ble_eq_true rfl) dX8_canBe_8) rfl (fun v2 μ3 h => ?_)
  refine g_ni 14 h (fun q e => r_SN X cd_X8_51_X11_within ⟨rfl, rfl⟩ ⟨Nat.le_of_ble_eq_true rfl, Nat.le_of_ble_eq_true rfl⟩ (c_X11_within e) PC_blind (pn_pre X) rfl rfl (Nat.le_of_ble_eq_true rfl) dX8_canBe_11) rfl (fun v4 h => ?_)
  refine g_if_eq 31 17 X dX8_canBe_14 (by decide) rfl h (fun h => ?_) (fun h => ?_)
  · refine g_iconst 32 X dX8_canBe_31 ic0 rfl ?_
    exact g_zret X hr nb0 dX8_canBe_32 h
  · refine g_aload_n 18 X 0 dX8_canBe_17 rfl rfl ?_
    refine g_getr 21 X fl_X8_35_8 (o8 kt) rfl dX8_canBe_18 rfl ?_
    refine g_iconst 22 X dX8_canBe_21 ic1 rfl ?_
    refine g_iald 23 X (aiC (n := 4) (by decide) (k8_numbers kt)) dX8_canBe_22 h rfl (fun v5 h => ?_)
    refine g_iconst 24 X dX8_canBe_23 ic1 rfl ?_
    refine g_icmp_lt 31 27 X dX8_canBe_24 (by decide) rfl h (fun h => ?_) (fun h => ?_)
    · refine g_iconst 32 X dX8_canBe_31 ic0 rfl ?_
      exact g_zret X hr nb0 dX8_canBe_32 h
    · refine g_iconst 28 X dX8_canBe_27 ic1 rfl ?_
      refine g_goto 32 X dX8_canBe_28 (by decide) ?_
      exact g_zret X hr nb1 dX8_canBe_32 h
set_option maxRecDepth 100000 in
theorem c_X8_canBe {l : Launch} {D : va_G} {ks : Nat → ClassId} {A : Nat → Prop} {ad : Nat → Nat} (hD : ∀ μ : Mem, va_D A (wsM 75 ad (shC ks ad) μ)) {F : Nat} {μ : Mem} {t : Nat} {r : Int32 × Mem} (kt : kindC t = 108) (h : f_X8_canBe F μ t = some r) : Met l yX8_canBe (Cond.code yX8_canBe cX8_canBe 1 (some .boolean) :: wg) rm_X8_canBe (PC D ks 75 ad (shC ks ad) μ [.ref (ad t)]) (QI D 75 ad (shC ks ad) A r) 0 0 A := by
  refine met_of (by decide) (Nat.le_of_ble_eq_true rfl) hD ?_
  intro p e s m args below meth c X hr
  exact G.sub [0] rfl (b_X8_canBe_0 X hr  _ _ kt h)
abbrev rm_X5_possibleWay : Room := { frames := 3, cells := 0, slots := 0, locals := 64 }
set_option maxRecDepth 100000 in
set_option maxHeartbeats 4000000 in
theorem b_X5_possibleWay_0 {p : Program} {l : Launch} {e : Env} {s : State} {m : MethodId} {args : Array Value} {below : List Frame} {meth : Method} {c : Code} {D : va_G} {ks : Nat → ClassId} {A : Nat → Prop} {ad : Nat → Nat} (X : Cx p s m args meth c cX5_possibleWay 1 RX5 D ks A 75 ad (shC ks ad)) (hr : meth.sig.returnType = (some (.object "DrawnList$Way"))) {F : Nat} {r : Option Nat × Mem} (μ : Mem) (t : Nat) (kt : kindC t = 105) (h : f_X5_possibleWay F  μ t = some r) : G p l e rm_X5_possibleWay s m args below meth c D A 1 (MQ below (QR D 75 ad (shC ks ad) A r) args s 0 0 A) 75 ad (shC ks ad) μ 0 [(0, .ref (ad t))] [] := by
  refine g_aload_n 1 X 0 dX5_possibleWay_0 rfl rfl ?_
  refine g_getq 4 X fl_X5_54_5 (o5 kt) rfl dX5_possibleWay_1 h rfl (fun v1 h => ?_)
  refine g_ifnull 25 7 X dX5_possibleWay_4 (by decide) rfl h (fun hy h2 => ?_) (fun y2 hy h2 => ?_)
  · subst hy
    have h := h2
    refine g_null 26 X dX5_possibleWay_25 rfl ?_
    exact g_aret (v := none) X hr dX5_possibleWay_26 h
  · subst hy
    have h := h2
    refine g_aload_n 8 X 0 dX5_possibleWay_7 rfl rfl ?_
    refine g_geti 11 X fl_X5_57_5 (o5 kt) rfl dX5_possibleWay_8 h rfl (fun v3 h => ?_)
    refine g_iconst 12 X dX5_possibleWay_11 icm1 rfl ?_
    refine g_icmp_ne 25 15 X dX5_possibleWay_12 (by decide) rfl h (fun h => ?_) (fun h => ?_)
    · refine g_null 26 X dX5_possibleWay_25 rfl ?_
      exact g_aret (v := none) X hr dX5_possibleWay_26 h
    · refine g_aload_n 16 X 0 dX5_possibleWay_15 rfl rfl ?_
      refine g_getq 19 X fl_X5_54_5 (o5 kt) rfl dX5_possibleWay_16 h rfl (fun v4 h => ?_)
      obtain ⟨y5, hy, h2⟩ := onul_some h
      subst hy
      have h := h2
      refine g_ci (rest := []) 22 h (fun q e => ?_) rfl (fun v6 μ7 h => ?_)
      · rcases vdis_some e with ⟨kk, e⟩ | ⟨kk, e⟩ | ⟨kk, e⟩
        · exact r_A X cd_X5_60_X2_canBe_X2 ⟨rfl, rfl⟩ ⟨Nat.le_of_ble_eq_true rfl, Nat.le_of_ble_eq_true rfl⟩ (c_X2_canBe X.2.2.2.2 kk e) PC_blind (pc_pre X) (g_recv X (o2 kk) rfl) rfl rfl (Nat.le_of_ble_eq_true rfl) dX5_possibleWay_19
        · exact r_A X cd_X5_60_X4_canBe_X4 ⟨rfl, rfl⟩ ⟨Nat.le_of_ble_eq_true rfl, Nat.le_of_ble_eq_true rfl⟩ (c_X4_canBe X.2.2.2.2 kk e) PC_blind (pc_pre X) (g_recv X (o4 kk) rfl) rfl rfl (Nat.le_of_ble_eq_true rfl) dX5_possibleWay_19
        · exact r_A X cd_X5_60_X8_canBe_X8 ⟨rfl, rfl⟩ ⟨Nat.le_of_ble_eq_true rfl, Nat.le_of_ble_eq_true rfl⟩ (c_X8_canBe X.2.2.2.2 kk e) PC_blind (pc_pre X) (g_recv X (o8 kk) rfl) rfl rfl (Nat.le_of_ble_eq_true rfl) dX5_possibleWay_19
      · refine g_if_ne 27 25 X dX5_possibleWay_22 (by decide) rfl h (fun h => ?_) (fun h => ?_)
        · refine g_aload_n 28 X 0 dX5_possibleWay_27 rfl rfl ?_
          refine g_getq 31 X fl_X5_54_5 (o5 kt) rfl dX5_possibleWay_28 h rfl (fun v8 h => ?_)
          exact g_aret (v := v8) X hr dX5_possibleWay_31 h
        · refine g_null 26 X dX5_possibleWay_25 rfl ?_
          exact g_aret (v := none) X hr dX5_possibleWay_26 h
set_option maxRecDepth 100000 in
theorem c_X5_possibleWay {l : Launch} {D : va_G} {ks : Nat → ClassId} {A : Nat → Prop} {ad : Nat → Nat} (hD : ∀ μ : Mem, va_D A (wsM 75 ad (shC ks ad) μ)) {F : Nat} {μ : Mem} {t : Nat} {r : Option Nat × Mem} (kt : kindC t = 105) (h : f_X5_possibleWay F μ t = some r) : Met l yX5_possibleWay (Cond.code yX5_possibleWay cX5_possibleWay 1 (some (.object "DrawnList$Way")) :: wg) rm_X5_possibleWay (PC D ks 75 ad (shC ks ad) μ [.ref (ad t)]) (QR D 75 ad (shC ks ad) A r) 0 0 A := by
  refine met_of (by decide) (Nat.le_of_ble_eq_true rfl) hD ?_
  intro p e s m args below meth c X hr
  exact G.sub [0] rfl (b_X5_possibleWay_0 X hr  _ _ kt h)
abbrev rm_X11_can : Room := { frames := 4, cells := 0, slots := 0, locals := 84 }
set_option maxRecDepth 100000 in
set_option maxHeartbeats 4000000 in
theorem b_X11_can_0 {p : Program} {l : Launch} {e : Env} {s : State} {m : MethodId} {args : Array Value} {below : List Frame} {meth : Method} {c : Code} {D : va_G} {ks : Nat → ClassId} {A : Nat → Prop} {ad : Nat → Nat} (X : Cx p s m args meth c cX11_can 2 RX11 D ks A 75 ad (shC ks ad)) (hr : meth.sig.returnType = (some .int)) {F : Nat} {r : Int32 × Mem} (μ : Mem) (x1 : Int32)  (h : f_X11_can F  μ x1 = some r) : G p l e rm_X11_can s m args below meth c D A 2 (MQ below (QI D 75 ad (shC ks ad) A r) args s 0 0 A) 75 ad (shC ks ad) μ 0 [(0, .ref (ad 0)), (1, .int x1)] [] := by
  refine g_iload_n 1 X 1 dX11_can_0 rfl rfl ?_
  refine g_ni 4 h (fun q e => r_S X cd_X11_133_X11_isPlan ⟨rfl, rfl⟩ ⟨Nat.le_of_ble_eq_true rfl, Nat.le_of_ble_eq_true rfl⟩ (c_X11_isPlan e) PC_blind (pn_pre X) rfl rfl (Nat.le_of_ble_eq_true rfl) dX11_can_1) rfl (fun v1 h => ?_)
  refine g_if_ne 10 7 X dX11_can_4 (by decide) rfl h (fun h => ?_) (fun h => ?_)
  · refine g_aload_n 11 X 0 dX11_can_10 rfl rfl ?_
    refine g_getr 14 X fl_X11_27_11 (o11 rfl) rfl dX11_can_11 rfl ?_
    refine g_iload_n 15 X 1 dX11_can_14 rfl rfl ?_
    refine g_aald (fn := fun p => 18 + 9 * p) 16 X arP rfl dX11_can_15 h rfl (fun hv2 h => ?_)
    refine g_cr 19 h (fun q e => r_V X cd_X11_146_X5_possibleWay_X5 ⟨rfl, rfl⟩ ⟨Nat.le_of_ble_eq_true rfl, Nat.le_of_ble_eq_true rfl⟩ (c_X5_possibleWay X.2.2.2.2 (kPl hv2) e) PC_blind (pc_pre X) (g_recv X (o5 (kPl hv2)) rfl) rfl rfl (Nat.le_of_ble_eq_true rfl) dX11_can_16) rfl (fun v3 μ4 h => ?_)
    refine g_ifnonnull 26 22 X dX11_can_19 (by decide) rfl h (fun y5 hy h2 => ?_) (fun hy h2 => ?_)
    · subst hy
      have h := h2
      refine g_iconst 27 X dX11_can_26 ic1 rfl ?_
      exact g_iret X hr dX11_can_27 h
    · subst hy
      have h := h2
      refine g_iconst 23 X dX11_can_22 ic0 rfl ?_
      refine g_goto 27 X dX11_can_23 (by decide) ?_
      exact g_iret X hr dX11_can_27 h
  · refine g_bipush 9 X dX11_can_7 bpm2 rfl ?_
    exact g_iret X hr dX11_can_9 h
set_option maxRecDepth 100000 in
theorem c_X11_can {l : Launch} {D : va_G} {ks : Nat → ClassId} {A : Nat → Prop} {ad : Nat → Nat} (hD : ∀ μ : Mem, va_D A (wsM 75 ad (shC ks ad) μ)) {F : Nat} {μ : Mem} {x1 : Int32} {r : Int32 × Mem}  (h : f_X11_can F μ x1 = some r) : Met l yX11_can (Cond.code yX11_can cX11_can 2 (some .int) :: wg) rm_X11_can (PC D ks 75 ad (shC ks ad) μ [.ref (ad 0), .int x1]) (QI D 75 ad (shC ks ad) A r) 0 0 A := by
  refine met_of (by decide) (Nat.le_of_ble_eq_true rfl) hD ?_
  intro p e s m args below meth c X hr
  exact G.sub [0, 1] rfl (b_X11_can_0 X hr  _ _ h)
abbrev rm_X11_asLong : Room := { frames := 0, cells := 0, slots := 0, locals := 0 }
set_option maxRecDepth 100000 in
set_option maxHeartbeats 4000000 in
theorem b_X11_asLong_0 {p : Program} {l : Launch} {e : Env} {s : State} {m : MethodId} {args : Array Value} {below : List Frame} {meth : Method} {c : Code} {D : va_G} {ks : Nat → ClassId} (X : Cx p s m args meth c cX11_asLong 1 RX11 D ks (fun _ => False) 0 ad0 sh0) (hr : meth.sig.returnType = (some .long)) {F : Nat} {r : Int64} (x0 : Int32)  (h : f_X11_asLong F  x0 = some r) : G p l e rm_X11_asLong s m args below meth c D (fun _ => False) 1 (MQ below (QNl D r) args s 0 0 (fun _ => False)) 0 ad0 sh0 μ0 0 [(0, .int x0)] [] := by
  refine g_ldc2 3 X m607 dX11_asLong_0 rfl ?_
  refine g_iload_n 4 X 0 dX11_asLong_3 rfl rfl ?_
  refine g_i2l 5 X dX11_asLong_4 rfl ?_
  refine g_lsub 6 X dX11_asLong_5 rfl ?_
  exact gn_lret X hr dX11_asLong_6 h
set_option maxRecDepth 100000 in
theorem c_X11_asLong {l : Launch} {D : va_G} {ks : Nat → ClassId} {F : Nat} {x0 : Int32} {r : Int64}  (h : f_X11_asLong F x0 = some r) : Met l yX11_asLong (Cond.code yX11_asLong cX11_asLong 1 (some .long) :: wg) rm_X11_asLong (PN D ks [.int x0]) (QNl D r) 0 0 (fun _ => False) := by
  refine met_of (by decide) (Nat.le_of_ble_eq_true rfl) d0 ?_
  intro p e s m args below meth c X hr
  exact G.sub [0] rfl (b_X11_asLong_0 X hr  _ h)
abbrev rm_X9_waysToTake : Room := { frames := 0, cells := 0, slots := 0, locals := 0 }
set_option maxRecDepth 100000 in
set_option maxHeartbeats 4000000 in
theorem b_X9_waysToTake_5 {p : Program} {l : Launch} {e : Env} {s : State} {m : MethodId} {args : Array Value} {below : List Frame} {meth : Method} {c : Code} {D : va_G} {ks : Nat → ClassId} (X : Cx p s m args meth c cX9_waysToTake 5 RX9 D ks (fun _ => False) 0 ad0 sh0) (hr : meth.sig.returnType = (some .long)) {F : Nat} {r : Int64} : ∀ n : Nat, ∀ (x0 : Int32) (x1 : Int32) (x2 : Int64) (x4 : Int32), f_X9_waysToTake_b5 F  n x0 x1 x2 x4 = some r → G p l e rm_X9_waysToTake s m args below meth c D (fun _ => False) 5 (MQ below (QNl D r) args s 0 0 (fun _ => False)) 0 ad0 sh0 μ0 5 [(0, .int x0), (1, .int x1), (2, .long x2), (4, .int x4)] [] := by
  intro n
  induction n with
  | zero =>
    intro _ _ _ _ h
    cases h
  | succ n ih =>
    intro x0 x1 x2 x4 h
    refine g_iload 7 X 3 dX9_waysToTake_5 rfl rfl ?_
    refine g_iload_n 8 X 0 dX9_waysToTake_7 rfl rfl ?_
    refine g_icmp_gt 31 11 X dX9_waysToTake_8 (by decide) rfl h (fun h => ?_) (fun h => ?_)
    · refine g_lload_n 32 X 2 dX9_waysToTake_31 rfl rfl ?_
      exact gn_lret X hr dX9_waysToTake_32 h
    · refine g_lload_n 12 X 2 dX9_waysToTake_11 rfl rfl ?_
      refine g_iload_n 13 X 1 dX9_waysToTake_12 rfl rfl ?_
      refine g_iload_n 14 X 0 dX9_waysToTake_13 rfl rfl ?_
      refine g_isub 15 X dX9_waysToTake_14 rfl ?_
      refine g_iload 17 X 3 dX9_waysToTake_15 rfl rfl ?_
      refine g_iadd 18 X dX9_waysToTake_17 rfl ?_
      refine g_i2l 19 X dX9_waysToTake_18 rfl ?_
      refine g_lmul 20 X dX9_waysToTake_19 rfl ?_
      refine g_iload 22 X 3 dX9_waysToTake_20 rfl rfl ?_
      refine g_i2l 23 X dX9_waysToTake_22 rfl ?_
      refine g_ldiv 24 X dX9_waysToTake_23 h rfl (fun h => ?_)
      refine g_topl h (fun v1 h => ?_)
      refine g_lstore_n 25 X dX9_waysToTake_24 (by decide) rfl ?_
      refine g_iinc 28 X 3 dX9_waysToTake_25 ic1 rfl (by decide) rfl ?_
      refine g_goto 5 X dX9_waysToTake_28 (by decide) ?_
      exact G.sub [2, 3, 1, 0] rfl (ih _ _ _ _ h)
set_option maxRecDepth 100000 in
set_option maxHeartbeats 4000000 in
theorem b_X9_waysToTake_0 {p : Program} {l : Launch} {e : Env} {s : State} {m : MethodId} {args : Array Value} {below : List Frame} {meth : Method} {c : Code} {D : va_G} {ks : Nat → ClassId} (X : Cx p s m args meth c cX9_waysToTake 5 RX9 D ks (fun _ => False) 0 ad0 sh0) (hr : meth.sig.returnType = (some .long)) {F : Nat} {r : Int64} (x0 : Int32) (x1 : Int32)  (h : f_X9_waysToTake F  x0 x1 = some r) : G p l e rm_X9_waysToTake s m args below meth c D (fun _ => False) 5 (MQ below (QNl D r) args s 0 0 (fun _ => False)) 0 ad0 sh0 μ0 0 [(0, .int x0), (1, .int x1)] [] := by
  refine g_lconst 1 X dX9_waysToTake_0 lc1 rfl ?_
  refine g_lstore_n 2 X dX9_waysToTake_1 (by decide) rfl ?_
  refine g_iconst 3 X dX9_waysToTake_2 ic1 rfl ?_
  refine g_istore 5 X dX9_waysToTake_3 (by decide) rfl ?_
  exact G.sub [2, 3, 1, 0] rfl (b_X9_waysToTake_5 X hr  F _ _ _ _ h)
set_option maxRecDepth 100000 in
theorem c_X9_waysToTake {l : Launch} {D : va_G} {ks : Nat → ClassId} {F : Nat} {x0 : Int32} {x1 : Int32} {r : Int64}  (h : f_X9_waysToTake F x0 x1 = some r) : Met l yX9_waysToTake (Cond.code yX9_waysToTake cX9_waysToTake 5 (some .long) :: wg) rm_X9_waysToTake (PN D ks [.int x0, .int x1]) (QNl D r) 0 0 (fun _ => False) := by
  refine met_of (by decide) (Nat.le_of_ble_eq_true rfl) d0 ?_
  intro p e s m args below meth c X hr
  exact G.sub [0, 1] rfl (b_X9_waysToTake_0 X hr  _ _ h)
abbrev rm_X2_countWays : Room := { frames := 2, cells := 0, slots := 0, locals := 42 }
set_option maxRecDepth 100000 in
set_option maxHeartbeats 4000000 in
theorem b_X2_countWays_4 {p : Program} {l : Launch} {e : Env} {s : State} {m : MethodId} {args : Array Value} {below : List Frame} {meth : Method} {c : Code} {D : va_G} {ks : Nat → ClassId} {A : Nat → Prop} {ad : Nat → Nat} (X : Cx p s m args meth c cX2_countWays 4 RX2 D ks A 75 ad (shC ks ad)) (hr : meth.sig.returnType = (some .long)) {F : Nat} {r : Int64 × Mem} : ∀ n : Nat, ∀ (μ : Mem) (t : Nat) (x1 : Int64) (x3 : Int32), (kindC t = 102) → f_X2_countWays_b4 F  n μ t x1 x3 = some r → G p l e rm_X2_countWays s m args below meth c D A 4 (MQ below (QL D 75 ad (shC ks ad) A r) args s 0 0 A) 75 ad (shC ks ad) μ 4 [(0, .ref (ad t)), (1, .long x1), (3, .int x3)] [] := by
  intro n
  induction n with
  | zero =>
    intro _ _ _ _ _ h
    cases h
  | succ n ih =>
    intro μ t x1 x3 kt h
    refine g_iload_n 5 X 2 dX2_countWays_4 rfl rfl ?_
    refine g_aload_n 6 X 0 dX2_countWays_5 rfl rfl ?_
    refine g_geti 9 X fl_X2_15_2 (o2 kt) rfl dX2_countWays_6 h rfl (fun v1 h => ?_)
    refine g_icmp_ge 35 12 X dX2_countWays_9 (by decide) rfl h (fun h => ?_) (fun h => ?_)
    · refine g_lload_n 36 X 1 dX2_countWays_35 rfl rfl ?_
      exact g_lret X hr dX2_countWays_36 h
    · refine g_lload_n 13 X 1 dX2_countWays_12 rfl rfl ?_
      refine g_aload_n 14 X 0 dX2_countWays_13 rfl rfl ?_
      refine g_getr 17 X fl_X2_44_2 (o2 kt) rfl dX2_countWays_14 rfl ?_
      refine g_iload_n 18 X 2 dX2_countWays_17 rfl rfl ?_
      refine g_iald 19 X (aiC (n := 4) (by decide) (k2_numbers kt)) dX2_countWays_18 h rfl (fun v2 h => ?_)
      refine g_aload_n 20 X 0 dX2_countWays_19 rfl rfl ?_
      refine g_iload_n 21 X 2 dX2_countWays_20 rfl rfl ?_
      refine g_ci 24 h (fun q e => r_V X cd_X2_47_X2_sizeOf_X2 ⟨rfl, rfl⟩ ⟨Nat.le_of_ble_eq_true rfl, Nat.le_of_ble_eq_true rfl⟩ (c_X2_sizeOf X.2.2.2.2 kt e) PC_blind (pc_pre X) (g_recv X (o2 kt) rfl) rfl rfl (Nat.le_of_ble_eq_true rfl) dX2_countWays_21) rfl (fun v3 μ4 h => ?_)
      refine g_nl 27 h (fun q e => r_SI X cd_X2_50_X9_waysToTake_SI ⟨rfl, rfl⟩ ⟨Nat.le_of_ble_eq_true rfl, Nat.le_of_ble_eq_true rfl⟩ (c_X9_waysToTake e) PC_blind (pn_pre X) rfl rfl (Nat.le_of_ble_eq_true rfl) dX2_countWays_24) rfl (fun v5 h => ?_)
      refine g_lmul 28 X dX2_countWays_27 rfl ?_
      refine g_topl h (fun v6 h => ?_)
      refine g_lstore_n 29 X dX2_countWays_28 (by decide) rfl ?_
      refine g_iinc 32 X 2 dX2_countWays_29 ic1 rfl (by decide) rfl ?_
      refine g_goto 4 X dX2_countWays_32 (by decide) ?_
      exact G.sub [2, 1, 0] rfl (ih _ _ _ _ kt h)
set_option maxRecDepth 100000 in
set_option maxHeartbeats 4000000 in
theorem b_X2_countWays_0 {p : Program} {l : Launch} {e : Env} {s : State} {m : MethodId} {args : Array Value} {below : List Frame} {meth : Method} {c : Code} {D : va_G} {ks : Nat → ClassId} {A : Nat → Prop} {ad : Nat → Nat} (X : Cx p s m args meth c cX2_countWays 4 RX2 D ks A 75 ad (shC ks ad)) (hr : meth.sig.returnType = (some .long)) {F : Nat} {r : Int64 × Mem} (μ : Mem) (t : Nat) (kt : kindC t = 102) (h : f_X2_countWays F  μ t = some r) : G p l e rm_X2_countWays s m args below meth c D A 4 (MQ below (QL D 75 ad (shC ks ad) A r) args s 0 0 A) 75 ad (shC ks ad) μ 0 [(0, .ref (ad t))] [] := by
  refine g_lconst 1 X dX2_countWays_0 lc1 rfl ?_
  refine g_lstore_n 2 X dX2_countWays_1 (by decide) rfl ?_
  refine g_iconst 3 X dX2_countWays_2 ic0 rfl ?_
  refine g_istore_n 4 X dX2_countWays_3 (by decide) rfl ?_
  exact G.sub [2, 1, 0] rfl (b_X2_countWays_4 X hr  F _ _ _ _ kt h)
set_option maxRecDepth 100000 in
theorem c_X2_countWays {l : Launch} {D : va_G} {ks : Nat → ClassId} {A : Nat → Prop} {ad : Nat → Nat} (hD : ∀ μ : Mem, va_D A (wsM 75 ad (shC ks ad) μ)) {F : Nat} {μ : Mem} {t : Nat} {r : Int64 × Mem} (kt : kindC t = 102) (h : f_X2_countWays F μ t = some r) : Met l yX2_countWays (Cond.code yX2_countWays cX2_countWays 4 (some .long) :: wg) rm_X2_countWays (PC D ks 75 ad (shC ks ad) μ [.ref (ad t)]) (QL D 75 ad (shC ks ad) A r) 0 0 A := by
  refine met_of (by decide) (Nat.le_of_ble_eq_true rfl) hD ?_
  intro p e s m args below meth c X hr
  exact G.sub [0] rfl (b_X2_countWays_0 X hr  _ _ kt h)
abbrev rm_X4_countWays : Room := { frames := 2, cells := 0, slots := 0, locals := 40 }
set_option maxRecDepth 100000 in
set_option maxHeartbeats 4000000 in
theorem b_X4_countWays_0 {p : Program} {l : Launch} {e : Env} {s : State} {m : MethodId} {args : Array Value} {below : List Frame} {meth : Method} {c : Code} {D : va_G} {ks : Nat → ClassId} {A : Nat → Prop} {ad : Nat → Nat} (X : Cx p s m args meth c cX4_countWays 1 RX4 D ks A 75 ad (shC ks ad)) (hr : meth.sig.returnType = (some .long)) {F : Nat} {r : Int64 × Mem} (μ : Mem) (t : Nat) (kt : kindC t = 104) (h : f_X4_countWays F  μ t = some r) : G p l e rm_X4_countWays s m args below meth c D A 1 (MQ below (QL D 75 ad (shC ks ad) A r) args s 0 0 A) 75 ad (shC ks ad) μ 0 [(0, .ref (ad t))] [] := by
  refine g_aload_n 1 X 0 dX4_countWays_0 rfl rfl ?_
  refine g_ci 4 h (fun q e => r_V X cd_X4_15_X4_pointCount_X4 ⟨rfl, rfl⟩ ⟨Nat.le_of_ble_eq_true rfl, Nat.le_of_ble_eq_true rfl⟩ (c_X4_pointCount X.2.2.2.2 kt e) PC_blind (pc_pre X) (g_recv X (o4 kt) rfl) rfl rfl (Nat.le_of_ble_eq_true rfl) dX4_countWays_1) rfl (fun v1 μ2 h => ?_)
  refine g_i2l 5 X dX4_countWays_4 rfl ?_
  exact g_lret X hr dX4_countWays_5 h
set_option maxRecDepth 100000 in
theorem c_X4_countWays {l : Launch} {D : va_G} {ks : Nat → ClassId} {A : Nat → Prop} {ad : Nat → Nat} (hD : ∀ μ : Mem, va_D A (wsM 75 ad (shC ks ad) μ)) {F : Nat} {μ : Mem} {t : Nat} {r : Int64 × Mem} (kt : kindC t = 104) (h : f_X4_countWays F μ t = some r) : Met l yX4_countWays (Cond.code yX4_countWays cX4_countWays 1 (some .long) :: wg) rm_X4_countWays (PC D ks 75 ad (shC ks ad) μ [.ref (ad t)]) (QL D 75 ad (shC ks ad) A r) 0 0 A := by
  refine met_of (by decide) (Nat.le_of_ble_eq_true rfl) hD ?_
  intro p e s m args below meth c X hr
  exact G.sub [0] rfl (b_X4_countWays_0 X hr  _ _ kt h)
abbrev rm_X8_sizeOf : Room := { frames := 1, cells := 0, slots := 0, locals := 20 }
set_option maxRecDepth 100000 in
set_option maxHeartbeats 4000000 in
theorem b_X8_sizeOf_0 {p : Program} {l : Launch} {e : Env} {s : State} {m : MethodId} {args : Array Value} {below : List Frame} {meth : Method} {c : Code} {D : va_G} {ks : Nat → ClassId} {A : Nat → Prop} {ad : Nat → Nat} (X : Cx p s m args meth c cX8_sizeOf 2 RX8 D ks A 75 ad (shC ks ad)) (hr : meth.sig.returnType = (some .int)) {F : Nat} {r : Int32 × Mem} (μ : Mem) (t : Nat) (x1 : Int32) (kt : kindC t = 108) (h : f_X8_sizeOf F  μ t x1 = some r) : G p l e rm_X8_sizeOf s m args below meth c D A 2 (MQ below (QI D 75 ad (shC ks ad) A r) args s 0 0 A) 75 ad (shC ks ad) μ 0 [(0, .ref (ad t)), (1, .int x1)] [] := by
  refine g_aload_n 1 X 0 dX8_sizeOf_0 rfl rfl ?_
  refine g_getr 4 X fl_X8_15_8 (o8 kt) rfl dX8_sizeOf_1 rfl ?_
  refine g_getr 7 X fl_X8_31_6 (o6 rfl) rfl dX8_sizeOf_4 rfl ?_
  refine g_iload_n 8 X 1 dX8_sizeOf_7 rfl rfl ?_
  refine g_iald 9 X (aiC (n := 8) (by decide) rfl) dX8_sizeOf_8 h rfl (fun v1 h => ?_)
  refine g_ni 12 h (fun q e => r_S X cd_X8_25_J6_bitCount_0f7a4 ⟨rfl, rfl⟩ ⟨Nat.le_of_ble_eq_true rfl, Nat.le_of_ble_eq_true rfl⟩ (c_J6_bitCount_0f7a4 e) PC_blind (pn_pre X) rfl rfl (Nat.le_of_ble_eq_true rfl) dX8_sizeOf_9) rfl (fun v2 h => ?_)
  exact g_iret X hr dX8_sizeOf_12 h
set_option maxRecDepth 100000 in
theorem c_X8_sizeOf {l : Launch} {D : va_G} {ks : Nat → ClassId} {A : Nat → Prop} {ad : Nat → Nat} (hD : ∀ μ : Mem, va_D A (wsM 75 ad (shC ks ad) μ)) {F : Nat} {μ : Mem} {t : Nat} {x1 : Int32} {r : Int32 × Mem} (kt : kindC t = 108) (h : f_X8_sizeOf F μ t x1 = some r) : Met l yX8_sizeOf (Cond.code yX8_sizeOf cX8_sizeOf 2 (some .int) :: wg) rm_X8_sizeOf (PC D ks 75 ad (shC ks ad) μ [.ref (ad t), .int x1]) (QI D 75 ad (shC ks ad) A r) 0 0 A := by
  refine met_of (by decide) (Nat.le_of_ble_eq_true rfl) hD ?_
  intro p e s m args below meth c X hr
  exact G.sub [0, 1] rfl (b_X8_sizeOf_0 X hr  _ _ _ kt h)
abbrev rm_X8_takenOf : Room := { frames := 2, cells := 0, slots := 0, locals := 41 }
set_option maxRecDepth 100000 in
set_option maxHeartbeats 4000000 in
theorem b_X8_takenOf_0 {p : Program} {l : Launch} {e : Env} {s : State} {m : MethodId} {args : Array Value} {below : List Frame} {meth : Method} {c : Code} {D : va_G} {ks : Nat → ClassId} {A : Nat → Prop} {ad : Nat → Nat} (X : Cx p s m args meth c cX8_takenOf 2 RX8 D ks A 75 ad (shC ks ad)) (hr : meth.sig.returnType = (some .int)) {F : Nat} {r : Int32 × Mem} (μ : Mem) (t : Nat) (x1 : Int32) (kt : kindC t = 108) (h : f_X8_takenOf F  μ t x1 = some r) : G p l e rm_X8_takenOf s m args below meth c D A 2 (MQ below (QI D 75 ad (shC ks ad) A r) args s 0 0 A) 75 ad (shC ks ad) μ 0 [(0, .ref (ad t)), (1, .int x1)] [] := by
  refine g_aload_n 1 X 0 dX8_takenOf_0 rfl rfl ?_
  refine g_getr 4 X fl_X8_35_8 (o8 kt) rfl dX8_takenOf_1 rfl ?_
  refine g_iconst 5 X dX8_takenOf_4 ic1 rfl ?_
  refine g_iald 6 X (aiC (n := 4) (by decide) (k8_numbers kt)) dX8_takenOf_5 h rfl (fun v1 h => ?_)
  refine g_aload_n 7 X 0 dX8_takenOf_6 rfl rfl ?_
  refine g_iload_n 8 X 1 dX8_takenOf_7 rfl rfl ?_
  refine g_ci 11 h (fun q e => r_V X cd_X8_38_X8_sizeOf_X8 ⟨rfl, rfl⟩ ⟨Nat.le_of_ble_eq_true rfl, Nat.le_of_ble_eq_true rfl⟩ (c_X8_sizeOf X.2.2.2.2 kt e) PC_blind (pc_pre X) (g_recv X (o8 kt) rfl) rfl rfl (Nat.le_of_ble_eq_true rfl) dX8_takenOf_8) rfl (fun v2 μ3 h => ?_)
  refine g_mmin 14 X m632 ⟨Nat.le_of_ble_eq_true rfl, Nat.le_of_ble_eq_true rfl⟩ dX8_takenOf_11 h rfl (fun v4 h => ?_)
  exact g_iret X hr dX8_takenOf_14 h
set_option maxRecDepth 100000 in
theorem c_X8_takenOf {l : Launch} {D : va_G} {ks : Nat → ClassId} {A : Nat → Prop} {ad : Nat → Nat} (hD : ∀ μ : Mem, va_D A (wsM 75 ad (shC ks ad) μ)) {F : Nat} {μ : Mem} {t : Nat} {x1 : Int32} {r : Int32 × Mem} (kt : kindC t = 108) (h : f_X8_takenOf F μ t x1 = some r) : Met l yX8_takenOf (Cond.code yX8_takenOf cX8_takenOf 2 (some .int) :: wg) rm_X8_takenOf (PC D ks 75 ad (shC ks ad) μ [.ref (ad t), .int x1]) (QI D 75 ad (shC ks ad) A r) 0 0 A := by
  refine met_of (by decide) (Nat.le_of_ble_eq_true rfl) hD ?_
  intro p e s m args below meth c X hr
  exact G.sub [0, 1] rfl (b_X8_takenOf_0 X hr  _ _ _ kt h)
