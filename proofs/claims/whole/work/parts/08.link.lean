theorem ic0 : Int32.ofInt 0 = (0 : Int32) := by decide +kernel
theorem ic1 : Int32.ofInt 1 = (1 : Int32) := by decide +kernel
theorem ic3 : Int32.ofInt 3 = (3 : Int32) := by decide +kernel
theorem bpm2 : (Int8.ofInt (-2)).toInt32 = ((-2) : Int32) := by decide +kernel
theorem bp7 : (Int8.ofInt 7).toInt32 = (7 : Int32) := by decide +kernel
theorem bp20 : (Int8.ofInt 20).toInt32 = (20 : Int32) := by decide +kernel
theorem ic2 : Int32.ofInt 2 = (2 : Int32) := by decide +kernel
theorem bp30 : (Int8.ofInt 30).toInt32 = (30 : Int32) := by decide +kernel
theorem icm1 : Int32.ofInt (-1) = ((-1) : Int32) := by decide +kernel
theorem bpm4 : (Int8.ofInt (-4)).toInt32 = ((-4) : Int32) := by decide +kernel
theorem bpm10 : (Int8.ofInt (-10)).toInt32 = ((-10) : Int32) := by decide +kernel
theorem ic4 : Int32.ofInt 4 = (4 : Int32) := by decide +kernel
theorem bp120 : (Int8.ofInt 120).toInt32 = (120 : Int32) := by decide +kernel
theorem sp10000 : (Int16.ofInt 10000).toInt32 = (10000 : Int32) := by decide +kernel
theorem sp399 : (Int16.ofInt 399).toInt32 = (399 : Int32) := by decide +kernel
theorem bp8 : (Int8.ofInt 8).toInt32 = (8 : Int32) := by decide +kernel
theorem bp16 : (Int8.ofInt 16).toInt32 = (16 : Int32) := by decide +kernel
theorem bp63 : (Int8.ofInt 63).toInt32 = (63 : Int32) := by decide +kernel
theorem bp48 : (Int8.ofInt 48).toInt32 = (48 : Int32) := by decide +kernel
theorem bp57 : (Int8.ofInt 57).toInt32 = (57 : Int32) := by decide +kernel
theorem bp10 : (Int8.ofInt 10).toInt32 = (10 : Int32) := by decide +kernel
theorem bp44 : (Int8.ofInt 44).toInt32 = (44 : Int32) := by decide +kernel
theorem sp255 : (Int16.ofInt 255).toInt32 = (255 : Int32) := by decide +kernel
theorem lc1 : Int64.ofNat ((1 : Fin 2) : Nat) = (1 : Int64) := by decide +kernel
theorem lc0 : Int64.ofNat ((0 : Fin 2) : Nat) = (0 : Int64) := by decide +kernel
theorem bpm3 : (Int8.ofInt (-3)).toInt32 = ((-3) : Int32) := by decide +kernel
theorem sp1000 : (Int16.ofInt 1000).toInt32 = (1000 : Int32) := by decide +kernel
theorem sp12345 : (Int16.ofInt 12345).toInt32 = (12345 : Int32) := by decide +kernel
theorem sp30000 : (Int16.ofInt 30000).toInt32 = (30000 : Int32) := by decide +kernel
theorem bp100 : (Int8.ofInt 100).toInt32 = (100 : Int32) := by decide +kernel
theorem sp256 : (Int16.ofInt 256).toInt32 = (256 : Int32) := by decide +kernel
theorem sp800 : (Int16.ofInt 800).toInt32 = (800 : Int32) := by decide +kernel
theorem bp90 : (Int8.ofInt 90).toInt32 = (90 : Int32) := by decide +kernel
theorem ic5 : Int32.ofInt 5 = (5 : Int32) := by decide +kernel
theorem bp9 : (Int8.ofInt 9).toInt32 = (9 : Int32) := by decide +kernel
theorem bp108 : (Int8.ofInt 108).toInt32 = (108 : Int32) := by decide +kernel
theorem bp116 : (Int8.ofInt 116).toInt32 = (116 : Int32) := by decide +kernel
theorem bp97 : (Int8.ofInt 97).toInt32 = (97 : Int32) := by decide +kernel
theorem bp101 : (Int8.ofInt 101).toInt32 = (101 : Int32) := by decide +kernel
theorem bp122 : (Int8.ofInt 122).toInt32 = (122 : Int32) := by decide +kernel
theorem inW6 : ∀ w ∈ u_ws RX6 TX6 15, w ∈ wg := List.forall_mem_cons.mpr ⟨m145, List.forall_mem_cons.mpr ⟨m147, List.forall_mem_cons.mpr ⟨m149, List.forall_mem_cons.mpr ⟨m151, List.forall_mem_cons.mpr ⟨m153, List.forall_mem_cons.mpr ⟨m155, List.forall_mem_cons.mpr ⟨m157, List.forall_mem_cons.mpr ⟨m159, List.forall_mem_cons.mpr ⟨m161, List.forall_mem_cons.mpr ⟨m163, List.forall_mem_cons.mpr ⟨m165, List.forall_mem_cons.mpr ⟨m167, List.forall_mem_cons.mpr ⟨m169, List.forall_mem_cons.mpr ⟨m171, List.forall_mem_cons.mpr ⟨m173, fun _ h => absurd h List.not_mem_nil⟩⟩⟩⟩⟩⟩⟩⟩⟩⟩⟩⟩⟩⟩⟩
theorem fl_X6_18_6 : FL RX6 18 6 2 := ⟨"DrawnList$Roll", RX6, TX6, 15, rfl, inW6, by decide, Or.inl m104, Or.inl rfl⟩
theorem fl_X6_60_6 : FL RX6 60 6 13 := ⟨"DrawnList$Roll", RX6, TX6, 15, rfl, inW6, by decide, Or.inl m139, Or.inl rfl⟩
theorem fl_X6_39_6 : FL RX6 39 6 9 := ⟨"DrawnList$Roll", RX6, TX6, 15, rfl, inW6, by decide, Or.inl m125, Or.inl rfl⟩
theorem fp_X6_60_6 : FP RX6 60 6 13 .int := ⟨"DrawnList$Roll", RX6, TX6, 15, tyX6, rfl, inW6, by decide, Or.inl m139, Or.inl rfl, tyX6_ok, nmX6, rfl, by decide +kernel⟩
theorem fl_X6_36_6 : FL RX6 36 6 8 := ⟨"DrawnList$Roll", RX6, TX6, 15, rfl, inW6, by decide, Or.inl m123, Or.inl rfl⟩
theorem cd_X6_46_X11_within : CDSN RX6 46 yX11_within cX11_within 3 (some .boolean) 3 := ⟨m453, m66, ⟨⟨"DrawnList", m451⟩, m452⟩, ⟨by decide, by decide, by decide +kernel⟩⟩
theorem fl_X6_42_6 : FL RX6 42 6 10 := ⟨"DrawnList$Roll", RX6, TX6, 15, rfl, inW6, by decide, Or.inl m127, Or.inl rfl⟩
theorem fp_X6_42_6 : FP RX6 42 6 10 .int := ⟨"DrawnList$Roll", RX6, TX6, 15, tyX6, rfl, inW6, by decide, Or.inl m127, Or.inl rfl, tyX6_ok, nmX6, rfl, by decide +kernel⟩
theorem fl_X6_9_6 : FL RX6 9 6 0 := ⟨"DrawnList$Roll", RX6, TX6, 15, rfl, inW6, by decide, Or.inl m97, Or.inl rfl⟩
theorem fl_X6_15_6 : FL RX6 15 6 1 := ⟨"DrawnList$Roll", RX6, TX6, 15, rfl, inW6, by decide, Or.inl m100, Or.inl rfl⟩
theorem fl_X6_21_6 : FL RX6 21 6 3 := ⟨"DrawnList$Roll", RX6, TX6, 15, rfl, inW6, by decide, Or.inl m107, Or.inl rfl⟩
theorem fl_X6_24_6 : FL RX6 24 6 4 := ⟨"DrawnList$Roll", RX6, TX6, 15, rfl, inW6, by decide, Or.inl m109, Or.inl rfl⟩
theorem fl_X6_50_6 : FL RX6 50 6 11 := ⟨"DrawnList$Roll", RX6, TX6, 15, rfl, inW6, by decide, Or.inl m133, Or.inl rfl⟩
theorem fp_X6_50_6 : FP RX6 50 6 11 .int := ⟨"DrawnList$Roll", RX6, TX6, 15, tyX6, rfl, inW6, by decide, Or.inl m133, Or.inl rfl, tyX6_ok, nmX6, rfl, by decide +kernel⟩
theorem fl_X6_27_6 : FL RX6 27 6 5 := ⟨"DrawnList$Roll", RX6, TX6, 15, rfl, inW6, by decide, Or.inl m113, Or.inl rfl⟩
theorem fl_X6_30_6 : FL RX6 30 6 6 := ⟨"DrawnList$Roll", RX6, TX6, 15, rfl, inW6, by decide, Or.inl m117, Or.inl rfl⟩
theorem fl_X6_33_6 : FL RX6 33 6 7 := ⟨"DrawnList$Roll", RX6, TX6, 15, rfl, inW6, by decide, Or.inl m120, Or.inl rfl⟩
theorem fl_X6_53_6 : FL RX6 53 6 12 := ⟨"DrawnList$Roll", RX6, TX6, 15, rfl, inW6, by decide, Or.inl m136, Or.inl rfl⟩
theorem fp_X6_53_6 : FP RX6 53 6 12 .int := ⟨"DrawnList$Roll", RX6, TX6, 15, tyX6, rfl, inW6, by decide, Or.inl m136, Or.inl rfl, tyX6_ok, nmX6, rfl, by decide +kernel⟩
theorem cd_X6_56_X6_layOnLine_X6 : CDV RX6 RX6 56 yX6_layOnLine cX6_layOnLine 3 none 1 := ⟨m457, m67, ⟨m454, m456, m0⟩, ⟨by decide, by decide, by decide +kernel⟩⟩
theorem inW11 : ∀ w ∈ u_ws RX11 TX11 9, w ∈ wg := List.forall_mem_cons.mpr ⟨m424, List.forall_mem_cons.mpr ⟨m426, List.forall_mem_cons.mpr ⟨m428, List.forall_mem_cons.mpr ⟨m430, List.forall_mem_cons.mpr ⟨m432, List.forall_mem_cons.mpr ⟨m434, List.forall_mem_cons.mpr ⟨m436, List.forall_mem_cons.mpr ⟨m438, List.forall_mem_cons.mpr ⟨m440, fun _ h => absurd h List.not_mem_nil⟩⟩⟩⟩⟩⟩⟩⟩⟩
theorem fl_X11_10_11 : FL RX11 10 10 0 := ⟨"DrawnList", RX11, TX11, 9, rfl, inW11, by decide, Or.inl m415, Or.inl rfl⟩
theorem cd_X11_63_X6_enter_X6 : CDV RX6 RX11 63 yX6_enter cX6_enter 6 (some .int) 4 := ⟨m450, m67, ⟨m447, m448, m449⟩, ⟨by decide, by decide, by decide +kernel⟩⟩
theorem cd_X11_105_X11_within : CDS RX11 105 yX11_within cX11_within 3 (some .boolean) 3 := ⟨m453, m66, ⟨m465, m452⟩, ⟨by decide, by decide, by decide +kernel⟩⟩
theorem fp_X11_269_11 : FP RX11 269 10 8 .int := ⟨"DrawnList", RX11, TX11, 9, tyX11, rfl, inW11, by decide, Or.inl m423, Or.inl rfl, tyX11_ok, nmX11, rfl, by decide +kernel⟩
theorem inW7 : ∀ w ∈ u_ws RX7 TX7 4, w ∈ wg := List.forall_mem_cons.mpr ⟨m406, List.forall_mem_cons.mpr ⟨m408, List.forall_mem_cons.mpr ⟨m410, List.forall_mem_cons.mpr ⟨m412, fun _ h => absurd h List.not_mem_nil⟩⟩⟩⟩
theorem fl_X11_79_7 : FL RX11 79 7 3 := ⟨"DrawnList$Sheet", RX7, TX7, 4, rfl, inW7, by decide, Or.inr ⟨"DrawnList", m405⟩, Or.inl rfl⟩
theorem fl_X11_83_7 : FL RX11 83 7 0 := ⟨"DrawnList$Sheet", RX7, TX7, 4, rfl, inW7, by decide, Or.inr ⟨"DrawnList", m399⟩, Or.inl rfl⟩
theorem cd_X11_67_X11_isSheet : CDS RX11 67 yX11_isSheet cX11_isSheet 1 (some .boolean) 1 := ⟨m464, m66, ⟨m462, m463⟩, ⟨by decide, by decide, by decide +kernel⟩⟩
theorem fl_X11_33_11 : FL RX11 33 10 3 := ⟨"DrawnList", RX11, TX11, 9, rfl, inW11, by decide, Or.inl m418, Or.inl rfl⟩
theorem fl_X11_71_7 : FL RX11 71 7 1 := ⟨"DrawnList$Sheet", RX7, TX7, 4, rfl, inW7, by decide, Or.inr ⟨"DrawnList", m401⟩, Or.inl rfl⟩
theorem cd_X11_75_X11_findingOf_X11 : CDV RX11 RX11 75 yX11_findingOf cX11_findingOf 2 (some .int) 1 := ⟨m469, m66, ⟨m466, m468, m1⟩, ⟨by decide, by decide, by decide +kernel⟩⟩
theorem cd_X11_87_X6_has_X6 : CDV RX6 RX11 87 yX6_has cX6_has 2 (some .boolean) 1 := ⟨m477, m67, ⟨m474, m475, m476⟩, ⟨by decide, by decide, by decide +kernel⟩⟩
theorem fl_X11_90_6 : FL RX11 90 6 0 := ⟨"DrawnList$Roll", RX6, TX6, 15, rfl, inW6, by decide, Or.inr ⟨"DrawnList", m99⟩, Or.inl rfl⟩
theorem fl_X11_93_6 : FL RX11 93 6 1 := ⟨"DrawnList$Roll", RX6, TX6, 15, rfl, inW6, by decide, Or.inr ⟨"DrawnList", m102⟩, Or.inl rfl⟩
theorem fl_X11_96_6 : FL RX11 96 6 2 := ⟨"DrawnList$Roll", RX6, TX6, 15, rfl, inW6, by decide, Or.inr ⟨"DrawnList", m105⟩, Or.inl rfl⟩
theorem fl_X11_99_6 : FL RX11 99 6 3 := ⟨"DrawnList$Roll", RX6, TX6, 15, rfl, inW6, by decide, Or.inr ⟨"DrawnList", m108⟩, Or.inl rfl⟩
theorem fl_X11_102_6 : FL RX11 102 6 4 := ⟨"DrawnList$Roll", RX6, TX6, 15, rfl, inW6, by decide, Or.inr ⟨"DrawnList", m110⟩, Or.inl rfl⟩
theorem fp_X6_63_6 : FP RX6 63 6 14 .int := ⟨"DrawnList$Roll", RX6, TX6, 15, tyX6, rfl, inW6, by decide, Or.inl m142, Or.inl rfl, tyX6_ok, nmX6, rfl, by decide +kernel⟩
theorem fl_X6_63_6 : FL RX6 63 6 14 := ⟨"DrawnList$Roll", RX6, TX6, 15, rfl, inW6, by decide, Or.inl m142, Or.inl rfl⟩
theorem inW0 : ∀ w ∈ u_ws RX0 TX0 7, w ∈ wg := List.forall_mem_cons.mpr ⟨m192, List.forall_mem_cons.mpr ⟨m194, List.forall_mem_cons.mpr ⟨m196, List.forall_mem_cons.mpr ⟨m198, List.forall_mem_cons.mpr ⟨m200, List.forall_mem_cons.mpr ⟨m202, List.forall_mem_cons.mpr ⟨m204, fun _ h => absurd h List.not_mem_nil⟩⟩⟩⟩⟩⟩⟩
theorem fl_X0_32_0 : FL RX0 32 0 5 := ⟨"DrawnList$Answers", RX0, TX0, 7, rfl, inW0, by decide, Or.inl m188, Or.inl rfl⟩
theorem fl_X0_9_0 : FL RX0 9 0 1 := ⟨"DrawnList$Answers", RX0, TX0, 7, rfl, inW0, by decide, Or.inl m184, Or.inl rfl⟩
theorem fl_X0_18_0 : FL RX0 18 0 3 := ⟨"DrawnList$Answers", RX0, TX0, 7, rfl, inW0, by decide, Or.inl m186, Or.inl rfl⟩
theorem fl_X0_24_0 : FL RX0 24 0 6 := ⟨"DrawnList$Answers", RX0, TX0, 7, rfl, inW0, by decide, Or.inl m190, Or.inl rfl⟩
theorem fl_X0_21_0 : FL RX0 21 0 4 := ⟨"DrawnList$Answers", RX0, TX0, 7, rfl, inW0, by decide, Or.inl m187, Or.inl rfl⟩
theorem fl_X0_28_0 : FL RX0 28 0 0 := ⟨"DrawnList$Answers", RX0, TX0, 7, rfl, inW0, by decide, Or.inl m183, Or.inl rfl⟩
theorem fl_X0_15_0 : FL RX0 15 0 2 := ⟨"DrawnList$Answers", RX0, TX0, 7, rfl, inW0, by decide, Or.inl m185, Or.inl rfl⟩
theorem cd_X0_43_X6_hold_X6 : CDV RX6 RX0 43 yX6_hold cX6_hold 3 none 2 := ⟨m497, m67, ⟨m494, m495, m496⟩, ⟨by decide, by decide, by decide +kernel⟩⟩
theorem cd_X0_38_X6_forgetValues_X6 : CDV RX6 RX0 38 yX6_forgetValues cX6_forgetValues 2 none 0 := ⟨m493, m67, ⟨m490, m491, m492⟩, ⟨by decide, by decide, by decide +kernel⟩⟩
theorem fp_X0_32_0 : FP RX0 32 0 5 .int := ⟨"DrawnList$Answers", RX0, TX0, 7, tyX0, rfl, inW0, by decide, Or.inl m188, Or.inl rfl, tyX0_ok, nmX0, rfl, by decide +kernel⟩
theorem cd_X0_35_X0_settle_X0 : CDV RX0 RX0 35 yX0_settle cX0_settle 3 none 0 := ⟨m489, m68, ⟨m486, m488, m2⟩, ⟨by decide, by decide, by decide +kernel⟩⟩
theorem fl_X11_21_11 : FL RX11 21 10 1 := ⟨"DrawnList", RX11, TX11, 9, rfl, inW11, by decide, Or.inl m416, Or.inl rfl⟩
theorem cd_X11_109_X0_tell_X0 : CDV RX0 RX11 109 yX0_tell cX0_tell 4 (some .int) 3 := ⟨m485, m68, ⟨m482, m483, m484⟩, ⟨by decide, by decide, by decide +kernel⟩⟩
theorem fp_X0_24_0 : FP RX0 24 0 6 .int := ⟨"DrawnList$Answers", RX0, TX0, 7, tyX0, rfl, inW0, by decide, Or.inl m190, Or.inl rfl, tyX0_ok, nmX0, rfl, by decide +kernel⟩
theorem cd_X11_113_X0_look_X0 : CDV RX0 RX11 113 yX0_look cX0_look 3 (some .int) 1 := ⟨m505, m68, ⟨m502, m503, m504⟩, ⟨by decide, by decide, by decide +kernel⟩⟩
theorem fl_X11_130_6 : FL RX11 130 6 10 := ⟨"DrawnList$Roll", RX6, TX6, 15, rfl, inW6, by decide, Or.inr ⟨"DrawnList", m131⟩, Or.inl rfl⟩
theorem fl_X11_127_6 : FL RX11 127 6 7 := ⟨"DrawnList$Roll", RX6, TX6, 15, rfl, inW6, by decide, Or.inr ⟨"DrawnList", m122⟩, Or.inl rfl⟩
theorem cd_X11_119_J6_bitCount_0f7a4 : CDS RX11 119 yJ6_bitCount_0f7a4 cJ6_bitCount_0f7a4 1 (some .int) 1 := ⟨m512, m79, ⟨m510, m511⟩, ⟨by decide, by decide, by decide +kernel⟩⟩
theorem fl_X11_124_6 : FL RX11 124 6 6 := ⟨"DrawnList$Roll", RX6, TX6, 15, rfl, inW6, by decide, Or.inr ⟨"DrawnList", m119⟩, Or.inl rfl⟩
theorem fl_X11_116_6 : FL RX11 116 6 5 := ⟨"DrawnList$Roll", RX6, TX6, 15, rfl, inW6, by decide, Or.inr ⟨"DrawnList", m116⟩, Or.inl rfl⟩
theorem inW5 : ∀ w ∈ u_ws RX5 TX5 10, w ∈ wg := List.forall_mem_cons.mpr ⟨m372, List.forall_mem_cons.mpr ⟨m374, List.forall_mem_cons.mpr ⟨m376, List.forall_mem_cons.mpr ⟨m378, List.forall_mem_cons.mpr ⟨m380, List.forall_mem_cons.mpr ⟨m382, List.forall_mem_cons.mpr ⟨m384, List.forall_mem_cons.mpr ⟨m386, List.forall_mem_cons.mpr ⟨m388, List.forall_mem_cons.mpr ⟨m390, fun _ h => absurd h List.not_mem_nil⟩⟩⟩⟩⟩⟩⟩⟩⟩⟩
theorem fl_X5_47_5 : FL RX5 47 5 7 := ⟨"DrawnList$Plan", RX5, TX5, 10, rfl, inW5, by decide, Or.inl m367, Or.inl rfl⟩
theorem cd_X5_78_X11_within : CDSN RX5 78 yX11_within cX11_within 3 (some .boolean) 3 := ⟨m453, m66, ⟨⟨"DrawnList", m535⟩, m452⟩, ⟨by decide, by decide, by decide +kernel⟩⟩
theorem fl_X5_9_5 : FL RX5 9 5 0 := ⟨"DrawnList$Plan", RX5, TX5, 10, rfl, inW5, by decide, Or.inl m360, Or.inl rfl⟩
theorem cd_X5_66_X5_byteAt_X5 : CDV RX5 RX5 66 yX5_byteAt cX5_byteAt 2 (some .int) 1 := ⟨m534, m72, ⟨m531, m533, m4⟩, ⟨by decide, by decide, by decide +kernel⟩⟩
theorem cd_X5_74_X5_isFigure_X5 : CDV RX5 RX5 74 yX5_isFigure cX5_isFigure 2 (some .boolean) 1 := ⟨m543, m72, ⟨m540, m542, m6⟩, ⟨by decide, by decide, by decide +kernel⟩⟩
theorem fl_X5_15_5 : FL RX5 15 5 1 := ⟨"DrawnList$Plan", RX5, TX5, 10, rfl, inW5, by decide, Or.inl m361, Or.inl rfl⟩
theorem fl_X5_23_5 : FL RX5 23 5 2 := ⟨"DrawnList$Plan", RX5, TX5, 10, rfl, inW5, by decide, Or.inl m362, Or.inl rfl⟩
theorem fp_X5_54_5 : FP RX5 54 5 9 (.object "DrawnList$Way") := ⟨"DrawnList$Plan", RX5, TX5, 10, tyX5, rfl, inW5, by decide, Or.inl m371, Or.inl rfl, tyX5_ok, nmX5, rfl, by decide +kernel⟩
theorem cd_X5_70_X5_faultOfNumbers_X5 : CDV RX5 RX5 70 yX5_faultOfNumbers cX5_faultOfNumbers 5 (some .int) 2 := ⟨m539, m72, ⟨m536, m538, m5⟩, ⟨by decide, by decide, by decide +kernel⟩⟩
theorem fp_X5_57_5 : FP RX5 57 5 8 .int := ⟨"DrawnList$Plan", RX5, TX5, 10, tyX5, rfl, inW5, by decide, Or.inl m369, Or.inl rfl, tyX5_ok, nmX5, rfl, by decide +kernel⟩
theorem fl_X5_33_5 : FL RX5 33 5 4 := ⟨"DrawnList$Plan", RX5, TX5, 10, rfl, inW5, by decide, Or.inl m364, Or.inl rfl⟩
theorem fl_X5_27_5 : FL RX5 27 5 3 := ⟨"DrawnList$Plan", RX5, TX5, 10, rfl, inW5, by decide, Or.inl m363, Or.inl rfl⟩
theorem fl_X5_44_5 : FL RX5 44 5 6 := ⟨"DrawnList$Plan", RX5, TX5, 10, rfl, inW5, by decide, Or.inl m366, Or.inl rfl⟩
theorem fl_X5_36_5 : FL RX5 36 5 5 := ⟨"DrawnList$Plan", RX5, TX5, 10, rfl, inW5, by decide, Or.inl m365, Or.inl rfl⟩
theorem fp_X5_47_5 : FP RX5 47 5 7 .int := ⟨"DrawnList$Plan", RX5, TX5, 10, tyX5, rfl, inW5, by decide, Or.inl m367, Or.inl rfl, tyX5_ok, nmX5, rfl, by decide +kernel⟩
theorem cd_X5_51_X5_understand_X5 : CDV RX5 RX5 51 yX5_understand cX5_understand 1 none 0 := ⟨m530, m72, ⟨m527, m529, m3⟩, ⟨by decide, by decide, by decide +kernel⟩⟩
theorem cd_X11_133_X11_isPlan : CDS RX11 133 yX11_isPlan cX11_isPlan 1 (some .boolean) 1 := ⟨m522, m66, ⟨m520, m521⟩, ⟨by decide, by decide, by decide +kernel⟩⟩
theorem fl_X11_27_11 : FL RX11 27 10 2 := ⟨"DrawnList", RX11, TX11, 9, rfl, inW11, by decide, Or.inl m417, Or.inl rfl⟩
theorem cd_X11_136_X5_append_X5 : CDV RX5 RX11 136 yX5_append cX5_append 2 (some .int) 1 := ⟨m526, m72, ⟨m523, m524, m525⟩, ⟨by decide, by decide, by decide +kernel⟩⟩
theorem cd_X11_139_X5_clear_X5 : CDV RX5 RX11 139 yX5_clear cX5_clear 2 (some .int) 0 := ⟨m551, m72, ⟨m548, m549, m550⟩, ⟨by decide, by decide, by decide +kernel⟩⟩
theorem fl_X11_143_5 : FL RX11 143 5 8 := ⟨"DrawnList$Plan", RX5, TX5, 10, rfl, inW5, by decide, Or.inr ⟨"DrawnList", m370⟩, Or.inl rfl⟩
theorem inW2 : ∀ w ∈ u_ws RX2 TX2 5, w ∈ wg := List.forall_mem_cons.mpr ⟨m327, List.forall_mem_cons.mpr ⟨m329, List.forall_mem_cons.mpr ⟨m331, List.forall_mem_cons.mpr ⟨m323, List.forall_mem_cons.mpr ⟨m325, fun _ h => absurd h List.not_mem_nil⟩⟩⟩⟩⟩
theorem fl_X2_9_2 : FL RX2 9 2 3 := ⟨"DrawnList$GroupWay", RX2, TX2, 5, rfl, inW2, by decide, Or.inl m305, Or.inl rfl⟩
theorem fl_X2_19_2 : FL RX2 19 2 0 := ⟨"DrawnList$GroupWay", RX2, TX2, 5, rfl, inW2, by decide, Or.inl m310, Or.inr m311⟩
theorem fl_X2_32_6 : FL RX2 32 6 11 := ⟨"DrawnList$Roll", RX6, TX6, 15, rfl, inW6, by decide, Or.inr ⟨"DrawnList", m134⟩, Or.inl rfl⟩
theorem fl_X2_29_6 : FL RX2 29 6 5 := ⟨"DrawnList$Roll", RX6, TX6, 15, rfl, inW6, by decide, Or.inr ⟨"DrawnList", m115⟩, Or.inl rfl⟩
theorem cd_X2_35_X2_membersOf_X2 : CDV RX2 RX2 35 yX2_membersOf cX2_membersOf 2 (some .int) 1 := ⟨m577, m74, ⟨m574, m576, m8⟩, ⟨by decide, by decide, by decide +kernel⟩⟩
theorem cd_X2_39_J6_bitCount_0f7a4 : CDS RX2 39 yJ6_bitCount_0f7a4 cJ6_bitCount_0f7a4 1 (some .int) 1 := ⟨m512, m79, ⟨m578, m511⟩, ⟨by decide, by decide, by decide +kernel⟩⟩
theorem fl_X2_15_2 : FL RX2 15 2 4 := ⟨"DrawnList$GroupWay", RX2, TX2, 5, rfl, inW2, by decide, Or.inl m306, Or.inl rfl⟩
theorem fl_X2_44_2 : FL RX2 44 2 1 := ⟨"DrawnList$GroupWay", RX2, TX2, 5, rfl, inW2, by decide, Or.inl m319, Or.inr m320⟩
theorem cd_X2_47_X2_sizeOf_X2 : CDV RX2 RX2 47 yX2_sizeOf cX2_sizeOf 2 (some .int) 1 := ⟨m573, m74, ⟨m570, m572, m7⟩, ⟨by decide, by decide, by decide +kernel⟩⟩
theorem inW4 : ∀ w ∈ u_ws RX4 TX4 4, w ∈ wg := List.forall_mem_cons.mpr ⟨m343, List.forall_mem_cons.mpr ⟨m344, List.forall_mem_cons.mpr ⟨m345, List.forall_mem_cons.mpr ⟨m341, fun _ h => absurd h List.not_mem_nil⟩⟩⟩⟩
theorem fl_X4_19_4 : FL RX4 19 4 1 := ⟨"DrawnList$LineWay", RX4, TX4, 4, rfl, inW4, by decide, Or.inl m315, Or.inr m316⟩
theorem fl_X4_30_4 : FL RX4 30 4 0 := ⟨"DrawnList$LineWay", RX4, TX4, 4, rfl, inW4, by decide, Or.inl m312, Or.inr m313⟩
theorem fl_X4_34_6 : FL RX4 34 6 13 := ⟨"DrawnList$Roll", RX6, TX6, 15, rfl, inW6, by decide, Or.inr ⟨"DrawnList", m138⟩, Or.inl rfl⟩
theorem fl_X4_9_4 : FL RX4 9 4 3 := ⟨"DrawnList$LineWay", RX4, TX4, 4, rfl, inW4, by decide, Or.inl m340, Or.inl rfl⟩
theorem cd_X4_27_X4_lengthOfStep_X4 : CDV RX4 RX4 27 yX4_lengthOfStep cX4_lengthOfStep 1 (some .int) 0 := ⟨m589, m75, ⟨m586, m588, m9⟩, ⟨by decide, by decide, by decide +kernel⟩⟩
theorem cd_X4_23_X11_within : CDSN RX4 23 yX11_within cX11_within 3 (some .boolean) 3 := ⟨m453, m66, ⟨⟨"DrawnList", m590⟩, m452⟩, ⟨by decide, by decide, by decide +kernel⟩⟩
theorem cd_X4_15_X4_pointCount_X4 : CDV RX4 RX4 15 yX4_pointCount cX4_pointCount 1 (some .int) 0 := ⟨m585, m75, ⟨m582, m583, m584⟩, ⟨by decide, by decide, by decide +kernel⟩⟩
theorem inW8 : ∀ w ∈ u_ws RX8 TX8 4, w ∈ wg := List.forall_mem_cons.mpr ⟨m356, List.forall_mem_cons.mpr ⟨m357, List.forall_mem_cons.mpr ⟨m358, List.forall_mem_cons.mpr ⟨m354, fun _ h => absurd h List.not_mem_nil⟩⟩⟩⟩
theorem fl_X8_15_8 : FL RX8 15 8 0 := ⟨"DrawnList$StepWay", RX8, TX8, 4, rfl, inW8, by decide, Or.inl m308, Or.inr m309⟩
theorem fl_X8_19_6 : FL RX8 19 6 12 := ⟨"DrawnList$Roll", RX6, TX6, 15, rfl, inW6, by decide, Or.inr ⟨"DrawnList", m135⟩, Or.inl rfl⟩
theorem cd_X8_25_J6_bitCount_0f7a4 : CDS RX8 25 yJ6_bitCount_0f7a4 cJ6_bitCount_0f7a4 1 (some .int) 1 := ⟨m512, m79, ⟨m598, m511⟩, ⟨by decide, by decide, by decide +kernel⟩⟩
theorem fl_X8_35_8 : FL RX8 35 8 1 := ⟨"DrawnList$StepWay", RX8, TX8, 4, rfl, inW8, by decide, Or.inl m317, Or.inr m318⟩
theorem cd_X8_47_X8_clusters_X8 : CDV RX8 RX8 47 yX8_clusters cX8_clusters 1 (some .int) 0 := ⟨m597, m76, ⟨m594, m596, m10⟩, ⟨by decide, by decide, by decide +kernel⟩⟩
theorem cd_X8_51_X11_within : CDSN RX8 51 yX11_within cX11_within 3 (some .boolean) 3 := ⟨m453, m66, ⟨⟨"DrawnList", m599⟩, m452⟩, ⟨by decide, by decide, by decide +kernel⟩⟩
theorem fl_X5_54_5 : FL RX5 54 5 9 := ⟨"DrawnList$Plan", RX5, TX5, 10, rfl, inW5, by decide, Or.inl m371, Or.inl rfl⟩
theorem fl_X5_57_5 : FL RX5 57 5 8 := ⟨"DrawnList$Plan", RX5, TX5, 10, rfl, inW5, by decide, Or.inl m369, Or.inl rfl⟩
theorem cd_X5_60_X2_canBe_X2 : CDA RX2 "DrawnList$Way" RX5 60 ⟨"DrawnList$Way", "canBe", "()Z"⟩ yX2_canBe cX2_canBe 3 (some .boolean) 0 := ⟨m569, m74, m564, m566, m567, m568, m565, ⟨by decide, by decide, by decide +kernel⟩⟩
theorem cd_X5_60_X4_canBe_X4 : CDA RX4 "DrawnList$Way" RX5 60 ⟨"DrawnList$Way", "canBe", "()Z"⟩ yX4_canBe cX4_canBe 1 (some .boolean) 0 := ⟨m581, m75, m564, m566, m579, m580, m565, ⟨by decide, by decide, by decide +kernel⟩⟩
theorem cd_X5_60_X8_canBe_X8 : CDA RX8 "DrawnList$Way" RX5 60 ⟨"DrawnList$Way", "canBe", "()Z"⟩ yX8_canBe cX8_canBe 1 (some .boolean) 0 := ⟨m593, m76, m564, m566, m591, m592, m565, ⟨by decide, by decide, by decide +kernel⟩⟩
theorem cd_X11_146_X5_possibleWay_X5 : CDV RX5 RX11 146 yX5_possibleWay cX5_possibleWay 1 (some (.object "DrawnList$Way")) 0 := ⟨m563, m72, ⟨m560, m561, m562⟩, ⟨by decide, by decide, by decide +kernel⟩⟩
theorem cd_X2_50_X9_waysToTake_SI : CDSI "DrawnList$Way" RX2 50 ⟨"DrawnList$GroupWay", "waysToTake", "(II)J"⟩ yX9_waysToTake cX9_waysToTake 5 (some .long) 2 := ⟨m617, m73, m614, m615, m616, rfl, ⟨by decide, by decide, by decide +kernel⟩⟩
theorem fl_X8_31_6 : FL RX8 31 6 6 := ⟨"DrawnList$Roll", RX6, TX6, 15, rfl, inW6, by decide, Or.inr ⟨"DrawnList", m118⟩, Or.inl rfl⟩
theorem cd_X8_38_X8_sizeOf_X8 : CDV RX8 RX8 38 yX8_sizeOf cX8_sizeOf 2 (some .int) 1 := ⟨m627, m76, ⟨m624, m626, m11⟩, ⟨by decide, by decide, by decide +kernel⟩⟩
theorem fl_X8_9_8 : FL RX8 9 8 3 := ⟨"DrawnList$StepWay", RX8, TX8, 4, rfl, inW8, by decide, Or.inl m353, Or.inl rfl⟩
theorem cd_X8_55_X8_takenOf_X8 : CDV RX8 RX8 55 yX8_takenOf cX8_takenOf 2 (some .int) 1 := ⟨m631, m76, ⟨m628, m630, m12⟩, ⟨by decide, by decide, by decide +kernel⟩⟩
theorem cd_X8_58_X9_waysToTake_SI : CDSI "DrawnList$Way" RX8 58 ⟨"DrawnList$StepWay", "waysToTake", "(II)J"⟩ yX9_waysToTake cX9_waysToTake 5 (some .long) 2 := ⟨m617, m73, m635, m636, m616, rfl, ⟨by decide, by decide, by decide +kernel⟩⟩
theorem cd_X11_154_X2_countWays_X2 : CDA RX2 "DrawnList$Way" RX11 154 ⟨"DrawnList$Way", "countWays", "()J"⟩ yX2_countWays cX2_countWays 4 (some .long) 0 := ⟨m613, m74, m608, m610, m611, m612, m609, ⟨by decide, by decide, by decide +kernel⟩⟩
theorem cd_X11_154_X4_countWays_X4 : CDA RX4 "DrawnList$Way" RX11 154 ⟨"DrawnList$Way", "countWays", "()J"⟩ yX4_countWays cX4_countWays 1 (some .long) 0 := ⟨m620, m75, m608, m610, m618, m619, m609, ⟨by decide, by decide, by decide +kernel⟩⟩
theorem cd_X11_154_X8_countWays_X8 : CDA RX8 "DrawnList$Way" RX11 154 ⟨"DrawnList$Way", "countWays", "()J"⟩ yX8_countWays cX8_countWays 5 (some .long) 0 := ⟨m623, m76, m608, m610, m621, m622, m609, ⟨by decide, by decide, by decide +kernel⟩⟩
theorem cd_X11_150_X11_asLong : CDS RX11 150 yX11_asLong cX11_asLong 1 (some .long) 1 := ⟨m606, m66, ⟨m604, m605⟩, ⟨by decide, by decide, by decide +kernel⟩⟩
theorem fl_X2_23_6 : FL RX2 23 6 0 := ⟨"DrawnList$Roll", RX6, TX6, 15, rfl, inW6, by decide, Or.inr ⟨"DrawnList", m98⟩, Or.inl rfl⟩
theorem inW1 : ∀ w ∈ u_ws RX1 TX1 2, w ∈ wg := List.forall_mem_cons.mpr ⟨m227, List.forall_mem_cons.mpr ⟨m229, fun _ h => absurd h List.not_mem_nil⟩⟩
theorem fp_X1_7_1 : FP RX1 7 1 0 .long := ⟨"DrawnList$Fraction", RX1, TX1, 2, tyX1, rfl, inW1, by decide, Or.inl m223, Or.inl rfl, tyX1_ok, nmX1, rfl, by decide +kernel⟩
theorem fp_X1_13_1 : FP RX1 13 1 1 .long := ⟨"DrawnList$Fraction", RX1, TX1, 2, tyX1, rfl, inW1, by decide, Or.inl m225, Or.inl rfl, tyX1_ok, nmX1, rfl, by decide +kernel⟩
theorem cd_X1_16_X1_commonDivisor : CDS RX1 16 yX1_commonDivisor cX1_commonDivisor 11 (some .long) 2 := ⟨m660, m70, ⟨m658, m659⟩, ⟨by decide, by decide, by decide +kernel⟩⟩
theorem cd_X2_54_X2_groupOf_X2 : CDV RX2 RX2 54 yX2_groupOf cX2_groupOf 2 (some .int) 1 := ⟨m653, m74, ⟨m650, m652, m13⟩, ⟨by decide, by decide, by decide +kernel⟩⟩
theorem cd_X2_57_X1_become_X1 : CDV RX1 RX2 57 yX1_become cX1_become 7 none 2 := ⟨m657, m70, ⟨m654, m655, m656⟩, ⟨by decide, by decide, by decide +kernel⟩⟩
theorem fl_X4_59_6 : FL RX4 59 6 8 := ⟨"DrawnList$Roll", RX6, TX6, 15, rfl, inW6, by decide, Or.inr ⟨"DrawnList", m124⟩, Or.inl rfl⟩
theorem fl_X4_62_6 : FL RX4 62 6 2 := ⟨"DrawnList$Roll", RX6, TX6, 15, rfl, inW6, by decide, Or.inr ⟨"DrawnList", m106⟩, Or.inl rfl⟩
theorem cd_X4_68_X4_pointsWith_X4 : CDV RX4 RX4 68 yX4_pointsWith cX4_pointsWith 4 (some .int) 1 := ⟨m667, m75, ⟨m664, m666, m14⟩, ⟨by decide, by decide, by decide +kernel⟩⟩
theorem cd_X4_71_X1_become_X1 : CDV RX1 RX4 71 yX1_become cX1_become 7 none 2 := ⟨m657, m70, ⟨m672, m655, m656⟩, ⟨by decide, by decide, by decide +kernel⟩⟩
theorem fl_X8_62_6 : FL RX8 62 6 1 := ⟨"DrawnList$Roll", RX6, TX6, 15, rfl, inW6, by decide, Or.inr ⟨"DrawnList", m103⟩, Or.inl rfl⟩
theorem cd_X8_65_X1_become_X1 : CDV RX1 RX8 65 yX1_become cX1_become 7 none 2 := ⟨m657, m70, ⟨m676, m655, m656⟩, ⟨by decide, by decide, by decide +kernel⟩⟩
theorem fl_X1_13_1 : FL RX1 13 1 1 := ⟨"DrawnList$Fraction", RX1, TX1, 2, rfl, inW1, by decide, Or.inl m225, Or.inl rfl⟩
theorem fl_X1_7_1 : FL RX1 7 1 0 := ⟨"DrawnList$Fraction", RX1, TX1, 2, rfl, inW1, by decide, Or.inl m223, Or.inl rfl⟩
theorem cd_X11_160_X11_isAboveOrBelow : CDS RX11 160 yX11_isAboveOrBelow cX11_isAboveOrBelow 1 (some .boolean) 1 := ⟨m643, m66, ⟨m641, m642⟩, ⟨by decide, by decide, by decide +kernel⟩⟩
theorem fl_X11_54_11 : FL RX11 54 10 6 := ⟨"DrawnList", RX11, TX11, 9, rfl, inW11, by decide, Or.inl m421, Or.inl rfl⟩
theorem cd_X11_163_X2_shareOfOne_X2 : CDA RX2 "DrawnList$Way" RX11 163 ⟨"DrawnList$Way", "shareOfOne", "(ILDrawnList$Fraction;)V"⟩ yX2_shareOfOne cX2_shareOfOne 4 none 2 := ⟨m649, m74, m644, m646, m647, m648, m645, ⟨by decide, by decide, by decide +kernel⟩⟩
theorem cd_X11_163_X4_shareOfOne_X4 : CDA RX4 "DrawnList$Way" RX11 163 ⟨"DrawnList$Way", "shareOfOne", "(ILDrawnList$Fraction;)V"⟩ yX4_shareOfOne cX4_shareOfOne 3 none 2 := ⟨m663, m75, m644, m646, m661, m662, m645, ⟨by decide, by decide, by decide +kernel⟩⟩
theorem cd_X11_163_X8_shareOfOne_X8 : CDA RX8 "DrawnList$Way" RX11 163 ⟨"DrawnList$Way", "shareOfOne", "(ILDrawnList$Fraction;)V"⟩ yX8_shareOfOne cX8_shareOfOne 4 none 2 := ⟨m675, m76, m644, m646, m673, m674, m645, ⟨by decide, by decide, by decide +kernel⟩⟩
theorem cd_X11_167_X1_told_X1 : CDV RX1 RX11 167 yX1_told cX1_told 2 (some .long) 1 := ⟨m680, m70, ⟨m677, m678, m679⟩, ⟨by decide, by decide, by decide +kernel⟩⟩
theorem fl_X4_56_6 : FL RX4 56 6 9 := ⟨"DrawnList$Roll", RX6, TX6, 15, rfl, inW6, by decide, Or.inr ⟨"DrawnList", m126⟩, Or.inl rfl⟩
theorem fl_X4_53_6 : FL RX4 53 6 10 := ⟨"DrawnList$Roll", RX6, TX6, 15, rfl, inW6, by decide, Or.inr ⟨"DrawnList", m130⟩, Or.inl rfl⟩
theorem cd_X4_44_X4_drawRoundList_X4 : CDV RX4 RX4 44 yX4_drawRoundList cX4_drawRoundList 5 (some .int) 1 := ⟨m705, m75, ⟨m702, m704, m16⟩, ⟨by decide, by decide, by decide +kernel⟩⟩
theorem cd_X4_40_X4_drawAlongSizes_X4 : CDV RX4 RX4 40 yX4_drawAlongSizes cX4_drawAlongSizes 6 (some .int) 1 := ⟨m701, m75, ⟨m698, m700, m15⟩, ⟨by decide, by decide, by decide +kernel⟩⟩
theorem cd_X4_77_X4_drawAt_X4 : CDV RX4 RX4 77 yX4_drawAt cX4_drawAt 2 (some .int) 1 := ⟨m697, m75, ⟨m694, m695, m696⟩, ⟨by decide, by decide, by decide +kernel⟩⟩
theorem cd_X11_170_X2_shareOfTwo_X2 : CDA RX2 "DrawnList$Way" RX11 170 ⟨"DrawnList$Way", "shareOfTwo", "(IILDrawnList$Fraction;)V"⟩ yX2_shareOfTwo cX2_shareOfTwo 7 none 3 := ⟨m690, m74, m685, m687, m688, m689, m686, ⟨by decide, by decide, by decide +kernel⟩⟩
theorem cd_X11_170_X4_shareOfTwo_X4 : CDA RX4 "DrawnList$Way" RX11 170 ⟨"DrawnList$Way", "shareOfTwo", "(IILDrawnList$Fraction;)V"⟩ yX4_shareOfTwo cX4_shareOfTwo 8 none 3 := ⟨m693, m75, m685, m687, m691, m692, m686, ⟨by decide, by decide, by decide +kernel⟩⟩
theorem cd_X11_170_X8_shareOfTwo_X8 : CDA RX8 "DrawnList$Way" RX11 170 ⟨"DrawnList$Way", "shareOfTwo", "(IILDrawnList$Fraction;)V"⟩ yX8_shareOfTwo cX8_shareOfTwo 10 none 3 := ⟨m708, m76, m685, m687, m706, m707, m686, ⟨by decide, by decide, by decide +kernel⟩⟩
theorem cd_X2_63_X2_most_X2 : CDV RX2 RX2 63 yX2_most cX2_most 3 (some .int) 0 := ⟨m722, m74, ⟨m719, m720, m721⟩, ⟨by decide, by decide, by decide +kernel⟩⟩
theorem cd_X4_80_J6_bitCount_0f7a4 : CDS RX4 80 yJ6_bitCount_0f7a4 cJ6_bitCount_0f7a4 1 (some .int) 1 := ⟨m512, m79, ⟨m726, m511⟩, ⟨by decide, by decide, by decide +kernel⟩⟩
theorem cd_X8_71_X8_clustersThatGive_X8 : CDV RX8 RX8 71 yX8_clustersThatGive cX8_clustersThatGive 4 (some .int) 1 := ⟨m733, m76, ⟨m730, m732, m17⟩, ⟨by decide, by decide, by decide +kernel⟩⟩
theorem cd_X11_177_X2_most_X2 : CDA RX2 "DrawnList$Way" RX11 177 ⟨"DrawnList$Way", "most", "()I"⟩ yX2_most cX2_most 3 (some .int) 0 := ⟨m722, m74, m734, m736, m737, m720, m735, ⟨by decide, by decide, by decide +kernel⟩⟩
theorem cd_X11_177_X4_most_X4 : CDA RX4 "DrawnList$Way" RX11 177 ⟨"DrawnList$Way", "most", "()I"⟩ yX4_most cX4_most 4 (some .int) 0 := ⟨m740, m75, m734, m736, m738, m739, m735, ⟨by decide, by decide, by decide +kernel⟩⟩
theorem cd_X11_177_X8_most_X8 : CDA RX8 "DrawnList$Way" RX11 177 ⟨"DrawnList$Way", "most", "()I"⟩ yX8_most cX8_most 5 (some .int) 0 := ⟨m743, m76, m734, m736, m741, m742, m735, ⟨by decide, by decide, by decide +kernel⟩⟩
theorem cd_X11_174_X2_fewest_X2 : CDA RX2 "DrawnList$Way" RX11 174 ⟨"DrawnList$Way", "fewest", "()I"⟩ yX2_fewest cX2_fewest 1 (some .int) 0 := ⟨m718, m74, m713, m715, m716, m717, m714, ⟨by decide, by decide, by decide +kernel⟩⟩
theorem cd_X11_174_X4_fewest_X4 : CDA RX4 "DrawnList$Way" RX11 174 ⟨"DrawnList$Way", "fewest", "()I"⟩ yX4_fewest cX4_fewest 4 (some .int) 0 := ⟨m725, m75, m713, m715, m723, m724, m714, ⟨by decide, by decide, by decide +kernel⟩⟩
theorem cd_X11_174_X8_fewest_X8 : CDA RX8 "DrawnList$Way" RX11 174 ⟨"DrawnList$Way", "fewest", "()I"⟩ yX8_fewest cX8_fewest 5 (some .int) 0 := ⟨m729, m76, m713, m715, m727, m728, m714, ⟨by decide, by decide, by decide +kernel⟩⟩
theorem fl_X9_20_2 : FL RX9 20 2 2 := ⟨"DrawnList$Way", RX2, TX2, 5, rfl, inW2, by decide, Or.inl m321, Or.inl rfl⟩
theorem fp_X9_20_2 : FP RX9 20 2 2 .int := ⟨"DrawnList$Way", RX2, TX2, 5, tyX2, rfl, inW2, by decide, Or.inl m321, Or.inl rfl, tyX2_ok, nmX2, rfl, by decide +kernel⟩
theorem fl_X9_20_4 : FL RX9 20 4 2 := ⟨"DrawnList$Way", RX4, TX4, 4, rfl, inW4, by decide, Or.inl m321, Or.inl rfl⟩
theorem fp_X9_20_4 : FP RX9 20 4 2 .int := ⟨"DrawnList$Way", RX4, TX4, 4, tyX4, rfl, inW4, by decide, Or.inl m321, Or.inl rfl, tyX4_ok, nmX4, rfl, by decide +kernel⟩
theorem fl_X9_20_8 : FL RX9 20 8 2 := ⟨"DrawnList$Way", RX8, TX8, 4, rfl, inW8, by decide, Or.inl m321, Or.inl rfl⟩
theorem fp_X9_20_8 : FP RX9 20 8 2 .int := ⟨"DrawnList$Way", RX8, TX8, 4, tyX8, rfl, inW8, by decide, Or.inl m321, Or.inl rfl, tyX8_ok, nmX8, rfl, by decide +kernel⟩
theorem cd_X9_30_X11_isIn : CDSN RX9 30 yX11_isIn cX11_isIn 2 (some .boolean) 2 := ⟨m763, m66, ⟨⟨"DrawnList", m761⟩, m762⟩, ⟨by decide, by decide, by decide +kernel⟩⟩
theorem cd_X9_34_X9_castLot_X2 : CDV RX2 RX9 34 yX9_castLot cX9_castLot 2 (some .int) 1 := ⟨m770, m73, ⟨m764, m765, m767⟩, ⟨by decide, by decide, by decide +kernel⟩⟩
theorem cd_X9_24_J6_bitCount_0f7a4 : CDS RX9 24 yJ6_bitCount_0f7a4 cJ6_bitCount_0f7a4 1 (some .int) 1 := ⟨m512, m79, ⟨m760, m511⟩, ⟨by decide, by decide, by decide +kernel⟩⟩
theorem cd_X9_34_X9_castLot_X4 : CDV RX4 RX9 34 yX9_castLot cX9_castLot 2 (some .int) 1 := ⟨m770, m73, ⟨m764, m765, m768⟩, ⟨by decide, by decide, by decide +kernel⟩⟩
theorem cd_X9_34_X9_castLot_X8 : CDV RX8 RX9 34 yX9_castLot cX9_castLot 2 (some .int) 1 := ⟨m770, m73, ⟨m764, m765, m769⟩, ⟨by decide, by decide, by decide +kernel⟩⟩
theorem cd_X2_67_X9_takeByLots_X2 : CDU RX2 "DrawnList$Way" RX2 67 ⟨"DrawnList$GroupWay", "takeByLots", "(II)I"⟩ yX9_takeByLots cX9_takeByLots 7 (some .int) 2 := ⟨m759, m73, m754, m755, m757, m758, rfl, ⟨by decide, by decide, by decide +kernel⟩⟩
theorem cd_X4_85_X9_castLot_X4 : CDU RX4 "DrawnList$Way" RX4 85 ⟨"DrawnList$LineWay", "castLot", "(I)I"⟩ yX9_castLot cX9_castLot 2 (some .int) 1 := ⟨m770, m73, m775, m776, m778, m765, rfl, ⟨by decide, by decide, by decide +kernel⟩⟩
theorem cd_X8_77_X11_isIn : CDSN RX8 77 yX11_isIn cX11_isIn 2 (some .boolean) 2 := ⟨m763, m66, ⟨⟨"DrawnList", m785⟩, m762⟩, ⟨by decide, by decide, by decide +kernel⟩⟩
theorem cd_X8_74_X9_takeByLots_X8 : CDU RX8 "DrawnList$Way" RX8 74 ⟨"DrawnList$StepWay", "takeByLots", "(II)I"⟩ yX9_takeByLots cX9_takeByLots 7 (some .int) 2 := ⟨m759, m73, m782, m783, m784, m758, rfl, ⟨by decide, by decide, by decide +kernel⟩⟩
theorem fp_X11_180_2 : FP RX11 180 2 2 .int := ⟨"DrawnList$Way", RX2, TX2, 5, tyX2, rfl, inW2, by decide, Or.inr ⟨"DrawnList", m322⟩, Or.inl rfl, tyX2_ok, nmX2, rfl, by decide +kernel⟩
theorem fp_X11_180_4 : FP RX11 180 4 2 .int := ⟨"DrawnList$Way", RX4, TX4, 4, tyX4, rfl, inW4, by decide, Or.inr ⟨"DrawnList", m322⟩, Or.inl rfl, tyX4_ok, nmX4, rfl, by decide +kernel⟩
theorem fp_X11_180_8 : FP RX11 180 8 2 .int := ⟨"DrawnList$Way", RX8, TX8, 4, tyX8, rfl, inW8, by decide, Or.inr ⟨"DrawnList", m322⟩, Or.inl rfl, tyX8_ok, nmX8, rfl, by decide +kernel⟩
theorem cd_X11_183_X2_drawByLots_X2 : CDA RX2 "DrawnList$Way" RX11 183 ⟨"DrawnList$Way", "drawByLots", "()I"⟩ yX2_drawByLots cX2_drawByLots 3 (some .int) 0 := ⟨m753, m74, m748, m750, m751, m752, m749, ⟨by decide, by decide, by decide +kernel⟩⟩
theorem cd_X11_183_X4_drawByLots_X4 : CDA RX4 "DrawnList$Way" RX11 183 ⟨"DrawnList$Way", "drawByLots", "()I"⟩ yX4_drawByLots cX4_drawByLots 1 (some .int) 0 := ⟨m774, m75, m748, m750, m772, m773, m749, ⟨by decide, by decide, by decide +kernel⟩⟩
theorem cd_X11_183_X8_drawByLots_X8 : CDA RX8 "DrawnList$Way" RX11 183 ⟨"DrawnList$Way", "drawByLots", "()I"⟩ yX8_drawByLots cX8_drawByLots 4 (some .int) 0 := ⟨m781, m76, m748, m750, m779, m780, m749, ⟨by decide, by decide, by decide +kernel⟩⟩
theorem cd_X11_186_X6_hasAll_X6 : CDV RX6 RX11 186 yX6_hasAll cX6_hasAll 2 (some .boolean) 1 := ⟨m793, m67, ⟨m790, m791, m792⟩, ⟨by decide, by decide, by decide +kernel⟩⟩
theorem cd_X11_189_X2_canMake_X2 : CDA RX2 "DrawnList$Way" RX11 189 ⟨"DrawnList$Way", "canMake", "(I)Z"⟩ yX2_canMake cX2_canMake 3 (some .boolean) 1 := ⟨m799, m74, m794, m796, m797, m798, m795, ⟨by decide, by decide, by decide +kernel⟩⟩
theorem cd_X11_189_X4_canMake_X4 : CDA RX4 "DrawnList$Way" RX11 189 ⟨"DrawnList$Way", "canMake", "(I)Z"⟩ yX4_canMake cX4_canMake 4 (some .boolean) 1 := ⟨m802, m75, m794, m796, m800, m801, m795, ⟨by decide, by decide, by decide +kernel⟩⟩
theorem cd_X11_189_X8_canMake_X8 : CDA RX8 "DrawnList$Way" RX11 189 ⟨"DrawnList$Way", "canMake", "(I)Z"⟩ yX8_canMake cX8_canMake 5 (some .boolean) 1 := ⟨m805, m76, m794, m796, m803, m804, m795, ⟨by decide, by decide, by decide +kernel⟩⟩
theorem cd_X1_20_X1_become_X1 : CDV RX1 RX1 20 yX1_become cX1_become 7 none 2 := ⟨m657, m70, ⟨m824, m655, m656⟩, ⟨by decide, by decide, by decide +kernel⟩⟩
theorem cd_X11_285_X11_isIn : CDS RX11 285 yX11_isIn cX11_isIn 2 (some .boolean) 2 := ⟨m763, m66, ⟨m819, m762⟩, ⟨by decide, by decide, by decide +kernel⟩⟩
theorem fl_X11_58_11 : FL RX11 58 10 7 := ⟨"DrawnList", RX11, TX11, 9, rfl, inW11, by decide, Or.inl m422, Or.inl rfl⟩
theorem fl_X11_332_1 : FL RX11 332 1 1 := ⟨"DrawnList$Fraction", RX1, TX1, 2, rfl, inW1, by decide, Or.inr ⟨"DrawnList", m226⟩, Or.inl rfl⟩
theorem fl_X11_336_1 : FL RX11 336 1 0 := ⟨"DrawnList$Fraction", RX1, TX1, 2, rfl, inW1, by decide, Or.inr ⟨"DrawnList", m224⟩, Or.inl rfl⟩
theorem cd_X11_339_X1_add_X1 : CDV RX1 RX11 339 yX1_add cX1_add 9 none 2 := ⟨m823, m70, ⟨m820, m821, m822⟩, ⟨by decide, by decide, by decide +kernel⟩⟩
theorem cd_X11_328_X1_become_X1 : CDV RX1 RX11 328 yX1_become cX1_become 7 none 2 := ⟨m657, m70, ⟨m818, m655, m656⟩, ⟨by decide, by decide, by decide +kernel⟩⟩
theorem fl_X11_200_6 : FL RX11 200 6 14 := ⟨"DrawnList$Roll", RX6, TX6, 15, rfl, inW6, by decide, Or.inr ⟨"DrawnList", m144⟩, Or.inl rfl⟩
theorem cd_X11_192_X11_refusalOfDraw_X11 : CDV RX11 RX11 192 yX11_refusalOfDraw cX11_refusalOfDraw 4 (some .int) 2 := ⟨m813, m66, ⟨m810, m812, m18⟩, ⟨by decide, by decide, by decide +kernel⟩⟩
theorem cd_X11_196_X11_addUp_X11 : CDV RX11 RX11 196 yX11_addUp cX11_addUp 5 none 2 := ⟨m817, m66, ⟨m814, m816, m19⟩, ⟨by decide, by decide, by decide +kernel⟩⟩
theorem fl_X2_78_6 : FL RX2 78 6 10 := ⟨"DrawnList$Roll", RX6, TX6, 15, rfl, inW6, by decide, Or.inr ⟨"DrawnList", m132⟩, Or.inl rfl⟩
theorem cd_X2_88_X1_add_X1 : CDV RX1 RX2 88 yX1_add cX1_add 9 none 2 := ⟨m823, m70, ⟨m847, m821, m822⟩, ⟨by decide, by decide, by decide +kernel⟩⟩
theorem cd_X2_81_X11_isIn : CDSN RX2 81 yX11_isIn cX11_isIn 2 (some .boolean) 2 := ⟨m763, m66, ⟨⟨"DrawnList", m846⟩, m762⟩, ⟨by decide, by decide, by decide +kernel⟩⟩
theorem fl_X2_85_6 : FL RX2 85 6 4 := ⟨"DrawnList$Roll", RX6, TX6, 15, rfl, inW6, by decide, Or.inr ⟨"DrawnList", m112⟩, Or.inl rfl⟩
theorem fl_X2_71_6 : FL RX2 71 6 14 := ⟨"DrawnList$Roll", RX6, TX6, 15, rfl, inW6, by decide, Or.inr ⟨"DrawnList", m143⟩, Or.inl rfl⟩
theorem cd_X2_74_X2_addSpreadOf_X2 : CDV RX2 RX2 74 yX2_addSpreadOf cX2_addSpreadOf 12 none 2 := ⟨m845, m74, ⟨m842, m844, m21⟩, ⟨by decide, by decide, by decide +kernel⟩⟩
theorem cd_X11_344_X2_spreadInto_X2 : CDV RX2 RX11 344 yX2_spreadInto cX2_spreadInto 3 (some .boolean) 1 := ⟨m841, m74, ⟨m838, m839, m840⟩, ⟨by decide, by decide, by decide +kernel⟩⟩
theorem cd_X11_203_X11_spreadOf_X11 : CDV RX11 RX11 203 yX11_spreadOf cX11_spreadOf 5 (some .boolean) 2 := ⟨m836, m66, ⟨m833, m835, m20⟩, ⟨by decide, by decide, by decide +kernel⟩⟩
theorem cd_X1_24_X1_roundedDown_X1 : CDV RX1 RX1 24 yX1_roundedDown cX1_roundedDown 1 (some .long) 0 := ⟨m859, m70, ⟨m856, m857, m858⟩, ⟨by decide, by decide, by decide +kernel⟩⟩
theorem cd_X1_28_J13_compare_74951 : CDS RX1 28 yJ13_compare_74951 cJ13_compare_74951 4 (some .int) 2 := ⟨m862, m81, ⟨m860, m861⟩, ⟨by decide, by decide, by decide +kernel⟩⟩
theorem cd_X11_207_X1_compareWith_X1 : CDV RX1 RX11 207 yX1_compareWith cX1_compareWith 3 (some .int) 1 := ⟨m855, m70, ⟨m852, m853, m854⟩, ⟨by decide, by decide, by decide +kernel⟩⟩
theorem cd_X11_351_X4_drawAt_X4 : CDV RX4 RX11 351 yX4_drawAt cX4_drawAt 2 (some .int) 1 := ⟨m697, m75, ⟨m873, m695, m696⟩, ⟨by decide, by decide, by decide +kernel⟩⟩
theorem cd_X11_354_X1_roundedDown_X1 : CDV RX1 RX11 354 yX1_roundedDown cX1_roundedDown 1 (some .long) 0 := ⟨m859, m70, ⟨m874, m857, m858⟩, ⟨by decide, by decide, by decide +kernel⟩⟩
theorem cd_X11_348_X4_pointCount_X4 : CDV RX4 RX11 348 yX4_pointCount cX4_pointCount 1 (some .int) 0 := ⟨m585, m75, ⟨m872, m583, m584⟩, ⟨by decide, by decide, by decide +kernel⟩⟩
theorem cd_X11_213_X11_edgeOf_X11 : CDV RX11 RX11 213 yX11_edgeOf cX11_edgeOf 10 (some .long) 2 := ⟨m871, m66, ⟨m868, m870, m22⟩, ⟨by decide, by decide, by decide +kernel⟩⟩
theorem fl_X11_40_11 : FL RX11 40 10 4 := ⟨"DrawnList", RX11, TX11, 9, rfl, inW11, by decide, Or.inl m419, Or.inl rfl⟩
theorem inW10 : ∀ w ∈ u_ws RX10 TX10 6, w ∈ wg := List.forall_mem_cons.mpr ⟨m242, List.forall_mem_cons.mpr ⟨m244, List.forall_mem_cons.mpr ⟨m246, List.forall_mem_cons.mpr ⟨m248, List.forall_mem_cons.mpr ⟨m250, List.forall_mem_cons.mpr ⟨m252, fun _ h => absurd h List.not_mem_nil⟩⟩⟩⟩⟩⟩
theorem fl_X11_224_10 : FL RX11 224 9 2 := ⟨"DrawnList$Weights", RX10, TX10, 6, rfl, inW10, by decide, Or.inr ⟨"DrawnList", m237⟩, Or.inl rfl⟩
theorem cd_X11_220_X11_swap : CDS RX11 220 yX11_swap cX11_swap 4 (some .int) 3 := ⟨m881, m66, ⟨m879, m880⟩, ⟨by decide, by decide, by decide +kernel⟩⟩
theorem fl_X11_217_10 : FL RX11 217 9 1 := ⟨"DrawnList$Weights", RX10, TX10, 6, rfl, inW10, by decide, Or.inr ⟨"DrawnList", m235⟩, Or.inl rfl⟩
theorem fl_X10_18_10 : FL RX10 18 9 3 := ⟨"DrawnList$Weights", RX10, TX10, 6, rfl, inW10, by decide, Or.inl m238, Or.inl rfl⟩
theorem cd_X10_56_X11_isIn : CDSN RX10 56 yX11_isIn cX11_isIn 2 (some .boolean) 2 := ⟨m763, m66, ⟨⟨"DrawnList", m894⟩, m762⟩, ⟨by decide, by decide, by decide +kernel⟩⟩
theorem fl_X10_28_10 : FL RX10 28 9 5 := ⟨"DrawnList$Weights", RX10, TX10, 6, rfl, inW10, by decide, Or.inl m241, Or.inl rfl⟩
theorem cd_X10_60_X2_shareOfOne_X2 : CDA RX2 "DrawnList$Way" RX10 60 ⟨"DrawnList$Way", "shareOfOne", "(ILDrawnList$Fraction;)V"⟩ yX2_shareOfOne cX2_shareOfOne 4 none 2 := ⟨m649, m74, m895, m646, m647, m648, m645, ⟨by decide, by decide, by decide +kernel⟩⟩
theorem cd_X10_60_X4_shareOfOne_X4 : CDA RX4 "DrawnList$Way" RX10 60 ⟨"DrawnList$Way", "shareOfOne", "(ILDrawnList$Fraction;)V"⟩ yX4_shareOfOne cX4_shareOfOne 3 none 2 := ⟨m663, m75, m895, m646, m661, m662, m645, ⟨by decide, by decide, by decide +kernel⟩⟩
theorem cd_X10_60_X8_shareOfOne_X8 : CDA RX8 "DrawnList$Way" RX10 60 ⟨"DrawnList$Way", "shareOfOne", "(ILDrawnList$Fraction;)V"⟩ yX8_shareOfOne cX8_shareOfOne 4 none 2 := ⟨m675, m76, m895, m646, m673, m674, m645, ⟨by decide, by decide, by decide +kernel⟩⟩
theorem cd_X10_66_X1_thousandBy_X1 : CDV RX1 RX10 66 yX1_thousandBy cX1_thousandBy 1 (some .int) 0 := ⟨m899, m70, ⟨m896, m897, m898⟩, ⟨by decide, by decide, by decide +kernel⟩⟩
theorem fl_X10_32_10 : FL RX10 32 9 0 := ⟨"DrawnList$Weights", RX10, TX10, 6, rfl, inW10, by decide, Or.inl m233, Or.inl rfl⟩
theorem fl_X10_74_6 : FL RX10 74 6 10 := ⟨"DrawnList$Roll", RX6, TX6, 15, rfl, inW6, by decide, Or.inr ⟨"DrawnList", m129⟩, Or.inl rfl⟩
theorem fl_X10_21_10 : FL RX10 21 9 4 := ⟨"DrawnList$Weights", RX10, TX10, 6, rfl, inW10, by decide, Or.inl m240, Or.inl rfl⟩
theorem cd_X10_77_X10_raiseGreatestRest_X10 : CDV RX10 RX10 77 yX10_raiseGreatestRest cX10_raiseGreatestRest 4 none 1 := ⟨m912, m69, ⟨m909, m911, m26⟩, ⟨by decide, by decide, by decide +kernel⟩⟩
theorem cd_X10_70_X10_sumOf_X10 : CDV RX10 RX10 70 yX10_sumOf cX10_sumOf 4 (some .int) 1 := ⟨m908, m69, ⟨m905, m907, m25⟩, ⟨by decide, by decide, by decide +kernel⟩⟩
theorem fl_X10_15_10 : FL RX10 15 9 2 := ⟨"DrawnList$Weights", RX10, TX10, 6, rfl, inW10, by decide, Or.inl m236, Or.inl rfl⟩
theorem fl_X10_53_6 : FL RX10 53 6 7 := ⟨"DrawnList$Roll", RX6, TX6, 15, rfl, inW6, by decide, Or.inr ⟨"DrawnList", m121⟩, Or.inl rfl⟩
theorem cd_X10_49_X10_divide_X10 : CDV RX10 RX10 49 yX10_divide cX10_divide 9 none 2 := ⟨m904, m69, ⟨m901, m903, m24⟩, ⟨by decide, by decide, by decide +kernel⟩⟩
theorem fl_X10_9_10 : FL RX10 9 9 1 := ⟨"DrawnList$Weights", RX10, TX10, 6, rfl, inW10, by decide, Or.inl m234, Or.inl rfl⟩
theorem fl_X10_46_6 : FL RX10 46 6 5 := ⟨"DrawnList$Roll", RX6, TX6, 15, rfl, inW6, by decide, Or.inr ⟨"DrawnList", m114⟩, Or.inl rfl⟩
theorem fl_X10_36_6 : FL RX10 36 6 14 := ⟨"DrawnList$Roll", RX6, TX6, 15, rfl, inW6, by decide, Or.inr ⟨"DrawnList", m140⟩, Or.inl rfl⟩
theorem cd_X10_42_X10_start_X10 : CDV RX10 RX10 42 yX10_start cX10_start 4 none 2 := ⟨m893, m69, ⟨m890, m892, m23⟩, ⟨by decide, by decide, by decide +kernel⟩⟩
theorem cd_X11_227_X10_lead_X10 : CDV RX10 RX11 227 yX10_lead cX10_lead 6 none 3 := ⟨m889, m69, ⟨m886, m887, m888⟩, ⟨by decide, by decide, by decide +kernel⟩⟩
theorem fl_X11_231_10 : FL RX11 231 9 3 := ⟨"DrawnList$Weights", RX10, TX10, 6, rfl, inW10, by decide, Or.inr ⟨"DrawnList", m239⟩, Or.inl rfl⟩
theorem fl_X10_88_6 : FL RX10 88 6 4 := ⟨"DrawnList$Roll", RX6, TX6, 15, rfl, inW6, by decide, Or.inr ⟨"DrawnList", m111⟩, Or.inl rfl⟩
theorem cd_X11_237_X10_ledSum_X10 : CDV RX10 RX11 237 yX10_ledSum cX10_ledSum 4 (some .int) 0 := ⟨m928, m69, ⟨m925, m926, m927⟩, ⟨by decide, by decide, by decide +kernel⟩⟩
theorem cd_X11_234_X10_miss_X10 : CDV RX10 RX11 234 yX10_miss cX10_miss 3 (some .int) 0 := ⟨m921, m69, ⟨m918, m919, m920⟩, ⟨by decide, by decide, by decide +kernel⟩⟩
theorem fl_X11_47_11 : FL RX11 47 10 5 := ⟨"DrawnList", RX11, TX11, 9, rfl, inW11, by decide, Or.inl m420, Or.inl rfl⟩
theorem inW3 : ∀ w ∈ u_ws RX3 TX3 7, w ∈ wg := List.forall_mem_cons.mpr ⟨m274, List.forall_mem_cons.mpr ⟨m276, List.forall_mem_cons.mpr ⟨m278, List.forall_mem_cons.mpr ⟨m280, List.forall_mem_cons.mpr ⟨m282, List.forall_mem_cons.mpr ⟨m284, List.forall_mem_cons.mpr ⟨m286, fun _ h => absurd h List.not_mem_nil⟩⟩⟩⟩⟩⟩⟩
theorem fl_X11_240_3 : FL RX11 240 3 1 := ⟨"DrawnList$Journey", RX3, TX3, 7, rfl, inW3, by decide, Or.inr ⟨"DrawnList", m265⟩, Or.inl rfl⟩
theorem fl_X3_25_3 : FL RX3 25 3 0 := ⟨"DrawnList$Journey", RX3, TX3, 7, rfl, inW3, by decide, Or.inl m263, Or.inl rfl⟩
theorem fl_X3_52_6 : FL RX3 52 6 10 := ⟨"DrawnList$Roll", RX6, TX6, 15, rfl, inW6, by decide, Or.inr ⟨"DrawnList", m128⟩, Or.inl rfl⟩
theorem cd_X3_55_X11_isIn : CDSN RX3 55 yX11_isIn cX11_isIn 2 (some .boolean) 2 := ⟨m763, m66, ⟨⟨"DrawnList", m946⟩, m762⟩, ⟨by decide, by decide, by decide +kernel⟩⟩
theorem fl_X3_21_3 : FL RX3 21 3 3 := ⟨"DrawnList$Journey", RX3, TX3, 7, rfl, inW3, by decide, Or.inl m267, Or.inl rfl⟩
theorem cd_X3_59_X2_shareOfOne_X2 : CDA RX2 "DrawnList$Way" RX3 59 ⟨"DrawnList$Way", "shareOfOne", "(ILDrawnList$Fraction;)V"⟩ yX2_shareOfOne cX2_shareOfOne 4 none 2 := ⟨m649, m74, m947, m646, m647, m648, m645, ⟨by decide, by decide, by decide +kernel⟩⟩
theorem cd_X3_59_X4_shareOfOne_X4 : CDA RX4 "DrawnList$Way" RX3 59 ⟨"DrawnList$Way", "shareOfOne", "(ILDrawnList$Fraction;)V"⟩ yX4_shareOfOne cX4_shareOfOne 3 none 2 := ⟨m663, m75, m947, m646, m661, m662, m645, ⟨by decide, by decide, by decide +kernel⟩⟩
theorem cd_X3_59_X8_shareOfOne_X8 : CDA RX8 "DrawnList$Way" RX3 59 ⟨"DrawnList$Way", "shareOfOne", "(ILDrawnList$Fraction;)V"⟩ yX8_shareOfOne cX8_shareOfOne 4 none 2 := ⟨m675, m76, m947, m646, m673, m674, m645, ⟨by decide, by decide, by decide +kernel⟩⟩
theorem fl_X3_15_3 : FL RX3 15 3 2 := ⟨"DrawnList$Journey", RX3, TX3, 7, rfl, inW3, by decide, Or.inl m266, Or.inl rfl⟩
theorem fl_X3_65_6 : FL RX3 65 6 1 := ⟨"DrawnList$Roll", RX6, TX6, 15, rfl, inW6, by decide, Or.inr ⟨"DrawnList", m101⟩, Or.inl rfl⟩
theorem cd_X3_68_X1_thousandBy_X1 : CDV RX1 RX3 68 yX1_thousandBy cX1_thousandBy 1 (some .int) 0 := ⟨m899, m70, ⟨m948, m897, m898⟩, ⟨by decide, by decide, by decide +kernel⟩⟩
theorem fp_X3_39_3 : FP RX3 39 3 4 .int := ⟨"DrawnList$Journey", RX3, TX3, 7, tyX3, rfl, inW3, by decide, Or.inl m268, Or.inl rfl, tyX3_ok, nmX3, rfl, by decide +kernel⟩
theorem fp_X3_42_3 : FP RX3 42 3 5 .int := ⟨"DrawnList$Journey", RX3, TX3, 7, tyX3, rfl, inW3, by decide, Or.inl m270, Or.inl rfl, tyX3_ok, nmX3, rfl, by decide +kernel⟩
theorem fp_X3_45_3 : FP RX3 45 3 6 .int := ⟨"DrawnList$Journey", RX3, TX3, 7, tyX3, rfl, inW3, by decide, Or.inl m272, Or.inl rfl, tyX3_ok, nmX3, rfl, by decide +kernel⟩
theorem fl_X3_9_3 : FL RX3 9 3 1 := ⟨"DrawnList$Journey", RX3, TX3, 7, rfl, inW3, by decide, Or.inl m264, Or.inl rfl⟩
theorem cd_X3_48_X3_together : CDS RX3 48 yX3_together cX3_together 4 (some .int) 2 := ⟨m951, m71, ⟨m949, m950⟩, ⟨by decide, by decide, by decide +kernel⟩⟩
theorem fl_X3_42_3 : FL RX3 42 3 5 := ⟨"DrawnList$Journey", RX3, TX3, 7, rfl, inW3, by decide, Or.inl m270, Or.inl rfl⟩
theorem fl_X3_45_3 : FL RX3 45 3 6 := ⟨"DrawnList$Journey", RX3, TX3, 7, rfl, inW3, by decide, Or.inl m272, Or.inl rfl⟩
theorem fl_X3_29_6 : FL RX3 29 6 14 := ⟨"DrawnList$Roll", RX6, TX6, 15, rfl, inW6, by decide, Or.inr ⟨"DrawnList", m141⟩, Or.inl rfl⟩
theorem cd_X3_35_X3_gatherGains_X3 : CDV RX3 RX3 35 yX3_gatherGains cX3_gatherGains 5 (some .int) 2 := ⟨m945, m71, ⟨m942, m944, m27⟩, ⟨by decide, by decide, by decide +kernel⟩⟩
theorem cd_X11_243_X3_seek_X3 : CDV RX3 RX11 243 yX3_seek cX3_seek 9 none 3 := ⟨m941, m71, ⟨m938, m939, m940⟩, ⟨by decide, by decide, by decide +kernel⟩⟩
theorem fl_X11_246_3 : FL RX11 246 3 4 := ⟨"DrawnList$Journey", RX3, TX3, 7, rfl, inW3, by decide, Or.inr ⟨"DrawnList", m269⟩, Or.inl rfl⟩
theorem fl_X11_249_3 : FL RX11 249 3 5 := ⟨"DrawnList$Journey", RX3, TX3, 7, rfl, inW3, by decide, Or.inr ⟨"DrawnList", m271⟩, Or.inl rfl⟩
theorem fl_X11_252_3 : FL RX11 252 3 6 := ⟨"DrawnList$Journey", RX3, TX3, 7, rfl, inW3, by decide, Or.inr ⟨"DrawnList", m273⟩, Or.inl rfl⟩
theorem fl_X7_9_7 : FL RX7 9 7 0 := ⟨"DrawnList$Sheet", RX7, TX7, 4, rfl, inW7, by decide, Or.inl m398, Or.inl rfl⟩
theorem fp_X7_15_7 : FP RX7 15 7 1 .boolean := ⟨"DrawnList$Sheet", RX7, TX7, 4, tyX7, rfl, inW7, by decide, Or.inl m400, Or.inl rfl, tyX7_ok, nmX7, rfl, by decide +kernel⟩
theorem fp_X7_19_7 : FP RX7 19 7 2 .int := ⟨"DrawnList$Sheet", RX7, TX7, 4, tyX7, rfl, inW7, by decide, Or.inl m402, Or.inl rfl, tyX7_ok, nmX7, rfl, by decide +kernel⟩
theorem fp_X7_23_7 : FP RX7 23 7 3 .int := ⟨"DrawnList$Sheet", RX7, TX7, 4, tyX7, rfl, inW7, by decide, Or.inl m404, Or.inl rfl, tyX7_ok, nmX7, rfl, by decide +kernel⟩
theorem cd_X11_255_X11_isForm : CDS RX11 255 yX11_isForm cX11_isForm 1 (some .boolean) 1 := ⟨m958, m66, ⟨m956, m957⟩, ⟨by decide, by decide, by decide +kernel⟩⟩
theorem cd_X11_258_X7_renew_X7 : CDV RX7 RX11 258 yX7_renew cX7_renew 4 none 2 := ⟨m962, m77, ⟨m959, m960, m961⟩, ⟨by decide, by decide, by decide +kernel⟩⟩
theorem fp_X11_71_7 : FP RX11 71 7 1 .boolean := ⟨"DrawnList$Sheet", RX7, TX7, 4, tyX7, rfl, inW7, by decide, Or.inr ⟨"DrawnList", m401⟩, Or.inl rfl, tyX7_ok, nmX7, rfl, by decide +kernel⟩
theorem fl_X7_15_7 : FL RX7 15 7 1 := ⟨"DrawnList$Sheet", RX7, TX7, 4, rfl, inW7, by decide, Or.inl m400, Or.inl rfl⟩
theorem fl_X7_19_7 : FL RX7 19 7 2 := ⟨"DrawnList$Sheet", RX7, TX7, 4, rfl, inW7, by decide, Or.inl m402, Or.inl rfl⟩
theorem fl_X7_23_7 : FL RX7 23 7 3 := ⟨"DrawnList$Sheet", RX7, TX7, 4, rfl, inW7, by decide, Or.inl m404, Or.inl rfl⟩
theorem cd_X7_26_X11_within : CDSN RX7 26 yX11_within cX11_within 3 (some .boolean) 3 := ⟨m453, m66, ⟨⟨"DrawnList", m975⟩, m452⟩, ⟨by decide, by decide, by decide +kernel⟩⟩
theorem cd_X11_262_X7_findingAt_X7 : CDV RX7 RX11 262 yX7_findingAt cX7_findingAt 3 (some .int) 2 := ⟨m974, m77, ⟨m971, m972, m973⟩, ⟨by decide, by decide, by decide +kernel⟩⟩
theorem cd_X11_265_X7_store_X7 : CDV RX7 RX11 265 yX7_store cX7_store 3 none 2 := ⟨m979, m77, ⟨m976, m977, m978⟩, ⟨by decide, by decide, by decide +kernel⟩⟩
theorem fl_X11_272_7 : FL RX11 272 7 2 := ⟨"DrawnList$Sheet", RX7, TX7, 4, rfl, inW7, by decide, Or.inr ⟨"DrawnList", m403⟩, Or.inl rfl⟩
theorem cd_X11_275_X7_reaches_X7 : CDV RX7 RX11 275 yX7_reaches cX7_reaches 3 (some .boolean) 2 := ⟨m992, m77, ⟨m989, m990, m991⟩, ⟨by decide, by decide, by decide +kernel⟩⟩
theorem fl_X11_288_0 : FL RX11 288 0 5 := ⟨"DrawnList$Answers", RX0, TX0, 7, rfl, inW0, by decide, Or.inr ⟨"DrawnList", m189⟩, Or.inl rfl⟩
theorem fl_X11_290_0 : FL RX11 290 0 6 := ⟨"DrawnList$Answers", RX0, TX0, 7, rfl, inW0, by decide, Or.inr ⟨"DrawnList", m191⟩, Or.inl rfl⟩
theorem fl_X11_293_5 : FL RX11 293 5 7 := ⟨"DrawnList$Plan", RX5, TX5, 10, rfl, inW5, by decide, Or.inr ⟨"DrawnList", m368⟩, Or.inl rfl⟩
theorem fl_X11_269_11 : FL RX11 269 10 8 := ⟨"DrawnList", RX11, TX11, 9, rfl, inW11, by decide, Or.inl m423, Or.inl rfl⟩
theorem fl_X11_294_6 : FL RX11 294 6 12 := ⟨"DrawnList$Roll", RX6, TX6, 15, rfl, inW6, by decide, Or.inr ⟨"DrawnList", m137⟩, Or.inl rfl⟩
theorem cd_X11_322_X11_share_X11 : CDV RX11 RX11 322 yX11_share cX11_share 5 (some .long) 3 := ⟨m640, m66, ⟨m1020, m638, m639⟩, ⟨by decide, by decide, by decide +kernel⟩⟩
theorem cd_X11_310_X11_fault_X11 : CDV RX11 RX11 310 yX11_fault cX11_fault 2 (some .int) 1 := ⟨m555, m66, ⟨m1016, m553, m554⟩, ⟨by decide, by decide, by decide +kernel⟩⟩
theorem cd_X11_313_X11_can_X11 : CDV RX11 RX11 313 yX11_can cX11_can 2 (some .int) 1 := ⟨m559, m66, ⟨m1017, m557, m558⟩, ⟨by decide, by decide, by decide +kernel⟩⟩
theorem cd_X11_316_X11_draws_X11 : CDV RX11 RX11 316 yX11_draws cX11_draws 3 (some .long) 1 := ⟨m603, m66, ⟨m1018, m601, m602⟩, ⟨by decide, by decide, by decide +kernel⟩⟩
theorem cd_X11_319_X11_lots_X11 : CDV RX11 RX11 319 yX11_lots cX11_lots 4 (some .int) 2 := ⟨m747, m66, ⟨m1019, m745, m746⟩, ⟨by decide, by decide, by decide +kernel⟩⟩
theorem cd_X11_306_X11_digestOfPlan_X11 : CDV RX11 RX11 306 yX11_digestOfPlan cX11_digestOfPlan 7 (some .long) 2 := ⟨m1015, m66, ⟨m1012, m1014, m28⟩, ⟨by decide, by decide, by decide +kernel⟩⟩
theorem cd_X11_303_X11_about_X11 : CDV RX11 RX11 303 yX11_about cX11_about 3 (some .int) 2 := ⟨m473, m66, ⟨m1011, m471, m472⟩, ⟨by decide, by decide, by decide +kernel⟩⟩
theorem cd_X11_301_X11_count_X11 : CDV RX11 RX11 301 yX11_count cX11_count 2 (some .int) 1 := ⟨m1003, m66, ⟨m1010, m1001, m1002⟩, ⟨by decide, by decide, by decide +kernel⟩⟩
theorem inW12 : ∀ w ∈ u_ws RX12 TX12 36, w ∈ wg := List.forall_mem_cons.mpr ⟨m1063, List.forall_mem_cons.mpr ⟨m1065, List.forall_mem_cons.mpr ⟨m1067, List.forall_mem_cons.mpr ⟨m1069, List.forall_mem_cons.mpr ⟨m1071, List.forall_mem_cons.mpr ⟨m1073, List.forall_mem_cons.mpr ⟨m1075, List.forall_mem_cons.mpr ⟨m1077, List.forall_mem_cons.mpr ⟨m1079, List.forall_mem_cons.mpr ⟨m1081, List.forall_mem_cons.mpr ⟨m1083, List.forall_mem_cons.mpr ⟨m1085, List.forall_mem_cons.mpr ⟨m1087, List.forall_mem_cons.mpr ⟨m1089, List.forall_mem_cons.mpr ⟨m1091, List.forall_mem_cons.mpr ⟨m1093, List.forall_mem_cons.mpr ⟨m1095, List.forall_mem_cons.mpr ⟨m1097, List.forall_mem_cons.mpr ⟨m1099, List.forall_mem_cons.mpr ⟨m1101, List.forall_mem_cons.mpr ⟨m1103, List.forall_mem_cons.mpr ⟨m1105, List.forall_mem_cons.mpr ⟨m1107, List.forall_mem_cons.mpr ⟨m1109, List.forall_mem_cons.mpr ⟨m1111, List.forall_mem_cons.mpr ⟨m1113, List.forall_mem_cons.mpr ⟨m1115, List.forall_mem_cons.mpr ⟨m1117, List.forall_mem_cons.mpr ⟨m1119, List.forall_mem_cons.mpr ⟨m1121, List.forall_mem_cons.mpr ⟨m1123, List.forall_mem_cons.mpr ⟨m1125, List.forall_mem_cons.mpr ⟨m1127, List.forall_mem_cons.mpr ⟨m1129, List.forall_mem_cons.mpr ⟨m1131, List.forall_mem_cons.mpr ⟨m1133, fun _ h => absurd h List.not_mem_nil⟩⟩⟩⟩⟩⟩⟩⟩⟩⟩⟩⟩⟩⟩⟩⟩⟩⟩⟩⟩⟩⟩⟩⟩⟩⟩⟩⟩⟩⟩⟩⟩⟩⟩⟩⟩
theorem fp_X12_87_12 : FP RX12 87 11 4 .int := ⟨"DrawnListModel", RX12, TX12, 36, tyX12, rfl, inW12, by decide, Or.inl m1031, Or.inl rfl, tyX12_ok, nmX12, rfl, by decide +kernel⟩
theorem cd_X12_92_X12_in : CDS RX12 92 yX12_in cX12_in 6 (some .boolean) 3 := ⟨m1147, m78, ⟨m1145, m1146⟩, ⟨by decide, by decide, by decide +kernel⟩⟩
theorem fl_X12_16_12 : FL RX12 16 11 2 := ⟨"DrawnListModel", RX12, TX12, 36, rfl, inW12, by decide, Or.inl m1029, Or.inl rfl⟩
theorem cd_X12_96_X12_isSheet : CDS RX12 96 yX12_isSheet cX12_isSheet 1 (some .boolean) 1 := ⟨m1143, m78, ⟨m1141, m1142⟩, ⟨by decide, by decide, by decide +kernel⟩⟩
theorem fl_X12_7_12 : FL RX12 7 11 0 := ⟨"DrawnListModel", RX12, TX12, 36, rfl, inW12, by decide, Or.inl m1027, Or.inl rfl⟩
theorem fl_X12_13_12 : FL RX12 13 11 1 := ⟨"DrawnListModel", RX12, TX12, 36, rfl, inW12, by decide, Or.inl m1028, Or.inl rfl⟩
theorem cd_X12_102_X12_met_X12 : CDV RX12 RX12 102 yX12_met cX12_met 2 (some .int) 1 := ⟨m1152, m78, ⟨m1149, m1151, m29⟩, ⟨by decide, by decide, by decide +kernel⟩⟩
theorem cd_X12_106_X12_lacks_X12 : CDV RX12 RX12 106 yX12_lacks cX12_lacks 4 (some .int) 3 := ⟨m1164, m78, ⟨m1161, m1163, m30⟩, ⟨by decide, by decide, by decide +kernel⟩⟩
theorem cd_X12_110_X12_low : CDS RX12 110 yX12_low cX12_low 2 (some .int) 2 := ⟨m1167, m78, ⟨m1165, m1166⟩, ⟨by decide, by decide, by decide +kernel⟩⟩
theorem fl_X12_19_12 : FL RX12 19 11 3 := ⟨"DrawnListModel", RX12, TX12, 36, rfl, inW12, by decide, Or.inl m1030, Or.inl rfl⟩
theorem fl_X12_115_12 : FL RX12 115 11 5 := ⟨"DrawnListModel", RX12, TX12, 36, rfl, inW12, by decide, Or.inl m1032, Or.inl rfl⟩
theorem fl_X12_22_12 : FL RX12 22 11 6 := ⟨"DrawnListModel", RX12, TX12, 36, rfl, inW12, by decide, Or.inl m1033, Or.inl rfl⟩
theorem fl_X12_25_12 : FL RX12 25 11 7 := ⟨"DrawnListModel", RX12, TX12, 36, rfl, inW12, by decide, Or.inl m1034, Or.inl rfl⟩
theorem fl_X12_28_12 : FL RX12 28 11 8 := ⟨"DrawnListModel", RX12, TX12, 36, rfl, inW12, by decide, Or.inl m1035, Or.inl rfl⟩
theorem fl_X12_31_12 : FL RX12 31 11 9 := ⟨"DrawnListModel", RX12, TX12, 36, rfl, inW12, by decide, Or.inl m1036, Or.inl rfl⟩
theorem fp_X12_115_12 : FP RX12 115 11 5 .int := ⟨"DrawnListModel", RX12, TX12, 36, tyX12, rfl, inW12, by decide, Or.inl m1032, Or.inl rfl, tyX12_ok, nmX12, rfl, by decide +kernel⟩
theorem cd_X12_124_X12_name_X12 : CDV RX12 RX12 124 yX12_name cX12_name 5 (some .int) 4 := ⟨m1180, m78, ⟨m1187, m1178, m1179⟩, ⟨by decide, by decide, by decide +kernel⟩⟩
theorem fl_X12_128_12 : FL RX12 128 11 10 := ⟨"DrawnListModel", RX12, TX12, 36, rfl, inW12, by decide, Or.inl m1037, Or.inl rfl⟩
theorem fl_X12_37_12 : FL RX12 37 11 12 := ⟨"DrawnListModel", RX12, TX12, 36, rfl, inW12, by decide, Or.inl m1039, Or.inl rfl⟩
theorem fl_X12_34_12 : FL RX12 34 11 11 := ⟨"DrawnListModel", RX12, TX12, 36, rfl, inW12, by decide, Or.inl m1038, Or.inl rfl⟩
theorem fl_X12_40_12 : FL RX12 40 11 13 := ⟨"DrawnListModel", RX12, TX12, 36, rfl, inW12, by decide, Or.inl m1040, Or.inl rfl⟩
theorem fl_X12_43_12 : FL RX12 43 11 14 := ⟨"DrawnListModel", RX12, TX12, 36, rfl, inW12, by decide, Or.inl m1041, Or.inl rfl⟩
theorem cd_X12_131_X12_isName_X12 : CDV RX12 RX12 131 yX12_isName cX12_isName 2 (some .boolean) 1 := ⟨m1195, m78, ⟨m1192, m1194, m31⟩, ⟨by decide, by decide, by decide +kernel⟩⟩
theorem cd_X12_134_X12_valueOf_X12 : CDV RX12 RX12 134 yX12_valueOf cX12_valueOf 4 (some .int) 1 := ⟨m1199, m78, ⟨m1196, m1198, m32⟩, ⟨by decide, by decide, by decide +kernel⟩⟩
theorem cd_X12_141_X12_isDay : CDS RX12 141 yX12_isDay cX12_isDay 1 (some .boolean) 1 := ⟨m1208, m78, ⟨m1206, m1207⟩, ⟨by decide, by decide, by decide +kernel⟩⟩
theorem fp_X12_128_12 : FP RX12 128 11 10 .int := ⟨"DrawnListModel", RX12, TX12, 36, tyX12, rfl, inW12, by decide, Or.inl m1037, Or.inl rfl, tyX12_ok, nmX12, rfl, by decide +kernel⟩
theorem fp_X12_43_12 : FP RX12 43 11 14 .int := ⟨"DrawnListModel", RX12, TX12, 36, tyX12, rfl, inW12, by decide, Or.inl m1041, Or.inl rfl, tyX12_ok, nmX12, rfl, by decide +kernel⟩
theorem cd_X12_144_X12_manyOf_X12 : CDV RX12 RX12 144 yX12_manyOf cX12_manyOf 5 (some .int) 2 := ⟨m1221, m78, ⟨m1218, m1220, m33⟩, ⟨by decide, by decide, by decide +kernel⟩⟩
theorem cd_X12_147_X12_isPlan : CDS RX12 147 yX12_isPlan cX12_isPlan 1 (some .boolean) 1 := ⟨m1228, m78, ⟨m1226, m1227⟩, ⟨by decide, by decide, by decide +kernel⟩⟩
theorem fl_X12_50_12 : FL RX12 50 11 16 := ⟨"DrawnListModel", RX12, TX12, 36, rfl, inW12, by decide, Or.inl m1043, Or.inl rfl⟩
theorem fl_X12_47_12 : FL RX12 47 11 15 := ⟨"DrawnListModel", RX12, TX12, 36, rfl, inW12, by decide, Or.inl m1042, Or.inl rfl⟩
theorem fl_X12_152_12 : FL RX12 152 11 19 := ⟨"DrawnListModel", RX12, TX12, 36, rfl, inW12, by decide, Or.inl m1046, Or.inl rfl⟩
theorem fl_X12_53_12 : FL RX12 53 11 18 := ⟨"DrawnListModel", RX12, TX12, 36, rfl, inW12, by decide, Or.inl m1045, Or.inl rfl⟩
theorem cd_X12_155_X12_here_X12 : CDV RX12 RX12 155 yX12_here cX12_here 2 (some .int) 1 := ⟨m1245, m78, ⟨m1242, m1244, m35⟩, ⟨by decide, by decide, by decide +kernel⟩⟩
theorem fp_X12_152_12 : FP RX12 152 11 19 .int := ⟨"DrawnListModel", RX12, TX12, 36, tyX12, rfl, inW12, by decide, Or.inl m1046, Or.inl rfl, tyX12_ok, nmX12, rfl, by decide +kernel⟩
theorem cd_X12_169_X12_number_X12 : CDV RX12 RX12 169 yX12_number cX12_number 5 (some .boolean) 2 := ⟨m1249, m78, ⟨m1246, m1248, m36⟩, ⟨by decide, by decide, by decide +kernel⟩⟩
theorem fl_X12_166_12 : FL RX12 166 11 17 := ⟨"DrawnListModel", RX12, TX12, 36, rfl, inW12, by decide, Or.inl m1044, Or.inl rfl⟩
theorem fp_X12_162_12 : FP RX12 162 11 21 .boolean := ⟨"DrawnListModel", RX12, TX12, 36, tyX12, rfl, inW12, by decide, Or.inl m1048, Or.inl rfl, tyX12_ok, nmX12, rfl, by decide +kernel⟩
theorem fp_X12_166_12 : FP RX12 166 11 17 .int := ⟨"DrawnListModel", RX12, TX12, 36, tyX12, rfl, inW12, by decide, Or.inl m1044, Or.inl rfl, tyX12_ok, nmX12, rfl, by decide +kernel⟩
theorem cd_X12_173_X12_reads_X12 : CDV RX12 RX12 173 yX12_reads cX12_reads 4 (some .int) 1 := ⟨m1241, m78, ⟨m1238, m1240, m34⟩, ⟨by decide, by decide, by decide +kernel⟩⟩
theorem fp_X12_182_12 : FP RX12 182 11 20 .int := ⟨"DrawnListModel", RX12, TX12, 36, tyX12, rfl, inW12, by decide, Or.inl m1047, Or.inl rfl, tyX12_ok, nmX12, rfl, by decide +kernel⟩
theorem fl_X12_182_12 : FL RX12 182 11 20 := ⟨"DrawnListModel", RX12, TX12, 36, rfl, inW12, by decide, Or.inl m1047, Or.inl rfl⟩
theorem cd_X12_185_X12_clustersNow_X12 : CDV RX12 RX12 185 yX12_clustersNow cX12_clustersNow 3 (some .int) 0 := ⟨m1268, m78, ⟨m1265, m1267, m39⟩, ⟨by decide, by decide, by decide +kernel⟩⟩
theorem cd_X12_178_X12_allSizes_X12 : CDV RX12 RX12 178 yX12_allSizes cX12_allSizes 3 (some .int) 0 := ⟨m1264, m78, ⟨m1261, m1263, m38⟩, ⟨by decide, by decide, by decide +kernel⟩⟩
theorem cd_X12_188_X12_canBe_X12 : CDV RX12 RX12 188 yX12_canBe cX12_canBe 5 (some .boolean) 1 := ⟨m1259, m78, ⟨m1256, m1258, m37⟩, ⟨by decide, by decide, by decide +kernel⟩⟩
theorem fl_X12_59_12 : FL RX12 59 11 23 := ⟨"DrawnListModel", RX12, TX12, 36, rfl, inW12, by decide, Or.inl m1050, Or.inl rfl⟩
theorem cd_X12_195_X12_ofCluster_X12 : CDV RX12 RX12 195 yX12_ofCluster cX12_ofCluster 3 (some .int) 1 := ⟨m1287, m78, ⟨m1284, m1286, m41⟩, ⟨by decide, by decide, by decide +kernel⟩⟩
theorem cd_X12_191_X12_over : CDS RX12 191 yX12_over cX12_over 5 (some .long) 2 := ⟨m1283, m78, ⟨m1281, m1282⟩, ⟨by decide, by decide, by decide +kernel⟩⟩
theorem cd_X12_198_X12_no : CDS RX12 198 yX12_no cX12_no 1 (some .long) 1 := ⟨m1275, m78, ⟨m1273, m1274⟩, ⟨by decide, by decide, by decide +kernel⟩⟩
theorem cd_X12_202_X12_drawsNow_X12 : CDV RX12 RX12 202 yX12_drawsNow cX12_drawsNow 4 (some .long) 0 := ⟨m1280, m78, ⟨m1277, m1279, m40⟩, ⟨by decide, by decide, by decide +kernel⟩⟩
theorem cd_X12_206_X12_common : CDS RX12 206 yX12_common cX12_common 10 (some .long) 2 := ⟨m1314, m78, ⟨m1312, m1313⟩, ⟨by decide, by decide, by decide +kernel⟩⟩
theorem fp_X12_210_12 : FP RX12 210 11 24 .long := ⟨"DrawnListModel", RX12, TX12, 36, tyX12, rfl, inW12, by decide, Or.inl m1051, Or.inl rfl, tyX12_ok, nmX12, rfl, by decide +kernel⟩
theorem fp_X12_214_12 : FP RX12 214 11 25 .long := ⟨"DrawnListModel", RX12, TX12, 36, tyX12, rfl, inW12, by decide, Or.inl m1052, Or.inl rfl, tyX12_ok, nmX12, rfl, by decide +kernel⟩
theorem cd_X12_217_X12_drawOf_X12 : CDV RX12 RX12 217 yX12_drawOf cX12_drawOf 7 (some .int) 1 := ⟨m1307, m78, ⟨m1304, m1306, m45⟩, ⟨by decide, by decide, by decide +kernel⟩⟩
theorem fl_X12_56_12 : FL RX12 56 11 22 := ⟨"DrawnListModel", RX12, TX12, 36, rfl, inW12, by decide, Or.inl m1049, Or.inl rfl⟩
theorem fl_X12_162_12 : FL RX12 162 11 21 := ⟨"DrawnListModel", RX12, TX12, 36, rfl, inW12, by decide, Or.inl m1048, Or.inl rfl⟩
theorem cd_X12_220_X12_goesRound_X12 : CDV RX12 RX12 220 yX12_goesRound cX12_goesRound 1 (some .boolean) 0 := ⟨m1299, m78, ⟨m1296, m1298, m43⟩, ⟨by decide, by decide, by decide +kernel⟩⟩
theorem cd_X12_226_X12_becomes_X12 : CDV RX12 RX12 226 yX12_becomes cX12_becomes 7 none 2 := ⟨m1311, m78, ⟨m1308, m1310, m46⟩, ⟨by decide, by decide, by decide +kernel⟩⟩
theorem cd_X12_224_X12_waysOf_X12 : CDV RX12 RX12 224 yX12_waysOf cX12_waysOf 6 (some .int) 1 := ⟨m1303, m78, ⟨m1300, m1302, m44⟩, ⟨by decide, by decide, by decide +kernel⟩⟩
theorem cd_X12_230_X12_findShare_X12 : CDV RX12 RX12 230 yX12_findShare cX12_findShare 3 none 1 := ⟨m1295, m78, ⟨m1292, m1294, m42⟩, ⟨by decide, by decide, by decide +kernel⟩⟩
theorem fl_X12_214_12 : FL RX12 214 11 25 := ⟨"DrawnListModel", RX12, TX12, 36, rfl, inW12, by decide, Or.inl m1052, Or.inl rfl⟩
theorem fl_X12_210_12 : FL RX12 210 11 24 := ⟨"DrawnListModel", RX12, TX12, 36, rfl, inW12, by decide, Or.inl m1051, Or.inl rfl⟩
theorem cd_X12_234_X12_waysWith_X12 : CDV RX12 RX12 234 yX12_waysWith cX12_waysWith 5 (some .int) 1 := ⟨m1326, m78, ⟨m1323, m1325, m48⟩, ⟨by decide, by decide, by decide +kernel⟩⟩
theorem cd_X12_237_X12_findBoth_X12 : CDV RX12 RX12 237 yX12_findBoth cX12_findBoth 11 none 2 := ⟨m1322, m78, ⟨m1319, m1321, m47⟩, ⟨by decide, by decide, by decide +kernel⟩⟩
theorem cd_X12_244_X12_ones : CDS RX12 244 yX12_ones cX12_ones 3 (some .int) 1 := ⟨m1337, m78, ⟨m1335, m1336⟩, ⟨by decide, by decide, by decide +kernel⟩⟩
theorem cd_X12_241_X12_ofClusters_X12 : CDV RX12 RX12 241 yX12_ofClusters cX12_ofClusters 8 (some .int) 1 := ⟨m1334, m78, ⟨m1331, m1333, m49⟩, ⟨by decide, by decide, by decide +kernel⟩⟩
theorem fl_X12_248_12 : FL RX12 248 11 26 := ⟨"DrawnListModel", RX12, TX12, 36, rfl, inW12, by decide, Or.inl m1053, Or.inl rfl⟩
theorem fp_X12_248_12 : FP RX12 248 11 26 .int := ⟨"DrawnListModel", RX12, TX12, 36, tyX12, rfl, inW12, by decide, Or.inl m1053, Or.inl rfl, tyX12_ok, nmX12, rfl, by decide +kernel⟩
theorem cd_X12_251_X12_lot_X12 : CDV RX12 RX12 251 yX12_lot cX12_lot 2 (some .int) 1 := ⟨m1349, m78, ⟨m1346, m1348, m51⟩, ⟨by decide, by decide, by decide +kernel⟩⟩
theorem cd_X12_260_X12_bitsOf_X12 : CDV RX12 RX12 260 yX12_bitsOf cX12_bitsOf 5 (some .int) 2 := ⟨m1362, m78, ⟨m1359, m1361, m54⟩, ⟨by decide, by decide, by decide +kernel⟩⟩
theorem cd_X12_257_X12_takes_X12 : CDV RX12 RX12 257 yX12_takes cX12_takes 7 (some .int) 2 := ⟨m1358, m78, ⟨m1355, m1357, m53⟩, ⟨by decide, by decide, by decide +kernel⟩⟩
theorem cd_X12_254_X12_allBits_X12 : CDV RX12 RX12 254 yX12_allBits cX12_allBits 3 (some .int) 0 := ⟨m1354, m78, ⟨m1351, m1353, m52⟩, ⟨by decide, by decide, by decide +kernel⟩⟩
theorem cd_X12_263_X12_lotsNow_X12 : CDV RX12 RX12 263 yX12_lotsNow cX12_lotsNow 6 (some .int) 1 := ⟨m1345, m78, ⟨m1342, m1344, m50⟩, ⟨by decide, by decide, by decide +kernel⟩⟩
theorem cd_X12_266_X12_isDraw_X12 : CDV RX12 RX12 266 yX12_isDraw cX12_isDraw 2 (some .boolean) 1 := ⟨m1370, m78, ⟨m1367, m1369, m55⟩, ⟨by decide, by decide, by decide +kernel⟩⟩
theorem cd_X12_269_X12_makesIt_X12 : CDV RX12 RX12 269 yX12_makesIt cX12_makesIt 6 (some .boolean) 1 := ⟨m1374, m78, ⟨m1371, m1373, m56⟩, ⟨by decide, by decide, by decide +kernel⟩⟩
theorem fl_X12_272_12 : FL RX12 272 11 27 := ⟨"DrawnListModel", RX12, TX12, 36, rfl, inW12, by decide, Or.inl m1054, Or.inl rfl⟩
theorem fl_X12_275_12 : FL RX12 275 11 28 := ⟨"DrawnListModel", RX12, TX12, 36, rfl, inW12, by decide, Or.inl m1055, Or.inl rfl⟩
theorem fp_X12_272_12 : FP RX12 272 11 27 .long := ⟨"DrawnListModel", RX12, TX12, 36, tyX12, rfl, inW12, by decide, Or.inl m1054, Or.inl rfl, tyX12_ok, nmX12, rfl, by decide +kernel⟩
theorem fp_X12_275_12 : FP RX12 275 11 28 .long := ⟨"DrawnListModel", RX12, TX12, 36, tyX12, rfl, inW12, by decide, Or.inl m1055, Or.inl rfl, tyX12_ok, nmX12, rfl, by decide +kernel⟩
theorem cd_X12_278_X12_without_X12 : CDV RX12 RX12 278 yX12_without cX12_without 3 (some .int) 2 := ⟨m1382, m78, ⟨m1379, m1381, m57⟩, ⟨by decide, by decide, by decide +kernel⟩⟩
theorem cd_X12_281_X12_findSum_X12 : CDV RX12 RX12 281 yX12_findSum cX12_findSum 4 none 1 := ⟨m1386, m78, ⟨m1383, m1385, m58⟩, ⟨by decide, by decide, by decide +kernel⟩⟩
theorem cd_X12_284_X12_spreads_X12 : CDV RX12 RX12 284 yX12_spreads cX12_spreads 10 (some .boolean) 2 := ⟨m1402, m78, ⟨m1399, m1401, m60⟩, ⟨by decide, by decide, by decide +kernel⟩⟩
theorem cd_X12_287_X12_findSpread_X12 : CDV RX12 RX12 287 yX12_findSpread cX12_findSpread 4 (some .boolean) 1 := ⟨m1398, m78, ⟨m1395, m1397, m59⟩, ⟨by decide, by decide, by decide +kernel⟩⟩
theorem fl_X12_66_12 : FL RX12 66 11 30 := ⟨"DrawnListModel", RX12, TX12, 36, rfl, inW12, by decide, Or.inl m1057, Or.inl rfl⟩
theorem fl_X12_63_12 : FL RX12 63 11 29 := ⟨"DrawnListModel", RX12, TX12, 36, rfl, inW12, by decide, Or.inl m1056, Or.inl rfl⟩
theorem fl_X12_72_12 : FL RX12 72 11 32 := ⟨"DrawnListModel", RX12, TX12, 36, rfl, inW12, by decide, Or.inl m1059, Or.inl rfl⟩
theorem cd_X12_292_X12_isOf_X12 : CDV RX12 RX12 292 yX12_isOf cX12_isOf 4 (some .boolean) 3 := ⟨m1436, m78, ⟨m1433, m1435, m64⟩, ⟨by decide, by decide, by decide +kernel⟩⟩
theorem fl_X12_69_12 : FL RX12 69 11 31 := ⟨"DrawnListModel", RX12, TX12, 36, rfl, inW12, by decide, Or.inl m1058, Or.inl rfl⟩
theorem fl_X12_76_12 : FL RX12 76 11 33 := ⟨"DrawnListModel", RX12, TX12, 36, rfl, inW12, by decide, Or.inl m1060, Or.inl rfl⟩
theorem cd_X12_296_X12_weightOf_X12 : CDV RX12 RX12 296 yX12_weightOf cX12_weightOf 6 (some .long) 2 := ⟨m1432, m78, ⟨m1429, m1431, m63⟩, ⟨by decide, by decide, by decide +kernel⟩⟩
theorem cd_X12_303_X12_parts_X12 : CDV RX12 RX12 303 yX12_parts cX12_parts 12 none 2 := ⟨m1428, m78, ⟨m1425, m1427, m62⟩, ⟨by decide, by decide, by decide +kernel⟩⟩
theorem cd_X12_306_X12_findWeights_X12 : CDV RX12 RX12 306 yX12_findWeights cX12_findWeights 5 none 2 := ⟨m1423, m78, ⟨m1420, m1422, m61⟩, ⟨by decide, by decide, by decide +kernel⟩⟩
theorem cd_X12_309_X12_amount : CDS RX12 309 yX12_amount cX12_amount 2 (some .long) 1 := ⟨m1444, m78, ⟨m1442, m1443⟩, ⟨by decide, by decide, by decide +kernel⟩⟩
theorem fl_X12_79_12 : FL RX12 79 11 34 := ⟨"DrawnListModel", RX12, TX12, 36, rfl, inW12, by decide, Or.inl m1061, Or.inl rfl⟩
theorem fl_X12_82_12 : FL RX12 82 11 35 := ⟨"DrawnListModel", RX12, TX12, 36, rfl, inW12, by decide, Or.inl m1062, Or.inl rfl⟩
theorem fl_X12_87_12 : FL RX12 87 11 4 := ⟨"DrawnListModel", RX12, TX12, 36, rfl, inW12, by decide, Or.inl m1031, Or.inl rfl⟩
theorem cd_X12_324_X12_about_X12 : CDV RX12 RX12 324 yX12_about cX12_about 3 (some .int) 2 := ⟨m1191, m78, ⟨m1470, m1189, m1190⟩, ⟨by decide, by decide, by decide +kernel⟩⟩
theorem cd_X12_321_X12_count_X12 : CDV RX12 RX12 321 yX12_count cX12_count 4 (some .int) 1 := ⟨m1462, m78, ⟨m1469, m1460, m1461⟩, ⟨by decide, by decide, by decide +kernel⟩⟩
