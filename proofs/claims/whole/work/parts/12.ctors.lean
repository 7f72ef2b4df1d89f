theorem sp600 : (Int16.ofInt 600).toInt32 = (600 : Int32) := by decide +kernel
theorem sp360 : (Int16.ofInt 360).toInt32 = (360 : Int32) := by decide +kernel
theorem bp80 : (Int8.ofInt 80).toInt32 = (80 : Int32) := by decide +kernel
theorem fq_X6_9_6 : FQ RX6 9 6 0 (.array .int) := ⟨"DrawnList$Roll", RX6, TX6, 15, tyX6, rfl, inW6, by decide, m97, Or.inl rfl, tyX6_ok, nmX6, Or.inr ⟨rfl, rfl⟩, by decide +kernel⟩
theorem fq_X6_15_6 : FQ RX6 15 6 1 (.array .int) := ⟨"DrawnList$Roll", RX6, TX6, 15, tyX6, rfl, inW6, by decide, m100, Or.inl rfl, tyX6_ok, nmX6, Or.inr ⟨rfl, rfl⟩, by decide +kernel⟩
theorem fq_X6_18_6 : FQ RX6 18 6 2 (.array .int) := ⟨"DrawnList$Roll", RX6, TX6, 15, tyX6, rfl, inW6, by decide, m104, Or.inl rfl, tyX6_ok, nmX6, Or.inr ⟨rfl, rfl⟩, by decide +kernel⟩
theorem fq_X6_21_6 : FQ RX6 21 6 3 (.array .int) := ⟨"DrawnList$Roll", RX6, TX6, 15, tyX6, rfl, inW6, by decide, m107, Or.inl rfl, tyX6_ok, nmX6, Or.inr ⟨rfl, rfl⟩, by decide +kernel⟩
theorem fq_X6_24_6 : FQ RX6 24 6 4 (.array .int) := ⟨"DrawnList$Roll", RX6, TX6, 15, tyX6, rfl, inW6, by decide, m109, Or.inl rfl, tyX6_ok, nmX6, Or.inr ⟨rfl, rfl⟩, by decide +kernel⟩
theorem fq_X6_27_6 : FQ RX6 27 6 5 (.array .int) := ⟨"DrawnList$Roll", RX6, TX6, 15, tyX6, rfl, inW6, by decide, m113, Or.inl rfl, tyX6_ok, nmX6, Or.inr ⟨rfl, rfl⟩, by decide +kernel⟩
theorem fq_X6_30_6 : FQ RX6 30 6 6 (.array .int) := ⟨"DrawnList$Roll", RX6, TX6, 15, tyX6, rfl, inW6, by decide, m117, Or.inl rfl, tyX6_ok, nmX6, Or.inr ⟨rfl, rfl⟩, by decide +kernel⟩
theorem fq_X6_33_6 : FQ RX6 33 6 7 (.array .int) := ⟨"DrawnList$Roll", RX6, TX6, 15, tyX6, rfl, inW6, by decide, m120, Or.inl rfl, tyX6_ok, nmX6, Or.inr ⟨rfl, rfl⟩, by decide +kernel⟩
theorem fq_X6_36_6 : FQ RX6 36 6 8 (.array .int) := ⟨"DrawnList$Roll", RX6, TX6, 15, tyX6, rfl, inW6, by decide, m123, Or.inl rfl, tyX6_ok, nmX6, Or.inr ⟨rfl, rfl⟩, by decide +kernel⟩
theorem fq_X6_39_6 : FQ RX6 39 6 9 (.array .int) := ⟨"DrawnList$Roll", RX6, TX6, 15, tyX6, rfl, inW6, by decide, m125, Or.inl rfl, tyX6_ok, nmX6, Or.inr ⟨rfl, rfl⟩, by decide +kernel⟩
theorem cdi_X11_9 : CDI RX11 9 yX6_init cX6_init 1 0 := ⟨m95, m67, Or.inr ⟨"DrawnList", m93⟩, rfl, m94, ⟨by decide, by decide, by decide +kernel⟩⟩
theorem fq_X11_10_11 : FQ RX11 10 10 0 (.object "DrawnList$Roll") := ⟨"DrawnList", RX11, TX11, 9, tyX11, rfl, inW11, by decide, m415, Or.inl rfl, tyX11_ok, nmX11, Or.inr ⟨rfl, rfl⟩, by decide +kernel⟩
theorem fq_X0_9_0 : FQ RX0 9 0 1 (.array .int) := ⟨"DrawnList$Answers", RX0, TX0, 7, tyX0, rfl, inW0, by decide, m184, Or.inl rfl, tyX0_ok, nmX0, Or.inr ⟨rfl, rfl⟩, by decide +kernel⟩
theorem fq_X0_15_0 : FQ RX0 15 0 2 (.array .int) := ⟨"DrawnList$Answers", RX0, TX0, 7, tyX0, rfl, inW0, by decide, m185, Or.inl rfl, tyX0_ok, nmX0, Or.inr ⟨rfl, rfl⟩, by decide +kernel⟩
theorem fq_X0_18_0 : FQ RX0 18 0 3 (.array .int) := ⟨"DrawnList$Answers", RX0, TX0, 7, tyX0, rfl, inW0, by decide, m186, Or.inl rfl, tyX0_ok, nmX0, Or.inr ⟨rfl, rfl⟩, by decide +kernel⟩
theorem fq_X0_21_0 : FQ RX0 21 0 4 (.array .int) := ⟨"DrawnList$Answers", RX0, TX0, 7, tyX0, rfl, inW0, by decide, m187, Or.inl rfl, tyX0_ok, nmX0, Or.inr ⟨rfl, rfl⟩, by decide +kernel⟩
theorem fq_X0_24_0 : FQ RX0 24 0 6 .int := ⟨"DrawnList$Answers", RX0, TX0, 7, tyX0, rfl, inW0, by decide, m190, Or.inl rfl, tyX0_ok, nmX0, Or.inl rfl, by decide +kernel⟩
theorem fq_X0_28_0 : FQ RX0 28 0 0 (.object "DrawnList$Roll") := ⟨"DrawnList$Answers", RX0, TX0, 7, tyX0, rfl, inW0, by decide, m183, Or.inl rfl, tyX0_ok, nmX0, Or.inr ⟨rfl, rfl⟩, by decide +kernel⟩
theorem cdi_X11_18 : CDI RX11 18 yX0_init cX0_init 2 1 := ⟨m181, m68, Or.inl m179, rfl, m180, ⟨by decide, by decide, by decide +kernel⟩⟩
theorem fq_X11_21_11 : FQ RX11 21 10 1 (.object "DrawnList$Answers") := ⟨"DrawnList", RX11, TX11, 9, tyX11, rfl, inW11, by decide, m416, Or.inl rfl, tyX11_ok, nmX11, Or.inr ⟨rfl, rfl⟩, by decide +kernel⟩
theorem fq_X11_27_11 : FQ RX11 27 10 2 (.array (.object "DrawnList$Plan")) := ⟨"DrawnList", RX11, TX11, 9, tyX11, rfl, inW11, by decide, m417, Or.inl rfl, tyX11_ok, nmX11, Or.inr ⟨rfl, rfl⟩, by decide +kernel⟩
theorem fq_X11_33_11 : FQ RX11 33 10 3 (.array (.object "DrawnList$Sheet")) := ⟨"DrawnList", RX11, TX11, 9, tyX11, rfl, inW11, by decide, m418, Or.inl rfl, tyX11_ok, nmX11, Or.inr ⟨rfl, rfl⟩, by decide +kernel⟩
theorem fq_X10_9_10 : FQ RX10 9 9 1 (.array .int) := ⟨"DrawnList$Weights", RX10, TX10, 6, tyX10, rfl, inW10, by decide, m234, Or.inl rfl, tyX10_ok, nmX10, Or.inr ⟨rfl, rfl⟩, by decide +kernel⟩
theorem fq_X10_15_10 : FQ RX10 15 9 2 (.array .int) := ⟨"DrawnList$Weights", RX10, TX10, 6, tyX10, rfl, inW10, by decide, m236, Or.inl rfl, tyX10_ok, nmX10, Or.inr ⟨rfl, rfl⟩, by decide +kernel⟩
theorem fq_X10_18_10 : FQ RX10 18 9 3 (.array .int) := ⟨"DrawnList$Weights", RX10, TX10, 6, tyX10, rfl, inW10, by decide, m238, Or.inl rfl, tyX10_ok, nmX10, Or.inr ⟨rfl, rfl⟩, by decide +kernel⟩
theorem fq_X10_21_10 : FQ RX10 21 9 4 (.array .long) := ⟨"DrawnList$Weights", RX10, TX10, 6, tyX10, rfl, inW10, by decide, m240, Or.inl rfl, tyX10_ok, nmX10, Or.inr ⟨rfl, rfl⟩, by decide +kernel⟩
theorem fq_X1_7_1 : FQ RX1 7 1 0 .long := ⟨"DrawnList$Fraction", RX1, TX1, 2, tyX1, rfl, inW1, by decide, m223, Or.inl rfl, tyX1_ok, nmX1, Or.inl rfl, by decide +kernel⟩
theorem fq_X1_13_1 : FQ RX1 13 1 1 .long := ⟨"DrawnList$Fraction", RX1, TX1, 2, tyX1, rfl, inW1, by decide, m225, Or.inl rfl, tyX1_ok, nmX1, Or.inl rfl, by decide +kernel⟩
theorem cdi_X10_27 : CDI RX10 27 yX1_init cX1_init 1 0 := ⟨m221, m70, Or.inr ⟨"DrawnList", m219⟩, rfl, m220, ⟨by decide, by decide, by decide +kernel⟩⟩
theorem fq_X10_28_10 : FQ RX10 28 9 5 (.object "DrawnList$Fraction") := ⟨"DrawnList$Weights", RX10, TX10, 6, tyX10, rfl, inW10, by decide, m241, Or.inl rfl, tyX10_ok, nmX10, Or.inr ⟨rfl, rfl⟩, by decide +kernel⟩
theorem fq_X10_32_10 : FQ RX10 32 9 0 (.object "DrawnList$Roll") := ⟨"DrawnList$Weights", RX10, TX10, 6, tyX10, rfl, inW10, by decide, m233, Or.inl rfl, tyX10_ok, nmX10, Or.inr ⟨rfl, rfl⟩, by decide +kernel⟩
theorem cdi_X11_39 : CDI RX11 39 yX10_init cX10_init 2 1 := ⟨m215, m69, Or.inl m213, rfl, m214, ⟨by decide, by decide, by decide +kernel⟩⟩
theorem fq_X11_40_11 : FQ RX11 40 10 4 (.object "DrawnList$Weights") := ⟨"DrawnList", RX11, TX11, 9, tyX11, rfl, inW11, by decide, m419, Or.inl rfl, tyX11_ok, nmX11, Or.inr ⟨rfl, rfl⟩, by decide +kernel⟩
theorem fq_X3_9_3 : FQ RX3 9 3 1 (.array .int) := ⟨"DrawnList$Journey", RX3, TX3, 7, tyX3, rfl, inW3, by decide, m264, Or.inl rfl, tyX3_ok, nmX3, Or.inr ⟨rfl, rfl⟩, by decide +kernel⟩
theorem fq_X3_15_3 : FQ RX3 15 3 2 (.array .int) := ⟨"DrawnList$Journey", RX3, TX3, 7, tyX3, rfl, inW3, by decide, m266, Or.inl rfl, tyX3_ok, nmX3, Or.inr ⟨rfl, rfl⟩, by decide +kernel⟩
theorem cdi_X3_20 : CDI RX3 20 yX1_init cX1_init 1 0 := ⟨m221, m70, Or.inr ⟨"DrawnList", m262⟩, rfl, m220, ⟨by decide, by decide, by decide +kernel⟩⟩
theorem fq_X3_21_3 : FQ RX3 21 3 3 (.object "DrawnList$Fraction") := ⟨"DrawnList$Journey", RX3, TX3, 7, tyX3, rfl, inW3, by decide, m267, Or.inl rfl, tyX3_ok, nmX3, Or.inr ⟨rfl, rfl⟩, by decide +kernel⟩
theorem fq_X3_25_3 : FQ RX3 25 3 0 (.object "DrawnList$Roll") := ⟨"DrawnList$Journey", RX3, TX3, 7, tyX3, rfl, inW3, by decide, m263, Or.inl rfl, tyX3_ok, nmX3, Or.inr ⟨rfl, rfl⟩, by decide +kernel⟩
theorem cdi_X11_46 : CDI RX11 46 yX3_init cX3_init 3 1 := ⟨m259, m71, Or.inl m257, rfl, m258, ⟨by decide, by decide, by decide +kernel⟩⟩
theorem fq_X11_47_11 : FQ RX11 47 10 5 (.object "DrawnList$Journey") := ⟨"DrawnList", RX11, TX11, 9, tyX11, rfl, inW11, by decide, m420, Or.inl rfl, tyX11_ok, nmX11, Or.inr ⟨rfl, rfl⟩, by decide +kernel⟩
theorem cdi_X11_53 : CDI RX11 53 yX1_init cX1_init 1 0 := ⟨m221, m70, Or.inr ⟨"DrawnList", m290⟩, rfl, m220, ⟨by decide, by decide, by decide +kernel⟩⟩
theorem fq_X11_54_11 : FQ RX11 54 10 6 (.object "DrawnList$Fraction") := ⟨"DrawnList", RX11, TX11, 9, tyX11, rfl, inW11, by decide, m421, Or.inl rfl, tyX11_ok, nmX11, Or.inr ⟨rfl, rfl⟩, by decide +kernel⟩
theorem fq_X11_58_11 : FQ RX11 58 10 7 (.object "DrawnList$Fraction") := ⟨"DrawnList", RX11, TX11, 9, tyX11, rfl, inW11, by decide, m422, Or.inl rfl, tyX11_ok, nmX11, Or.inr ⟨rfl, rfl⟩, by decide +kernel⟩
theorem fq_X5_9_5 : FQ RX5 9 5 0 (.array .int) := ⟨"DrawnList$Plan", RX5, TX5, 10, tyX5, rfl, inW5, by decide, m360, Or.inl rfl, tyX5_ok, nmX5, Or.inr ⟨rfl, rfl⟩, by decide +kernel⟩
theorem fq_X5_15_5 : FQ RX5 15 5 1 (.array .int) := ⟨"DrawnList$Plan", RX5, TX5, 10, tyX5, rfl, inW5, by decide, m361, Or.inl rfl, tyX5_ok, nmX5, Or.inr ⟨rfl, rfl⟩, by decide +kernel⟩
theorem fq_X9_9_2 : FQ RX9 9 2 0 (.object "DrawnList$Roll") := ⟨"DrawnList$Way", RX2, TX2, 5, tyX2, rfl, inW2, by decide, m307, Or.inl rfl, tyX2_ok, nmX2, Or.inr ⟨rfl, rfl⟩, by decide +kernel⟩
theorem fq_X9_15_2 : FQ RX9 15 2 1 (.array .int) := ⟨"DrawnList$Way", RX2, TX2, 5, tyX2, rfl, inW2, by decide, m314, Or.inl rfl, tyX2_ok, nmX2, Or.inr ⟨rfl, rfl⟩, by decide +kernel⟩
theorem cdi_X2_3 : CDI RX2 3 yX9_init cX9_init 3 2 := ⟨m303, m73, Or.inl m301, rfl, m302, ⟨by decide, by decide, by decide +kernel⟩⟩
theorem fq_X2_9_2 : FQ RX2 9 2 3 .boolean := ⟨"DrawnList$GroupWay", RX2, TX2, 5, tyX2, rfl, inW2, by decide, m305, Or.inl rfl, tyX2_ok, nmX2, Or.inr ⟨rfl, rfl⟩, by decide +kernel⟩
theorem fq_X2_15_2 : FQ RX2 15 2 4 .int := ⟨"DrawnList$GroupWay", RX2, TX2, 5, tyX2, rfl, inW2, by decide, m306, Or.inl rfl, tyX2_ok, nmX2, Or.inr ⟨rfl, rfl⟩, by decide +kernel⟩
theorem cdi_X5_20 : CDI RX5 20 yX2_init cX2_init 4 3 := ⟨m300, m74, Or.inl m298, rfl, m299, ⟨by decide, by decide, by decide +kernel⟩⟩
theorem fq_X5_23_5 : FQ RX5 23 5 2 (.object "DrawnList$Way") := ⟨"DrawnList$Plan", RX5, TX5, 10, tyX5, rfl, inW5, by decide, m362, Or.inl rfl, tyX5_ok, nmX5, Or.inr ⟨rfl, rfl⟩, by decide +kernel⟩
theorem fq_X5_27_5 : FQ RX5 27 5 3 (.object "DrawnList$Way") := ⟨"DrawnList$Plan", RX5, TX5, 10, tyX5, rfl, inW5, by decide, m363, Or.inl rfl, tyX5_ok, nmX5, Or.inr ⟨rfl, rfl⟩, by decide +kernel⟩
theorem fq_X9_9_4 : FQ RX9 9 4 0 (.object "DrawnList$Roll") := ⟨"DrawnList$Way", RX4, TX4, 4, tyX4, rfl, inW4, by decide, m307, Or.inl rfl, tyX4_ok, nmX4, Or.inr ⟨rfl, rfl⟩, by decide +kernel⟩
theorem fq_X9_15_4 : FQ RX9 15 4 1 (.array .int) := ⟨"DrawnList$Way", RX4, TX4, 4, tyX4, rfl, inW4, by decide, m314, Or.inl rfl, tyX4_ok, nmX4, Or.inr ⟨rfl, rfl⟩, by decide +kernel⟩
theorem cdi_X4_3 : CDI RX4 3 yX9_init cX9_init 3 2 := ⟨m303, m73, Or.inl m339, rfl, m302, ⟨by decide, by decide, by decide +kernel⟩⟩
theorem fq_X4_9_4 : FQ RX4 9 4 3 .boolean := ⟨"DrawnList$LineWay", RX4, TX4, 4, tyX4, rfl, inW4, by decide, m340, Or.inl rfl, tyX4_ok, nmX4, Or.inr ⟨rfl, rfl⟩, by decide +kernel⟩
theorem cdi_X5_32 : CDI RX5 32 yX4_init cX4_init 4 3 := ⟨m338, m75, Or.inl m336, rfl, m337, ⟨by decide, by decide, by decide +kernel⟩⟩
theorem fq_X5_33_5 : FQ RX5 33 5 4 (.object "DrawnList$Way") := ⟨"DrawnList$Plan", RX5, TX5, 10, tyX5, rfl, inW5, by decide, m364, Or.inl rfl, tyX5_ok, nmX5, Or.inr ⟨rfl, rfl⟩, by decide +kernel⟩
theorem fq_X5_36_5 : FQ RX5 36 5 5 (.object "DrawnList$Way") := ⟨"DrawnList$Plan", RX5, TX5, 10, tyX5, rfl, inW5, by decide, m365, Or.inl rfl, tyX5_ok, nmX5, Or.inr ⟨rfl, rfl⟩, by decide +kernel⟩
theorem fq_X9_9_8 : FQ RX9 9 8 0 (.object "DrawnList$Roll") := ⟨"DrawnList$Way", RX8, TX8, 4, tyX8, rfl, inW8, by decide, m307, Or.inl rfl, tyX8_ok, nmX8, Or.inr ⟨rfl, rfl⟩, by decide +kernel⟩
theorem fq_X9_15_8 : FQ RX9 15 8 1 (.array .int) := ⟨"DrawnList$Way", RX8, TX8, 4, tyX8, rfl, inW8, by decide, m314, Or.inl rfl, tyX8_ok, nmX8, Or.inr ⟨rfl, rfl⟩, by decide +kernel⟩
theorem cdi_X8_3 : CDI RX8 3 yX9_init cX9_init 3 2 := ⟨m303, m73, Or.inl m352, rfl, m302, ⟨by decide, by decide, by decide +kernel⟩⟩
theorem fq_X8_9_8 : FQ RX8 9 8 3 (.array .long) := ⟨"DrawnList$StepWay", RX8, TX8, 4, tyX8, rfl, inW8, by decide, m353, Or.inl rfl, tyX8_ok, nmX8, Or.inr ⟨rfl, rfl⟩, by decide +kernel⟩
theorem cdi_X5_41 : CDI RX5 41 yX8_init cX8_init 3 2 := ⟨m351, m76, Or.inl m349, rfl, m350, ⟨by decide, by decide, by decide +kernel⟩⟩
theorem fq_X5_44_5 : FQ RX5 44 5 6 (.object "DrawnList$Way") := ⟨"DrawnList$Plan", RX5, TX5, 10, tyX5, rfl, inW5, by decide, m366, Or.inl rfl, tyX5_ok, nmX5, Or.inr ⟨rfl, rfl⟩, by decide +kernel⟩
theorem cdi_X11_61 : CDI RX11 61 yX5_init cX5_init 2 1 := ⟨m294, m72, Or.inl m292, rfl, m293, ⟨by decide, by decide, by decide +kernel⟩⟩
theorem fq_X7_9_7 : FQ RX7 9 7 0 (.array .int) := ⟨"DrawnList$Sheet", RX7, TX7, 4, tyX7, rfl, inW7, by decide, m398, Or.inl rfl, tyX7_ok, nmX7, Or.inr ⟨rfl, rfl⟩, by decide +kernel⟩
theorem fq_X7_15_7 : FQ RX7 15 7 1 .boolean := ⟨"DrawnList$Sheet", RX7, TX7, 4, tyX7, rfl, inW7, by decide, m400, Or.inl rfl, tyX7_ok, nmX7, Or.inl rfl, by decide +kernel⟩
theorem cdi_X11_62 : CDI RX11 62 yX7_init cX7_init 1 0 := ⟨m396, m77, Or.inr ⟨"DrawnList", m394⟩, rfl, m395, ⟨by decide, by decide, by decide +kernel⟩⟩
theorem fq_X12_7_12 : FQ RX12 7 11 0 (.array .int) := ⟨"DrawnListModel", RX12, TX12, 36, tyX12, rfl, inW12, by decide, m1027, Or.inl rfl, tyX12_ok, nmX12, Or.inr ⟨rfl, rfl⟩, by decide +kernel⟩
theorem fq_X12_13_12 : FQ RX12 13 11 1 (.array .int) := ⟨"DrawnListModel", RX12, TX12, 36, tyX12, rfl, inW12, by decide, m1028, Or.inl rfl, tyX12_ok, nmX12, Or.inr ⟨rfl, rfl⟩, by decide +kernel⟩
theorem fq_X12_16_12 : FQ RX12 16 11 2 (.array .int) := ⟨"DrawnListModel", RX12, TX12, 36, tyX12, rfl, inW12, by decide, m1029, Or.inl rfl, tyX12_ok, nmX12, Or.inr ⟨rfl, rfl⟩, by decide +kernel⟩
theorem fq_X12_19_12 : FQ RX12 19 11 3 (.array .int) := ⟨"DrawnListModel", RX12, TX12, 36, tyX12, rfl, inW12, by decide, m1030, Or.inl rfl, tyX12_ok, nmX12, Or.inr ⟨rfl, rfl⟩, by decide +kernel⟩
theorem fq_X12_22_12 : FQ RX12 22 11 6 (.array .int) := ⟨"DrawnListModel", RX12, TX12, 36, tyX12, rfl, inW12, by decide, m1033, Or.inl rfl, tyX12_ok, nmX12, Or.inr ⟨rfl, rfl⟩, by decide +kernel⟩
theorem fq_X12_25_12 : FQ RX12 25 11 7 (.array .int) := ⟨"DrawnListModel", RX12, TX12, 36, tyX12, rfl, inW12, by decide, m1034, Or.inl rfl, tyX12_ok, nmX12, Or.inr ⟨rfl, rfl⟩, by decide +kernel⟩
theorem fq_X12_28_12 : FQ RX12 28 11 8 (.array .int) := ⟨"DrawnListModel", RX12, TX12, 36, tyX12, rfl, inW12, by decide, m1035, Or.inl rfl, tyX12_ok, nmX12, Or.inr ⟨rfl, rfl⟩, by decide +kernel⟩
theorem fq_X12_31_12 : FQ RX12 31 11 9 (.array .int) := ⟨"DrawnListModel", RX12, TX12, 36, tyX12, rfl, inW12, by decide, m1036, Or.inl rfl, tyX12_ok, nmX12, Or.inr ⟨rfl, rfl⟩, by decide +kernel⟩
theorem fq_X12_34_12 : FQ RX12 34 11 11 (.array .int) := ⟨"DrawnListModel", RX12, TX12, 36, tyX12, rfl, inW12, by decide, m1038, Or.inl rfl, tyX12_ok, nmX12, Or.inr ⟨rfl, rfl⟩, by decide +kernel⟩
theorem fq_X12_37_12 : FQ RX12 37 11 12 (.array .int) := ⟨"DrawnListModel", RX12, TX12, 36, tyX12, rfl, inW12, by decide, m1039, Or.inl rfl, tyX12_ok, nmX12, Or.inr ⟨rfl, rfl⟩, by decide +kernel⟩
theorem fq_X12_40_12 : FQ RX12 40 11 13 (.array .int) := ⟨"DrawnListModel", RX12, TX12, 36, tyX12, rfl, inW12, by decide, m1040, Or.inl rfl, tyX12_ok, nmX12, Or.inr ⟨rfl, rfl⟩, by decide +kernel⟩
theorem fq_X12_43_12 : FQ RX12 43 11 14 .int := ⟨"DrawnListModel", RX12, TX12, 36, tyX12, rfl, inW12, by decide, m1041, Or.inl rfl, tyX12_ok, nmX12, Or.inl rfl, by decide +kernel⟩
theorem fq_X12_47_12 : FQ RX12 47 11 15 (.array .int) := ⟨"DrawnListModel", RX12, TX12, 36, tyX12, rfl, inW12, by decide, m1042, Or.inl rfl, tyX12_ok, nmX12, Or.inr ⟨rfl, rfl⟩, by decide +kernel⟩
theorem fq_X12_50_12 : FQ RX12 50 11 16 (.array .int) := ⟨"DrawnListModel", RX12, TX12, 36, tyX12, rfl, inW12, by decide, m1043, Or.inl rfl, tyX12_ok, nmX12, Or.inr ⟨rfl, rfl⟩, by decide +kernel⟩
theorem fq_X12_53_12 : FQ RX12 53 11 18 (.array .int) := ⟨"DrawnListModel", RX12, TX12, 36, tyX12, rfl, inW12, by decide, m1045, Or.inl rfl, tyX12_ok, nmX12, Or.inr ⟨rfl, rfl⟩, by decide +kernel⟩
theorem fq_X12_56_12 : FQ RX12 56 11 22 (.array .int) := ⟨"DrawnListModel", RX12, TX12, 36, tyX12, rfl, inW12, by decide, m1049, Or.inl rfl, tyX12_ok, nmX12, Or.inr ⟨rfl, rfl⟩, by decide +kernel⟩
theorem fq_X12_59_12 : FQ RX12 59 11 23 (.array .long) := ⟨"DrawnListModel", RX12, TX12, 36, tyX12, rfl, inW12, by decide, m1050, Or.inl rfl, tyX12_ok, nmX12, Or.inr ⟨rfl, rfl⟩, by decide +kernel⟩
theorem fq_X12_63_12 : FQ RX12 63 11 29 (.array .int) := ⟨"DrawnListModel", RX12, TX12, 36, tyX12, rfl, inW12, by decide, m1056, Or.inl rfl, tyX12_ok, nmX12, Or.inr ⟨rfl, rfl⟩, by decide +kernel⟩
theorem fq_X12_66_12 : FQ RX12 66 11 30 (.array .int) := ⟨"DrawnListModel", RX12, TX12, 36, tyX12, rfl, inW12, by decide, m1057, Or.inl rfl, tyX12_ok, nmX12, Or.inr ⟨rfl, rfl⟩, by decide +kernel⟩
theorem fq_X12_69_12 : FQ RX12 69 11 31 (.array .long) := ⟨"DrawnListModel", RX12, TX12, 36, tyX12, rfl, inW12, by decide, m1058, Or.inl rfl, tyX12_ok, nmX12, Or.inr ⟨rfl, rfl⟩, by decide +kernel⟩
theorem fq_X12_72_12 : FQ RX12 72 11 32 (.array .boolean) := ⟨"DrawnListModel", RX12, TX12, 36, tyX12, rfl, inW12, by decide, m1059, Or.inl rfl, tyX12_ok, nmX12, Or.inr ⟨rfl, rfl⟩, by decide +kernel⟩
theorem fq_X12_76_12 : FQ RX12 76 11 33 (.array .long) := ⟨"DrawnListModel", RX12, TX12, 36, tyX12, rfl, inW12, by decide, m1060, Or.inl rfl, tyX12_ok, nmX12, Or.inr ⟨rfl, rfl⟩, by decide +kernel⟩
theorem fq_X12_79_12 : FQ RX12 79 11 34 (.array .int) := ⟨"DrawnListModel", RX12, TX12, 36, tyX12, rfl, inW12, by decide, m1061, Or.inl rfl, tyX12_ok, nmX12, Or.inr ⟨rfl, rfl⟩, by decide +kernel⟩
theorem fq_X12_82_12 : FQ RX12 82 11 35 (.array .long) := ⟨"DrawnListModel", RX12, TX12, 36, tyX12, rfl, inW12, by decide, m1062, Or.inl rfl, tyX12_ok, nmX12, Or.inr ⟨rfl, rfl⟩, by decide +kernel⟩
abbrev rm_k_X6_init : Room := { frames := 1, cells := 10, slots := 795, locals := 22 }
set_option maxRecDepth 100000 in
set_option maxHeartbeats 8000000 in
theorem k_X6_init {l : Launch} {D : va_G} {ks : Nat → ClassId} (h0  : Nat) : MI l yX6_init cX6_init 1 rm_k_X6_init D ks [(h0, .inr (6, [.null, .null, .null, .null, .null, .null, .null, .null, .null, .null, .int 0, .int 0, .int 0, .int 0, .int 0]))] (fun q => [(h0, .inr (6, [.ref (q 0), .ref (q 1), .ref (q 2), .ref (q 3), .ref (q 4), .ref (q 5), .ref (q 6), .ref (q 7), .ref (q 8), .ref (q 9), .int 0, .int 0, .int 0, .int 0, .int 0])), ((q 0), .inl (ks 0, 30, .inl (fun _ => 0))), ((q 1), .inl (ks 0, 30, .inl (fun _ => 0))), ((q 2), .inl (ks 0, 30, .inl (fun _ => 0))), ((q 3), .inl (ks 0, 30, .inl (fun _ => 0))), ((q 4), .inl (ks 0, 30, .inl (fun _ => 0))), ((q 5), .inl (ks 0, 4, .inl (fun _ => 0))), ((q 6), .inl (ks 0, 8, .inl (fun _ => 0))), ((q 7), .inl (ks 0, 3, .inl (fun _ => 0))), ((q 8), .inl (ks 0, 30, .inl (fun _ => 0))), ((q 9), .inl (ks 0, 600, .inl (fun _ => 0)))]) [.ref h0] 10 795 := by
  refine mi_of (by decide) rfl (Nat.le_of_ble_eq_true rfl) ?_
  intro sz p e s m args below meth c X hr hin
  refine w_aload_n 1 X 0 dX6_init_0 rfl rfl ?_
  refine w_obj 4 X m96 ⟨Nat.le_of_ble_eq_true rfl, Nat.le_of_ble_eq_true rfl⟩ dX6_init_1 rfl ?_
  refine w_aload_n 5 X 0 dX6_init_4 rfl rfl ?_
  refine w_bipush 7 X dX6_init_5 bp30 rfl ?_
  refine w_newa_int 9 X 30 (by decide) (by decide) (by decide) ⟨Nat.le_of_ble_eq_true rfl, Nat.le_of_ble_eq_true rfl⟩ dX6_init_7 rfl (fun q1 => ?_)
  refine GW.eq (w2 := [(h0, .inr (6, [.null, .null, .null, .null, .null, .null, .null, .null, .null, .null, .int 0, .int 0, .int 0, .int 0, .int 0])), (q1, .inl (ks 0, 30, .inl (fun _ => 0)))]) rfl ?_
  refine w_put 12 X 0 rfl fq_X6_9_6 hin (Nat.le_of_ble_eq_true rfl) rfl rfl dX6_init_9 rfl ?_
  refine GW.eq (w2 := [(h0, .inr (6, [.ref q1, .null, .null, .null, .null, .null, .null, .null, .null, .null, .int 0, .int 0, .int 0, .int 0, .int 0])), (q1, .inl (ks 0, 30, .inl (fun _ => 0)))]) rfl ?_
  refine w_aload_n 13 X 0 dX6_init_12 rfl rfl ?_
  refine w_bipush 15 X dX6_init_13 bp30 rfl ?_
  refine w_newa_int 17 X 30 (by decide) (by decide) (by decide) ⟨Nat.le_of_ble_eq_true rfl, Nat.le_of_ble_eq_true rfl⟩ dX6_init_15 rfl (fun q2 => ?_)
  refine GW.eq (w2 := [(h0, .inr (6, [.ref q1, .null, .null, .null, .null, .null, .null, .null, .null, .null, .int 0, .int 0, .int 0, .int 0, .int 0])), (q1, .inl (ks 0, 30, .inl (fun _ => 0))), (q2, .inl (ks 0, 30, .inl (fun _ => 0)))]) rfl ?_
  refine w_put 20 X 0 rfl fq_X6_15_6 hin (Nat.le_of_ble_eq_true rfl) rfl rfl dX6_init_17 rfl ?_
  refine GW.eq (w2 := [(h0, .inr (6, [.ref q1, .ref q2, .null, .null, .null, .null, .null, .null, .null, .null, .int 0, .int 0, .int 0, .int 0, .int 0])), (q1, .inl (ks 0, 30, .inl (fun _ => 0))), (q2, .inl (ks 0, 30, .inl (fun _ => 0)))]) rfl ?_
  refine w_aload_n 21 X 0 dX6_init_20 rfl rfl ?_
  refine w_bipush 23 X dX6_init_21 bp30 rfl ?_
  refine w_newa_int 25 X 30 (by decide) (by decide) (by decide) ⟨Nat.le_of_ble_eq_true rfl, Nat.le_of_ble_eq_true rfl⟩ dX6_init_23 rfl (fun q3 => ?_)
  refine GW.eq (w2 := [(h0, .inr (6, [.ref q1, .ref q2, .null, .null, .null, .null, .null, .null, .null, .null, .int 0, .int 0, .int 0, .int 0, .int 0])), (q1, .inl (ks 0, 30, .inl (fun _ => 0))), (q2, .inl (ks 0, 30, .inl (fun _ => 0))), (q3, .inl (ks 0, 30, .inl (fun _ => 0)))]) rfl ?_
  refine w_put 28 X 0 rfl fq_X6_18_6 hin (Nat.le_of_ble_eq_true rfl) rfl rfl dX6_init_25 rfl ?_
  refine GW.eq (w2 := [(h0, .inr (6, [.ref q1, .ref q2, .ref q3, .null, .null, .null, .null, .null, .null, .null, .int 0, .int 0, .int 0, .int 0, .int 0])), (q1, .inl (ks 0, 30, .inl (fun _ => 0))), (q2, .inl (ks 0, 30, .inl (fun _ => 0))), (q3, .inl (ks 0, 30, .inl (fun _ => 0)))]) rfl ?_
  refine w_aload_n 29 X 0 dX6_init_28 rfl rfl ?_
  refine w_bipush 31 X dX6_init_29 bp30 rfl ?_
  refine w_newa_int 33 X 30 (by decide) (by decide) (by decide) ⟨Nat.le_of_ble_eq_true rfl, Nat.le_of_ble_eq_true rfl⟩ dX6_init_31 rfl (fun q4 => ?_)
  refine GW.eq (w2 := [(h0, .inr (6, [.ref q1, .ref q2, .ref q3, .null, .null, .null, .null, .null, .null, .null, .int 0, .int 0, .int 0, .int 0, .int 0])), (q1, .inl (ks 0, 30, .inl (fun _ => 0))), (q2, .inl (ks 0, 30, .inl (fun _ => 0))), (q3, .inl (ks 0, 30, .inl (fun _ => 0))), (q4, .inl (ks 0, 30, .inl (fun _ => 0)))]) rfl ?_
  refine w_put 36 X 0 rfl fq_X6_21_6 hin (Nat.le_of_ble_eq_true rfl) rfl rfl dX6_init_33 rfl ?_
  refine GW.eq (w2 := [(h0, .inr (6, [.ref q1, .ref q2, .ref q3, .ref q4, .null, .null, .null, .null, .null, .null, .int 0, .int 0, .int 0, .int 0, .int 0])), (q1, .inl (ks 0, 30, .inl (fun _ => 0))), (q2, .inl (ks 0, 30, .inl (fun _ => 0))), (q3, .inl (ks 0, 30, .inl (fun _ => 0))), (q4, .inl (ks 0, 30, .inl (fun _ => 0)))]) rfl ?_
  refine w_aload_n 37 X 0 dX6_init_36 rfl rfl ?_
  refine w_bipush 39 X dX6_init_37 bp30 rfl ?_
  refine w_newa_int 41 X 30 (by decide) (by decide) (by decide) ⟨Nat.le_of_ble_eq_true rfl, Nat.le_of_ble_eq_true rfl⟩ dX6_init_39 rfl (fun q5 => ?_)
  refine GW.eq (w2 := [(h0, .inr (6, [.ref q1, .ref q2, .ref q3, .ref q4, .null, .null, .null, .null, .null, .null, .int 0, .int 0, .int 0, .int 0, .int 0])), (q1, .inl (ks 0, 30, .inl (fun _ => 0))), (q2, .inl (ks 0, 30, .inl (fun _ => 0))), (q3, .inl (ks 0, 30, .inl (fun _ => 0))), (q4, .inl (ks 0, 30, .inl (fun _ => 0))), (q5, .inl (ks 0, 30, .inl (fun _ => 0)))]) rfl ?_
  refine w_put 44 X 0 rfl fq_X6_24_6 hin (Nat.le_of_ble_eq_true rfl) rfl rfl dX6_init_41 rfl ?_
  refine GW.eq (w2 := [(h0, .inr (6, [.ref q1, .ref q2, .ref q3, .ref q4, .ref q5, .null, .null, .null, .null, .null, .int 0, .int 0, .int 0, .int 0, .int 0])), (q1, .inl (ks 0, 30, .inl (fun _ => 0))), (q2, .inl (ks 0, 30, .inl (fun _ => 0))), (q3, .inl (ks 0, 30, .inl (fun _ => 0))), (q4, .inl (ks 0, 30, .inl (fun _ => 0))), (q5, .inl (ks 0, 30, .inl (fun _ => 0)))]) rfl ?_
  refine w_aload_n 45 X 0 dX6_init_44 rfl rfl ?_
  refine w_iconst 46 X dX6_init_45 ic4 rfl ?_
  refine w_newa_int 48 X 4 (by decide) (by decide) (by decide) ⟨Nat.le_of_ble_eq_true rfl, Nat.le_of_ble_eq_true rfl⟩ dX6_init_46 rfl (fun q6 => ?_)
  refine GW.eq (w2 := [(h0, .inr (6, [.ref q1, .ref q2, .ref q3, .ref q4, .ref q5, .null, .null, .null, .null, .null, .int 0, .int 0, .int 0, .int 0, .int 0])), (q1, .inl (ks 0, 30, .inl (fun _ => 0))), (q2, .inl (ks 0, 30, .inl (fun _ => 0))), (q3, .inl (ks 0, 30, .inl (fun _ => 0))), (q4, .inl (ks 0, 30, .inl (fun _ => 0))), (q5, .inl (ks 0, 30, .inl (fun _ => 0))), (q6, .inl (ks 0, 4, .inl (fun _ => 0)))]) rfl ?_
  refine w_put 51 X 0 rfl fq_X6_27_6 hin (Nat.le_of_ble_eq_true rfl) rfl rfl dX6_init_48 rfl ?_
  refine GW.eq (w2 := [(h0, .inr (6, [.ref q1, .ref q2, .ref q3, .ref q4, .ref q5, .ref q6, .null, .null, .null, .null, .int 0, .int 0, .int 0, .int 0, .int 0])), (q1, .inl (ks 0, 30, .inl (fun _ => 0))), (q2, .inl (ks 0, 30, .inl (fun _ => 0))), (q3, .inl (ks 0, 30, .inl (fun _ => 0))), (q4, .inl (ks 0, 30, .inl (fun _ => 0))), (q5, .inl (ks 0, 30, .inl (fun _ => 0))), (q6, .inl (ks 0, 4, .inl (fun _ => 0)))]) rfl ?_
  refine w_aload_n 52 X 0 dX6_init_51 rfl rfl ?_
  refine w_bipush 54 X dX6_init_52 bp8 rfl ?_
  refine w_newa_int 56 X 8 (by decide) (by decide) (by decide) ⟨Nat.le_of_ble_eq_true rfl, Nat.le_of_ble_eq_true rfl⟩ dX6_init_54 rfl (fun q7 => ?_)
  refine GW.eq (w2 := [(h0, .inr (6, [.ref q1, .ref q2, .ref q3, .ref q4, .ref q5, .ref q6, .null, .null, .null, .null, .int 0, .int 0, .int 0, .int 0, .int 0])), (q1, .inl (ks 0, 30, .inl (fun _ => 0))), (q2, .inl (ks 0, 30, .inl (fun _ => 0))), (q3, .inl (ks 0, 30, .inl (fun _ => 0))), (q4, .inl (ks 0, 30, .inl (fun _ => 0))), (q5, .inl (ks 0, 30, .inl (fun _ => 0))), (q6, .inl (ks 0, 4, .inl (fun _ => 0))), (q7, .inl (ks 0, 8, .inl (fun _ => 0)))]) rfl ?_
  refine w_put 59 X 0 rfl fq_X6_30_6 hin (Nat.le_of_ble_eq_true rfl) rfl rfl dX6_init_56 rfl ?_
  refine GW.eq (w2 := [(h0, .inr (6, [.ref q1, .ref q2, .ref q3, .ref q4, .ref q5, .ref q6, .ref q7, .null, .null, .null, .int 0, .int 0, .int 0, .int 0, .int 0])), (q1, .inl (ks 0, 30, .inl (fun _ => 0))), (q2, .inl (ks 0, 30, .inl (fun _ => 0))), (q3, .inl (ks 0, 30, .inl (fun _ => 0))), (q4, .inl (ks 0, 30, .inl (fun _ => 0))), (q5, .inl (ks 0, 30, .inl (fun _ => 0))), (q6, .inl (ks 0, 4, .inl (fun _ => 0))), (q7, .inl (ks 0, 8, .inl (fun _ => 0)))]) rfl ?_
  refine w_aload_n 60 X 0 dX6_init_59 rfl rfl ?_
  refine w_iconst 61 X dX6_init_60 ic3 rfl ?_
  refine w_newa_int 63 X 3 (by decide) (by decide) (by decide) ⟨Nat.le_of_ble_eq_true rfl, Nat.le_of_ble_eq_true rfl⟩ dX6_init_61 rfl (fun q8 => ?_)
  refine GW.eq (w2 := [(h0, .inr (6, [.ref q1, .ref q2, .ref q3, .ref q4, .ref q5, .ref q6, .ref q7, .null, .null, .null, .int 0, .int 0, .int 0, .int 0, .int 0])), (q1, .inl (ks 0, 30, .inl (fun _ => 0))), (q2, .inl (ks 0, 30, .inl (fun _ => 0))), (q3, .inl (ks 0, 30, .inl (fun _ => 0))), (q4, .inl (ks 0, 30, .inl (fun _ => 0))), (q5, .inl (ks 0, 30, .inl (fun _ => 0))), (q6, .inl (ks 0, 4, .inl (fun _ => 0))), (q7, .inl (ks 0, 8, .inl (fun _ => 0))), (q8, .inl (ks 0, 3, .inl (fun _ => 0)))]) rfl ?_
  refine w_put 66 X 0 rfl fq_X6_33_6 hin (Nat.le_of_ble_eq_true rfl) rfl rfl dX6_init_63 rfl ?_
  refine GW.eq (w2 := [(h0, .inr (6, [.ref q1, .ref q2, .ref q3, .ref q4, .ref q5, .ref q6, .ref q7, .ref q8, .null, .null, .int 0, .int 0, .int 0, .int 0, .int 0])), (q1, .inl (ks 0, 30, .inl (fun _ => 0))), (q2, .inl (ks 0, 30, .inl (fun _ => 0))), (q3, .inl (ks 0, 30, .inl (fun _ => 0))), (q4, .inl (ks 0, 30, .inl (fun _ => 0))), (q5, .inl (ks 0, 30, .inl (fun _ => 0))), (q6, .inl (ks 0, 4, .inl (fun _ => 0))), (q7, .inl (ks 0, 8, .inl (fun _ => 0))), (q8, .inl (ks 0, 3, .inl (fun _ => 0)))]) rfl ?_
  refine w_aload_n 67 X 0 dX6_init_66 rfl rfl ?_
  refine w_bipush 69 X dX6_init_67 bp30 rfl ?_
  refine w_newa_int 71 X 30 (by decide) (by decide) (by decide) ⟨Nat.le_of_ble_eq_true rfl, Nat.le_of_ble_eq_true rfl⟩ dX6_init_69 rfl (fun q9 => ?_)
  refine GW.eq (w2 := [(h0, .inr (6, [.ref q1, .ref q2, .ref q3, .ref q4, .ref q5, .ref q6, .ref q7, .ref q8, .null, .null, .int 0, .int 0, .int 0, .int 0, .int 0])), (q1, .inl (ks 0, 30, .inl (fun _ => 0))), (q2, .inl (ks 0, 30, .inl (fun _ => 0))), (q3, .inl (ks 0, 30, .inl (fun _ => 0))), (q4, .inl (ks 0, 30, .inl (fun _ => 0))), (q5, .inl (ks 0, 30, .inl (fun _ => 0))), (q6, .inl (ks 0, 4, .inl (fun _ => 0))), (q7, .inl (ks 0, 8, .inl (fun _ => 0))), (q8, .inl (ks 0, 3, .inl (fun _ => 0))), (q9, .inl (ks 0, 30, .inl (fun _ => 0)))]) rfl ?_
  refine w_put 74 X 0 rfl fq_X6_36_6 hin (Nat.le_of_ble_eq_true rfl) rfl rfl dX6_init_71 rfl ?_
  refine GW.eq (w2 := [(h0, .inr (6, [.ref q1, .ref q2, .ref q3, .ref q4, .ref q5, .ref q6, .ref q7, .ref q8, .ref q9, .null, .int 0, .int 0, .int 0, .int 0, .int 0])), (q1, .inl (ks 0, 30, .inl (fun _ => 0))), (q2, .inl (ks 0, 30, .inl (fun _ => 0))), (q3, .inl (ks 0, 30, .inl (fun _ => 0))), (q4, .inl (ks 0, 30, .inl (fun _ => 0))), (q5, .inl (ks 0, 30, .inl (fun _ => 0))), (q6, .inl (ks 0, 4, .inl (fun _ => 0))), (q7, .inl (ks 0, 8, .inl (fun _ => 0))), (q8, .inl (ks 0, 3, .inl (fun _ => 0))), (q9, .inl (ks 0, 30, .inl (fun _ => 0)))]) rfl ?_
  refine w_aload_n 75 X 0 dX6_init_74 rfl rfl ?_
  refine w_sipush 78 X dX6_init_75 sp600 rfl ?_
  refine w_newa_int 80 X 600 (by decide) (by decide) (by decide) ⟨Nat.le_of_ble_eq_true rfl, Nat.le_of_ble_eq_true rfl⟩ dX6_init_78 rfl (fun q10 => ?_)
  refine GW.eq (w2 := [(h0, .inr (6, [.ref q1, .ref q2, .ref q3, .ref q4, .ref q5, .ref q6, .ref q7, .ref q8, .ref q9, .null, .int 0, .int 0, .int 0, .int 0, .int 0])), (q1, .inl (ks 0, 30, .inl (fun _ => 0))), (q2, .inl (ks 0, 30, .inl (fun _ => 0))), (q3, .inl (ks 0, 30, .inl (fun _ => 0))), (q4, .inl (ks 0, 30, .inl (fun _ => 0))), (q5, .inl (ks 0, 30, .inl (fun _ => 0))), (q6, .inl (ks 0, 4, .inl (fun _ => 0))), (q7, .inl (ks 0, 8, .inl (fun _ => 0))), (q8, .inl (ks 0, 3, .inl (fun _ => 0))), (q9, .inl (ks 0, 30, .inl (fun _ => 0))), (q10, .inl (ks 0, 600, .inl (fun _ => 0)))]) rfl ?_
  refine w_put 83 X 0 rfl fq_X6_39_6 hin (Nat.le_of_ble_eq_true rfl) rfl rfl dX6_init_80 rfl ?_
  refine GW.eq (w2 := [(h0, .inr (6, [.ref q1, .ref q2, .ref q3, .ref q4, .ref q5, .ref q6, .ref q7, .ref q8, .ref q9, .ref q10, .int 0, .int 0, .int 0, .int 0, .int 0])), (q1, .inl (ks 0, 30, .inl (fun _ => 0))), (q2, .inl (ks 0, 30, .inl (fun _ => 0))), (q3, .inl (ks 0, 30, .inl (fun _ => 0))), (q4, .inl (ks 0, 30, .inl (fun _ => 0))), (q5, .inl (ks 0, 30, .inl (fun _ => 0))), (q6, .inl (ks 0, 4, .inl (fun _ => 0))), (q7, .inl (ks 0, 8, .inl (fun _ => 0))), (q8, .inl (ks 0, 3, .inl (fun _ => 0))), (q9, .inl (ks 0, 30, .inl (fun _ => 0))), (q10, .inl (ks 0, 600, .inl (fun _ => 0)))]) rfl ?_
  exact w_vret X hr (fun i => [q1, q2, q3, q4, q5, q6, q7, q8, q9, q10].getD i 0) rfl ⟨Nat.le_of_ble_eq_true rfl, Nat.le_of_ble_eq_true rfl⟩ dX6_init_83
abbrev rm_k_X0_init : Room := { frames := 1, cells := 4, slots := 390, locals := 22 }
set_option maxRecDepth 100000 in
set_option maxHeartbeats 8000000 in
theorem k_X0_init {l : Launch} {D : va_G} {ks : Nat → ClassId} (h0 a1 : Nat) : MI l yX0_init cX0_init 2 rm_k_X0_init D ks [(h0, .inr (0, [.null, .null, .null, .null, .null, .int 0, .int 0]))] (fun q => [(h0, .inr (0, [.ref a1, .ref (q 0), .ref (q 1), .ref (q 2), .ref (q 3), .int 0, .int 399])), ((q 0), .inl (ks 0, 120, .inl (fun _ => 0))), ((q 1), .inl (ks 0, 120, .inl (fun _ => 0))), ((q 2), .inl (ks 0, 120, .inl (fun _ => 0))), ((q 3), .inl (ks 0, 30, .inl (fun _ => 0)))]) [.ref h0, .ref a1] 4 390 := by
  refine mi_of (by decide) rfl (Nat.le_of_ble_eq_true rfl) ?_
  intro sz p e s m args below meth c X hr hin
  refine w_aload_n 1 X 0 dX0_init_0 rfl rfl ?_
  refine w_obj 4 X m182 ⟨Nat.le_of_ble_eq_true rfl, Nat.le_of_ble_eq_true rfl⟩ dX0_init_1 rfl ?_
  refine w_aload_n 5 X 0 dX0_init_4 rfl rfl ?_
  refine w_bipush 7 X dX0_init_5 bp120 rfl ?_
  refine w_newa_int 9 X 120 (by decide) (by decide) (by decide) ⟨Nat.le_of_ble_eq_true rfl, Nat.le_of_ble_eq_true rfl⟩ dX0_init_7 rfl (fun q1 => ?_)
  refine GW.eq (w2 := [(h0, .inr (0, [.null, .null, .null, .null, .null, .int 0, .int 0])), (q1, .inl (ks 0, 120, .inl (fun _ => 0)))]) rfl ?_
  refine w_put 12 X 0 rfl fq_X0_9_0 hin (Nat.le_of_ble_eq_true rfl) rfl rfl dX0_init_9 rfl ?_
  refine GW.eq (w2 := [(h0, .inr (0, [.null, .ref q1, .null, .null, .null, .int 0, .int 0])), (q1, .inl (ks 0, 120, .inl (fun _ => 0)))]) rfl ?_
  refine w_aload_n 13 X 0 dX0_init_12 rfl rfl ?_
  refine w_bipush 15 X dX0_init_13 bp120 rfl ?_
  refine w_newa_int 17 X 120 (by decide) (by decide) (by decide) ⟨Nat.le_of_ble_eq_true rfl, Nat.le_of_ble_eq_true rfl⟩ dX0_init_15 rfl (fun q2 => ?_)
  refine GW.eq (w2 := [(h0, .inr (0, [.null, .ref q1, .null, .null, .null, .int 0, .int 0])), (q1, .inl (ks 0, 120, .inl (fun _ => 0))), (q2, .inl (ks 0, 120, .inl (fun _ => 0)))]) rfl ?_
  refine w_put 20 X 0 rfl fq_X0_15_0 hin (Nat.le_of_ble_eq_true rfl) rfl rfl dX0_init_17 rfl ?_
  refine GW.eq (w2 := [(h0, .inr (0, [.null, .ref q1, .ref q2, .null, .null, .int 0, .int 0])), (q1, .inl (ks 0, 120, .inl (fun _ => 0))), (q2, .inl (ks 0, 120, .inl (fun _ => 0)))]) rfl ?_
  refine w_aload_n 21 X 0 dX0_init_20 rfl rfl ?_
  refine w_bipush 23 X dX0_init_21 bp120 rfl ?_
  refine w_newa_int 25 X 120 (by decide) (by decide) (by decide) ⟨Nat.le_of_ble_eq_true rfl, Nat.le_of_ble_eq_true rfl⟩ dX0_init_23 rfl (fun q3 => ?_)
  refine GW.eq (w2 := [(h0, .inr (0, [.null, .ref q1, .ref q2, .null, .null, .int 0, .int 0])), (q1, .inl (ks 0, 120, .inl (fun _ => 0))), (q2, .inl (ks 0, 120, .inl (fun _ => 0))), (q3, .inl (ks 0, 120, .inl (fun _ => 0)))]) rfl ?_
  refine w_put 28 X 0 rfl fq_X0_18_0 hin (Nat.le_of_ble_eq_true rfl) rfl rfl dX0_init_25 rfl ?_
  refine GW.eq (w2 := [(h0, .inr (0, [.null, .ref q1, .ref q2, .ref q3, .null, .int 0, .int 0])), (q1, .inl (ks 0, 120, .inl (fun _ => 0))), (q2, .inl (ks 0, 120, .inl (fun _ => 0))), (q3, .inl (ks 0, 120, .inl (fun _ => 0)))]) rfl ?_
  refine w_aload_n 29 X 0 dX0_init_28 rfl rfl ?_
  refine w_bipush 31 X dX0_init_29 bp30 rfl ?_
  refine w_newa_int 33 X 30 (by decide) (by decide) (by decide) ⟨Nat.le_of_ble_eq_true rfl, Nat.le_of_ble_eq_true rfl⟩ dX0_init_31 rfl (fun q4 => ?_)
  refine GW.eq (w2 := [(h0, .inr (0, [.null, .ref q1, .ref q2, .ref q3, .null, .int 0, .int 0])), (q1, .inl (ks 0, 120, .inl (fun _ => 0))), (q2, .inl (ks 0, 120, .inl (fun _ => 0))), (q3, .inl (ks 0, 120, .inl (fun _ => 0))), (q4, .inl (ks 0, 30, .inl (fun _ => 0)))]) rfl ?_
  refine w_put 36 X 0 rfl fq_X0_21_0 hin (Nat.le_of_ble_eq_true rfl) rfl rfl dX0_init_33 rfl ?_
  refine GW.eq (w2 := [(h0, .inr (0, [.null, .ref q1, .ref q2, .ref q3, .ref q4, .int 0, .int 0])), (q1, .inl (ks 0, 120, .inl (fun _ => 0))), (q2, .inl (ks 0, 120, .inl (fun _ => 0))), (q3, .inl (ks 0, 120, .inl (fun _ => 0))), (q4, .inl (ks 0, 30, .inl (fun _ => 0)))]) rfl ?_
  refine w_aload_n 37 X 0 dX0_init_36 rfl rfl ?_
  refine w_sipush 40 X dX0_init_37 sp399 rfl ?_
  refine w_put 43 X 0 rfl fq_X0_24_0 hin (Nat.le_of_ble_eq_true rfl) rfl rfl dX0_init_40 rfl ?_
  refine GW.eq (w2 := [(h0, .inr (0, [.null, .ref q1, .ref q2, .ref q3, .ref q4, .int 0, .int 399])), (q1, .inl (ks 0, 120, .inl (fun _ => 0))), (q2, .inl (ks 0, 120, .inl (fun _ => 0))), (q3, .inl (ks 0, 120, .inl (fun _ => 0))), (q4, .inl (ks 0, 30, .inl (fun _ => 0)))]) rfl ?_
  refine w_aload_n 44 X 0 dX0_init_43 rfl rfl ?_
  refine w_aload_n 45 X 1 dX0_init_44 rfl rfl ?_
  refine w_put 48 X 0 rfl fq_X0_28_0 hin (Nat.le_of_ble_eq_true rfl) rfl rfl dX0_init_45 rfl ?_
  refine GW.eq (w2 := [(h0, .inr (0, [.ref a1, .ref q1, .ref q2, .ref q3, .ref q4, .int 0, .int 399])), (q1, .inl (ks 0, 120, .inl (fun _ => 0))), (q2, .inl (ks 0, 120, .inl (fun _ => 0))), (q3, .inl (ks 0, 120, .inl (fun _ => 0))), (q4, .inl (ks 0, 30, .inl (fun _ => 0)))]) rfl ?_
  exact w_vret X hr (fun i => [q1, q2, q3, q4].getD i 0) rfl ⟨Nat.le_of_ble_eq_true rfl, Nat.le_of_ble_eq_true rfl⟩ dX0_init_48
abbrev rm_k_X1_init : Room := { frames := 1, cells := 0, slots := 0, locals := 22 }
set_option maxRecDepth 100000 in
set_option maxHeartbeats 8000000 in
theorem k_X1_init {l : Launch} {D : va_G} {ks : Nat → ClassId} (h0  : Nat) : MI l yX1_init cX1_init 1 rm_k_X1_init D ks [(h0, .inr (1, [.long 0, .long 0]))] (fun q => [(h0, .inr (1, [.long 0, .long 1]))]) [.ref h0] 0 0 := by
  refine mi_of (by decide) rfl (Nat.le_of_ble_eq_true rfl) ?_
  intro sz p e s m args below meth c X hr hin
  refine w_aload_n 1 X 0 dX1_init_0 rfl rfl ?_
  refine w_obj 4 X m222 ⟨Nat.le_of_ble_eq_true rfl, Nat.le_of_ble_eq_true rfl⟩ dX1_init_1 rfl ?_
  refine w_aload_n 5 X 0 dX1_init_4 rfl rfl ?_
  refine w_lconst 6 X dX1_init_5 lc0 rfl ?_
  refine w_put 9 X 0 rfl fq_X1_7_1 hin (Nat.le_of_ble_eq_true rfl) rfl rfl dX1_init_6 rfl ?_
  refine GW.eq (w2 := [(h0, .inr (1, [.long 0, .long 0]))]) rfl ?_
  refine w_aload_n 10 X 0 dX1_init_9 rfl rfl ?_
  refine w_lconst 11 X dX1_init_10 lc1 rfl ?_
  refine w_put 14 X 0 rfl fq_X1_13_1 hin (Nat.le_of_ble_eq_true rfl) rfl rfl dX1_init_11 rfl ?_
  refine GW.eq (w2 := [(h0, .inr (1, [.long 0, .long 1]))]) rfl ?_
  exact w_vret X hr (fun i => [].getD i 0) rfl ⟨Nat.le_of_ble_eq_true rfl, Nat.le_of_ble_eq_true rfl⟩ dX1_init_14
abbrev rm_k_X10_init : Room := { frames := 2, cells := 5, slots := 69, locals := 42 }
set_option maxRecDepth 100000 in
set_option maxHeartbeats 8000000 in
theorem k_X10_init {l : Launch} {D : va_G} {ks : Nat → ClassId} (h0 a1 : Nat) : MI l yX10_init cX10_init 2 rm_k_X10_init D ks [(h0, .inr (9, [.null, .null, .null, .null, .null, .null]))] (fun q => [(h0, .inr (9, [.ref a1, .ref (q 0), .ref (q 1), .ref (q 2), .ref (q 3), .ref (q 4)])), ((q 0), .inl (ks 0, 4, .inl (fun _ => 0))), ((q 1), .inl (ks 0, 3, .inl (fun _ => 0))), ((q 2), .inl (ks 0, 30, .inl (fun _ => 0))), ((q 3), .inl (ks 1, 30, .inr (.inl (fun _ => 0)))), ((q 4), .inr (1, [.long 0, .long 1]))]) [.ref h0, .ref a1] 5 69 := by
  refine mi_of (by decide) rfl (Nat.le_of_ble_eq_true rfl) ?_
  intro sz p e s m args below meth c X hr hin
  refine w_aload_n 1 X 0 dX10_init_0 rfl rfl ?_
  refine w_obj 4 X m216 ⟨Nat.le_of_ble_eq_true rfl, Nat.le_of_ble_eq_true rfl⟩ dX10_init_1 rfl ?_
  refine w_aload_n 5 X 0 dX10_init_4 rfl rfl ?_
  refine w_iconst 6 X dX10_init_5 ic4 rfl ?_
  refine w_newa_int 8 X 4 (by decide) (by decide) (by decide) ⟨Nat.le_of_ble_eq_true rfl, Nat.le_of_ble_eq_true rfl⟩ dX10_init_6 rfl (fun q1 => ?_)
  refine GW.eq (w2 := [(h0, .inr (9, [.null, .null, .null, .null, .null, .null])), (q1, .inl (ks 0, 4, .inl (fun _ => 0)))]) rfl ?_
  refine w_put 11 X 0 rfl fq_X10_9_10 hin (Nat.le_of_ble_eq_true rfl) rfl rfl dX10_init_8 rfl ?_
  refine GW.eq (w2 := [(h0, .inr (9, [.null, .ref q1, .null, .null, .null, .null])), (q1, .inl (ks 0, 4, .inl (fun _ => 0)))]) rfl ?_
  refine w_aload_n 12 X 0 dX10_init_11 rfl rfl ?_
  refine w_iconst 13 X dX10_init_12 ic3 rfl ?_
  refine w_newa_int 15 X 3 (by decide) (by decide) (by decide) ⟨Nat.le_of_ble_eq_true rfl, Nat.le_of_ble_eq_true rfl⟩ dX10_init_13 rfl (fun q2 => ?_)
  refine GW.eq (w2 := [(h0, .inr (9, [.null, .ref q1, .null, .null, .null, .null])), (q1, .inl (ks 0, 4, .inl (fun _ => 0))), (q2, .inl (ks 0, 3, .inl (fun _ => 0)))]) rfl ?_
  refine w_put 18 X 0 rfl fq_X10_15_10 hin (Nat.le_of_ble_eq_true rfl) rfl rfl dX10_init_15 rfl ?_
  refine GW.eq (w2 := [(h0, .inr (9, [.null, .ref q1, .ref q2, .null, .null, .null])), (q1, .inl (ks 0, 4, .inl (fun _ => 0))), (q2, .inl (ks 0, 3, .inl (fun _ => 0)))]) rfl ?_
  refine w_aload_n 19 X 0 dX10_init_18 rfl rfl ?_
  refine w_bipush 21 X dX10_init_19 bp30 rfl ?_
  refine w_newa_int 23 X 30 (by decide) (by decide) (by decide) ⟨Nat.le_of_ble_eq_true rfl, Nat.le_of_ble_eq_true rfl⟩ dX10_init_21 rfl (fun q3 => ?_)
  refine GW.eq (w2 := [(h0, .inr (9, [.null, .ref q1, .ref q2, .null, .null, .null])), (q1, .inl (ks 0, 4, .inl (fun _ => 0))), (q2, .inl (ks 0, 3, .inl (fun _ => 0))), (q3, .inl (ks 0, 30, .inl (fun _ => 0)))]) rfl ?_
  refine w_put 26 X 0 rfl fq_X10_18_10 hin (Nat.le_of_ble_eq_true rfl) rfl rfl dX10_init_23 rfl ?_
  refine GW.eq (w2 := [(h0, .inr (9, [.null, .ref q1, .ref q2, .ref q3, .null, .null])), (q1, .inl (ks 0, 4, .inl (fun _ => 0))), (q2, .inl (ks 0, 3, .inl (fun _ => 0))), (q3, .inl (ks 0, 30, .inl (fun _ => 0)))]) rfl ?_
  refine w_aload_n 27 X 0 dX10_init_26 rfl rfl ?_
  refine w_bipush 29 X dX10_init_27 bp30 rfl ?_
  refine w_newa_long 31 X 30 (by decide) (by decide) (by decide) ⟨Nat.le_of_ble_eq_true rfl, Nat.le_of_ble_eq_true rfl⟩ dX10_init_29 rfl (fun q4 => ?_)
  refine GW.eq (w2 := [(h0, .inr (9, [.null, .ref q1, .ref q2, .ref q3, .null, .null])), (q1, .inl (ks 0, 4, .inl (fun _ => 0))), (q2, .inl (ks 0, 3, .inl (fun _ => 0))), (q3, .inl (ks 0, 30, .inl (fun _ => 0))), (q4, .inl (ks 1, 30, .inr (.inl (fun _ => 0))))]) rfl ?_
  refine w_put 34 X 0 rfl fq_X10_21_10 hin (Nat.le_of_ble_eq_true rfl) rfl rfl dX10_init_31 rfl ?_
  refine GW.eq (w2 := [(h0, .inr (9, [.null, .ref q1, .ref q2, .ref q3, .ref q4, .null])), (q1, .inl (ks 0, 4, .inl (fun _ => 0))), (q2, .inl (ks 0, 3, .inl (fun _ => 0))), (q3, .inl (ks 0, 30, .inl (fun _ => 0))), (q4, .inl (ks 1, 30, .inr (.inl (fun _ => 0))))]) rfl ?_
  refine w_aload_n 35 X 0 dX10_init_34 rfl rfl ?_
  refine w_new 38 X (ci := 1) [.long 0, .long 0] inW1 tyX1 tyX1_ok rfl m217 m218 m70 (by decide +kernel) ⟨Nat.le_of_ble_eq_true rfl, Nat.le_of_ble_eq_true rfl⟩ dX10_init_35 rfl (fun q5 => ?_)
  refine GW.eq (w2 := [(h0, .inr (9, [.null, .ref q1, .ref q2, .ref q3, .ref q4, .null])), (q1, .inl (ks 0, 4, .inl (fun _ => 0))), (q2, .inl (ks 0, 3, .inl (fun _ => 0))), (q3, .inl (ks 0, 30, .inl (fun _ => 0))), (q4, .inl (ks 1, 30, .inr (.inl (fun _ => 0)))), (q5, .inr (1, [.long 0, .long 0]))]) rfl ?_
  refine w_dup 39 X dX10_init_38 rfl rfl ?_
  refine w_call 42 X cdi_X10_27 (k_X1_init (ks := ks) q5) ⟨rfl, rfl⟩ ⟨Nat.le_of_ble_eq_true rfl, Nat.le_of_ble_eq_true rfl⟩ ⟨Nat.le_of_ble_eq_true rfl, Nat.le_of_ble_eq_true rfl⟩ [5] [0, 1, 2, 3, 4] rfl rfl (by decide) (by decide) (by decide) rfl rfl (Nat.le_of_ble_eq_true rfl) dX10_init_39 rfl (fun qa6 => ?_)
  refine GW.eq (w2 := [(h0, .inr (9, [.null, .ref q1, .ref q2, .ref q3, .ref q4, .null])), (q1, .inl (ks 0, 4, .inl (fun _ => 0))), (q2, .inl (ks 0, 3, .inl (fun _ => 0))), (q3, .inl (ks 0, 30, .inl (fun _ => 0))), (q4, .inl (ks 1, 30, .inr (.inl (fun _ => 0)))), (q5, .inr (1, [.long 0, .long 1]))]) rfl ?_
  refine w_put 45 X 0 rfl fq_X10_28_10 hin (Nat.le_of_ble_eq_true rfl) rfl rfl dX10_init_42 rfl ?_
  refine GW.eq (w2 := [(h0, .inr (9, [.null, .ref q1, .ref q2, .ref q3, .ref q4, .ref q5])), (q1, .inl (ks 0, 4, .inl (fun _ => 0))), (q2, .inl (ks 0, 3, .inl (fun _ => 0))), (q3, .inl (ks 0, 30, .inl (fun _ => 0))), (q4, .inl (ks 1, 30, .inr (.inl (fun _ => 0)))), (q5, .inr (1, [.long 0, .long 1]))]) rfl ?_
  refine w_aload_n 46 X 0 dX10_init_45 rfl rfl ?_
  refine w_aload_n 47 X 1 dX10_init_46 rfl rfl ?_
  refine w_put 50 X 0 rfl fq_X10_32_10 hin (Nat.le_of_ble_eq_true rfl) rfl rfl dX10_init_47 rfl ?_
  refine GW.eq (w2 := [(h0, .inr (9, [.ref a1, .ref q1, .ref q2, .ref q3, .ref q4, .ref q5])), (q1, .inl (ks 0, 4, .inl (fun _ => 0))), (q2, .inl (ks 0, 3, .inl (fun _ => 0))), (q3, .inl (ks 0, 30, .inl (fun _ => 0))), (q4, .inl (ks 1, 30, .inr (.inl (fun _ => 0)))), (q5, .inr (1, [.long 0, .long 1]))]) rfl ?_
  exact w_vret X hr (fun i => [q1, q2, q3, q4, q5].getD i 0) rfl ⟨Nat.le_of_ble_eq_true rfl, Nat.le_of_ble_eq_true rfl⟩ dX10_init_50
abbrev rm_k_X3_init : Room := { frames := 2, cells := 3, slots := 18, locals := 42 }
set_option maxRecDepth 100000 in
set_option maxHeartbeats 8000000 in
theorem k_X3_init {l : Launch} {D : va_G} {ks : Nat → ClassId} (h0 a1 : Nat) : MI l yX3_init cX3_init 3 rm_k_X3_init D ks [(h0, .inr (3, [.null, .null, .null, .null, .int 0, .int 0, .int 0]))] (fun q => [(h0, .inr (3, [.ref a1, .ref (q 0), .ref (q 1), .ref (q 2), .int 0, .int 0, .int 0])), ((q 0), .inl (ks 0, 8, .inl (upd (upd (upd (upd (upd (upd (upd (upd (fun _ => 0) (0 : Int32).toNatClampNeg 5) (1 : Int32).toNatClampNeg 5) (2 : Int32).toNatClampNeg 5) (3 : Int32).toNatClampNeg 5) (4 : Int32).toNatClampNeg 5) (5 : Int32).toNatClampNeg 5) (6 : Int32).toNatClampNeg 5) (7 : Int32).toNatClampNeg 5))), ((q 1), .inl (ks 0, 8, .inl (fun _ => 0))), ((q 2), .inr (1, [.long 0, .long 1]))]) [.ref h0, .ref a1] 3 18 := by
  refine mi_of (by decide) rfl (Nat.le_of_ble_eq_true rfl) ?_
  intro sz p e s m args below meth c X hr hin
  refine w_aload_n 1 X 0 dX3_init_0 rfl rfl ?_
  refine w_obj 4 X m260 ⟨Nat.le_of_ble_eq_true rfl, Nat.le_of_ble_eq_true rfl⟩ dX3_init_1 rfl ?_
  refine w_aload_n 5 X 0 dX3_init_4 rfl rfl ?_
  refine w_bipush 7 X dX3_init_5 bp8 rfl ?_
  refine w_newa_int 9 X 8 (by decide) (by decide) (by decide) ⟨Nat.le_of_ble_eq_true rfl, Nat.le_of_ble_eq_true rfl⟩ dX3_init_7 rfl (fun q1 => ?_)
  refine GW.eq (w2 := [(h0, .inr (3, [.null, .null, .null, .null, .int 0, .int 0, .int 0])), (q1, .inl (ks 0, 8, .inl (fun _ => 0)))]) rfl ?_
  refine w_put 12 X 0 rfl fq_X3_9_3 hin (Nat.le_of_ble_eq_true rfl) rfl rfl dX3_init_9 rfl ?_
  refine GW.eq (w2 := [(h0, .inr (3, [.null, .ref q1, .null, .null, .int 0, .int 0, .int 0])), (q1, .inl (ks 0, 8, .inl (fun _ => 0)))]) rfl ?_
  refine w_aload_n 13 X 0 dX3_init_12 rfl rfl ?_
  refine w_bipush 15 X dX3_init_13 bp8 rfl ?_
  refine w_newa_int 17 X 8 (by decide) (by decide) (by decide) ⟨Nat.le_of_ble_eq_true rfl, Nat.le_of_ble_eq_true rfl⟩ dX3_init_15 rfl (fun q2 => ?_)
  refine GW.eq (w2 := [(h0, .inr (3, [.null, .ref q1, .null, .null, .int 0, .int 0, .int 0])), (q1, .inl (ks 0, 8, .inl (fun _ => 0))), (q2, .inl (ks 0, 8, .inl (fun _ => 0)))]) rfl ?_
  refine w_put 20 X 0 rfl fq_X3_15_3 hin (Nat.le_of_ble_eq_true rfl) rfl rfl dX3_init_17 rfl ?_
  refine GW.eq (w2 := [(h0, .inr (3, [.null, .ref q1, .ref q2, .null, .int 0, .int 0, .int 0])), (q1, .inl (ks 0, 8, .inl (fun _ => 0))), (q2, .inl (ks 0, 8, .inl (fun _ => 0)))]) rfl ?_
  refine w_aload_n 21 X 0 dX3_init_20 rfl rfl ?_
  refine w_new 24 X (ci := 1) [.long 0, .long 0] inW1 tyX1 tyX1_ok rfl m261 m218 m70 (by decide +kernel) ⟨Nat.le_of_ble_eq_true rfl, Nat.le_of_ble_eq_true rfl⟩ dX3_init_21 rfl (fun q3 => ?_)
  refine GW.eq (w2 := [(h0, .inr (3, [.null, .ref q1, .ref q2, .null, .int 0, .int 0, .int 0])), (q1, .inl (ks 0, 8, .inl (fun _ => 0))), (q2, .inl (ks 0, 8, .inl (fun _ => 0))), (q3, .inr (1, [.long 0, .long 0]))]) rfl ?_
  refine w_dup 25 X dX3_init_24 rfl rfl ?_
  refine w_call 28 X cdi_X3_20 (k_X1_init (ks := ks) q3) ⟨rfl, rfl⟩ ⟨Nat.le_of_ble_eq_true rfl, Nat.le_of_ble_eq_true rfl⟩ ⟨Nat.le_of_ble_eq_true rfl, Nat.le_of_ble_eq_true rfl⟩ [3] [0, 1, 2] rfl rfl (by decide) (by decide) (by decide) rfl rfl (Nat.le_of_ble_eq_true rfl) dX3_init_25 rfl (fun qa4 => ?_)
  refine GW.eq (w2 := [(h0, .inr (3, [.null, .ref q1, .ref q2, .null, .int 0, .int 0, .int 0])), (q1, .inl (ks 0, 8, .inl (fun _ => 0))), (q2, .inl (ks 0, 8, .inl (fun _ => 0))), (q3, .inr (1, [.long 0, .long 1]))]) rfl ?_
  refine w_put 31 X 0 rfl fq_X3_21_3 hin (Nat.le_of_ble_eq_true rfl) rfl rfl dX3_init_28 rfl ?_
  refine GW.eq (w2 := [(h0, .inr (3, [.null, .ref q1, .ref q2, .ref q3, .int 0, .int 0, .int 0])), (q1, .inl (ks 0, 8, .inl (fun _ => 0))), (q2, .inl (ks 0, 8, .inl (fun _ => 0))), (q3, .inr (1, [.long 0, .long 1]))]) rfl ?_
  refine w_aload_n 32 X 0 dX3_init_31 rfl rfl ?_
  refine w_aload_n 33 X 1 dX3_init_32 rfl rfl ?_
  refine w_put 36 X 0 rfl fq_X3_25_3 hin (Nat.le_of_ble_eq_true rfl) rfl rfl dX3_init_33 rfl ?_
  refine GW.eq (w2 := [(h0, .inr (3, [.ref a1, .ref q1, .ref q2, .ref q3, .int 0, .int 0, .int 0])), (q1, .inl (ks 0, 8, .inl (fun _ => 0))), (q2, .inl (ks 0, 8, .inl (fun _ => 0))), (q3, .inr (1, [.long 0, .long 1]))]) rfl ?_
  refine w_iconst 37 X dX3_init_36 ic0 rfl ?_
  refine w_istore_n 38 X dX3_init_37 (by decide) rfl ?_
  refine w_iload_n 39 X 0 dX3_init_38 rfl rfl ?_
  refine w_bipush 41 X dX3_init_39 bp8 rfl ?_
  refine w_ge_f 44 57 X (by decide) dX3_init_41 (by decide) rfl ?_
  refine w_aload_n 45 X 1 dX3_init_44 rfl rfl ?_
  refine w_get 48 X 0 rfl fl_X3_9_3 rfl dX3_init_45 rfl ?_
  refine w_iload_n 49 X 0 dX3_init_48 rfl rfl ?_
  refine w_iconst 50 X dX3_init_49 ic5 rfl ?_
  refine w_iast 51 X 1 rfl (by unfold vp_in; decide) dX3_init_50 rfl ?_
  refine GW.eq (w2 := [(h0, .inr (3, [.ref a1, .ref q1, .ref q2, .ref q3, .int 0, .int 0, .int 0])), (q1, .inl (ks 0, 8, .inl (upd (fun _ => 0) (0 : Int32).toNatClampNeg 5))), (q2, .inl (ks 0, 8, .inl (fun _ => 0))), (q3, .inr (1, [.long 0, .long 1]))]) rfl ?_
  refine w_iinc (v := 1) 54 X 0 dX3_init_51 (by decide) rfl (by decide) rfl ?_
  refine w_goto 38 X dX3_init_54 (by decide) ?_
  refine w_iload_n 39 X 0 dX3_init_38 rfl rfl ?_
  refine w_bipush 41 X dX3_init_39 bp8 rfl ?_
  refine w_ge_f 44 57 X (by decide) dX3_init_41 (by decide) rfl ?_
  refine w_aload_n 45 X 1 dX3_init_44 rfl rfl ?_
  refine w_get 48 X 0 rfl fl_X3_9_3 rfl dX3_init_45 rfl ?_
  refine w_iload_n 49 X 0 dX3_init_48 rfl rfl ?_
  refine w_iconst 50 X dX3_init_49 ic5 rfl ?_
  refine w_iast 51 X 1 rfl (by unfold vp_in; decide) dX3_init_50 rfl ?_
  refine GW.eq (w2 := [(h0, .inr (3, [.ref a1, .ref q1, .ref q2, .ref q3, .int 0, .int 0, .int 0])), (q1, .inl (ks 0, 8, .inl (upd (upd (fun _ => 0) (0 : Int32).toNatClampNeg 5) (1 : Int32).toNatClampNeg 5))), (q2, .inl (ks 0, 8, .inl (fun _ => 0))), (q3, .inr (1, [.long 0, .long 1]))]) rfl ?_
  refine w_iinc (v := 2) 54 X 0 dX3_init_51 (by decide) rfl (by decide) rfl ?_
  refine w_goto 38 X dX3_init_54 (by decide) ?_
  refine w_iload_n 39 X 0 dX3_init_38 rfl rfl ?_
  refine w_bipush 41 X dX3_init_39 bp8 rfl ?_
  refine w_ge_f 44 57 X (by decide) dX3_init_41 (by decide) rfl ?_
  refine w_aload_n 45 X 1 dX3_init_44 rfl rfl ?_
  refine w_get 48 X 0 rfl fl_X3_9_3 rfl dX3_init_45 rfl ?_
  refine w_iload_n 49 X 0 dX3_init_48 rfl rfl ?_
  refine w_iconst 50 X dX3_init_49 ic5 rfl ?_
  refine w_iast 51 X 1 rfl (by unfold vp_in; decide) dX3_init_50 rfl ?_
  refine GW.eq (w2 := [(h0, .inr (3, [.ref a1, .ref q1, .ref q2, .ref q3, .int 0, .int 0, .int 0])), (q1, .inl (ks 0, 8, .inl (upd (upd (upd (fun _ => 0) (0 : Int32).toNatClampNeg 5) (1 : Int32).toNatClampNeg 5) (2 : Int32).toNatClampNeg 5))), (q2, .inl (ks 0, 8, .inl (fun _ => 0))), (q3, .inr (1, [.long 0, .long 1]))]) rfl ?_
  refine w_iinc (v := 3) 54 X 0 dX3_init_51 (by decide) rfl (by decide) rfl ?_
  refine w_goto 38 X dX3_init_54 (by decide) ?_
  refine w_iload_n 39 X 0 dX3_init_38 rfl rfl ?_
  refine w_bipush 41 X dX3_init_39 bp8 rfl ?_
  refine w_ge_f 44 57 X (by decide) dX3_init_41 (by decide) rfl ?_
  refine w_aload_n 45 X 1 dX3_init_44 rfl rfl ?_
  refine w_get 48 X 0 rfl fl_X3_9_3 rfl dX3_init_45 rfl ?_
  refine w_iload_n 49 X 0 dX3_init_48 rfl rfl ?_
  refine w_iconst 50 X dX3_init_49 ic5 rfl ?_
  refine w_iast 51 X 1 rfl (by unfold vp_in; decide) dX3_init_50 rfl ?_
  refine GW.eq (w2 := [(h0, .inr (3, [.ref a1, .ref q1, .ref q2, .ref q3, .int 0, .int 0, .int 0])), (q1, .inl (ks 0, 8, .inl (upd (upd (upd (upd (fun _ => 0) (0 : Int32).toNatClampNeg 5) (1 : Int32).toNatClampNeg 5) (2 : Int32).toNatClampNeg 5) (3 : Int32).toNatClampNeg 5))), (q2, .inl (ks 0, 8, .inl (fun _ => 0))), (q3, .inr (1, [.long 0, .long 1]))]) rfl ?_
  refine w_iinc (v := 4) 54 X 0 dX3_init_51 (by decide) rfl (by decide) rfl ?_
  refine w_goto 38 X dX3_init_54 (by decide) ?_
  refine w_iload_n 39 X 0 dX3_init_38 rfl rfl ?_
  refine w_bipush 41 X dX3_init_39 bp8 rfl ?_
  refine w_ge_f 44 57 X (by decide) dX3_init_41 (by decide) rfl ?_
  refine w_aload_n 45 X 1 dX3_init_44 rfl rfl ?_
  refine w_get 48 X 0 rfl fl_X3_9_3 rfl dX3_init_45 rfl ?_
  refine w_iload_n 49 X 0 dX3_init_48 rfl rfl ?_
  refine w_iconst 50 X dX3_init_49 ic5 rfl ?_
  refine w_iast 51 X 1 rfl (by unfold vp_in; decide) dX3_init_50 rfl ?_
  refine GW.eq (w2 := [(h0, .inr (3, [.ref a1, .ref q1, .ref q2, .ref q3, .int 0, .int 0, .int 0])), (q1, .inl (ks 0, 8, .inl (upd (upd (upd (upd (upd (fun _ => 0) (0 : Int32).toNatClampNeg 5) (1 : Int32).toNatClampNeg 5) (2 : Int32).toNatClampNeg 5) (3 : Int32).toNatClampNeg 5) (4 : Int32).toNatClampNeg 5))), (q2, .inl (ks 0, 8, .inl (fun _ => 0))), (q3, .inr (1, [.long 0, .long 1]))]) rfl ?_
  refine w_iinc (v := 5) 54 X 0 dX3_init_51 (by decide) rfl (by decide) rfl ?_
  refine w_goto 38 X dX3_init_54 (by decide) ?_
  refine w_iload_n 39 X 0 dX3_init_38 rfl rfl ?_
  refine w_bipush 41 X dX3_init_39 bp8 rfl ?_
  refine w_ge_f 44 57 X (by decide) dX3_init_41 (by decide) rfl ?_
  refine w_aload_n 45 X 1 dX3_init_44 rfl rfl ?_
  refine w_get 48 X 0 rfl fl_X3_9_3 rfl dX3_init_45 rfl ?_
  refine w_iload_n 49 X 0 dX3_init_48 rfl rfl ?_
  refine w_iconst 50 X dX3_init_49 ic5 rfl ?_
  refine w_iast 51 X 1 rfl (by unfold vp_in; decide) dX3_init_50 rfl ?_
  refine GW.eq (w2 := [(h0, .inr (3, [.ref a1, .ref q1, .ref q2, .ref q3, .int 0, .int 0, .int 0])), (q1, .inl (ks 0, 8, .inl (upd (upd (upd (upd (upd (upd (fun _ => 0) (0 : Int32).toNatClampNeg 5) (1 : Int32).toNatClampNeg 5) (2 : Int32).toNatClampNeg 5) (3 : Int32).toNatClampNeg 5) (4 : Int32).toNatClampNeg 5) (5 : Int32).toNatClampNeg 5))), (q2, .inl (ks 0, 8, .inl (fun _ => 0))), (q3, .inr (1, [.long 0, .long 1]))]) rfl ?_
  refine w_iinc (v := 6) 54 X 0 dX3_init_51 (by decide) rfl (by decide) rfl ?_
  refine w_goto 38 X dX3_init_54 (by decide) ?_
  refine w_iload_n 39 X 0 dX3_init_38 rfl rfl ?_
  refine w_bipush 41 X dX3_init_39 bp8 rfl ?_
  refine w_ge_f 44 57 X (by decide) dX3_init_41 (by decide) rfl ?_
  refine w_aload_n 45 X 1 dX3_init_44 rfl rfl ?_
  refine w_get 48 X 0 rfl fl_X3_9_3 rfl dX3_init_45 rfl ?_
  refine w_iload_n 49 X 0 dX3_init_48 rfl rfl ?_
  refine w_iconst 50 X dX3_init_49 ic5 rfl ?_
  refine w_iast 51 X 1 rfl (by unfold vp_in; decide) dX3_init_50 rfl ?_
  refine GW.eq (w2 := [(h0, .inr (3, [.ref a1, .ref q1, .ref q2, .ref q3, .int 0, .int 0, .int 0])), (q1, .inl (ks 0, 8, .inl (upd (upd (upd (upd (upd (upd (upd (fun _ => 0) (0 : Int32).toNatClampNeg 5) (1 : Int32).toNatClampNeg 5) (2 : Int32).toNatClampNeg 5) (3 : Int32).toNatClampNeg 5) (4 : Int32).toNatClampNeg 5) (5 : Int32).toNatClampNeg 5) (6 : Int32).toNatClampNeg 5))), (q2, .inl (ks 0, 8, .inl (fun _ => 0))), (q3, .inr (1, [.long 0, .long 1]))]) rfl ?_
  refine w_iinc (v := 7) 54 X 0 dX3_init_51 (by decide) rfl (by decide) rfl ?_
  refine w_goto 38 X dX3_init_54 (by decide) ?_
  refine w_iload_n 39 X 0 dX3_init_38 rfl rfl ?_
  refine w_bipush 41 X dX3_init_39 bp8 rfl ?_
  refine w_ge_f 44 57 X (by decide) dX3_init_41 (by decide) rfl ?_
  refine w_aload_n 45 X 1 dX3_init_44 rfl rfl ?_
  refine w_get 48 X 0 rfl fl_X3_9_3 rfl dX3_init_45 rfl ?_
  refine w_iload_n 49 X 0 dX3_init_48 rfl rfl ?_
  refine w_iconst 50 X dX3_init_49 ic5 rfl ?_
  refine w_iast 51 X 1 rfl (by unfold vp_in; decide) dX3_init_50 rfl ?_
  refine GW.eq (w2 := [(h0, .inr (3, [.ref a1, .ref q1, .ref q2, .ref q3, .int 0, .int 0, .int 0])), (q1, .inl (ks 0, 8, .inl (upd (upd (upd (upd (upd (upd (upd (upd (fun _ => 0) (0 : Int32).toNatClampNeg 5) (1 : Int32).toNatClampNeg 5) (2 : Int32).toNatClampNeg 5) (3 : Int32).toNatClampNeg 5) (4 : Int32).toNatClampNeg 5) (5 : Int32).toNatClampNeg 5) (6 : Int32).toNatClampNeg 5) (7 : Int32).toNatClampNeg 5))), (q2, .inl (ks 0, 8, .inl (fun _ => 0))), (q3, .inr (1, [.long 0, .long 1]))]) rfl ?_
  refine w_iinc (v := 8) 54 X 0 dX3_init_51 (by decide) rfl (by decide) rfl ?_
  refine w_goto 38 X dX3_init_54 (by decide) ?_
  refine w_iload_n 39 X 0 dX3_init_38 rfl rfl ?_
  refine w_bipush 41 X dX3_init_39 bp8 rfl ?_
  refine w_ge_t 57 X (by decide) dX3_init_41 (by decide) ?_
  exact w_vret X hr (fun i => [q1, q2, q3].getD i 0) rfl ⟨Nat.le_of_ble_eq_true rfl, Nat.le_of_ble_eq_true rfl⟩ dX3_init_57
abbrev rm_k_X9_init_this2 : Room := { frames := 1, cells := 0, slots := 0, locals := 22 }
set_option maxRecDepth 100000 in
set_option maxHeartbeats 8000000 in
theorem k_X9_init_this2 {l : Launch} {D : va_G} {ks : Nat → ClassId} (h0 a1 a2 : Nat) : MI l yX9_init cX9_init 3 rm_k_X9_init_this2 D ks [(h0, .inr (2, [.null, .null, .int 0, .int 0, .int 0]))] (fun q => [(h0, .inr (2, [.ref a1, .ref a2, .int 0, .int 0, .int 0]))]) [.ref h0, .ref a1, .ref a2] 0 0 := by
  refine mi_of (by decide) rfl (Nat.le_of_ble_eq_true rfl) ?_
  intro sz p e s m args below meth c X hr hin
  refine w_aload_n 1 X 0 dX9_init_0 rfl rfl ?_
  refine w_obj 4 X m304 ⟨Nat.le_of_ble_eq_true rfl, Nat.le_of_ble_eq_true rfl⟩ dX9_init_1 rfl ?_
  refine w_aload_n 5 X 0 dX9_init_4 rfl rfl ?_
  refine w_aload_n 6 X 1 dX9_init_5 rfl rfl ?_
  refine w_put 9 X 0 rfl fq_X9_9_2 hin (Nat.le_of_ble_eq_true rfl) rfl rfl dX9_init_6 rfl ?_
  refine GW.eq (w2 := [(h0, .inr (2, [.ref a1, .null, .int 0, .int 0, .int 0]))]) rfl ?_
  refine w_aload_n 10 X 0 dX9_init_9 rfl rfl ?_
  refine w_aload_n 11 X 2 dX9_init_10 rfl rfl ?_
  refine w_put 14 X 0 rfl fq_X9_15_2 hin (Nat.le_of_ble_eq_true rfl) rfl rfl dX9_init_11 rfl ?_
  refine GW.eq (w2 := [(h0, .inr (2, [.ref a1, .ref a2, .int 0, .int 0, .int 0]))]) rfl ?_
  exact w_vret X hr (fun i => [].getD i 0) rfl ⟨Nat.le_of_ble_eq_true rfl, Nat.le_of_ble_eq_true rfl⟩ dX9_init_14
abbrev rm_k_X2_init_30 : Room := { frames := 2, cells := 0, slots := 0, locals := 44 }
set_option maxRecDepth 100000 in
set_option maxHeartbeats 8000000 in
theorem k_X2_init_30 {l : Launch} {D : va_G} {ks : Nat → ClassId} (h0 a1 a2 : Nat) : MI l yX2_init cX2_init 4 rm_k_X2_init_30 D ks [(h0, .inr (2, [.null, .null, .int 0, .int 0, .int 0]))] (fun q => [(h0, .inr (2, [.ref a1, .ref a2, .int 0, .int 0, .int 1]))]) [.ref h0, .ref a1, .ref a2, .int 0] 0 0 := by
  refine mi_of (by decide) rfl (Nat.le_of_ble_eq_true rfl) ?_
  intro sz p e s m args below meth c X hr hin
  refine w_aload_n 1 X 0 dX2_init_0 rfl rfl ?_
  refine w_aload_n 2 X 1 dX2_init_1 rfl rfl ?_
  refine w_aload_n 3 X 2 dX2_init_2 rfl rfl ?_
  refine w_call 6 X cdi_X2_3 (k_X9_init_this2 (ks := ks) h0 a1 a2) ⟨rfl, rfl⟩ ⟨Nat.le_of_ble_eq_true rfl, Nat.le_of_ble_eq_true rfl⟩ ⟨Nat.le_of_ble_eq_true rfl, Nat.le_of_ble_eq_true rfl⟩ [0] [] rfl rfl (by decide) (by decide) (by decide) rfl rfl (Nat.le_of_ble_eq_true rfl) dX2_init_3 rfl (fun qa1 => ?_)
  refine GW.eq (w2 := [(h0, .inr (2, [.ref a1, .ref a2, .int 0, .int 0, .int 0]))]) rfl ?_
  refine w_aload_n 7 X 0 dX2_init_6 rfl rfl ?_
  refine w_iload_n 8 X 3 dX2_init_7 rfl rfl ?_
  refine w_put 11 X 0 rfl fq_X2_9_2 hin (Nat.le_of_ble_eq_true rfl) nb0 fb0 dX2_init_8 rfl ?_
  refine GW.eq (w2 := [(h0, .inr (2, [.ref a1, .ref a2, .int 0, .int 0, .int 0]))]) rfl ?_
  refine w_aload_n 12 X 0 dX2_init_11 rfl rfl ?_
  refine w_iload_n 13 X 3 dX2_init_12 rfl rfl ?_
  refine w_eq_t 20 X (by decide) dX2_init_13 (by decide) ?_
  refine w_iconst 21 X dX2_init_20 ic1 rfl ?_
  refine w_put 24 X 0 rfl fq_X2_15_2 hin (Nat.le_of_ble_eq_true rfl) rfl rfl dX2_init_21 rfl ?_
  refine GW.eq (w2 := [(h0, .inr (2, [.ref a1, .ref a2, .int 0, .int 0, .int 1]))]) rfl ?_
  exact w_vret X hr (fun i => [].getD i 0) rfl ⟨Nat.le_of_ble_eq_true rfl, Nat.le_of_ble_eq_true rfl⟩ dX2_init_24
abbrev rm_k_X2_init_31 : Room := { frames := 2, cells := 0, slots := 0, locals := 44 }
set_option maxRecDepth 100000 in
set_option maxHeartbeats 8000000 in
theorem k_X2_init_31 {l : Launch} {D : va_G} {ks : Nat → ClassId} (h0 a1 a2 : Nat) : MI l yX2_init cX2_init 4 rm_k_X2_init_31 D ks [(h0, .inr (2, [.null, .null, .int 0, .int 0, .int 0]))] (fun q => [(h0, .inr (2, [.ref a1, .ref a2, .int 0, .int 1, .int 4]))]) [.ref h0, .ref a1, .ref a2, .int 1] 0 0 := by
  refine mi_of (by decide) rfl (Nat.le_of_ble_eq_true rfl) ?_
  intro sz p e s m args below meth c X hr hin
  refine w_aload_n 1 X 0 dX2_init_0 rfl rfl ?_
  refine w_aload_n 2 X 1 dX2_init_1 rfl rfl ?_
  refine w_aload_n 3 X 2 dX2_init_2 rfl rfl ?_
  refine w_call 6 X cdi_X2_3 (k_X9_init_this2 (ks := ks) h0 a1 a2) ⟨rfl, rfl⟩ ⟨Nat.le_of_ble_eq_true rfl, Nat.le_of_ble_eq_true rfl⟩ ⟨Nat.le_of_ble_eq_true rfl, Nat.le_of_ble_eq_true rfl⟩ [0] [] rfl rfl (by decide) (by decide) (by decide) rfl rfl (Nat.le_of_ble_eq_true rfl) dX2_init_3 rfl (fun qa1 => ?_)
  refine GW.eq (w2 := [(h0, .inr (2, [.ref a1, .ref a2, .int 0, .int 0, .int 0]))]) rfl ?_
  refine w_aload_n 7 X 0 dX2_init_6 rfl rfl ?_
  refine w_iload_n 8 X 3 dX2_init_7 rfl rfl ?_
  refine w_put 11 X 0 rfl fq_X2_9_2 hin (Nat.le_of_ble_eq_true rfl) nb1 fb1 dX2_init_8 rfl ?_
  refine GW.eq (w2 := [(h0, .inr (2, [.ref a1, .ref a2, .int 0, .int 1, .int 0]))]) rfl ?_
  refine w_aload_n 12 X 0 dX2_init_11 rfl rfl ?_
  refine w_iload_n 13 X 3 dX2_init_12 rfl rfl ?_
  refine w_eq_f 16 20 X (by decide) dX2_init_13 (by decide) rfl ?_
  refine w_iconst 17 X dX2_init_16 ic4 rfl ?_
  refine w_goto 21 X dX2_init_17 (by decide) ?_
  refine w_put 24 X 0 rfl fq_X2_15_2 hin (Nat.le_of_ble_eq_true rfl) rfl rfl dX2_init_21 rfl ?_
  refine GW.eq (w2 := [(h0, .inr (2, [.ref a1, .ref a2, .int 0, .int 1, .int 4]))]) rfl ?_
  exact w_vret X hr (fun i => [].getD i 0) rfl ⟨Nat.le_of_ble_eq_true rfl, Nat.le_of_ble_eq_true rfl⟩ dX2_init_24
abbrev rm_k_X9_init_this4 : Room := { frames := 1, cells := 0, slots := 0, locals := 22 }
set_option maxRecDepth 100000 in
set_option maxHeartbeats 8000000 in
theorem k_X9_init_this4 {l : Launch} {D : va_G} {ks : Nat → ClassId} (h0 a1 a2 : Nat) : MI l yX9_init cX9_init 3 rm_k_X9_init_this4 D ks [(h0, .inr (4, [.null, .null, .int 0, .int 0]))] (fun q => [(h0, .inr (4, [.ref a1, .ref a2, .int 0, .int 0]))]) [.ref h0, .ref a1, .ref a2] 0 0 := by
  refine mi_of (by decide) rfl (Nat.le_of_ble_eq_true rfl) ?_
  intro sz p e s m args below meth c X hr hin
  refine w_aload_n 1 X 0 dX9_init_0 rfl rfl ?_
  refine w_obj 4 X m304 ⟨Nat.le_of_ble_eq_true rfl, Nat.le_of_ble_eq_true rfl⟩ dX9_init_1 rfl ?_
  refine w_aload_n 5 X 0 dX9_init_4 rfl rfl ?_
  refine w_aload_n 6 X 1 dX9_init_5 rfl rfl ?_
  refine w_put 9 X 0 rfl fq_X9_9_4 hin (Nat.le_of_ble_eq_true rfl) rfl rfl dX9_init_6 rfl ?_
  refine GW.eq (w2 := [(h0, .inr (4, [.ref a1, .null, .int 0, .int 0]))]) rfl ?_
  refine w_aload_n 10 X 0 dX9_init_9 rfl rfl ?_
  refine w_aload_n 11 X 2 dX9_init_10 rfl rfl ?_
  refine w_put 14 X 0 rfl fq_X9_15_4 hin (Nat.le_of_ble_eq_true rfl) rfl rfl dX9_init_11 rfl ?_
  refine GW.eq (w2 := [(h0, .inr (4, [.ref a1, .ref a2, .int 0, .int 0]))]) rfl ?_
  exact w_vret X hr (fun i => [].getD i 0) rfl ⟨Nat.le_of_ble_eq_true rfl, Nat.le_of_ble_eq_true rfl⟩ dX9_init_14
abbrev rm_k_X4_init_30 : Room := { frames := 2, cells := 0, slots := 0, locals := 44 }
set_option maxRecDepth 100000 in
set_option maxHeartbeats 8000000 in
theorem k_X4_init_30 {l : Launch} {D : va_G} {ks : Nat → ClassId} (h0 a1 a2 : Nat) : MI l yX4_init cX4_init 4 rm_k_X4_init_30 D ks [(h0, .inr (4, [.null, .null, .int 0, .int 0]))] (fun q => [(h0, .inr (4, [.ref a1, .ref a2, .int 0, .int 0]))]) [.ref h0, .ref a1, .ref a2, .int 0] 0 0 := by
  refine mi_of (by decide) rfl (Nat.le_of_ble_eq_true rfl) ?_
  intro sz p e s m args below meth c X hr hin
  refine w_aload_n 1 X 0 dX4_init_0 rfl rfl ?_
  refine w_aload_n 2 X 1 dX4_init_1 rfl rfl ?_
  refine w_aload_n 3 X 2 dX4_init_2 rfl rfl ?_
  refine w_call 6 X cdi_X4_3 (k_X9_init_this4 (ks := ks) h0 a1 a2) ⟨rfl, rfl⟩ ⟨Nat.le_of_ble_eq_true rfl, Nat.le_of_ble_eq_true rfl⟩ ⟨Nat.le_of_ble_eq_true rfl, Nat.le_of_ble_eq_true rfl⟩ [0] [] rfl rfl (by decide) (by decide) (by decide) rfl rfl (Nat.le_of_ble_eq_true rfl) dX4_init_3 rfl (fun qa1 => ?_)
  refine GW.eq (w2 := [(h0, .inr (4, [.ref a1, .ref a2, .int 0, .int 0]))]) rfl ?_
  refine w_aload_n 7 X 0 dX4_init_6 rfl rfl ?_
  refine w_iload_n 8 X 3 dX4_init_7 rfl rfl ?_
  refine w_put 11 X 0 rfl fq_X4_9_4 hin (Nat.le_of_ble_eq_true rfl) nb0 fb0 dX4_init_8 rfl ?_
  refine GW.eq (w2 := [(h0, .inr (4, [.ref a1, .ref a2, .int 0, .int 0]))]) rfl ?_
  exact w_vret X hr (fun i => [].getD i 0) rfl ⟨Nat.le_of_ble_eq_true rfl, Nat.le_of_ble_eq_true rfl⟩ dX4_init_11
abbrev rm_k_X4_init_31 : Room := { frames := 2, cells := 0, slots := 0, locals := 44 }
set_option maxRecDepth 100000 in
set_option maxHeartbeats 8000000 in
theorem k_X4_init_31 {l : Launch} {D : va_G} {ks : Nat → ClassId} (h0 a1 a2 : Nat) : MI l yX4_init cX4_init 4 rm_k_X4_init_31 D ks [(h0, .inr (4, [.null, .null, .int 0, .int 0]))] (fun q => [(h0, .inr (4, [.ref a1, .ref a2, .int 0, .int 1]))]) [.ref h0, .ref a1, .ref a2, .int 1] 0 0 := by
  refine mi_of (by decide) rfl (Nat.le_of_ble_eq_true rfl) ?_
  intro sz p e s m args below meth c X hr hin
  refine w_aload_n 1 X 0 dX4_init_0 rfl rfl ?_
  refine w_aload_n 2 X 1 dX4_init_1 rfl rfl ?_
  refine w_aload_n 3 X 2 dX4_init_2 rfl rfl ?_
  refine w_call 6 X cdi_X4_3 (k_X9_init_this4 (ks := ks) h0 a1 a2) ⟨rfl, rfl⟩ ⟨Nat.le_of_ble_eq_true rfl, Nat.le_of_ble_eq_true rfl⟩ ⟨Nat.le_of_ble_eq_true rfl, Nat.le_of_ble_eq_true rfl⟩ [0] [] rfl rfl (by decide) (by decide) (by decide) rfl rfl (Nat.le_of_ble_eq_true rfl) dX4_init_3 rfl (fun qa1 => ?_)
  refine GW.eq (w2 := [(h0, .inr (4, [.ref a1, .ref a2, .int 0, .int 0]))]) rfl ?_
  refine w_aload_n 7 X 0 dX4_init_6 rfl rfl ?_
  refine w_iload_n 8 X 3 dX4_init_7 rfl rfl ?_
  refine w_put 11 X 0 rfl fq_X4_9_4 hin (Nat.le_of_ble_eq_true rfl) nb1 fb1 dX4_init_8 rfl ?_
  refine GW.eq (w2 := [(h0, .inr (4, [.ref a1, .ref a2, .int 0, .int 1]))]) rfl ?_
  exact w_vret X hr (fun i => [].getD i 0) rfl ⟨Nat.le_of_ble_eq_true rfl, Nat.le_of_ble_eq_true rfl⟩ dX4_init_11
abbrev rm_k_X9_init_this8 : Room := { frames := 1, cells := 0, slots := 0, locals := 22 }
set_option maxRecDepth 100000 in
set_option maxHeartbeats 8000000 in
theorem k_X9_init_this8 {l : Launch} {D : va_G} {ks : Nat → ClassId} (h0 a1 a2 : Nat) : MI l yX9_init cX9_init 3 rm_k_X9_init_this8 D ks [(h0, .inr (8, [.null, .null, .int 0, .null]))] (fun q => [(h0, .inr (8, [.ref a1, .ref a2, .int 0, .null]))]) [.ref h0, .ref a1, .ref a2] 0 0 := by
  refine mi_of (by decide) rfl (Nat.le_of_ble_eq_true rfl) ?_
  intro sz p e s m args below meth c X hr hin
  refine w_aload_n 1 X 0 dX9_init_0 rfl rfl ?_
  refine w_obj 4 X m304 ⟨Nat.le_of_ble_eq_true rfl, Nat.le_of_ble_eq_true rfl⟩ dX9_init_1 rfl ?_
  refine w_aload_n 5 X 0 dX9_init_4 rfl rfl ?_
  refine w_aload_n 6 X 1 dX9_init_5 rfl rfl ?_
  refine w_put 9 X 0 rfl fq_X9_9_8 hin (Nat.le_of_ble_eq_true rfl) rfl rfl dX9_init_6 rfl ?_
  refine GW.eq (w2 := [(h0, .inr (8, [.ref a1, .null, .int 0, .null]))]) rfl ?_
  refine w_aload_n 10 X 0 dX9_init_9 rfl rfl ?_
  refine w_aload_n 11 X 2 dX9_init_10 rfl rfl ?_
  refine w_put 14 X 0 rfl fq_X9_15_8 hin (Nat.le_of_ble_eq_true rfl) rfl rfl dX9_init_11 rfl ?_
  refine GW.eq (w2 := [(h0, .inr (8, [.ref a1, .ref a2, .int 0, .null]))]) rfl ?_
  exact w_vret X hr (fun i => [].getD i 0) rfl ⟨Nat.le_of_ble_eq_true rfl, Nat.le_of_ble_eq_true rfl⟩ dX9_init_14
abbrev rm_k_X8_init : Room := { frames := 2, cells := 1, slots := 9, locals := 44 }
set_option maxRecDepth 100000 in
set_option maxHeartbeats 8000000 in
theorem k_X8_init {l : Launch} {D : va_G} {ks : Nat → ClassId} (h0 a1 a2 : Nat) : MI l yX8_init cX8_init 3 rm_k_X8_init D ks [(h0, .inr (8, [.null, .null, .int 0, .null]))] (fun q => [(h0, .inr (8, [.ref a1, .ref a2, .int 0, .ref (q 0)])), ((q 0), .inl (ks 1, 9, .inr (.inl (fun _ => 0))))]) [.ref h0, .ref a1, .ref a2] 1 9 := by
  refine mi_of (by decide) rfl (Nat.le_of_ble_eq_true rfl) ?_
  intro sz p e s m args below meth c X hr hin
  refine w_aload_n 1 X 0 dX8_init_0 rfl rfl ?_
  refine w_aload_n 2 X 1 dX8_init_1 rfl rfl ?_
  refine w_aload_n 3 X 2 dX8_init_2 rfl rfl ?_
  refine w_call 6 X cdi_X8_3 (k_X9_init_this8 (ks := ks) h0 a1 a2) ⟨rfl, rfl⟩ ⟨Nat.le_of_ble_eq_true rfl, Nat.le_of_ble_eq_true rfl⟩ ⟨Nat.le_of_ble_eq_true rfl, Nat.le_of_ble_eq_true rfl⟩ [0] [] rfl rfl (by decide) (by decide) (by decide) rfl rfl (Nat.le_of_ble_eq_true rfl) dX8_init_3 rfl (fun qa1 => ?_)
  refine GW.eq (w2 := [(h0, .inr (8, [.ref a1, .ref a2, .int 0, .null]))]) rfl ?_
  refine w_aload_n 7 X 0 dX8_init_6 rfl rfl ?_
  refine w_bipush 9 X dX8_init_7 bp9 rfl ?_
  refine w_newa_long 11 X 9 (by decide) (by decide) (by decide) ⟨Nat.le_of_ble_eq_true rfl, Nat.le_of_ble_eq_true rfl⟩ dX8_init_9 rfl (fun q2 => ?_)
  refine GW.eq (w2 := [(h0, .inr (8, [.ref a1, .ref a2, .int 0, .null])), (q2, .inl (ks 1, 9, .inr (.inl (fun _ => 0))))]) rfl ?_
  refine w_put 14 X 0 rfl fq_X8_9_8 hin (Nat.le_of_ble_eq_true rfl) rfl rfl dX8_init_11 rfl ?_
  refine GW.eq (w2 := [(h0, .inr (8, [.ref a1, .ref a2, .int 0, .ref q2])), (q2, .inl (ks 1, 9, .inr (.inl (fun _ => 0))))]) rfl ?_
  exact w_vret X hr (fun i => [q2].getD i 0) rfl ⟨Nat.le_of_ble_eq_true rfl, Nat.le_of_ble_eq_true rfl⟩ dX8_init_14
abbrev rm_k_X5_init : Room := { frames := 3, cells := 8, slots := 55, locals := 67 }
set_option maxRecDepth 100000 in
set_option maxHeartbeats 8000000 in
theorem k_X5_init {l : Launch} {D : va_G} {ks : Nat → ClassId} (h0 a1 : Nat) : MI l yX5_init cX5_init 2 rm_k_X5_init D ks [(h0, .inr (5, [.null, .null, .null, .null, .null, .null, .null, .int 0, .int 0, .null]))] (fun q => [(h0, .inr (5, [.ref (q 0), .ref (q 1), .ref (q 2), .ref (q 3), .ref (q 4), .ref (q 5), .ref (q 6), .int 0, .int 0, .null])), ((q 0), .inl (ks 0, 20, .inl (fun _ => 0))), ((q 1), .inl (ks 0, 4, .inl (fun _ => 0))), ((q 2), .inr (2, [.ref a1, .ref (q 1), .int 0, .int 0, .int 1])), ((q 3), .inr (2, [.ref a1, .ref (q 1), .int 0, .int 1, .int 4])), ((q 4), .inr (4, [.ref a1, .ref (q 1), .int 0, .int 0])), ((q 5), .inr (4, [.ref a1, .ref (q 1), .int 0, .int 1])), ((q 6), .inr (8, [.ref a1, .ref (q 1), .int 0, .ref (q 7)])), ((q 7), .inl (ks 1, 9, .inr (.inl (fun _ => 0))))]) [.ref h0, .ref a1] 8 55 := by
  refine mi_of (by decide) rfl (Nat.le_of_ble_eq_true rfl) ?_
  intro sz p e s m args below meth c X hr hin
  refine w_aload_n 1 X 0 dX5_init_0 rfl rfl ?_
  refine w_obj 4 X m295 ⟨Nat.le_of_ble_eq_true rfl, Nat.le_of_ble_eq_true rfl⟩ dX5_init_1 rfl ?_
  refine w_aload_n 5 X 0 dX5_init_4 rfl rfl ?_
  refine w_bipush 7 X dX5_init_5 bp20 rfl ?_
  refine w_newa_int 9 X 20 (by decide) (by decide) (by decide) ⟨Nat.le_of_ble_eq_true rfl, Nat.le_of_ble_eq_true rfl⟩ dX5_init_7 rfl (fun q1 => ?_)
  refine GW.eq (w2 := [(h0, .inr (5, [.null, .null, .null, .null, .null, .null, .null, .int 0, .int 0, .null])), (q1, .inl (ks 0, 20, .inl (fun _ => 0)))]) rfl ?_
  refine w_put 12 X 0 rfl fq_X5_9_5 hin (Nat.le_of_ble_eq_true rfl) rfl rfl dX5_init_9 rfl ?_
  refine GW.eq (w2 := [(h0, .inr (5, [.ref q1, .null, .null, .null, .null, .null, .null, .int 0, .int 0, .null])), (q1, .inl (ks 0, 20, .inl (fun _ => 0)))]) rfl ?_
  refine w_aload_n 13 X 0 dX5_init_12 rfl rfl ?_
  refine w_iconst 14 X dX5_init_13 ic4 rfl ?_
  refine w_newa_int 16 X 4 (by decide) (by decide) (by decide) ⟨Nat.le_of_ble_eq_true rfl, Nat.le_of_ble_eq_true rfl⟩ dX5_init_14 rfl (fun q2 => ?_)
  refine GW.eq (w2 := [(h0, .inr (5, [.ref q1, .null, .null, .null, .null, .null, .null, .int 0, .int 0, .null])), (q1, .inl (ks 0, 20, .inl (fun _ => 0))), (q2, .inl (ks 0, 4, .inl (fun _ => 0)))]) rfl ?_
  refine w_put 19 X 0 rfl fq_X5_15_5 hin (Nat.le_of_ble_eq_true rfl) rfl rfl dX5_init_16 rfl ?_
  refine GW.eq (w2 := [(h0, .inr (5, [.ref q1, .ref q2, .null, .null, .null, .null, .null, .int 0, .int 0, .null])), (q1, .inl (ks 0, 20, .inl (fun _ => 0))), (q2, .inl (ks 0, 4, .inl (fun _ => 0)))]) rfl ?_
  refine w_aload_n 20 X 0 dX5_init_19 rfl rfl ?_
  refine w_new 23 X (ci := 2) [.null, .null, .int 0, .int 0, .int 0] inW2 tyX2 tyX2_ok rfl m296 m297 m74 (by decide +kernel) ⟨Nat.le_of_ble_eq_true rfl, Nat.le_of_ble_eq_true rfl⟩ dX5_init_20 rfl (fun q3 => ?_)
  refine GW.eq (w2 := [(h0, .inr (5, [.ref q1, .ref q2, .null, .null, .null, .null, .null, .int 0, .int 0, .null])), (q1, .inl (ks 0, 20, .inl (fun _ => 0))), (q2, .inl (ks 0, 4, .inl (fun _ => 0))), (q3, .inr (2, [.null, .null, .int 0, .int 0, .int 0]))]) rfl ?_
  refine w_dup 24 X dX5_init_23 rfl rfl ?_
  refine w_aload_n 25 X 1 dX5_init_24 rfl rfl ?_
  refine w_aload_n 26 X 0 dX5_init_25 rfl rfl ?_
  refine w_get 29 X 0 rfl fl_X5_15_5 rfl dX5_init_26 rfl ?_
  refine w_iconst 30 X dX5_init_29 ic0 rfl ?_
  refine w_call 33 X cdi_X5_20 (k_X2_init_30 (ks := ks) q3 a1 q2) ⟨rfl, rfl⟩ ⟨Nat.le_of_ble_eq_true rfl, Nat.le_of_ble_eq_true rfl⟩ ⟨Nat.le_of_ble_eq_true rfl, Nat.le_of_ble_eq_true rfl⟩ [3] [0, 1, 2] rfl rfl (by decide) (by decide) (by decide) rfl rfl (Nat.le_of_ble_eq_true rfl) dX5_init_30 rfl (fun qa4 => ?_)
  refine GW.eq (w2 := [(h0, .inr (5, [.ref q1, .ref q2, .null, .null, .null, .null, .null, .int 0, .int 0, .null])), (q1, .inl (ks 0, 20, .inl (fun _ => 0))), (q2, .inl (ks 0, 4, .inl (fun _ => 0))), (q3, .inr (2, [.ref a1, .ref q2, .int 0, .int 0, .int 1]))]) rfl ?_
  refine w_put 36 X 0 rfl fq_X5_23_5 hin (Nat.le_of_ble_eq_true rfl) rfl rfl dX5_init_33 rfl ?_
  refine GW.eq (w2 := [(h0, .inr (5, [.ref q1, .ref q2, .ref q3, .null, .null, .null, .null, .int 0, .int 0, .null])), (q1, .inl (ks 0, 20, .inl (fun _ => 0))), (q2, .inl (ks 0, 4, .inl (fun _ => 0))), (q3, .inr (2, [.ref a1, .ref q2, .int 0, .int 0, .int 1]))]) rfl ?_
  refine w_aload_n 37 X 0 dX5_init_36 rfl rfl ?_
  refine w_new 40 X (ci := 2) [.null, .null, .int 0, .int 0, .int 0] inW2 tyX2 tyX2_ok rfl m296 m297 m74 (by decide +kernel) ⟨Nat.le_of_ble_eq_true rfl, Nat.le_of_ble_eq_true rfl⟩ dX5_init_37 rfl (fun q5 => ?_)
  refine GW.eq (w2 := [(h0, .inr (5, [.ref q1, .ref q2, .ref q3, .null, .null, .null, .null, .int 0, .int 0, .null])), (q1, .inl (ks 0, 20, .inl (fun _ => 0))), (q2, .inl (ks 0, 4, .inl (fun _ => 0))), (q3, .inr (2, [.ref a1, .ref q2, .int 0, .int 0, .int 1])), (q5, .inr (2, [.null, .null, .int 0, .int 0, .int 0]))]) rfl ?_
  refine w_dup 41 X dX5_init_40 rfl rfl ?_
  refine w_aload_n 42 X 1 dX5_init_41 rfl rfl ?_
  refine w_aload_n 43 X 0 dX5_init_42 rfl rfl ?_
  refine w_get 46 X 0 rfl fl_X5_15_5 rfl dX5_init_43 rfl ?_
  refine w_iconst 47 X dX5_init_46 ic1 rfl ?_
  refine w_call 50 X cdi_X5_20 (k_X2_init_31 (ks := ks) q5 a1 q2) ⟨rfl, rfl⟩ ⟨Nat.le_of_ble_eq_true rfl, Nat.le_of_ble_eq_true rfl⟩ ⟨Nat.le_of_ble_eq_true rfl, Nat.le_of_ble_eq_true rfl⟩ [4] [0, 1, 2, 3] rfl rfl (by decide) (by decide) (by decide) rfl rfl (Nat.le_of_ble_eq_true rfl) dX5_init_47 rfl (fun qa6 => ?_)
  refine GW.eq (w2 := [(h0, .inr (5, [.ref q1, .ref q2, .ref q3, .null, .null, .null, .null, .int 0, .int 0, .null])), (q1, .inl (ks 0, 20, .inl (fun _ => 0))), (q2, .inl (ks 0, 4, .inl (fun _ => 0))), (q3, .inr (2, [.ref a1, .ref q2, .int 0, .int 0, .int 1])), (q5, .inr (2, [.ref a1, .ref q2, .int 0, .int 1, .int 4]))]) rfl ?_
  refine w_put 53 X 0 rfl fq_X5_27_5 hin (Nat.le_of_ble_eq_true rfl) rfl rfl dX5_init_50 rfl ?_
  refine GW.eq (w2 := [(h0, .inr (5, [.ref q1, .ref q2, .ref q3, .ref q5, .null, .null, .null, .int 0, .int 0, .null])), (q1, .inl (ks 0, 20, .inl (fun _ => 0))), (q2, .inl (ks 0, 4, .inl (fun _ => 0))), (q3, .inr (2, [.ref a1, .ref q2, .int 0, .int 0, .int 1])), (q5, .inr (2, [.ref a1, .ref q2, .int 0, .int 1, .int 4]))]) rfl ?_
  refine w_aload_n 54 X 0 dX5_init_53 rfl rfl ?_
  refine w_new 57 X (ci := 4) [.null, .null, .int 0, .int 0] inW4 tyX4 tyX4_ok rfl m334 m335 m75 (by decide +kernel) ⟨Nat.le_of_ble_eq_true rfl, Nat.le_of_ble_eq_true rfl⟩ dX5_init_54 rfl (fun q7 => ?_)
  refine GW.eq (w2 := [(h0, .inr (5, [.ref q1, .ref q2, .ref q3, .ref q5, .null, .null, .null, .int 0, .int 0, .null])), (q1, .inl (ks 0, 20, .inl (fun _ => 0))), (q2, .inl (ks 0, 4, .inl (fun _ => 0))), (q3, .inr (2, [.ref a1, .ref q2, .int 0, .int 0, .int 1])), (q5, .inr (2, [.ref a1, .ref q2, .int 0, .int 1, .int 4])), (q7, .inr (4, [.null, .null, .int 0, .int 0]))]) rfl ?_
  refine w_dup 58 X dX5_init_57 rfl rfl ?_
  refine w_aload_n 59 X 1 dX5_init_58 rfl rfl ?_
  refine w_aload_n 60 X 0 dX5_init_59 rfl rfl ?_
  refine w_get 63 X 0 rfl fl_X5_15_5 rfl dX5_init_60 rfl ?_
  refine w_iconst 64 X dX5_init_63 ic0 rfl ?_
  refine w_call 67 X cdi_X5_32 (k_X4_init_30 (ks := ks) q7 a1 q2) ⟨rfl, rfl⟩ ⟨Nat.le_of_ble_eq_true rfl, Nat.le_of_ble_eq_true rfl⟩ ⟨Nat.le_of_ble_eq_true rfl, Nat.le_of_ble_eq_true rfl⟩ [5] [0, 1, 2, 3, 4] rfl rfl (by decide) (by decide) (by decide) rfl rfl (Nat.le_of_ble_eq_true rfl) dX5_init_64 rfl (fun qa8 => ?_)
  refine GW.eq (w2 := [(h0, .inr (5, [.ref q1, .ref q2, .ref q3, .ref q5, .null, .null, .null, .int 0, .int 0, .null])), (q1, .inl (ks 0, 20, .inl (fun _ => 0))), (q2, .inl (ks 0, 4, .inl (fun _ => 0))), (q3, .inr (2, [.ref a1, .ref q2, .int 0, .int 0, .int 1])), (q5, .inr (2, [.ref a1, .ref q2, .int 0, .int 1, .int 4])), (q7, .inr (4, [.ref a1, .ref q2, .int 0, .int 0]))]) rfl ?_
  refine w_put 70 X 0 rfl fq_X5_33_5 hin (Nat.le_of_ble_eq_true rfl) rfl rfl dX5_init_67 rfl ?_
  refine GW.eq (w2 := [(h0, .inr (5, [.ref q1, .ref q2, .ref q3, .ref q5, .ref q7, .null, .null, .int 0, .int 0, .null])), (q1, .inl (ks 0, 20, .inl (fun _ => 0))), (q2, .inl (ks 0, 4, .inl (fun _ => 0))), (q3, .inr (2, [.ref a1, .ref q2, .int 0, .int 0, .int 1])), (q5, .inr (2, [.ref a1, .ref q2, .int 0, .int 1, .int 4])), (q7, .inr (4, [.ref a1, .ref q2, .int 0, .int 0]))]) rfl ?_
  refine w_aload_n 71 X 0 dX5_init_70 rfl rfl ?_
  refine w_new 74 X (ci := 4) [.null, .null, .int 0, .int 0] inW4 tyX4 tyX4_ok rfl m334 m335 m75 (by decide +kernel) ⟨Nat.le_of_ble_eq_true rfl, Nat.le_of_ble_eq_true rfl⟩ dX5_init_71 rfl (fun q9 => ?_)
  refine GW.eq (w2 := [(h0, .inr (5, [.ref q1, .ref q2, .ref q3, .ref q5, .ref q7, .null, .null, .int 0, .int 0, .null])), (q1, .inl (ks 0, 20, .inl (fun _ => 0))), (q2, .inl (ks 0, 4, .inl (fun _ => 0))), (q3, .inr (2, [.ref a1, .ref q2, .int 0, .int 0, .int 1])), (q5, .inr (2, [.ref a1, .ref q2, .int 0, .int 1, .int 4])), (q7, .inr (4, [.ref a1, .ref q2, .int 0, .int 0])), (q9, .inr (4, [.null, .null, .int 0, .int 0]))]) rfl ?_
  refine w_dup 75 X dX5_init_74 rfl rfl ?_
  refine w_aload_n 76 X 1 dX5_init_75 rfl rfl ?_
  refine w_aload_n 77 X 0 dX5_init_76 rfl rfl ?_
  refine w_get 80 X 0 rfl fl_X5_15_5 rfl dX5_init_77 rfl ?_
  refine w_iconst 81 X dX5_init_80 ic1 rfl ?_
  refine w_call 84 X cdi_X5_32 (k_X4_init_31 (ks := ks) q9 a1 q2) ⟨rfl, rfl⟩ ⟨Nat.le_of_ble_eq_true rfl, Nat.le_of_ble_eq_true rfl⟩ ⟨Nat.le_of_ble_eq_true rfl, Nat.le_of_ble_eq_true rfl⟩ [6] [0, 1, 2, 3, 4, 5] rfl rfl (by decide) (by decide) (by decide) rfl rfl (Nat.le_of_ble_eq_true rfl) dX5_init_81 rfl (fun qa10 => ?_)
  refine GW.eq (w2 := [(h0, .inr (5, [.ref q1, .ref q2, .ref q3, .ref q5, .ref q7, .null, .null, .int 0, .int 0, .null])), (q1, .inl (ks 0, 20, .inl (fun _ => 0))), (q2, .inl (ks 0, 4, .inl (fun _ => 0))), (q3, .inr (2, [.ref a1, .ref q2, .int 0, .int 0, .int 1])), (q5, .inr (2, [.ref a1, .ref q2, .int 0, .int 1, .int 4])), (q7, .inr (4, [.ref a1, .ref q2, .int 0, .int 0])), (q9, .inr (4, [.ref a1, .ref q2, .int 0, .int 1]))]) rfl ?_
  refine w_put 87 X 0 rfl fq_X5_36_5 hin (Nat.le_of_ble_eq_true rfl) rfl rfl dX5_init_84 rfl ?_
  refine GW.eq (w2 := [(h0, .inr (5, [.ref q1, .ref q2, .ref q3, .ref q5, .ref q7, .ref q9, .null, .int 0, .int 0, .null])), (q1, .inl (ks 0, 20, .inl (fun _ => 0))), (q2, .inl (ks 0, 4, .inl (fun _ => 0))), (q3, .inr (2, [.ref a1, .ref q2, .int 0, .int 0, .int 1])), (q5, .inr (2, [.ref a1, .ref q2, .int 0, .int 1, .int 4])), (q7, .inr (4, [.ref a1, .ref q2, .int 0, .int 0])), (q9, .inr (4, [.ref a1, .ref q2, .int 0, .int 1]))]) rfl ?_
  refine w_aload_n 88 X 0 dX5_init_87 rfl rfl ?_
  refine w_new 91 X (ci := 8) [.null, .null, .int 0, .null] inW8 tyX8 tyX8_ok rfl m347 m348 m76 (by decide +kernel) ⟨Nat.le_of_ble_eq_true rfl, Nat.le_of_ble_eq_true rfl⟩ dX5_init_88 rfl (fun q11 => ?_)
  refine GW.eq (w2 := [(h0, .inr (5, [.ref q1, .ref q2, .ref q3, .ref q5, .ref q7, .ref q9, .null, .int 0, .int 0, .null])), (q1, .inl (ks 0, 20, .inl (fun _ => 0))), (q2, .inl (ks 0, 4, .inl (fun _ => 0))), (q3, .inr (2, [.ref a1, .ref q2, .int 0, .int 0, .int 1])), (q5, .inr (2, [.ref a1, .ref q2, .int 0, .int 1, .int 4])), (q7, .inr (4, [.ref a1, .ref q2, .int 0, .int 0])), (q9, .inr (4, [.ref a1, .ref q2, .int 0, .int 1])), (q11, .inr (8, [.null, .null, .int 0, .null]))]) rfl ?_
  refine w_dup 92 X dX5_init_91 rfl rfl ?_
  refine w_aload_n 93 X 1 dX5_init_92 rfl rfl ?_
  refine w_aload_n 94 X 0 dX5_init_93 rfl rfl ?_
  refine w_get 97 X 0 rfl fl_X5_15_5 rfl dX5_init_94 rfl ?_
  refine w_call 100 X cdi_X5_41 (k_X8_init (ks := ks) q11 a1 q2) ⟨rfl, rfl⟩ ⟨Nat.le_of_ble_eq_true rfl, Nat.le_of_ble_eq_true rfl⟩ ⟨Nat.le_of_ble_eq_true rfl, Nat.le_of_ble_eq_true rfl⟩ [7] [0, 1, 2, 3, 4, 5, 6] rfl rfl (by decide) (by decide) (by decide) rfl rfl (Nat.le_of_ble_eq_true rfl) dX5_init_97 rfl (fun qa12 => ?_)
  refine GW.eq (w2 := [(h0, .inr (5, [.ref q1, .ref q2, .ref q3, .ref q5, .ref q7, .ref q9, .null, .int 0, .int 0, .null])), (q1, .inl (ks 0, 20, .inl (fun _ => 0))), (q2, .inl (ks 0, 4, .inl (fun _ => 0))), (q3, .inr (2, [.ref a1, .ref q2, .int 0, .int 0, .int 1])), (q5, .inr (2, [.ref a1, .ref q2, .int 0, .int 1, .int 4])), (q7, .inr (4, [.ref a1, .ref q2, .int 0, .int 0])), (q9, .inr (4, [.ref a1, .ref q2, .int 0, .int 1])), (q11, .inr (8, [.ref a1, .ref q2, .int 0, .ref (qa12 0)])), ((qa12 0), .inl (ks 1, 9, .inr (.inl (fun _ => 0))))]) rfl ?_
  refine w_put 103 X 0 rfl fq_X5_44_5 hin (Nat.le_of_ble_eq_true rfl) rfl rfl dX5_init_100 rfl ?_
  refine GW.eq (w2 := [(h0, .inr (5, [.ref q1, .ref q2, .ref q3, .ref q5, .ref q7, .ref q9, .ref q11, .int 0, .int 0, .null])), (q1, .inl (ks 0, 20, .inl (fun _ => 0))), (q2, .inl (ks 0, 4, .inl (fun _ => 0))), (q3, .inr (2, [.ref a1, .ref q2, .int 0, .int 0, .int 1])), (q5, .inr (2, [.ref a1, .ref q2, .int 0, .int 1, .int 4])), (q7, .inr (4, [.ref a1, .ref q2, .int 0, .int 0])), (q9, .inr (4, [.ref a1, .ref q2, .int 0, .int 1])), (q11, .inr (8, [.ref a1, .ref q2, .int 0, .ref (qa12 0)])), ((qa12 0), .inl (ks 1, 9, .inr (.inl (fun _ => 0))))]) rfl ?_
  exact w_vret X hr (fun i => [q1, q2, q3, q5, q7, q9, q11, (qa12 0)].getD i 0) rfl ⟨Nat.le_of_ble_eq_true rfl, Nat.le_of_ble_eq_true rfl⟩ dX5_init_103
abbrev rm_k_X7_init : Room := { frames := 1, cells := 1, slots := 90, locals := 22 }
set_option maxRecDepth 100000 in
set_option maxHeartbeats 8000000 in
theorem k_X7_init {l : Launch} {D : va_G} {ks : Nat → ClassId} (h0  : Nat) : MI l yX7_init cX7_init 1 rm_k_X7_init D ks [(h0, .inr (7, [.null, .int 0, .int 0, .int 0]))] (fun q => [(h0, .inr (7, [.ref (q 0), .int 1, .int 0, .int 0])), ((q 0), .inl (ks 0, 90, .inl (fun _ => 0)))]) [.ref h0] 1 90 := by
  refine mi_of (by decide) rfl (Nat.le_of_ble_eq_true rfl) ?_
  intro sz p e s m args below meth c X hr hin
  refine w_aload_n 1 X 0 dX7_init_0 rfl rfl ?_
  refine w_obj 4 X m397 ⟨Nat.le_of_ble_eq_true rfl, Nat.le_of_ble_eq_true rfl⟩ dX7_init_1 rfl ?_
  refine w_aload_n 5 X 0 dX7_init_4 rfl rfl ?_
  refine w_bipush 7 X dX7_init_5 bp90 rfl ?_
  refine w_newa_int 9 X 90 (by decide) (by decide) (by decide) ⟨Nat.le_of_ble_eq_true rfl, Nat.le_of_ble_eq_true rfl⟩ dX7_init_7 rfl (fun q1 => ?_)
  refine GW.eq (w2 := [(h0, .inr (7, [.null, .int 0, .int 0, .int 0])), (q1, .inl (ks 0, 90, .inl (fun _ => 0)))]) rfl ?_
  refine w_put 12 X 0 rfl fq_X7_9_7 hin (Nat.le_of_ble_eq_true rfl) rfl rfl dX7_init_9 rfl ?_
  refine GW.eq (w2 := [(h0, .inr (7, [.ref q1, .int 0, .int 0, .int 0])), (q1, .inl (ks 0, 90, .inl (fun _ => 0)))]) rfl ?_
  refine w_aload_n 13 X 0 dX7_init_12 rfl rfl ?_
  refine w_iconst 14 X dX7_init_13 ic1 rfl ?_
  refine w_put 17 X 0 rfl fq_X7_15_7 hin (Nat.le_of_ble_eq_true rfl) nb1 fb1 dX7_init_14 rfl ?_
  refine GW.eq (w2 := [(h0, .inr (7, [.ref q1, .int 1, .int 0, .int 0])), (q1, .inl (ks 0, 90, .inl (fun _ => 0)))]) rfl ?_
  exact w_vret X hr (fun i => [q1].getD i 0) rfl ⟨Nat.le_of_ble_eq_true rfl, Nat.le_of_ble_eq_true rfl⟩ dX7_init_17
