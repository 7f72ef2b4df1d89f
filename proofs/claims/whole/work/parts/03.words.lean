/-- the words of the tables that every state keeps -/
def wg : List Cond := lw_tbl.filter goodWord
/-- the others: nest links and declared methods -/
def wn : List Cond := lw_tbl.filter (fun w => !goodWord w)
theorem tb0 : ∀ w ∈ k2_sels lw_privs, w ∈ lw_tbl := fun _ h => List.mem_append_left _ h
theorem tb1 : ∀ w ∈ tables_1_1, w ∈ lw_tbl := fun _ h => List.mem_append_right _ (List.mem_append_left _ h)
theorem tb2 : ∀ w ∈ tables_1_2, w ∈ lw_tbl := fun _ h => List.mem_append_right _ (List.mem_append_right _ (List.mem_append_left _ h))
theorem tb3 : ∀ w ∈ tables_1_3, w ∈ lw_tbl := fun _ h => List.mem_append_right _ (List.mem_append_right _ (List.mem_append_right _ (List.mem_append_left _ h)))
theorem tb4 : ∀ w ∈ tables_1_4, w ∈ lw_tbl := fun _ h => List.mem_append_right _ (List.mem_append_right _ (List.mem_append_right _ (List.mem_append_right _ (List.mem_append_left _ h))))
theorem tb5 : ∀ w ∈ tables_1_5, w ∈ lw_tbl := fun _ h => List.mem_append_right _ (List.mem_append_right _ (List.mem_append_right _ (List.mem_append_right _ (List.mem_append_right _ (List.mem_append_left _ h)))))
theorem tb6 : ∀ w ∈ tables_1_6, w ∈ lw_tbl := fun _ h => List.mem_append_right _ (List.mem_append_right _ (List.mem_append_right _ (List.mem_append_right _ (List.mem_append_right _ (List.mem_append_right _ (h))))))
theorem m0 : Jvm.Cond.selects "DrawnList$Roll" yX6_layOnLine yX6_layOnLine ∈ wg := List.mem_filter.mpr ⟨tb0 _ (List.mem_of_getElem? (i := 0) (by decide +kernel)), by decide +kernel⟩
theorem m1 : Jvm.Cond.selects "DrawnList" yX11_findingOf yX11_findingOf ∈ wg := List.mem_filter.mpr ⟨tb0 _ (List.mem_of_getElem? (i := 1) (by decide +kernel)), by decide +kernel⟩
theorem m2 : Jvm.Cond.selects "DrawnList$Answers" yX0_settle yX0_settle ∈ wg := List.mem_filter.mpr ⟨tb0 _ (List.mem_of_getElem? (i := 2) (by decide +kernel)), by decide +kernel⟩
theorem m3 : Jvm.Cond.selects "DrawnList$Plan" yX5_understand yX5_understand ∈ wg := List.mem_filter.mpr ⟨tb0 _ (List.mem_of_getElem? (i := 3) (by decide +kernel)), by decide +kernel⟩
theorem m4 : Jvm.Cond.selects "DrawnList$Plan" yX5_byteAt yX5_byteAt ∈ wg := List.mem_filter.mpr ⟨tb0 _ (List.mem_of_getElem? (i := 4) (by decide +kernel)), by decide +kernel⟩
theorem m5 : Jvm.Cond.selects "DrawnList$Plan" yX5_faultOfNumbers yX5_faultOfNumbers ∈ wg := List.mem_filter.mpr ⟨tb0 _ (List.mem_of_getElem? (i := 5) (by decide +kernel)), by decide +kernel⟩
theorem m6 : Jvm.Cond.selects "DrawnList$Plan" yX5_isFigure yX5_isFigure ∈ wg := List.mem_filter.mpr ⟨tb0 _ (List.mem_of_getElem? (i := 6) (by decide +kernel)), by decide +kernel⟩
theorem m7 : Jvm.Cond.selects "DrawnList$GroupWay" yX2_sizeOf yX2_sizeOf ∈ wg := List.mem_filter.mpr ⟨tb0 _ (List.mem_of_getElem? (i := 7) (by decide +kernel)), by decide +kernel⟩
theorem m8 : Jvm.Cond.selects "DrawnList$GroupWay" yX2_membersOf yX2_membersOf ∈ wg := List.mem_filter.mpr ⟨tb0 _ (List.mem_of_getElem? (i := 8) (by decide +kernel)), by decide +kernel⟩
theorem m9 : Jvm.Cond.selects "DrawnList$LineWay" yX4_lengthOfStep yX4_lengthOfStep ∈ wg := List.mem_filter.mpr ⟨tb0 _ (List.mem_of_getElem? (i := 9) (by decide +kernel)), by decide +kernel⟩
theorem m10 : Jvm.Cond.selects "DrawnList$StepWay" yX8_clusters yX8_clusters ∈ wg := List.mem_filter.mpr ⟨tb0 _ (List.mem_of_getElem? (i := 10) (by decide +kernel)), by decide +kernel⟩
theorem m11 : Jvm.Cond.selects "DrawnList$StepWay" yX8_sizeOf yX8_sizeOf ∈ wg := List.mem_filter.mpr ⟨tb0 _ (List.mem_of_getElem? (i := 11) (by decide +kernel)), by decide +kernel⟩
theorem m12 : Jvm.Cond.selects "DrawnList$StepWay" yX8_takenOf yX8_takenOf ∈ wg := List.mem_filter.mpr ⟨tb0 _ (List.mem_of_getElem? (i := 12) (by decide +kernel)), by decide +kernel⟩
theorem m13 : Jvm.Cond.selects "DrawnList$GroupWay" yX2_groupOf yX2_groupOf ∈ wg := List.mem_filter.mpr ⟨tb0 _ (List.mem_of_getElem? (i := 13) (by decide +kernel)), by decide +kernel⟩
theorem m14 : Jvm.Cond.selects "DrawnList$LineWay" yX4_pointsWith yX4_pointsWith ∈ wg := List.mem_filter.mpr ⟨tb0 _ (List.mem_of_getElem? (i := 14) (by decide +kernel)), by decide +kernel⟩
theorem m15 : Jvm.Cond.selects "DrawnList$LineWay" yX4_drawAlongSizes yX4_drawAlongSizes ∈ wg := List.mem_filter.mpr ⟨tb0 _ (List.mem_of_getElem? (i := 15) (by decide +kernel)), by decide +kernel⟩
theorem m16 : Jvm.Cond.selects "DrawnList$LineWay" yX4_drawRoundList yX4_drawRoundList ∈ wg := List.mem_filter.mpr ⟨tb0 _ (List.mem_of_getElem? (i := 16) (by decide +kernel)), by decide +kernel⟩
theorem m17 : Jvm.Cond.selects "DrawnList$StepWay" yX8_clustersThatGive yX8_clustersThatGive ∈ wg := List.mem_filter.mpr ⟨tb0 _ (List.mem_of_getElem? (i := 17) (by decide +kernel)), by decide +kernel⟩
theorem m18 : Jvm.Cond.selects "DrawnList" yX11_refusalOfDraw yX11_refusalOfDraw ∈ wg := List.mem_filter.mpr ⟨tb0 _ (List.mem_of_getElem? (i := 18) (by decide +kernel)), by decide +kernel⟩
theorem m19 : Jvm.Cond.selects "DrawnList" yX11_addUp yX11_addUp ∈ wg := List.mem_filter.mpr ⟨tb0 _ (List.mem_of_getElem? (i := 19) (by decide +kernel)), by decide +kernel⟩
theorem m20 : Jvm.Cond.selects "DrawnList" yX11_spreadOf yX11_spreadOf ∈ wg := List.mem_filter.mpr ⟨tb0 _ (List.mem_of_getElem? (i := 20) (by decide +kernel)), by decide +kernel⟩
theorem m21 : Jvm.Cond.selects "DrawnList$GroupWay" yX2_addSpreadOf yX2_addSpreadOf ∈ wg := List.mem_filter.mpr ⟨tb0 _ (List.mem_of_getElem? (i := 21) (by decide +kernel)), by decide +kernel⟩
theorem m22 : Jvm.Cond.selects "DrawnList" yX11_edgeOf yX11_edgeOf ∈ wg := List.mem_filter.mpr ⟨tb0 _ (List.mem_of_getElem? (i := 22) (by decide +kernel)), by decide +kernel⟩
theorem m23 : Jvm.Cond.selects "DrawnList$Weights" yX10_start yX10_start ∈ wg := List.mem_filter.mpr ⟨tb0 _ (List.mem_of_getElem? (i := 23) (by decide +kernel)), by decide +kernel⟩
theorem m24 : Jvm.Cond.selects "DrawnList$Weights" yX10_divide yX10_divide ∈ wg := List.mem_filter.mpr ⟨tb0 _ (List.mem_of_getElem? (i := 24) (by decide +kernel)), by decide +kernel⟩
theorem m25 : Jvm.Cond.selects "DrawnList$Weights" yX10_sumOf yX10_sumOf ∈ wg := List.mem_filter.mpr ⟨tb0 _ (List.mem_of_getElem? (i := 25) (by decide +kernel)), by decide +kernel⟩
theorem m26 : Jvm.Cond.selects "DrawnList$Weights" yX10_raiseGreatestRest yX10_raiseGreatestRest ∈ wg := List.mem_filter.mpr ⟨tb0 _ (List.mem_of_getElem? (i := 26) (by decide +kernel)), by decide +kernel⟩
theorem m27 : Jvm.Cond.selects "DrawnList$Journey" yX3_gatherGains yX3_gatherGains ∈ wg := List.mem_filter.mpr ⟨tb0 _ (List.mem_of_getElem? (i := 27) (by decide +kernel)), by decide +kernel⟩
theorem m28 : Jvm.Cond.selects "DrawnList" yX11_digestOfPlan yX11_digestOfPlan ∈ wg := List.mem_filter.mpr ⟨tb0 _ (List.mem_of_getElem? (i := 28) (by decide +kernel)), by decide +kernel⟩
theorem m29 : Jvm.Cond.selects "DrawnListModel" yX12_met yX12_met ∈ wg := List.mem_filter.mpr ⟨tb0 _ (List.mem_of_getElem? (i := 29) (by decide +kernel)), by decide +kernel⟩
theorem m30 : Jvm.Cond.selects "DrawnListModel" yX12_lacks yX12_lacks ∈ wg := List.mem_filter.mpr ⟨tb0 _ (List.mem_of_getElem? (i := 30) (by decide +kernel)), by decide +kernel⟩
theorem m31 : Jvm.Cond.selects "DrawnListModel" yX12_isName yX12_isName ∈ wg := List.mem_filter.mpr ⟨tb0 _ (List.mem_of_getElem? (i := 31) (by decide +kernel)), by decide +kernel⟩
theorem m32 : Jvm.Cond.selects "DrawnListModel" yX12_valueOf yX12_valueOf ∈ wg := List.mem_filter.mpr ⟨tb0 _ (List.mem_of_getElem? (i := 32) (by decide +kernel)), by decide +kernel⟩
theorem m33 : Jvm.Cond.selects "DrawnListModel" yX12_manyOf yX12_manyOf ∈ wg := List.mem_filter.mpr ⟨tb0 _ (List.mem_of_getElem? (i := 33) (by decide +kernel)), by decide +kernel⟩
theorem m34 : Jvm.Cond.selects "DrawnListModel" yX12_reads yX12_reads ∈ wg := List.mem_filter.mpr ⟨tb0 _ (List.mem_of_getElem? (i := 34) (by decide +kernel)), by decide +kernel⟩
theorem m35 : Jvm.Cond.selects "DrawnListModel" yX12_here yX12_here ∈ wg := List.mem_filter.mpr ⟨tb0 _ (List.mem_of_getElem? (i := 35) (by decide +kernel)), by decide +kernel⟩
theorem m36 : Jvm.Cond.selects "DrawnListModel" yX12_number yX12_number ∈ wg := List.mem_filter.mpr ⟨tb0 _ (List.mem_of_getElem? (i := 36) (by decide +kernel)), by decide +kernel⟩
theorem m37 : Jvm.Cond.selects "DrawnListModel" yX12_canBe yX12_canBe ∈ wg := List.mem_filter.mpr ⟨tb0 _ (List.mem_of_getElem? (i := 37) (by decide +kernel)), by decide +kernel⟩
theorem m38 : Jvm.Cond.selects "DrawnListModel" yX12_allSizes yX12_allSizes ∈ wg := List.mem_filter.mpr ⟨tb0 _ (List.mem_of_getElem? (i := 38) (by decide +kernel)), by decide +kernel⟩
theorem m39 : Jvm.Cond.selects "DrawnListModel" yX12_clustersNow yX12_clustersNow ∈ wg := List.mem_filter.mpr ⟨tb0 _ (List.mem_of_getElem? (i := 39) (by decide +kernel)), by decide +kernel⟩
theorem m40 : Jvm.Cond.selects "DrawnListModel" yX12_drawsNow yX12_drawsNow ∈ wg := List.mem_filter.mpr ⟨tb0 _ (List.mem_of_getElem? (i := 40) (by decide +kernel)), by decide +kernel⟩
theorem m41 : Jvm.Cond.selects "DrawnListModel" yX12_ofCluster yX12_ofCluster ∈ wg := List.mem_filter.mpr ⟨tb0 _ (List.mem_of_getElem? (i := 41) (by decide +kernel)), by decide +kernel⟩
theorem m42 : Jvm.Cond.selects "DrawnListModel" yX12_findShare yX12_findShare ∈ wg := List.mem_filter.mpr ⟨tb0 _ (List.mem_of_getElem? (i := 42) (by decide +kernel)), by decide +kernel⟩
theorem m43 : Jvm.Cond.selects "DrawnListModel" yX12_goesRound yX12_goesRound ∈ wg := List.mem_filter.mpr ⟨tb0 _ (List.mem_of_getElem? (i := 43) (by decide +kernel)), by decide +kernel⟩
theorem m44 : Jvm.Cond.selects "DrawnListModel" yX12_waysOf yX12_waysOf ∈ wg := List.mem_filter.mpr ⟨tb0 _ (List.mem_of_getElem? (i := 44) (by decide +kernel)), by decide +kernel⟩
theorem m45 : Jvm.Cond.selects "DrawnListModel" yX12_drawOf yX12_drawOf ∈ wg := List.mem_filter.mpr ⟨tb0 _ (List.mem_of_getElem? (i := 45) (by decide +kernel)), by decide +kernel⟩
theorem m46 : Jvm.Cond.selects "DrawnListModel" yX12_becomes yX12_becomes ∈ wg := List.mem_filter.mpr ⟨tb0 _ (List.mem_of_getElem? (i := 46) (by decide +kernel)), by decide +kernel⟩
theorem m47 : Jvm.Cond.selects "DrawnListModel" yX12_findBoth yX12_findBoth ∈ wg := List.mem_filter.mpr ⟨tb0 _ (List.mem_of_getElem? (i := 47) (by decide +kernel)), by decide +kernel⟩
theorem m48 : Jvm.Cond.selects "DrawnListModel" yX12_waysWith yX12_waysWith ∈ wg := List.mem_filter.mpr ⟨tb0 _ (List.mem_of_getElem? (i := 48) (by decide +kernel)), by decide +kernel⟩
theorem m49 : Jvm.Cond.selects "DrawnListModel" yX12_ofClusters yX12_ofClusters ∈ wg := List.mem_filter.mpr ⟨tb0 _ (List.mem_of_getElem? (i := 49) (by decide +kernel)), by decide +kernel⟩
theorem m50 : Jvm.Cond.selects "DrawnListModel" yX12_lotsNow yX12_lotsNow ∈ wg := List.mem_filter.mpr ⟨tb0 _ (List.mem_of_getElem? (i := 50) (by decide +kernel)), by decide +kernel⟩
theorem m51 : Jvm.Cond.selects "DrawnListModel" yX12_lot yX12_lot ∈ wg := List.mem_filter.mpr ⟨tb0 _ (List.mem_of_getElem? (i := 51) (by decide +kernel)), by decide +kernel⟩
theorem m52 : Jvm.Cond.selects "DrawnListModel" yX12_allBits yX12_allBits ∈ wg := List.mem_filter.mpr ⟨tb0 _ (List.mem_of_getElem? (i := 52) (by decide +kernel)), by decide +kernel⟩
theorem m53 : Jvm.Cond.selects "DrawnListModel" yX12_takes yX12_takes ∈ wg := List.mem_filter.mpr ⟨tb0 _ (List.mem_of_getElem? (i := 53) (by decide +kernel)), by decide +kernel⟩
theorem m54 : Jvm.Cond.selects "DrawnListModel" yX12_bitsOf yX12_bitsOf ∈ wg := List.mem_filter.mpr ⟨tb0 _ (List.mem_of_getElem? (i := 54) (by decide +kernel)), by decide +kernel⟩
theorem m55 : Jvm.Cond.selects "DrawnListModel" yX12_isDraw yX12_isDraw ∈ wg := List.mem_filter.mpr ⟨tb0 _ (List.mem_of_getElem? (i := 55) (by decide +kernel)), by decide +kernel⟩
theorem m56 : Jvm.Cond.selects "DrawnListModel" yX12_makesIt yX12_makesIt ∈ wg := List.mem_filter.mpr ⟨tb0 _ (List.mem_of_getElem? (i := 56) (by decide +kernel)), by decide +kernel⟩
theorem m57 : Jvm.Cond.selects "DrawnListModel" yX12_without yX12_without ∈ wg := List.mem_filter.mpr ⟨tb0 _ (List.mem_of_getElem? (i := 57) (by decide +kernel)), by decide +kernel⟩
theorem m58 : Jvm.Cond.selects "DrawnListModel" yX12_findSum yX12_findSum ∈ wg := List.mem_filter.mpr ⟨tb0 _ (List.mem_of_getElem? (i := 58) (by decide +kernel)), by decide +kernel⟩
theorem m59 : Jvm.Cond.selects "DrawnListModel" yX12_findSpread yX12_findSpread ∈ wg := List.mem_filter.mpr ⟨tb0 _ (List.mem_of_getElem? (i := 59) (by decide +kernel)), by decide +kernel⟩
theorem m60 : Jvm.Cond.selects "DrawnListModel" yX12_spreads yX12_spreads ∈ wg := List.mem_filter.mpr ⟨tb0 _ (List.mem_of_getElem? (i := 60) (by decide +kernel)), by decide +kernel⟩
theorem m61 : Jvm.Cond.selects "DrawnListModel" yX12_findWeights yX12_findWeights ∈ wg := List.mem_filter.mpr ⟨tb0 _ (List.mem_of_getElem? (i := 61) (by decide +kernel)), by decide +kernel⟩
theorem m62 : Jvm.Cond.selects "DrawnListModel" yX12_parts yX12_parts ∈ wg := List.mem_filter.mpr ⟨tb0 _ (List.mem_of_getElem? (i := 62) (by decide +kernel)), by decide +kernel⟩
theorem m63 : Jvm.Cond.selects "DrawnListModel" yX12_weightOf yX12_weightOf ∈ wg := List.mem_filter.mpr ⟨tb0 _ (List.mem_of_getElem? (i := 63) (by decide +kernel)), by decide +kernel⟩
theorem m64 : Jvm.Cond.selects "DrawnListModel" yX12_isOf yX12_isOf ∈ wg := List.mem_filter.mpr ⟨tb0 _ (List.mem_of_getElem? (i := 64) (by decide +kernel)), by decide +kernel⟩
theorem m65 : Jvm.Cond.initialized "DrawnListLaw" ∈ wg := List.mem_filter.mpr ⟨tb1 _ (List.mem_of_getElem? (i := 0) (by decide +kernel)), by decide +kernel⟩
theorem m66 : Jvm.Cond.initialized "DrawnList" ∈ wg := List.mem_filter.mpr ⟨tb1 _ (List.mem_of_getElem? (i := 1) (by decide +kernel)), by decide +kernel⟩
theorem m67 : Jvm.Cond.initialized "DrawnList$Roll" ∈ wg := List.mem_filter.mpr ⟨tb1 _ (List.mem_of_getElem? (i := 2) (by decide +kernel)), by decide +kernel⟩
theorem m68 : Jvm.Cond.initialized "DrawnList$Answers" ∈ wg := List.mem_filter.mpr ⟨tb1 _ (List.mem_of_getElem? (i := 3) (by decide +kernel)), by decide +kernel⟩
theorem m69 : Jvm.Cond.initialized "DrawnList$Weights" ∈ wg := List.mem_filter.mpr ⟨tb1 _ (List.mem_of_getElem? (i := 4) (by decide +kernel)), by decide +kernel⟩
theorem m70 : Jvm.Cond.initialized "DrawnList$Fraction" ∈ wg := List.mem_filter.mpr ⟨tb1 _ (List.mem_of_getElem? (i := 5) (by decide +kernel)), by decide +kernel⟩
theorem m71 : Jvm.Cond.initialized "DrawnList$Journey" ∈ wg := List.mem_filter.mpr ⟨tb1 _ (List.mem_of_getElem? (i := 6) (by decide +kernel)), by decide +kernel⟩
theorem m72 : Jvm.Cond.initialized "DrawnList$Plan" ∈ wg := List.mem_filter.mpr ⟨tb1 _ (List.mem_of_getElem? (i := 7) (by decide +kernel)), by decide +kernel⟩
theorem m73 : Jvm.Cond.initialized "DrawnList$Way" ∈ wg := List.mem_filter.mpr ⟨tb1 _ (List.mem_of_getElem? (i := 8) (by decide +kernel)), by decide +kernel⟩
theorem m74 : Jvm.Cond.initialized "DrawnList$GroupWay" ∈ wg := List.mem_filter.mpr ⟨tb1 _ (List.mem_of_getElem? (i := 9) (by decide +kernel)), by decide +kernel⟩
theorem m75 : Jvm.Cond.initialized "DrawnList$LineWay" ∈ wg := List.mem_filter.mpr ⟨tb1 _ (List.mem_of_getElem? (i := 10) (by decide +kernel)), by decide +kernel⟩
theorem m76 : Jvm.Cond.initialized "DrawnList$StepWay" ∈ wg := List.mem_filter.mpr ⟨tb1 _ (List.mem_of_getElem? (i := 11) (by decide +kernel)), by decide +kernel⟩
theorem m77 : Jvm.Cond.initialized "DrawnList$Sheet" ∈ wg := List.mem_filter.mpr ⟨tb1 _ (List.mem_of_getElem? (i := 12) (by decide +kernel)), by decide +kernel⟩
theorem m78 : Jvm.Cond.initialized "DrawnListModel" ∈ wg := List.mem_filter.mpr ⟨tb1 _ (List.mem_of_getElem? (i := 13) (by decide +kernel)), by decide +kernel⟩
theorem m79 : Jvm.Cond.initialized "java/lang/Integer" ∈ wg := List.mem_filter.mpr ⟨tb1 _ (List.mem_of_getElem? (i := 14) (by decide +kernel)), by decide +kernel⟩
theorem m80 : Jvm.Cond.initialized "java/lang/Math" ∈ wg := List.mem_filter.mpr ⟨tb1 _ (List.mem_of_getElem? (i := 15) (by decide +kernel)), by decide +kernel⟩
theorem m81 : Jvm.Cond.initialized "java/lang/Long" ∈ wg := List.mem_filter.mpr ⟨tb1 _ (List.mem_of_getElem? (i := 16) (by decide +kernel)), by decide +kernel⟩
theorem m82 : Jvm.Cond.initialized "java/lang/System" ∈ wg := List.mem_filter.mpr ⟨tb1 _ (List.mem_of_getElem? (i := 17) (by decide +kernel)), by decide +kernel⟩
theorem m83 : Jvm.Cond.classLink "DrawnListLaw" (7) "DrawnList" ∈ wg := List.mem_filter.mpr ⟨tb1 _ (List.mem_of_getElem? (i := 18) (by decide +kernel)), by decide +kernel⟩
theorem m84 : Jvm.Cond.instantiable "DrawnList" (9) ∈ wg := List.mem_filter.mpr ⟨tb1 _ (List.mem_of_getElem? (i := 19) (by decide +kernel)), by decide +kernel⟩
theorem m85 : Jvm.Cond.methodLink "DrawnListLaw" (9) yX11_init ∈ wg := List.mem_filter.mpr ⟨tb1 _ (List.mem_of_getElem? (i := 20) (by decide +kernel)), by decide +kernel⟩
theorem m86 : Jvm.Cond.instanceMethod yX11_init ∈ wg := List.mem_filter.mpr ⟨tb1 _ (List.mem_of_getElem? (i := 21) (by decide +kernel)), by decide +kernel⟩
theorem m87 : Jvm.Cond.code yX11_init prog_1_method_1_code (2) (Option.none : Option Jvm.ClassFile.FieldType) ∈ wg := List.mem_filter.mpr ⟨tb1 _ (List.mem_of_getElem? (i := 22) (by decide +kernel)), by decide +kernel⟩
theorem m88 : Jvm.Cond.methodLink "DrawnList" (1) objectInit ∈ wg := List.mem_filter.mpr ⟨tb1 _ (List.mem_of_getElem? (i := 23) (by decide +kernel)), by decide +kernel⟩
theorem m89 : Jvm.Cond.instanceMethod objectInit ∈ wg := List.mem_filter.mpr ⟨tb1 _ (List.mem_of_getElem? (i := 24) (by decide +kernel)), by decide +kernel⟩
theorem m90 : Jvm.Cond.code objectInit object_method_1_code (1) (Option.none : Option Jvm.ClassFile.FieldType) ∈ wg := List.mem_filter.mpr ⟨tb1 _ (List.mem_of_getElem? (i := 25) (by decide +kernel)), by decide +kernel⟩
theorem m91 : Jvm.Cond.classLink "DrawnList" (7) "DrawnList$Roll" ∈ wg := List.mem_filter.mpr ⟨tb1 _ (List.mem_of_getElem? (i := 26) (by decide +kernel)), by decide +kernel⟩
theorem m92 : Jvm.Cond.instantiable "DrawnList$Roll" (15) ∈ wg := List.mem_filter.mpr ⟨tb1 _ (List.mem_of_getElem? (i := 27) (by decide +kernel)), by decide +kernel⟩
theorem m93 : Jvm.Cond.methodLinkNest "DrawnList" (9) yX6_init "DrawnList" ∈ wn := List.mem_filter.mpr ⟨tb1 _ (List.mem_of_getElem? (i := 28) (by decide +kernel)), by decide +kernel⟩
theorem m94 : Jvm.Cond.instanceMethod yX6_init ∈ wg := List.mem_filter.mpr ⟨tb1 _ (List.mem_of_getElem? (i := 29) (by decide +kernel)), by decide +kernel⟩
theorem m95 : Jvm.Cond.code yX6_init prog_8_method_1_code (1) (Option.none : Option Jvm.ClassFile.FieldType) ∈ wg := List.mem_filter.mpr ⟨tb1 _ (List.mem_of_getElem? (i := 30) (by decide +kernel)), by decide +kernel⟩
theorem m96 : Jvm.Cond.methodLink "DrawnList$Roll" (3) objectInit ∈ wg := List.mem_filter.mpr ⟨tb1 _ (List.mem_of_getElem? (i := 31) (by decide +kernel)), by decide +kernel⟩
theorem m97 : Jvm.Cond.fieldLink "DrawnList$Roll" (9) "DrawnList$Roll" "layer" "[I" ∈ wg := List.mem_filter.mpr ⟨tb1 _ (List.mem_of_getElem? (i := 32) (by decide +kernel)), by decide +kernel⟩
theorem m98 : Jvm.Cond.fieldLinkNest "DrawnList$GroupWay" (23) "DrawnList$Roll" "layer" "[I" "DrawnList" ∈ wn := List.mem_filter.mpr ⟨tb1 _ (List.mem_of_getElem? (i := 33) (by decide +kernel)), by decide +kernel⟩
theorem m99 : Jvm.Cond.fieldLinkNest "DrawnList" (90) "DrawnList$Roll" "layer" "[I" "DrawnList" ∈ wn := List.mem_filter.mpr ⟨tb1 _ (List.mem_of_getElem? (i := 34) (by decide +kernel)), by decide +kernel⟩
theorem m100 : Jvm.Cond.fieldLink "DrawnList$Roll" (15) "DrawnList$Roll" "cluster" "[I" ∈ wg := List.mem_filter.mpr ⟨tb1 _ (List.mem_of_getElem? (i := 35) (by decide +kernel)), by decide +kernel⟩
theorem m101 : Jvm.Cond.fieldLinkNest "DrawnList$Journey" (65) "DrawnList$Roll" "cluster" "[I" "DrawnList" ∈ wn := List.mem_filter.mpr ⟨tb1 _ (List.mem_of_getElem? (i := 36) (by decide +kernel)), by decide +kernel⟩
theorem m102 : Jvm.Cond.fieldLinkNest "DrawnList" (93) "DrawnList$Roll" "cluster" "[I" "DrawnList" ∈ wn := List.mem_filter.mpr ⟨tb1 _ (List.mem_of_getElem? (i := 37) (by decide +kernel)), by decide +kernel⟩
theorem m103 : Jvm.Cond.fieldLinkNest "DrawnList$StepWay" (62) "DrawnList$Roll" "cluster" "[I" "DrawnList" ∈ wn := List.mem_filter.mpr ⟨tb1 _ (List.mem_of_getElem? (i := 38) (by decide +kernel)), by decide +kernel⟩
theorem m104 : Jvm.Cond.fieldLink "DrawnList$Roll" (18) "DrawnList$Roll" "size" "[I" ∈ wg := List.mem_filter.mpr ⟨tb1 _ (List.mem_of_getElem? (i := 39) (by decide +kernel)), by decide +kernel⟩
theorem m105 : Jvm.Cond.fieldLinkNest "DrawnList" (96) "DrawnList$Roll" "size" "[I" "DrawnList" ∈ wn := List.mem_filter.mpr ⟨tb1 _ (List.mem_of_getElem? (i := 40) (by decide +kernel)), by decide +kernel⟩
theorem m106 : Jvm.Cond.fieldLinkNest "DrawnList$LineWay" (62) "DrawnList$Roll" "size" "[I" "DrawnList" ∈ wn := List.mem_filter.mpr ⟨tb1 _ (List.mem_of_getElem? (i := 41) (by decide +kernel)), by decide +kernel⟩
theorem m107 : Jvm.Cond.fieldLink "DrawnList$Roll" (21) "DrawnList$Roll" "mark" "[I" ∈ wg := List.mem_filter.mpr ⟨tb1 _ (List.mem_of_getElem? (i := 42) (by decide +kernel)), by decide +kernel⟩
theorem m108 : Jvm.Cond.fieldLinkNest "DrawnList" (99) "DrawnList$Roll" "mark" "[I" "DrawnList" ∈ wn := List.mem_filter.mpr ⟨tb1 _ (List.mem_of_getElem? (i := 43) (by decide +kernel)), by decide +kernel⟩
theorem m109 : Jvm.Cond.fieldLink "DrawnList$Roll" (24) "DrawnList$Roll" "value" "[I" ∈ wg := List.mem_filter.mpr ⟨tb1 _ (List.mem_of_getElem? (i := 44) (by decide +kernel)), by decide +kernel⟩
theorem m110 : Jvm.Cond.fieldLinkNest "DrawnList" (102) "DrawnList$Roll" "value" "[I" "DrawnList" ∈ wn := List.mem_filter.mpr ⟨tb1 _ (List.mem_of_getElem? (i := 45) (by decide +kernel)), by decide +kernel⟩
theorem m111 : Jvm.Cond.fieldLinkNest "DrawnList$Weights" (88) "DrawnList$Roll" "value" "[I" "DrawnList" ∈ wn := List.mem_filter.mpr ⟨tb1 _ (List.mem_of_getElem? (i := 46) (by decide +kernel)), by decide +kernel⟩
theorem m112 : Jvm.Cond.fieldLinkNest "DrawnList$GroupWay" (85) "DrawnList$Roll" "value" "[I" "DrawnList" ∈ wn := List.mem_filter.mpr ⟨tb1 _ (List.mem_of_getElem? (i := 47) (by decide +kernel)), by decide +kernel⟩
theorem m113 : Jvm.Cond.fieldLink "DrawnList$Roll" (27) "DrawnList$Roll" "layerBits" "[I" ∈ wg := List.mem_filter.mpr ⟨tb1 _ (List.mem_of_getElem? (i := 48) (by decide +kernel)), by decide +kernel⟩
theorem m114 : Jvm.Cond.fieldLinkNest "DrawnList$Weights" (46) "DrawnList$Roll" "layerBits" "[I" "DrawnList" ∈ wn := List.mem_filter.mpr ⟨tb1 _ (List.mem_of_getElem? (i := 49) (by decide +kernel)), by decide +kernel⟩
theorem m115 : Jvm.Cond.fieldLinkNest "DrawnList$GroupWay" (29) "DrawnList$Roll" "layerBits" "[I" "DrawnList" ∈ wn := List.mem_filter.mpr ⟨tb1 _ (List.mem_of_getElem? (i := 50) (by decide +kernel)), by decide +kernel⟩
theorem m116 : Jvm.Cond.fieldLinkNest "DrawnList" (116) "DrawnList$Roll" "layerBits" "[I" "DrawnList" ∈ wn := List.mem_filter.mpr ⟨tb1 _ (List.mem_of_getElem? (i := 51) (by decide +kernel)), by decide +kernel⟩
theorem m117 : Jvm.Cond.fieldLink "DrawnList$Roll" (30) "DrawnList$Roll" "clusterBits" "[I" ∈ wg := List.mem_filter.mpr ⟨tb1 _ (List.mem_of_getElem? (i := 52) (by decide +kernel)), by decide +kernel⟩
theorem m118 : Jvm.Cond.fieldLinkNest "DrawnList$StepWay" (31) "DrawnList$Roll" "clusterBits" "[I" "DrawnList" ∈ wn := List.mem_filter.mpr ⟨tb1 _ (List.mem_of_getElem? (i := 53) (by decide +kernel)), by decide +kernel⟩
theorem m119 : Jvm.Cond.fieldLinkNest "DrawnList" (124) "DrawnList$Roll" "clusterBits" "[I" "DrawnList" ∈ wn := List.mem_filter.mpr ⟨tb1 _ (List.mem_of_getElem? (i := 54) (by decide +kernel)), by decide +kernel⟩
theorem m120 : Jvm.Cond.fieldLink "DrawnList$Roll" (33) "DrawnList$Roll" "markBits" "[I" ∈ wg := List.mem_filter.mpr ⟨tb1 _ (List.mem_of_getElem? (i := 55) (by decide +kernel)), by decide +kernel⟩
theorem m121 : Jvm.Cond.fieldLinkNest "DrawnList$Weights" (53) "DrawnList$Roll" "markBits" "[I" "DrawnList" ∈ wn := List.mem_filter.mpr ⟨tb1 _ (List.mem_of_getElem? (i := 56) (by decide +kernel)), by decide +kernel⟩
theorem m122 : Jvm.Cond.fieldLinkNest "DrawnList" (127) "DrawnList$Roll" "markBits" "[I" "DrawnList" ∈ wn := List.mem_filter.mpr ⟨tb1 _ (List.mem_of_getElem? (i := 57) (by decide +kernel)), by decide +kernel⟩
theorem m123 : Jvm.Cond.fieldLink "DrawnList$Roll" (36) "DrawnList$Roll" "begin" "[I" ∈ wg := List.mem_filter.mpr ⟨tb1 _ (List.mem_of_getElem? (i := 58) (by decide +kernel)), by decide +kernel⟩
theorem m124 : Jvm.Cond.fieldLinkNest "DrawnList$LineWay" (59) "DrawnList$Roll" "begin" "[I" "DrawnList" ∈ wn := List.mem_filter.mpr ⟨tb1 _ (List.mem_of_getElem? (i := 59) (by decide +kernel)), by decide +kernel⟩
theorem m125 : Jvm.Cond.fieldLink "DrawnList$Roll" (39) "DrawnList$Roll" "owner" "[I" ∈ wg := List.mem_filter.mpr ⟨tb1 _ (List.mem_of_getElem? (i := 60) (by decide +kernel)), by decide +kernel⟩
theorem m126 : Jvm.Cond.fieldLinkNest "DrawnList$LineWay" (56) "DrawnList$Roll" "owner" "[I" "DrawnList" ∈ wn := List.mem_filter.mpr ⟨tb1 _ (List.mem_of_getElem? (i := 61) (by decide +kernel)), by decide +kernel⟩
theorem m127 : Jvm.Cond.fieldLink "DrawnList$Roll" (42) "DrawnList$Roll" "count" "I" ∈ wg := List.mem_filter.mpr ⟨tb1 _ (List.mem_of_getElem? (i := 62) (by decide +kernel)), by decide +kernel⟩
theorem m128 : Jvm.Cond.fieldLinkNest "DrawnList$Journey" (52) "DrawnList$Roll" "count" "I" "DrawnList" ∈ wn := List.mem_filter.mpr ⟨tb1 _ (List.mem_of_getElem? (i := 63) (by decide +kernel)), by decide +kernel⟩
theorem m129 : Jvm.Cond.fieldLinkNest "DrawnList$Weights" (74) "DrawnList$Roll" "count" "I" "DrawnList" ∈ wn := List.mem_filter.mpr ⟨tb1 _ (List.mem_of_getElem? (i := 64) (by decide +kernel)), by decide +kernel⟩
theorem m130 : Jvm.Cond.fieldLinkNest "DrawnList$LineWay" (53) "DrawnList$Roll" "count" "I" "DrawnList" ∈ wn := List.mem_filter.mpr ⟨tb1 _ (List.mem_of_getElem? (i := 65) (by decide +kernel)), by decide +kernel⟩
theorem m131 : Jvm.Cond.fieldLinkNest "DrawnList" (130) "DrawnList$Roll" "count" "I" "DrawnList" ∈ wn := List.mem_filter.mpr ⟨tb1 _ (List.mem_of_getElem? (i := 66) (by decide +kernel)), by decide +kernel⟩
theorem m132 : Jvm.Cond.fieldLinkNest "DrawnList$GroupWay" (78) "DrawnList$Roll" "count" "I" "DrawnList" ∈ wn := List.mem_filter.mpr ⟨tb1 _ (List.mem_of_getElem? (i := 67) (by decide +kernel)), by decide +kernel⟩
theorem m133 : Jvm.Cond.fieldLink "DrawnList$Roll" (50) "DrawnList$Roll" "everyone" "I" ∈ wg := List.mem_filter.mpr ⟨tb1 _ (List.mem_of_getElem? (i := 68) (by decide +kernel)), by decide +kernel⟩
theorem m134 : Jvm.Cond.fieldLinkNest "DrawnList$GroupWay" (32) "DrawnList$Roll" "everyone" "I" "DrawnList" ∈ wn := List.mem_filter.mpr ⟨tb1 _ (List.mem_of_getElem? (i := 69) (by decide +kernel)), by decide +kernel⟩
theorem m135 : Jvm.Cond.fieldLinkNest "DrawnList$StepWay" (19) "DrawnList$Roll" "clusterSet" "I" "DrawnList" ∈ wn := List.mem_filter.mpr ⟨tb1 _ (List.mem_of_getElem? (i := 70) (by decide +kernel)), by decide +kernel⟩
theorem m136 : Jvm.Cond.fieldLink "DrawnList$Roll" (53) "DrawnList$Roll" "clusterSet" "I" ∈ wg := List.mem_filter.mpr ⟨tb1 _ (List.mem_of_getElem? (i := 71) (by decide +kernel)), by decide +kernel⟩
theorem m137 : Jvm.Cond.fieldLinkNest "DrawnList" (294) "DrawnList$Roll" "clusterSet" "I" "DrawnList" ∈ wn := List.mem_filter.mpr ⟨tb1 _ (List.mem_of_getElem? (i := 72) (by decide +kernel)), by decide +kernel⟩
theorem m138 : Jvm.Cond.fieldLinkNest "DrawnList$LineWay" (34) "DrawnList$Roll" "lineLength" "I" "DrawnList" ∈ wn := List.mem_filter.mpr ⟨tb1 _ (List.mem_of_getElem? (i := 73) (by decide +kernel)), by decide +kernel⟩
theorem m139 : Jvm.Cond.fieldLink "DrawnList$Roll" (60) "DrawnList$Roll" "lineLength" "I" ∈ wg := List.mem_filter.mpr ⟨tb1 _ (List.mem_of_getElem? (i := 74) (by decide +kernel)), by decide +kernel⟩
theorem m140 : Jvm.Cond.fieldLinkNest "DrawnList$Weights" (36) "DrawnList$Roll" "valueBits" "I" "DrawnList" ∈ wn := List.mem_filter.mpr ⟨tb1 _ (List.mem_of_getElem? (i := 75) (by decide +kernel)), by decide +kernel⟩
theorem m141 : Jvm.Cond.fieldLinkNest "DrawnList$Journey" (29) "DrawnList$Roll" "valueBits" "I" "DrawnList" ∈ wn := List.mem_filter.mpr ⟨tb1 _ (List.mem_of_getElem? (i := 76) (by decide +kernel)), by decide +kernel⟩
theorem m142 : Jvm.Cond.fieldLink "DrawnList$Roll" (63) "DrawnList$Roll" "valueBits" "I" ∈ wg := List.mem_filter.mpr ⟨tb1 _ (List.mem_of_getElem? (i := 77) (by decide +kernel)), by decide +kernel⟩
theorem m143 : Jvm.Cond.fieldLinkNest "DrawnList$GroupWay" (71) "DrawnList$Roll" "valueBits" "I" "DrawnList" ∈ wn := List.mem_filter.mpr ⟨tb1 _ (List.mem_of_getElem? (i := 78) (by decide +kernel)), by decide +kernel⟩
theorem m144 : Jvm.Cond.fieldLinkNest "DrawnList" (200) "DrawnList$Roll" "valueBits" "I" "DrawnList" ∈ wn := List.mem_filter.mpr ⟨tb1 _ (List.mem_of_getElem? (i := 79) (by decide +kernel)), by decide +kernel⟩
theorem m145 : Jvm.Cond.laysFinal "DrawnList$Roll" "DrawnList$Roll" "layer" "[I" ∈ wg := List.mem_filter.mpr ⟨tb1 _ (List.mem_of_getElem? (i := 80) (by decide +kernel)), by decide +kernel⟩
theorem m147 : Jvm.Cond.laysFinal "DrawnList$Roll" "DrawnList$Roll" "cluster" "[I" ∈ wg := List.mem_filter.mpr ⟨tb1 _ (List.mem_of_getElem? (i := 82) (by decide +kernel)), by decide +kernel⟩
theorem m149 : Jvm.Cond.laysFinal "DrawnList$Roll" "DrawnList$Roll" "size" "[I" ∈ wg := List.mem_filter.mpr ⟨tb1 _ (List.mem_of_getElem? (i := 84) (by decide +kernel)), by decide +kernel⟩
theorem m151 : Jvm.Cond.laysFinal "DrawnList$Roll" "DrawnList$Roll" "mark" "[I" ∈ wg := List.mem_filter.mpr ⟨tb1 _ (List.mem_of_getElem? (i := 86) (by decide +kernel)), by decide +kernel⟩
theorem m153 : Jvm.Cond.laysFinal "DrawnList$Roll" "DrawnList$Roll" "value" "[I" ∈ wg := List.mem_filter.mpr ⟨tb1 _ (List.mem_of_getElem? (i := 88) (by decide +kernel)), by decide +kernel⟩
theorem m155 : Jvm.Cond.laysFinal "DrawnList$Roll" "DrawnList$Roll" "layerBits" "[I" ∈ wg := List.mem_filter.mpr ⟨tb1 _ (List.mem_of_getElem? (i := 90) (by decide +kernel)), by decide +kernel⟩
theorem m157 : Jvm.Cond.laysFinal "DrawnList$Roll" "DrawnList$Roll" "clusterBits" "[I" ∈ wg := List.mem_filter.mpr ⟨tb1 _ (List.mem_of_getElem? (i := 92) (by decide +kernel)), by decide +kernel⟩
theorem m159 : Jvm.Cond.laysFinal "DrawnList$Roll" "DrawnList$Roll" "markBits" "[I" ∈ wg := List.mem_filter.mpr ⟨tb1 _ (List.mem_of_getElem? (i := 94) (by decide +kernel)), by decide +kernel⟩
theorem m161 : Jvm.Cond.laysFinal "DrawnList$Roll" "DrawnList$Roll" "begin" "[I" ∈ wg := List.mem_filter.mpr ⟨tb1 _ (List.mem_of_getElem? (i := 96) (by decide +kernel)), by decide +kernel⟩
theorem m163 : Jvm.Cond.laysFinal "DrawnList$Roll" "DrawnList$Roll" "owner" "[I" ∈ wg := List.mem_filter.mpr ⟨tb1 _ (List.mem_of_getElem? (i := 98) (by decide +kernel)), by decide +kernel⟩
theorem m165 : Jvm.Cond.lays "DrawnList$Roll" "DrawnList$Roll" "count" "I" ∈ wg := List.mem_filter.mpr ⟨tb1 _ (List.mem_of_getElem? (i := 100) (by decide +kernel)), by decide +kernel⟩
theorem m167 : Jvm.Cond.lays "DrawnList$Roll" "DrawnList$Roll" "everyone" "I" ∈ wg := List.mem_filter.mpr ⟨tb1 _ (List.mem_of_getElem? (i := 102) (by decide +kernel)), by decide +kernel⟩
theorem m169 : Jvm.Cond.lays "DrawnList$Roll" "DrawnList$Roll" "clusterSet" "I" ∈ wg := List.mem_filter.mpr ⟨tb1 _ (List.mem_of_getElem? (i := 104) (by decide +kernel)), by decide +kernel⟩
theorem m171 : Jvm.Cond.lays "DrawnList$Roll" "DrawnList$Roll" "lineLength" "I" ∈ wg := List.mem_filter.mpr ⟨tb1 _ (List.mem_of_getElem? (i := 106) (by decide +kernel)), by decide +kernel⟩
theorem m173 : Jvm.Cond.lays "DrawnList$Roll" "DrawnList$Roll" "valueBits" "I" ∈ wg := List.mem_filter.mpr ⟨tb1 _ (List.mem_of_getElem? (i := 108) (by decide +kernel)), by decide +kernel⟩
theorem m176 : Jvm.Cond.arrayClass Jvm.ClassFile.FieldType.int ∈ wg := List.mem_filter.mpr ⟨tb1 _ (List.mem_of_getElem? (i := 111) (by decide +kernel)), by decide +kernel⟩
theorem m177 : Jvm.Cond.classLink "DrawnList" (16) "DrawnList$Answers" ∈ wg := List.mem_filter.mpr ⟨tb1 _ (List.mem_of_getElem? (i := 112) (by decide +kernel)), by decide +kernel⟩
theorem m178 : Jvm.Cond.instantiable "DrawnList$Answers" (7) ∈ wg := List.mem_filter.mpr ⟨tb1 _ (List.mem_of_getElem? (i := 113) (by decide +kernel)), by decide +kernel⟩
theorem m179 : Jvm.Cond.methodLink "DrawnList" (18) yX0_init ∈ wg := List.mem_filter.mpr ⟨tb1 _ (List.mem_of_getElem? (i := 114) (by decide +kernel)), by decide +kernel⟩
theorem m180 : Jvm.Cond.instanceMethod yX0_init ∈ wg := List.mem_filter.mpr ⟨tb1 _ (List.mem_of_getElem? (i := 115) (by decide +kernel)), by decide +kernel⟩
theorem m181 : Jvm.Cond.code yX0_init prog_2_method_1_code (2) (Option.none : Option Jvm.ClassFile.FieldType) ∈ wg := List.mem_filter.mpr ⟨tb1 _ (List.mem_of_getElem? (i := 116) (by decide +kernel)), by decide +kernel⟩
theorem m182 : Jvm.Cond.methodLink "DrawnList$Answers" (3) objectInit ∈ wg := List.mem_filter.mpr ⟨tb1 _ (List.mem_of_getElem? (i := 117) (by decide +kernel)), by decide +kernel⟩
theorem m183 : Jvm.Cond.fieldLink "DrawnList$Answers" (28) "DrawnList$Answers" "roll" "LDrawnList$Roll;" ∈ wg := List.mem_filter.mpr ⟨tb1 _ (List.mem_of_getElem? (i := 118) (by decide +kernel)), by decide +kernel⟩
theorem m184 : Jvm.Cond.fieldLink "DrawnList$Answers" (9) "DrawnList$Answers" "names" "[I" ∈ wg := List.mem_filter.mpr ⟨tb1 _ (List.mem_of_getElem? (i := 119) (by decide +kernel)), by decide +kernel⟩
theorem m185 : Jvm.Cond.fieldLink "DrawnList$Answers" (15) "DrawnList$Answers" "values" "[I" ∈ wg := List.mem_filter.mpr ⟨tb1 _ (List.mem_of_getElem? (i := 120) (by decide +kernel)), by decide +kernel⟩
theorem m186 : Jvm.Cond.fieldLink "DrawnList$Answers" (18) "DrawnList$Answers" "days" "[I" ∈ wg := List.mem_filter.mpr ⟨tb1 _ (List.mem_of_getElem? (i := 121) (by decide +kernel)), by decide +kernel⟩
theorem m187 : Jvm.Cond.fieldLink "DrawnList$Answers" (21) "DrawnList$Answers" "latestDay" "[I" ∈ wg := List.mem_filter.mpr ⟨tb1 _ (List.mem_of_getElem? (i := 122) (by decide +kernel)), by decide +kernel⟩
theorem m188 : Jvm.Cond.fieldLink "DrawnList$Answers" (32) "DrawnList$Answers" "told" "I" ∈ wg := List.mem_filter.mpr ⟨tb1 _ (List.mem_of_getElem? (i := 123) (by decide +kernel)), by decide +kernel⟩
theorem m189 : Jvm.Cond.fieldLinkNest "DrawnList" (288) "DrawnList$Answers" "told" "I" "DrawnList" ∈ wn := List.mem_filter.mpr ⟨tb1 _ (List.mem_of_getElem? (i := 124) (by decide +kernel)), by decide +kernel⟩
theorem m190 : Jvm.Cond.fieldLink "DrawnList$Answers" (24) "DrawnList$Answers" "asOfDay" "I" ∈ wg := List.mem_filter.mpr ⟨tb1 _ (List.mem_of_getElem? (i := 125) (by decide +kernel)), by decide +kernel⟩
theorem m191 : Jvm.Cond.fieldLinkNest "DrawnList" (290) "DrawnList$Answers" "asOfDay" "I" "DrawnList" ∈ wn := List.mem_filter.mpr ⟨tb1 _ (List.mem_of_getElem? (i := 126) (by decide +kernel)), by decide +kernel⟩
theorem m192 : Jvm.Cond.laysFinal "DrawnList$Answers" "DrawnList$Answers" "roll" "LDrawnList$Roll;" ∈ wg := List.mem_filter.mpr ⟨tb1 _ (List.mem_of_getElem? (i := 127) (by decide +kernel)), by decide +kernel⟩
theorem m194 : Jvm.Cond.laysFinal "DrawnList$Answers" "DrawnList$Answers" "names" "[I" ∈ wg := List.mem_filter.mpr ⟨tb1 _ (List.mem_of_getElem? (i := 129) (by decide +kernel)), by decide +kernel⟩
theorem m196 : Jvm.Cond.laysFinal "DrawnList$Answers" "DrawnList$Answers" "values" "[I" ∈ wg := List.mem_filter.mpr ⟨tb1 _ (List.mem_of_getElem? (i := 131) (by decide +kernel)), by decide +kernel⟩
theorem m198 : Jvm.Cond.laysFinal "DrawnList$Answers" "DrawnList$Answers" "days" "[I" ∈ wg := List.mem_filter.mpr ⟨tb1 _ (List.mem_of_getElem? (i := 133) (by decide +kernel)), by decide +kernel⟩
theorem m200 : Jvm.Cond.laysFinal "DrawnList$Answers" "DrawnList$Answers" "latestDay" "[I" ∈ wg := List.mem_filter.mpr ⟨tb1 _ (List.mem_of_getElem? (i := 135) (by decide +kernel)), by decide +kernel⟩
theorem m202 : Jvm.Cond.lays "DrawnList$Answers" "DrawnList$Answers" "told" "I" ∈ wg := List.mem_filter.mpr ⟨tb1 _ (List.mem_of_getElem? (i := 137) (by decide +kernel)), by decide +kernel⟩
theorem m204 : Jvm.Cond.lays "DrawnList$Answers" "DrawnList$Answers" "asOfDay" "I" ∈ wg := List.mem_filter.mpr ⟨tb1 _ (List.mem_of_getElem? (i := 139) (by decide +kernel)), by decide +kernel⟩
theorem m207 : Jvm.Cond.classLink "DrawnList" (25) "DrawnList$Plan" ∈ wg := List.mem_filter.mpr ⟨tb1 _ (List.mem_of_getElem? (i := 142) (by decide +kernel)), by decide +kernel⟩
theorem m209 : Jvm.Cond.classLink "DrawnList" (31) "DrawnList$Sheet" ∈ wg := List.mem_filter.mpr ⟨tb1 _ (List.mem_of_getElem? (i := 144) (by decide +kernel)), by decide +kernel⟩
theorem m211 : Jvm.Cond.classLink "DrawnList" (37) "DrawnList$Weights" ∈ wg := List.mem_filter.mpr ⟨tb1 _ (List.mem_of_getElem? (i := 146) (by decide +kernel)), by decide +kernel⟩
theorem m212 : Jvm.Cond.instantiable "DrawnList$Weights" (6) ∈ wg := List.mem_filter.mpr ⟨tb1 _ (List.mem_of_getElem? (i := 147) (by decide +kernel)), by decide +kernel⟩
theorem m213 : Jvm.Cond.methodLink "DrawnList" (39) yX10_init ∈ wg := List.mem_filter.mpr ⟨tb1 _ (List.mem_of_getElem? (i := 148) (by decide +kernel)), by decide +kernel⟩
theorem m214 : Jvm.Cond.instanceMethod yX10_init ∈ wg := List.mem_filter.mpr ⟨tb1 _ (List.mem_of_getElem? (i := 149) (by decide +kernel)), by decide +kernel⟩
theorem m215 : Jvm.Cond.code yX10_init prog_12_method_1_code (2) (Option.none : Option Jvm.ClassFile.FieldType) ∈ wg := List.mem_filter.mpr ⟨tb1 _ (List.mem_of_getElem? (i := 150) (by decide +kernel)), by decide +kernel⟩
theorem m216 : Jvm.Cond.methodLink "DrawnList$Weights" (3) objectInit ∈ wg := List.mem_filter.mpr ⟨tb1 _ (List.mem_of_getElem? (i := 151) (by decide +kernel)), by decide +kernel⟩
theorem m217 : Jvm.Cond.classLink "DrawnList$Weights" (25) "DrawnList$Fraction" ∈ wg := List.mem_filter.mpr ⟨tb1 _ (List.mem_of_getElem? (i := 152) (by decide +kernel)), by decide +kernel⟩
theorem m218 : Jvm.Cond.instantiable "DrawnList$Fraction" (2) ∈ wg := List.mem_filter.mpr ⟨tb1 _ (List.mem_of_getElem? (i := 153) (by decide +kernel)), by decide +kernel⟩
theorem m219 : Jvm.Cond.methodLinkNest "DrawnList$Weights" (27) yX1_init "DrawnList" ∈ wn := List.mem_filter.mpr ⟨tb1 _ (List.mem_of_getElem? (i := 154) (by decide +kernel)), by decide +kernel⟩
theorem m220 : Jvm.Cond.instanceMethod yX1_init ∈ wg := List.mem_filter.mpr ⟨tb1 _ (List.mem_of_getElem? (i := 155) (by decide +kernel)), by decide +kernel⟩
theorem m221 : Jvm.Cond.code yX1_init prog_3_method_1_code (1) (Option.none : Option Jvm.ClassFile.FieldType) ∈ wg := List.mem_filter.mpr ⟨tb1 _ (List.mem_of_getElem? (i := 156) (by decide +kernel)), by decide +kernel⟩
theorem m222 : Jvm.Cond.methodLink "DrawnList$Fraction" (1) objectInit ∈ wg := List.mem_filter.mpr ⟨tb1 _ (List.mem_of_getElem? (i := 157) (by decide +kernel)), by decide +kernel⟩
theorem m223 : Jvm.Cond.fieldLink "DrawnList$Fraction" (7) "DrawnList$Fraction" "above" "J" ∈ wg := List.mem_filter.mpr ⟨tb1 _ (List.mem_of_getElem? (i := 158) (by decide +kernel)), by decide +kernel⟩
theorem m224 : Jvm.Cond.fieldLinkNest "DrawnList" (336) "DrawnList$Fraction" "above" "J" "DrawnList" ∈ wn := List.mem_filter.mpr ⟨tb1 _ (List.mem_of_getElem? (i := 159) (by decide +kernel)), by decide +kernel⟩
theorem m225 : Jvm.Cond.fieldLink "DrawnList$Fraction" (13) "DrawnList$Fraction" "below" "J" ∈ wg := List.mem_filter.mpr ⟨tb1 _ (List.mem_of_getElem? (i := 160) (by decide +kernel)), by decide +kernel⟩
theorem m226 : Jvm.Cond.fieldLinkNest "DrawnList" (332) "DrawnList$Fraction" "below" "J" "DrawnList" ∈ wn := List.mem_filter.mpr ⟨tb1 _ (List.mem_of_getElem? (i := 161) (by decide +kernel)), by decide +kernel⟩
theorem m227 : Jvm.Cond.lays "DrawnList$Fraction" "DrawnList$Fraction" "above" "J" ∈ wg := List.mem_filter.mpr ⟨tb1 _ (List.mem_of_getElem? (i := 162) (by decide +kernel)), by decide +kernel⟩
theorem m229 : Jvm.Cond.lays "DrawnList$Fraction" "DrawnList$Fraction" "below" "J" ∈ wg := List.mem_filter.mpr ⟨tb1 _ (List.mem_of_getElem? (i := 164) (by decide +kernel)), by decide +kernel⟩
theorem m232 : Jvm.Cond.arrayClass Jvm.ClassFile.FieldType.long ∈ wg := List.mem_filter.mpr ⟨tb1 _ (List.mem_of_getElem? (i := 167) (by decide +kernel)), by decide +kernel⟩
theorem m233 : Jvm.Cond.fieldLink "DrawnList$Weights" (32) "DrawnList$Weights" "roll" "LDrawnList$Roll;" ∈ wg := List.mem_filter.mpr ⟨tb1 _ (List.mem_of_getElem? (i := 168) (by decide +kernel)), by decide +kernel⟩
theorem m234 : Jvm.Cond.fieldLink "DrawnList$Weights" (9) "DrawnList$Weights" "layerSums" "[I" ∈ wg := List.mem_filter.mpr ⟨tb1 _ (List.mem_of_getElem? (i := 169) (by decide +kernel)), by decide +kernel⟩
theorem m235 : Jvm.Cond.fieldLinkNest "DrawnList" (217) "DrawnList$Weights" "layerSums" "[I" "DrawnList" ∈ wn := List.mem_filter.mpr ⟨tb1 _ (List.mem_of_getElem? (i := 170) (by decide +kernel)), by decide +kernel⟩
theorem m236 : Jvm.Cond.fieldLink "DrawnList$Weights" (15) "DrawnList$Weights" "markSums" "[I" ∈ wg := List.mem_filter.mpr ⟨tb1 _ (List.mem_of_getElem? (i := 171) (by decide +kernel)), by decide +kernel⟩
theorem m237 : Jvm.Cond.fieldLinkNest "DrawnList" (224) "DrawnList$Weights" "markSums" "[I" "DrawnList" ∈ wn := List.mem_filter.mpr ⟨tb1 _ (List.mem_of_getElem? (i := 172) (by decide +kernel)), by decide +kernel⟩
theorem m238 : Jvm.Cond.fieldLink "DrawnList$Weights" (18) "DrawnList$Weights" "weight" "[I" ∈ wg := List.mem_filter.mpr ⟨tb1 _ (List.mem_of_getElem? (i := 173) (by decide +kernel)), by decide +kernel⟩
theorem m239 : Jvm.Cond.fieldLinkNest "DrawnList" (231) "DrawnList$Weights" "weight" "[I" "DrawnList" ∈ wn := List.mem_filter.mpr ⟨tb1 _ (List.mem_of_getElem? (i := 174) (by decide +kernel)), by decide +kernel⟩
theorem m240 : Jvm.Cond.fieldLink "DrawnList$Weights" (21) "DrawnList$Weights" "rest" "[J" ∈ wg := List.mem_filter.mpr ⟨tb1 _ (List.mem_of_getElem? (i := 175) (by decide +kernel)), by decide +kernel⟩
theorem m241 : Jvm.Cond.fieldLink "DrawnList$Weights" (28) "DrawnList$Weights" "share" "LDrawnList$Fraction;" ∈ wg := List.mem_filter.mpr ⟨tb1 _ (List.mem_of_getElem? (i := 176) (by decide +kernel)), by decide +kernel⟩
theorem m242 : Jvm.Cond.laysFinal "DrawnList$Weights" "DrawnList$Weights" "roll" "LDrawnList$Roll;" ∈ wg := List.mem_filter.mpr ⟨tb1 _ (List.mem_of_getElem? (i := 177) (by decide +kernel)), by decide +kernel⟩
theorem m244 : Jvm.Cond.laysFinal "DrawnList$Weights" "DrawnList$Weights" "layerSums" "[I" ∈ wg := List.mem_filter.mpr ⟨tb1 _ (List.mem_of_getElem? (i := 179) (by decide +kernel)), by decide +kernel⟩
theorem m246 : Jvm.Cond.laysFinal "DrawnList$Weights" "DrawnList$Weights" "markSums" "[I" ∈ wg := List.mem_filter.mpr ⟨tb1 _ (List.mem_of_getElem? (i := 181) (by decide +kernel)), by decide +kernel⟩
theorem m248 : Jvm.Cond.laysFinal "DrawnList$Weights" "DrawnList$Weights" "weight" "[I" ∈ wg := List.mem_filter.mpr ⟨tb1 _ (List.mem_of_getElem? (i := 183) (by decide +kernel)), by decide +kernel⟩
theorem m250 : Jvm.Cond.laysFinal "DrawnList$Weights" "DrawnList$Weights" "rest" "[J" ∈ wg := List.mem_filter.mpr ⟨tb1 _ (List.mem_of_getElem? (i := 185) (by decide +kernel)), by decide +kernel⟩
theorem m252 : Jvm.Cond.laysFinal "DrawnList$Weights" "DrawnList$Weights" "share" "LDrawnList$Fraction;" ∈ wg := List.mem_filter.mpr ⟨tb1 _ (List.mem_of_getElem? (i := 187) (by decide +kernel)), by decide +kernel⟩
theorem m255 : Jvm.Cond.classLink "DrawnList" (44) "DrawnList$Journey" ∈ wg := List.mem_filter.mpr ⟨tb1 _ (List.mem_of_getElem? (i := 190) (by decide +kernel)), by decide +kernel⟩
theorem m256 : Jvm.Cond.instantiable "DrawnList$Journey" (7) ∈ wg := List.mem_filter.mpr ⟨tb1 _ (List.mem_of_getElem? (i := 191) (by decide +kernel)), by decide +kernel⟩
theorem m257 : Jvm.Cond.methodLink "DrawnList" (46) yX3_init ∈ wg := List.mem_filter.mpr ⟨tb1 _ (List.mem_of_getElem? (i := 192) (by decide +kernel)), by decide +kernel⟩
theorem m258 : Jvm.Cond.instanceMethod yX3_init ∈ wg := List.mem_filter.mpr ⟨tb1 _ (List.mem_of_getElem? (i := 193) (by decide +kernel)), by decide +kernel⟩
theorem m259 : Jvm.Cond.code yX3_init prog_5_method_1_code (3) (Option.none : Option Jvm.ClassFile.FieldType) ∈ wg := List.mem_filter.mpr ⟨tb1 _ (List.mem_of_getElem? (i := 194) (by decide +kernel)), by decide +kernel⟩
theorem m260 : Jvm.Cond.methodLink "DrawnList$Journey" (3) objectInit ∈ wg := List.mem_filter.mpr ⟨tb1 _ (List.mem_of_getElem? (i := 195) (by decide +kernel)), by decide +kernel⟩
theorem m261 : Jvm.Cond.classLink "DrawnList$Journey" (18) "DrawnList$Fraction" ∈ wg := List.mem_filter.mpr ⟨tb1 _ (List.mem_of_getElem? (i := 196) (by decide +kernel)), by decide +kernel⟩
theorem m262 : Jvm.Cond.methodLinkNest "DrawnList$Journey" (20) yX1_init "DrawnList" ∈ wn := List.mem_filter.mpr ⟨tb1 _ (List.mem_of_getElem? (i := 197) (by decide +kernel)), by decide +kernel⟩
theorem m263 : Jvm.Cond.fieldLink "DrawnList$Journey" (25) "DrawnList$Journey" "roll" "LDrawnList$Roll;" ∈ wg := List.mem_filter.mpr ⟨tb1 _ (List.mem_of_getElem? (i := 198) (by decide +kernel)), by decide +kernel⟩
theorem m264 : Jvm.Cond.fieldLink "DrawnList$Journey" (9) "DrawnList$Journey" "costs" "[I" ∈ wg := List.mem_filter.mpr ⟨tb1 _ (List.mem_of_getElem? (i := 199) (by decide +kernel)), by decide +kernel⟩
theorem m265 : Jvm.Cond.fieldLinkNest "DrawnList" (240) "DrawnList$Journey" "costs" "[I" "DrawnList" ∈ wn := List.mem_filter.mpr ⟨tb1 _ (List.mem_of_getElem? (i := 200) (by decide +kernel)), by decide +kernel⟩
theorem m266 : Jvm.Cond.fieldLink "DrawnList$Journey" (15) "DrawnList$Journey" "gains" "[I" ∈ wg := List.mem_filter.mpr ⟨tb1 _ (List.mem_of_getElem? (i := 201) (by decide +kernel)), by decide +kernel⟩
theorem m267 : Jvm.Cond.fieldLink "DrawnList$Journey" (21) "DrawnList$Journey" "share" "LDrawnList$Fraction;" ∈ wg := List.mem_filter.mpr ⟨tb1 _ (List.mem_of_getElem? (i := 202) (by decide +kernel)), by decide +kernel⟩
theorem m268 : Jvm.Cond.fieldLink "DrawnList$Journey" (39) "DrawnList$Journey" "bestSet" "I" ∈ wg := List.mem_filter.mpr ⟨tb1 _ (List.mem_of_getElem? (i := 203) (by decide +kernel)), by decide +kernel⟩
theorem m269 : Jvm.Cond.fieldLinkNest "DrawnList" (246) "DrawnList$Journey" "bestSet" "I" "DrawnList" ∈ wn := List.mem_filter.mpr ⟨tb1 _ (List.mem_of_getElem? (i := 204) (by decide +kernel)), by decide +kernel⟩
theorem m270 : Jvm.Cond.fieldLink "DrawnList$Journey" (42) "DrawnList$Journey" "bestGain" "I" ∈ wg := List.mem_filter.mpr ⟨tb1 _ (List.mem_of_getElem? (i := 205) (by decide +kernel)), by decide +kernel⟩
theorem m271 : Jvm.Cond.fieldLinkNest "DrawnList" (249) "DrawnList$Journey" "bestGain" "I" "DrawnList" ∈ wn := List.mem_filter.mpr ⟨tb1 _ (List.mem_of_getElem? (i := 206) (by decide +kernel)), by decide +kernel⟩
theorem m272 : Jvm.Cond.fieldLink "DrawnList$Journey" (45) "DrawnList$Journey" "bestCost" "I" ∈ wg := List.mem_filter.mpr ⟨tb1 _ (List.mem_of_getElem? (i := 207) (by decide +kernel)), by decide +kernel⟩
theorem m273 : Jvm.Cond.fieldLinkNest "DrawnList" (252) "DrawnList$Journey" "bestCost" "I" "DrawnList" ∈ wn := List.mem_filter.mpr ⟨tb1 _ (List.mem_of_getElem? (i := 208) (by decide +kernel)), by decide +kernel⟩
theorem m274 : Jvm.Cond.laysFinal "DrawnList$Journey" "DrawnList$Journey" "roll" "LDrawnList$Roll;" ∈ wg := List.mem_filter.mpr ⟨tb1 _ (List.mem_of_getElem? (i := 209) (by decide +kernel)), by decide +kernel⟩
theorem m276 : Jvm.Cond.laysFinal "DrawnList$Journey" "DrawnList$Journey" "costs" "[I" ∈ wg := List.mem_filter.mpr ⟨tb1 _ (List.mem_of_getElem? (i := 211) (by decide +kernel)), by decide +kernel⟩
theorem m278 : Jvm.Cond.laysFinal "DrawnList$Journey" "DrawnList$Journey" "gains" "[I" ∈ wg := List.mem_filter.mpr ⟨tb1 _ (List.mem_of_getElem? (i := 213) (by decide +kernel)), by decide +kernel⟩
theorem m280 : Jvm.Cond.laysFinal "DrawnList$Journey" "DrawnList$Journey" "share" "LDrawnList$Fraction;" ∈ wg := List.mem_filter.mpr ⟨tb1 _ (List.mem_of_getElem? (i := 215) (by decide +kernel)), by decide +kernel⟩
theorem m282 : Jvm.Cond.lays "DrawnList$Journey" "DrawnList$Journey" "bestSet" "I" ∈ wg := List.mem_filter.mpr ⟨tb1 _ (List.mem_of_getElem? (i := 217) (by decide +kernel)), by decide +kernel⟩
theorem m284 : Jvm.Cond.lays "DrawnList$Journey" "DrawnList$Journey" "bestGain" "I" ∈ wg := List.mem_filter.mpr ⟨tb1 _ (List.mem_of_getElem? (i := 219) (by decide +kernel)), by decide +kernel⟩
theorem m286 : Jvm.Cond.lays "DrawnList$Journey" "DrawnList$Journey" "bestCost" "I" ∈ wg := List.mem_filter.mpr ⟨tb1 _ (List.mem_of_getElem? (i := 221) (by decide +kernel)), by decide +kernel⟩
theorem m289 : Jvm.Cond.classLink "DrawnList" (51) "DrawnList$Fraction" ∈ wg := List.mem_filter.mpr ⟨tb1 _ (List.mem_of_getElem? (i := 224) (by decide +kernel)), by decide +kernel⟩
theorem m290 : Jvm.Cond.methodLinkNest "DrawnList" (53) yX1_init "DrawnList" ∈ wn := List.mem_filter.mpr ⟨tb1 _ (List.mem_of_getElem? (i := 225) (by decide +kernel)), by decide +kernel⟩
theorem m291 : Jvm.Cond.instantiable "DrawnList$Plan" (10) ∈ wg := List.mem_filter.mpr ⟨tb1 _ (List.mem_of_getElem? (i := 226) (by decide +kernel)), by decide +kernel⟩
theorem m292 : Jvm.Cond.methodLink "DrawnList" (61) yX5_init ∈ wg := List.mem_filter.mpr ⟨tb1 _ (List.mem_of_getElem? (i := 227) (by decide +kernel)), by decide +kernel⟩
theorem m293 : Jvm.Cond.instanceMethod yX5_init ∈ wg := List.mem_filter.mpr ⟨tb1 _ (List.mem_of_getElem? (i := 228) (by decide +kernel)), by decide +kernel⟩
theorem m294 : Jvm.Cond.code yX5_init prog_7_method_1_code (2) (Option.none : Option Jvm.ClassFile.FieldType) ∈ wg := List.mem_filter.mpr ⟨tb1 _ (List.mem_of_getElem? (i := 229) (by decide +kernel)), by decide +kernel⟩
theorem m295 : Jvm.Cond.methodLink "DrawnList$Plan" (3) objectInit ∈ wg := List.mem_filter.mpr ⟨tb1 _ (List.mem_of_getElem? (i := 230) (by decide +kernel)), by decide +kernel⟩
theorem m296 : Jvm.Cond.classLink "DrawnList$Plan" (18) "DrawnList$GroupWay" ∈ wg := List.mem_filter.mpr ⟨tb1 _ (List.mem_of_getElem? (i := 231) (by decide +kernel)), by decide +kernel⟩
theorem m297 : Jvm.Cond.instantiable "DrawnList$GroupWay" (5) ∈ wg := List.mem_filter.mpr ⟨tb1 _ (List.mem_of_getElem? (i := 232) (by decide +kernel)), by decide +kernel⟩
theorem m298 : Jvm.Cond.methodLink "DrawnList$Plan" (20) yX2_init ∈ wg := List.mem_filter.mpr ⟨tb1 _ (List.mem_of_getElem? (i := 233) (by decide +kernel)), by decide +kernel⟩
theorem m299 : Jvm.Cond.instanceMethod yX2_init ∈ wg := List.mem_filter.mpr ⟨tb1 _ (List.mem_of_getElem? (i := 234) (by decide +kernel)), by decide +kernel⟩
theorem m300 : Jvm.Cond.code yX2_init prog_4_method_1_code (4) (Option.none : Option Jvm.ClassFile.FieldType) ∈ wg := List.mem_filter.mpr ⟨tb1 _ (List.mem_of_getElem? (i := 235) (by decide +kernel)), by decide +kernel⟩
theorem m301 : Jvm.Cond.methodLink "DrawnList$GroupWay" (3) yX9_init ∈ wg := List.mem_filter.mpr ⟨tb1 _ (List.mem_of_getElem? (i := 236) (by decide +kernel)), by decide +kernel⟩
theorem m302 : Jvm.Cond.instanceMethod yX9_init ∈ wg := List.mem_filter.mpr ⟨tb1 _ (List.mem_of_getElem? (i := 237) (by decide +kernel)), by decide +kernel⟩
theorem m303 : Jvm.Cond.code yX9_init prog_11_method_1_code (3) (Option.none : Option Jvm.ClassFile.FieldType) ∈ wg := List.mem_filter.mpr ⟨tb1 _ (List.mem_of_getElem? (i := 238) (by decide +kernel)), by decide +kernel⟩
theorem m304 : Jvm.Cond.methodLink "DrawnList$Way" (3) objectInit ∈ wg := List.mem_filter.mpr ⟨tb1 _ (List.mem_of_getElem? (i := 239) (by decide +kernel)), by decide +kernel⟩
theorem m305 : Jvm.Cond.fieldLink "DrawnList$GroupWay" (9) "DrawnList$GroupWay" "byLayers" "Z" ∈ wg := List.mem_filter.mpr ⟨tb2 _ (List.mem_of_getElem? (i := 0) (by decide +kernel)), by decide +kernel⟩
theorem m306 : Jvm.Cond.fieldLink "DrawnList$GroupWay" (15) "DrawnList$GroupWay" "groups" "I" ∈ wg := List.mem_filter.mpr ⟨tb2 _ (List.mem_of_getElem? (i := 1) (by decide +kernel)), by decide +kernel⟩
theorem m307 : Jvm.Cond.fieldLink "DrawnList$Way" (9) "DrawnList$Way" "roll" "LDrawnList$Roll;" ∈ wg := List.mem_filter.mpr ⟨tb2 _ (List.mem_of_getElem? (i := 2) (by decide +kernel)), by decide +kernel⟩
theorem m308 : Jvm.Cond.fieldLink "DrawnList$StepWay" (15) "DrawnList$StepWay" "roll" "LDrawnList$Roll;" ∈ wg := List.mem_filter.mpr ⟨tb2 _ (List.mem_of_getElem? (i := 3) (by decide +kernel)), by decide +kernel⟩
theorem m309 : Jvm.Cond.sameField "DrawnList$StepWay" "DrawnList$Way" "roll" "LDrawnList$Roll;" ∈ wg := List.mem_filter.mpr ⟨tb2 _ (List.mem_of_getElem? (i := 4) (by decide +kernel)), by decide +kernel⟩
theorem m310 : Jvm.Cond.fieldLink "DrawnList$GroupWay" (19) "DrawnList$GroupWay" "roll" "LDrawnList$Roll;" ∈ wg := List.mem_filter.mpr ⟨tb2 _ (List.mem_of_getElem? (i := 5) (by decide +kernel)), by decide +kernel⟩
theorem m311 : Jvm.Cond.sameField "DrawnList$GroupWay" "DrawnList$Way" "roll" "LDrawnList$Roll;" ∈ wg := List.mem_filter.mpr ⟨tb2 _ (List.mem_of_getElem? (i := 6) (by decide +kernel)), by decide +kernel⟩
theorem m312 : Jvm.Cond.fieldLink "DrawnList$LineWay" (30) "DrawnList$LineWay" "roll" "LDrawnList$Roll;" ∈ wg := List.mem_filter.mpr ⟨tb2 _ (List.mem_of_getElem? (i := 7) (by decide +kernel)), by decide +kernel⟩
theorem m313 : Jvm.Cond.sameField "DrawnList$LineWay" "DrawnList$Way" "roll" "LDrawnList$Roll;" ∈ wg := List.mem_filter.mpr ⟨tb2 _ (List.mem_of_getElem? (i := 8) (by decide +kernel)), by decide +kernel⟩
theorem m314 : Jvm.Cond.fieldLink "DrawnList$Way" (15) "DrawnList$Way" "numbers" "[I" ∈ wg := List.mem_filter.mpr ⟨tb2 _ (List.mem_of_getElem? (i := 9) (by decide +kernel)), by decide +kernel⟩
theorem m315 : Jvm.Cond.fieldLink "DrawnList$LineWay" (19) "DrawnList$LineWay" "numbers" "[I" ∈ wg := List.mem_filter.mpr ⟨tb2 _ (List.mem_of_getElem? (i := 10) (by decide +kernel)), by decide +kernel⟩
theorem m316 : Jvm.Cond.sameField "DrawnList$LineWay" "DrawnList$Way" "numbers" "[I" ∈ wg := List.mem_filter.mpr ⟨tb2 _ (List.mem_of_getElem? (i := 11) (by decide +kernel)), by decide +kernel⟩
theorem m317 : Jvm.Cond.fieldLink "DrawnList$StepWay" (35) "DrawnList$StepWay" "numbers" "[I" ∈ wg := List.mem_filter.mpr ⟨tb2 _ (List.mem_of_getElem? (i := 12) (by decide +kernel)), by decide +kernel⟩
theorem m318 : Jvm.Cond.sameField "DrawnList$StepWay" "DrawnList$Way" "numbers" "[I" ∈ wg := List.mem_filter.mpr ⟨tb2 _ (List.mem_of_getElem? (i := 13) (by decide +kernel)), by decide +kernel⟩
theorem m319 : Jvm.Cond.fieldLink "DrawnList$GroupWay" (44) "DrawnList$GroupWay" "numbers" "[I" ∈ wg := List.mem_filter.mpr ⟨tb2 _ (List.mem_of_getElem? (i := 14) (by decide +kernel)), by decide +kernel⟩
theorem m320 : Jvm.Cond.sameField "DrawnList$GroupWay" "DrawnList$Way" "numbers" "[I" ∈ wg := List.mem_filter.mpr ⟨tb2 _ (List.mem_of_getElem? (i := 15) (by decide +kernel)), by decide +kernel⟩
theorem m321 : Jvm.Cond.fieldLink "DrawnList$Way" (20) "DrawnList$Way" "seed" "I" ∈ wg := List.mem_filter.mpr ⟨tb2 _ (List.mem_of_getElem? (i := 16) (by decide +kernel)), by decide +kernel⟩
theorem m322 : Jvm.Cond.fieldLinkNest "DrawnList" (180) "DrawnList$Way" "seed" "I" "DrawnList" ∈ wn := List.mem_filter.mpr ⟨tb2 _ (List.mem_of_getElem? (i := 17) (by decide +kernel)), by decide +kernel⟩
theorem m323 : Jvm.Cond.laysFinal "DrawnList$GroupWay" "DrawnList$GroupWay" "byLayers" "Z" ∈ wg := List.mem_filter.mpr ⟨tb2 _ (List.mem_of_getElem? (i := 18) (by decide +kernel)), by decide +kernel⟩
theorem m325 : Jvm.Cond.laysFinal "DrawnList$GroupWay" "DrawnList$GroupWay" "groups" "I" ∈ wg := List.mem_filter.mpr ⟨tb2 _ (List.mem_of_getElem? (i := 20) (by decide +kernel)), by decide +kernel⟩
theorem m327 : Jvm.Cond.laysFinal "DrawnList$GroupWay" "DrawnList$Way" "roll" "LDrawnList$Roll;" ∈ wg := List.mem_filter.mpr ⟨tb2 _ (List.mem_of_getElem? (i := 22) (by decide +kernel)), by decide +kernel⟩
theorem m329 : Jvm.Cond.laysFinal "DrawnList$GroupWay" "DrawnList$Way" "numbers" "[I" ∈ wg := List.mem_filter.mpr ⟨tb2 _ (List.mem_of_getElem? (i := 24) (by decide +kernel)), by decide +kernel⟩
theorem m331 : Jvm.Cond.lays "DrawnList$GroupWay" "DrawnList$Way" "seed" "I" ∈ wg := List.mem_filter.mpr ⟨tb2 _ (List.mem_of_getElem? (i := 26) (by decide +kernel)), by decide +kernel⟩
theorem m334 : Jvm.Cond.classLink "DrawnList$Plan" (30) "DrawnList$LineWay" ∈ wg := List.mem_filter.mpr ⟨tb2 _ (List.mem_of_getElem? (i := 29) (by decide +kernel)), by decide +kernel⟩
theorem m335 : Jvm.Cond.instantiable "DrawnList$LineWay" (4) ∈ wg := List.mem_filter.mpr ⟨tb2 _ (List.mem_of_getElem? (i := 30) (by decide +kernel)), by decide +kernel⟩
theorem m336 : Jvm.Cond.methodLink "DrawnList$Plan" (32) yX4_init ∈ wg := List.mem_filter.mpr ⟨tb2 _ (List.mem_of_getElem? (i := 31) (by decide +kernel)), by decide +kernel⟩
theorem m337 : Jvm.Cond.instanceMethod yX4_init ∈ wg := List.mem_filter.mpr ⟨tb2 _ (List.mem_of_getElem? (i := 32) (by decide +kernel)), by decide +kernel⟩
theorem m338 : Jvm.Cond.code yX4_init prog_6_method_1_code (4) (Option.none : Option Jvm.ClassFile.FieldType) ∈ wg := List.mem_filter.mpr ⟨tb2 _ (List.mem_of_getElem? (i := 33) (by decide +kernel)), by decide +kernel⟩
theorem m339 : Jvm.Cond.methodLink "DrawnList$LineWay" (3) yX9_init ∈ wg := List.mem_filter.mpr ⟨tb2 _ (List.mem_of_getElem? (i := 34) (by decide +kernel)), by decide +kernel⟩
theorem m340 : Jvm.Cond.fieldLink "DrawnList$LineWay" (9) "DrawnList$LineWay" "bySizes" "Z" ∈ wg := List.mem_filter.mpr ⟨tb2 _ (List.mem_of_getElem? (i := 35) (by decide +kernel)), by decide +kernel⟩
theorem m341 : Jvm.Cond.laysFinal "DrawnList$LineWay" "DrawnList$LineWay" "bySizes" "Z" ∈ wg := List.mem_filter.mpr ⟨tb2 _ (List.mem_of_getElem? (i := 36) (by decide +kernel)), by decide +kernel⟩
theorem m343 : Jvm.Cond.laysFinal "DrawnList$LineWay" "DrawnList$Way" "roll" "LDrawnList$Roll;" ∈ wg := List.mem_filter.mpr ⟨tb2 _ (List.mem_of_getElem? (i := 38) (by decide +kernel)), by decide +kernel⟩
theorem m344 : Jvm.Cond.laysFinal "DrawnList$LineWay" "DrawnList$Way" "numbers" "[I" ∈ wg := List.mem_filter.mpr ⟨tb2 _ (List.mem_of_getElem? (i := 39) (by decide +kernel)), by decide +kernel⟩
theorem m345 : Jvm.Cond.lays "DrawnList$LineWay" "DrawnList$Way" "seed" "I" ∈ wg := List.mem_filter.mpr ⟨tb2 _ (List.mem_of_getElem? (i := 40) (by decide +kernel)), by decide +kernel⟩
theorem m347 : Jvm.Cond.classLink "DrawnList$Plan" (39) "DrawnList$StepWay" ∈ wg := List.mem_filter.mpr ⟨tb2 _ (List.mem_of_getElem? (i := 42) (by decide +kernel)), by decide +kernel⟩
theorem m348 : Jvm.Cond.instantiable "DrawnList$StepWay" (4) ∈ wg := List.mem_filter.mpr ⟨tb2 _ (List.mem_of_getElem? (i := 43) (by decide +kernel)), by decide +kernel⟩
theorem m349 : Jvm.Cond.methodLink "DrawnList$Plan" (41) yX8_init ∈ wg := List.mem_filter.mpr ⟨tb2 _ (List.mem_of_getElem? (i := 44) (by decide +kernel)), by decide +kernel⟩
theorem m350 : Jvm.Cond.instanceMethod yX8_init ∈ wg := List.mem_filter.mpr ⟨tb2 _ (List.mem_of_getElem? (i := 45) (by decide +kernel)), by decide +kernel⟩
theorem m351 : Jvm.Cond.code yX8_init prog_10_method_1_code (3) (Option.none : Option Jvm.ClassFile.FieldType) ∈ wg := List.mem_filter.mpr ⟨tb2 _ (List.mem_of_getElem? (i := 46) (by decide +kernel)), by decide +kernel⟩
theorem m352 : Jvm.Cond.methodLink "DrawnList$StepWay" (3) yX9_init ∈ wg := List.mem_filter.mpr ⟨tb2 _ (List.mem_of_getElem? (i := 47) (by decide +kernel)), by decide +kernel⟩
theorem m353 : Jvm.Cond.fieldLink "DrawnList$StepWay" (9) "DrawnList$StepWay" "waysOfSoMany" "[J" ∈ wg := List.mem_filter.mpr ⟨tb2 _ (List.mem_of_getElem? (i := 48) (by decide +kernel)), by decide +kernel⟩
theorem m354 : Jvm.Cond.laysFinal "DrawnList$StepWay" "DrawnList$StepWay" "waysOfSoMany" "[J" ∈ wg := List.mem_filter.mpr ⟨tb2 _ (List.mem_of_getElem? (i := 49) (by decide +kernel)), by decide +kernel⟩
theorem m356 : Jvm.Cond.laysFinal "DrawnList$StepWay" "DrawnList$Way" "roll" "LDrawnList$Roll;" ∈ wg := List.mem_filter.mpr ⟨tb2 _ (List.mem_of_getElem? (i := 51) (by decide +kernel)), by decide +kernel⟩
theorem m357 : Jvm.Cond.laysFinal "DrawnList$StepWay" "DrawnList$Way" "numbers" "[I" ∈ wg := List.mem_filter.mpr ⟨tb2 _ (List.mem_of_getElem? (i := 52) (by decide +kernel)), by decide +kernel⟩
theorem m358 : Jvm.Cond.lays "DrawnList$StepWay" "DrawnList$Way" "seed" "I" ∈ wg := List.mem_filter.mpr ⟨tb2 _ (List.mem_of_getElem? (i := 53) (by decide +kernel)), by decide +kernel⟩
theorem m360 : Jvm.Cond.fieldLink "DrawnList$Plan" (9) "DrawnList$Plan" "text" "[I" ∈ wg := List.mem_filter.mpr ⟨tb2 _ (List.mem_of_getElem? (i := 55) (by decide +kernel)), by decide +kernel⟩
theorem m361 : Jvm.Cond.fieldLink "DrawnList$Plan" (15) "DrawnList$Plan" "numbers" "[I" ∈ wg := List.mem_filter.mpr ⟨tb2 _ (List.mem_of_getElem? (i := 56) (by decide +kernel)), by decide +kernel⟩
theorem m362 : Jvm.Cond.fieldLink "DrawnList$Plan" (23) "DrawnList$Plan" "ofAll" "LDrawnList$Way;" ∈ wg := List.mem_filter.mpr ⟨tb2 _ (List.mem_of_getElem? (i := 57) (by decide +kernel)), by decide +kernel⟩
theorem m363 : Jvm.Cond.fieldLink "DrawnList$Plan" (27) "DrawnList$Plan" "ofLayers" "LDrawnList$Way;" ∈ wg := List.mem_filter.mpr ⟨tb2 _ (List.mem_of_getElem? (i := 58) (by decide +kernel)), by decide +kernel⟩
theorem m364 : Jvm.Cond.fieldLink "DrawnList$Plan" (33) "DrawnList$Plan" "ofEach" "LDrawnList$Way;" ∈ wg := List.mem_filter.mpr ⟨tb2 _ (List.mem_of_getElem? (i := 59) (by decide +kernel)), by decide +kernel⟩
theorem m365 : Jvm.Cond.fieldLink "DrawnList$Plan" (36) "DrawnList$Plan" "ofSizes" "LDrawnList$Way;" ∈ wg := List.mem_filter.mpr ⟨tb2 _ (List.mem_of_getElem? (i := 60) (by decide +kernel)), by decide +kernel⟩
theorem m366 : Jvm.Cond.fieldLink "DrawnList$Plan" (44) "DrawnList$Plan" "ofSteps" "LDrawnList$Way;" ∈ wg := List.mem_filter.mpr ⟨tb2 _ (List.mem_of_getElem? (i := 61) (by decide +kernel)), by decide +kernel⟩
theorem m367 : Jvm.Cond.fieldLink "DrawnList$Plan" (47) "DrawnList$Plan" "length" "I" ∈ wg := List.mem_filter.mpr ⟨tb2 _ (List.mem_of_getElem? (i := 62) (by decide +kernel)), by decide +kernel⟩
theorem m368 : Jvm.Cond.fieldLinkNest "DrawnList" (293) "DrawnList$Plan" "length" "I" "DrawnList" ∈ wn := List.mem_filter.mpr ⟨tb2 _ (List.mem_of_getElem? (i := 63) (by decide +kernel)), by decide +kernel⟩
theorem m369 : Jvm.Cond.fieldLink "DrawnList$Plan" (57) "DrawnList$Plan" "faultPlace" "I" ∈ wg := List.mem_filter.mpr ⟨tb2 _ (List.mem_of_getElem? (i := 64) (by decide +kernel)), by decide +kernel⟩
theorem m370 : Jvm.Cond.fieldLinkNest "DrawnList" (143) "DrawnList$Plan" "faultPlace" "I" "DrawnList" ∈ wn := List.mem_filter.mpr ⟨tb2 _ (List.mem_of_getElem? (i := 65) (by decide +kernel)), by decide +kernel⟩
theorem m371 : Jvm.Cond.fieldLink "DrawnList$Plan" (54) "DrawnList$Plan" "way" "LDrawnList$Way;" ∈ wg := List.mem_filter.mpr ⟨tb2 _ (List.mem_of_getElem? (i := 66) (by decide +kernel)), by decide +kernel⟩
theorem m372 : Jvm.Cond.laysFinal "DrawnList$Plan" "DrawnList$Plan" "text" "[I" ∈ wg := List.mem_filter.mpr ⟨tb2 _ (List.mem_of_getElem? (i := 67) (by decide +kernel)), by decide +kernel⟩
theorem m374 : Jvm.Cond.laysFinal "DrawnList$Plan" "DrawnList$Plan" "numbers" "[I" ∈ wg := List.mem_filter.mpr ⟨tb2 _ (List.mem_of_getElem? (i := 69) (by decide +kernel)), by decide +kernel⟩
theorem m376 : Jvm.Cond.laysFinal "DrawnList$Plan" "DrawnList$Plan" "ofAll" "LDrawnList$Way;" ∈ wg := List.mem_filter.mpr ⟨tb2 _ (List.mem_of_getElem? (i := 71) (by decide +kernel)), by decide +kernel⟩
theorem m378 : Jvm.Cond.laysFinal "DrawnList$Plan" "DrawnList$Plan" "ofLayers" "LDrawnList$Way;" ∈ wg := List.mem_filter.mpr ⟨tb2 _ (List.mem_of_getElem? (i := 73) (by decide +kernel)), by decide +kernel⟩
theorem m380 : Jvm.Cond.laysFinal "DrawnList$Plan" "DrawnList$Plan" "ofEach" "LDrawnList$Way;" ∈ wg := List.mem_filter.mpr ⟨tb2 _ (List.mem_of_getElem? (i := 75) (by decide +kernel)), by decide +kernel⟩
theorem m382 : Jvm.Cond.laysFinal "DrawnList$Plan" "DrawnList$Plan" "ofSizes" "LDrawnList$Way;" ∈ wg := List.mem_filter.mpr ⟨tb2 _ (List.mem_of_getElem? (i := 77) (by decide +kernel)), by decide +kernel⟩
theorem m384 : Jvm.Cond.laysFinal "DrawnList$Plan" "DrawnList$Plan" "ofSteps" "LDrawnList$Way;" ∈ wg := List.mem_filter.mpr ⟨tb2 _ (List.mem_of_getElem? (i := 79) (by decide +kernel)), by decide +kernel⟩
theorem m386 : Jvm.Cond.lays "DrawnList$Plan" "DrawnList$Plan" "length" "I" ∈ wg := List.mem_filter.mpr ⟨tb2 _ (List.mem_of_getElem? (i := 81) (by decide +kernel)), by decide +kernel⟩
theorem m388 : Jvm.Cond.lays "DrawnList$Plan" "DrawnList$Plan" "faultPlace" "I" ∈ wg := List.mem_filter.mpr ⟨tb2 _ (List.mem_of_getElem? (i := 83) (by decide +kernel)), by decide +kernel⟩
theorem m390 : Jvm.Cond.lays "DrawnList$Plan" "DrawnList$Plan" "way" "LDrawnList$Way;" ∈ wg := List.mem_filter.mpr ⟨tb2 _ (List.mem_of_getElem? (i := 85) (by decide +kernel)), by decide +kernel⟩
theorem m393 : Jvm.Cond.instantiable "DrawnList$Sheet" (4) ∈ wg := List.mem_filter.mpr ⟨tb2 _ (List.mem_of_getElem? (i := 88) (by decide +kernel)), by decide +kernel⟩
theorem m394 : Jvm.Cond.methodLinkNest "DrawnList" (62) yX7_init "DrawnList" ∈ wn := List.mem_filter.mpr ⟨tb2 _ (List.mem_of_getElem? (i := 89) (by decide +kernel)), by decide +kernel⟩
theorem m395 : Jvm.Cond.instanceMethod yX7_init ∈ wg := List.mem_filter.mpr ⟨tb2 _ (List.mem_of_getElem? (i := 90) (by decide +kernel)), by decide +kernel⟩
theorem m396 : Jvm.Cond.code yX7_init prog_9_method_1_code (1) (Option.none : Option Jvm.ClassFile.FieldType) ∈ wg := List.mem_filter.mpr ⟨tb2 _ (List.mem_of_getElem? (i := 91) (by decide +kernel)), by decide +kernel⟩
theorem m397 : Jvm.Cond.methodLink "DrawnList$Sheet" (3) objectInit ∈ wg := List.mem_filter.mpr ⟨tb2 _ (List.mem_of_getElem? (i := 92) (by decide +kernel)), by decide +kernel⟩
theorem m398 : Jvm.Cond.fieldLink "DrawnList$Sheet" (9) "DrawnList$Sheet" "items" "[I" ∈ wg := List.mem_filter.mpr ⟨tb2 _ (List.mem_of_getElem? (i := 93) (by decide +kernel)), by decide +kernel⟩
theorem m399 : Jvm.Cond.fieldLinkNest "DrawnList" (83) "DrawnList$Sheet" "items" "[I" "DrawnList" ∈ wn := List.mem_filter.mpr ⟨tb2 _ (List.mem_of_getElem? (i := 94) (by decide +kernel)), by decide +kernel⟩
theorem m400 : Jvm.Cond.fieldLink "DrawnList$Sheet" (15) "DrawnList$Sheet" "lost" "Z" ∈ wg := List.mem_filter.mpr ⟨tb2 _ (List.mem_of_getElem? (i := 95) (by decide +kernel)), by decide +kernel⟩
theorem m401 : Jvm.Cond.fieldLinkNest "DrawnList" (71) "DrawnList$Sheet" "lost" "Z" "DrawnList" ∈ wn := List.mem_filter.mpr ⟨tb2 _ (List.mem_of_getElem? (i := 96) (by decide +kernel)), by decide +kernel⟩
theorem m402 : Jvm.Cond.fieldLink "DrawnList$Sheet" (19) "DrawnList$Sheet" "form" "I" ∈ wg := List.mem_filter.mpr ⟨tb2 _ (List.mem_of_getElem? (i := 97) (by decide +kernel)), by decide +kernel⟩
theorem m403 : Jvm.Cond.fieldLinkNest "DrawnList" (272) "DrawnList$Sheet" "form" "I" "DrawnList" ∈ wn := List.mem_filter.mpr ⟨tb2 _ (List.mem_of_getElem? (i := 98) (by decide +kernel)), by decide +kernel⟩
theorem m404 : Jvm.Cond.fieldLink "DrawnList$Sheet" (23) "DrawnList$Sheet" "length" "I" ∈ wg := List.mem_filter.mpr ⟨tb2 _ (List.mem_of_getElem? (i := 99) (by decide +kernel)), by decide +kernel⟩
theorem m405 : Jvm.Cond.fieldLinkNest "DrawnList" (79) "DrawnList$Sheet" "length" "I" "DrawnList" ∈ wn := List.mem_filter.mpr ⟨tb2 _ (List.mem_of_getElem? (i := 100) (by decide +kernel)), by decide +kernel⟩
theorem m406 : Jvm.Cond.laysFinal "DrawnList$Sheet" "DrawnList$Sheet" "items" "[I" ∈ wg := List.mem_filter.mpr ⟨tb2 _ (List.mem_of_getElem? (i := 101) (by decide +kernel)), by decide +kernel⟩
theorem m408 : Jvm.Cond.lays "DrawnList$Sheet" "DrawnList$Sheet" "lost" "Z" ∈ wg := List.mem_filter.mpr ⟨tb2 _ (List.mem_of_getElem? (i := 103) (by decide +kernel)), by decide +kernel⟩
theorem m410 : Jvm.Cond.lays "DrawnList$Sheet" "DrawnList$Sheet" "form" "I" ∈ wg := List.mem_filter.mpr ⟨tb2 _ (List.mem_of_getElem? (i := 105) (by decide +kernel)), by decide +kernel⟩
theorem m412 : Jvm.Cond.lays "DrawnList$Sheet" "DrawnList$Sheet" "length" "I" ∈ wg := List.mem_filter.mpr ⟨tb2 _ (List.mem_of_getElem? (i := 107) (by decide +kernel)), by decide +kernel⟩
theorem m415 : Jvm.Cond.fieldLink "DrawnList" (10) "DrawnList" "roll" "LDrawnList$Roll;" ∈ wg := List.mem_filter.mpr ⟨tb2 _ (List.mem_of_getElem? (i := 110) (by decide +kernel)), by decide +kernel⟩
theorem m416 : Jvm.Cond.fieldLink "DrawnList" (21) "DrawnList" "answers" "LDrawnList$Answers;" ∈ wg := List.mem_filter.mpr ⟨tb2 _ (List.mem_of_getElem? (i := 111) (by decide +kernel)), by decide +kernel⟩
theorem m417 : Jvm.Cond.fieldLink "DrawnList" (27) "DrawnList" "plans" "[LDrawnList$Plan;" ∈ wg := List.mem_filter.mpr ⟨tb2 _ (List.mem_of_getElem? (i := 112) (by decide +kernel)), by decide +kernel⟩
theorem m418 : Jvm.Cond.fieldLink "DrawnList" (33) "DrawnList" "sheets" "[LDrawnList$Sheet;" ∈ wg := List.mem_filter.mpr ⟨tb2 _ (List.mem_of_getElem? (i := 113) (by decide +kernel)), by decide +kernel⟩
theorem m419 : Jvm.Cond.fieldLink "DrawnList" (40) "DrawnList" "weights" "LDrawnList$Weights;" ∈ wg := List.mem_filter.mpr ⟨tb2 _ (List.mem_of_getElem? (i := 114) (by decide +kernel)), by decide +kernel⟩
theorem m420 : Jvm.Cond.fieldLink "DrawnList" (47) "DrawnList" "journey" "LDrawnList$Journey;" ∈ wg := List.mem_filter.mpr ⟨tb2 _ (List.mem_of_getElem? (i := 115) (by decide +kernel)), by decide +kernel⟩
theorem m421 : Jvm.Cond.fieldLink "DrawnList" (54) "DrawnList" "fraction" "LDrawnList$Fraction;" ∈ wg := List.mem_filter.mpr ⟨tb2 _ (List.mem_of_getElem? (i := 116) (by decide +kernel)), by decide +kernel⟩
theorem m422 : Jvm.Cond.fieldLink "DrawnList" (58) "DrawnList" "otherFraction" "LDrawnList$Fraction;" ∈ wg := List.mem_filter.mpr ⟨tb2 _ (List.mem_of_getElem? (i := 117) (by decide +kernel)), by decide +kernel⟩
theorem m423 : Jvm.Cond.fieldLink "DrawnList" (269) "DrawnList" "latestFinding" "I" ∈ wg := List.mem_filter.mpr ⟨tb2 _ (List.mem_of_getElem? (i := 118) (by decide +kernel)), by decide +kernel⟩
theorem m424 : Jvm.Cond.laysFinal "DrawnList" "DrawnList" "roll" "LDrawnList$Roll;" ∈ wg := List.mem_filter.mpr ⟨tb2 _ (List.mem_of_getElem? (i := 119) (by decide +kernel)), by decide +kernel⟩
theorem m426 : Jvm.Cond.laysFinal "DrawnList" "DrawnList" "answers" "LDrawnList$Answers;" ∈ wg := List.mem_filter.mpr ⟨tb2 _ (List.mem_of_getElem? (i := 121) (by decide +kernel)), by decide +kernel⟩
theorem m428 : Jvm.Cond.laysFinal "DrawnList" "DrawnList" "plans" "[LDrawnList$Plan;" ∈ wg := List.mem_filter.mpr ⟨tb2 _ (List.mem_of_getElem? (i := 123) (by decide +kernel)), by decide +kernel⟩
theorem m430 : Jvm.Cond.laysFinal "DrawnList" "DrawnList" "sheets" "[LDrawnList$Sheet;" ∈ wg := List.mem_filter.mpr ⟨tb2 _ (List.mem_of_getElem? (i := 125) (by decide +kernel)), by decide +kernel⟩
theorem m432 : Jvm.Cond.laysFinal "DrawnList" "DrawnList" "weights" "LDrawnList$Weights;" ∈ wg := List.mem_filter.mpr ⟨tb2 _ (List.mem_of_getElem? (i := 127) (by decide +kernel)), by decide +kernel⟩
theorem m434 : Jvm.Cond.laysFinal "DrawnList" "DrawnList" "journey" "LDrawnList$Journey;" ∈ wg := List.mem_filter.mpr ⟨tb2 _ (List.mem_of_getElem? (i := 129) (by decide +kernel)), by decide +kernel⟩
theorem m436 : Jvm.Cond.laysFinal "DrawnList" "DrawnList" "fraction" "LDrawnList$Fraction;" ∈ wg := List.mem_filter.mpr ⟨tb2 _ (List.mem_of_getElem? (i := 131) (by decide +kernel)), by decide +kernel⟩
theorem m438 : Jvm.Cond.laysFinal "DrawnList" "DrawnList" "otherFraction" "LDrawnList$Fraction;" ∈ wg := List.mem_filter.mpr ⟨tb2 _ (List.mem_of_getElem? (i := 133) (by decide +kernel)), by decide +kernel⟩
theorem m440 : Jvm.Cond.lays "DrawnList" "DrawnList" "latestFinding" "I" ∈ wg := List.mem_filter.mpr ⟨tb2 _ (List.mem_of_getElem? (i := 135) (by decide +kernel)), by decide +kernel⟩
theorem m443 : Jvm.Cond.methodLink "DrawnListLaw" (13) yX11_name ∈ wg := List.mem_filter.mpr ⟨tb2 _ (List.mem_of_getElem? (i := 138) (by decide +kernel)), by decide +kernel⟩
theorem m444 : Jvm.Cond.instanceMethod yX11_name ∈ wg := List.mem_filter.mpr ⟨tb2 _ (List.mem_of_getElem? (i := 139) (by decide +kernel)), by decide +kernel⟩
theorem m445 : Jvm.Cond.selects "DrawnList" yX11_name yX11_name ∈ wg := List.mem_filter.mpr ⟨tb2 _ (List.mem_of_getElem? (i := 140) (by decide +kernel)), by decide +kernel⟩
theorem m446 : Jvm.Cond.code yX11_name prog_1_method_2_code (5) (Option.some Jvm.ClassFile.FieldType.int) ∈ wg := List.mem_filter.mpr ⟨tb2 _ (List.mem_of_getElem? (i := 141) (by decide +kernel)), by decide +kernel⟩
theorem m447 : Jvm.Cond.methodLink "DrawnList" (63) yX6_enter ∈ wg := List.mem_filter.mpr ⟨tb2 _ (List.mem_of_getElem? (i := 142) (by decide +kernel)), by decide +kernel⟩
theorem m448 : Jvm.Cond.instanceMethod yX6_enter ∈ wg := List.mem_filter.mpr ⟨tb2 _ (List.mem_of_getElem? (i := 143) (by decide +kernel)), by decide +kernel⟩
theorem m449 : Jvm.Cond.selects "DrawnList$Roll" yX6_enter yX6_enter ∈ wg := List.mem_filter.mpr ⟨tb2 _ (List.mem_of_getElem? (i := 144) (by decide +kernel)), by decide +kernel⟩
theorem m450 : Jvm.Cond.code yX6_enter prog_8_method_4_code (6) (Option.some Jvm.ClassFile.FieldType.int) ∈ wg := List.mem_filter.mpr ⟨tb2 _ (List.mem_of_getElem? (i := 145) (by decide +kernel)), by decide +kernel⟩
theorem m451 : Jvm.Cond.methodLinkNest "DrawnList$Roll" (46) yX11_within "DrawnList" ∈ wn := List.mem_filter.mpr ⟨tb2 _ (List.mem_of_getElem? (i := 146) (by decide +kernel)), by decide +kernel⟩
theorem m452 : Jvm.Cond.static yX11_within ∈ wg := List.mem_filter.mpr ⟨tb2 _ (List.mem_of_getElem? (i := 147) (by decide +kernel)), by decide +kernel⟩
theorem m453 : Jvm.Cond.code yX11_within prog_1_method_37_code (3) (Option.some Jvm.ClassFile.FieldType.boolean) ∈ wg := List.mem_filter.mpr ⟨tb2 _ (List.mem_of_getElem? (i := 148) (by decide +kernel)), by decide +kernel⟩
theorem m454 : Jvm.Cond.methodLink "DrawnList$Roll" (56) yX6_layOnLine ∈ wg := List.mem_filter.mpr ⟨tb2 _ (List.mem_of_getElem? (i := 149) (by decide +kernel)), by decide +kernel⟩
theorem m456 : Jvm.Cond.instanceMethod yX6_layOnLine ∈ wg := List.mem_filter.mpr ⟨tb2 _ (List.mem_of_getElem? (i := 151) (by decide +kernel)), by decide +kernel⟩
theorem m457 : Jvm.Cond.code yX6_layOnLine prog_8_method_5_code (3) (Option.none : Option Jvm.ClassFile.FieldType) ∈ wg := List.mem_filter.mpr ⟨tb2 _ (List.mem_of_getElem? (i := 152) (by decide +kernel)), by decide +kernel⟩
theorem m458 : Jvm.Cond.methodLink "DrawnListLaw" (18) yX11_read ∈ wg := List.mem_filter.mpr ⟨tb2 _ (List.mem_of_getElem? (i := 153) (by decide +kernel)), by decide +kernel⟩
theorem m459 : Jvm.Cond.instanceMethod yX11_read ∈ wg := List.mem_filter.mpr ⟨tb2 _ (List.mem_of_getElem? (i := 154) (by decide +kernel)), by decide +kernel⟩
theorem m460 : Jvm.Cond.selects "DrawnList" yX11_read yX11_read ∈ wg := List.mem_filter.mpr ⟨tb2 _ (List.mem_of_getElem? (i := 155) (by decide +kernel)), by decide +kernel⟩
theorem m461 : Jvm.Cond.code yX11_read prog_1_method_3_code (6) (Option.some Jvm.ClassFile.FieldType.int) ∈ wg := List.mem_filter.mpr ⟨tb2 _ (List.mem_of_getElem? (i := 156) (by decide +kernel)), by decide +kernel⟩
theorem m462 : Jvm.Cond.methodLink "DrawnList" (67) yX11_isSheet ∈ wg := List.mem_filter.mpr ⟨tb2 _ (List.mem_of_getElem? (i := 157) (by decide +kernel)), by decide +kernel⟩
theorem m463 : Jvm.Cond.static yX11_isSheet ∈ wg := List.mem_filter.mpr ⟨tb2 _ (List.mem_of_getElem? (i := 158) (by decide +kernel)), by decide +kernel⟩
theorem m464 : Jvm.Cond.code yX11_isSheet prog_1_method_39_code (1) (Option.some Jvm.ClassFile.FieldType.boolean) ∈ wg := List.mem_filter.mpr ⟨tb2 _ (List.mem_of_getElem? (i := 159) (by decide +kernel)), by decide +kernel⟩
theorem m465 : Jvm.Cond.methodLink "DrawnList" (105) yX11_within ∈ wg := List.mem_filter.mpr ⟨tb2 _ (List.mem_of_getElem? (i := 160) (by decide +kernel)), by decide +kernel⟩
theorem m466 : Jvm.Cond.methodLink "DrawnList" (75) yX11_findingOf ∈ wg := List.mem_filter.mpr ⟨tb2 _ (List.mem_of_getElem? (i := 161) (by decide +kernel)), by decide +kernel⟩
theorem m468 : Jvm.Cond.instanceMethod yX11_findingOf ∈ wg := List.mem_filter.mpr ⟨tb2 _ (List.mem_of_getElem? (i := 163) (by decide +kernel)), by decide +kernel⟩
theorem m469 : Jvm.Cond.code yX11_findingOf prog_1_method_45_code (2) (Option.some Jvm.ClassFile.FieldType.int) ∈ wg := List.mem_filter.mpr ⟨tb2 _ (List.mem_of_getElem? (i := 164) (by decide +kernel)), by decide +kernel⟩
theorem m470 : Jvm.Cond.methodLink "DrawnListLaw" (23) yX11_about ∈ wg := List.mem_filter.mpr ⟨tb2 _ (List.mem_of_getElem? (i := 165) (by decide +kernel)), by decide +kernel⟩
theorem m471 : Jvm.Cond.instanceMethod yX11_about ∈ wg := List.mem_filter.mpr ⟨tb2 _ (List.mem_of_getElem? (i := 166) (by decide +kernel)), by decide +kernel⟩
theorem m472 : Jvm.Cond.selects "DrawnList" yX11_about yX11_about ∈ wg := List.mem_filter.mpr ⟨tb2 _ (List.mem_of_getElem? (i := 167) (by decide +kernel)), by decide +kernel⟩
theorem m473 : Jvm.Cond.code yX11_about prog_1_method_4_code (3) (Option.some Jvm.ClassFile.FieldType.int) ∈ wg := List.mem_filter.mpr ⟨tb2 _ (List.mem_of_getElem? (i := 168) (by decide +kernel)), by decide +kernel⟩
theorem m474 : Jvm.Cond.methodLink "DrawnList" (87) yX6_has ∈ wg := List.mem_filter.mpr ⟨tb2 _ (List.mem_of_getElem? (i := 169) (by decide +kernel)), by decide +kernel⟩
theorem m475 : Jvm.Cond.instanceMethod yX6_has ∈ wg := List.mem_filter.mpr ⟨tb2 _ (List.mem_of_getElem? (i := 170) (by decide +kernel)), by decide +kernel⟩
theorem m476 : Jvm.Cond.selects "DrawnList$Roll" yX6_has yX6_has ∈ wg := List.mem_filter.mpr ⟨tb2 _ (List.mem_of_getElem? (i := 171) (by decide +kernel)), by decide +kernel⟩
theorem m477 : Jvm.Cond.code yX6_has prog_8_method_2_code (2) (Option.some Jvm.ClassFile.FieldType.boolean) ∈ wg := List.mem_filter.mpr ⟨tb2 _ (List.mem_of_getElem? (i := 172) (by decide +kernel)), by decide +kernel⟩
theorem m478 : Jvm.Cond.methodLink "DrawnListLaw" (28) yX11_answer ∈ wg := List.mem_filter.mpr ⟨tb2 _ (List.mem_of_getElem? (i := 173) (by decide +kernel)), by decide +kernel⟩
theorem m479 : Jvm.Cond.instanceMethod yX11_answer ∈ wg := List.mem_filter.mpr ⟨tb2 _ (List.mem_of_getElem? (i := 174) (by decide +kernel)), by decide +kernel⟩
theorem m480 : Jvm.Cond.selects "DrawnList" yX11_answer yX11_answer ∈ wg := List.mem_filter.mpr ⟨tb2 _ (List.mem_of_getElem? (i := 175) (by decide +kernel)), by decide +kernel⟩
theorem m481 : Jvm.Cond.code yX11_answer prog_1_method_5_code (4) (Option.some Jvm.ClassFile.FieldType.int) ∈ wg := List.mem_filter.mpr ⟨tb2 _ (List.mem_of_getElem? (i := 176) (by decide +kernel)), by decide +kernel⟩
theorem m482 : Jvm.Cond.methodLink "DrawnList" (109) yX0_tell ∈ wg := List.mem_filter.mpr ⟨tb2 _ (List.mem_of_getElem? (i := 177) (by decide +kernel)), by decide +kernel⟩
theorem m483 : Jvm.Cond.instanceMethod yX0_tell ∈ wg := List.mem_filter.mpr ⟨tb2 _ (List.mem_of_getElem? (i := 178) (by decide +kernel)), by decide +kernel⟩
theorem m484 : Jvm.Cond.selects "DrawnList$Answers" yX0_tell yX0_tell ∈ wg := List.mem_filter.mpr ⟨tb2 _ (List.mem_of_getElem? (i := 179) (by decide +kernel)), by decide +kernel⟩
theorem m485 : Jvm.Cond.code yX0_tell prog_2_method_2_code (4) (Option.some Jvm.ClassFile.FieldType.int) ∈ wg := List.mem_filter.mpr ⟨tb2 _ (List.mem_of_getElem? (i := 180) (by decide +kernel)), by decide +kernel⟩
theorem m486 : Jvm.Cond.methodLink "DrawnList$Answers" (35) yX0_settle ∈ wg := List.mem_filter.mpr ⟨tb2 _ (List.mem_of_getElem? (i := 181) (by decide +kernel)), by decide +kernel⟩
theorem m488 : Jvm.Cond.instanceMethod yX0_settle ∈ wg := List.mem_filter.mpr ⟨tb2 _ (List.mem_of_getElem? (i := 183) (by decide +kernel)), by decide +kernel⟩
theorem m489 : Jvm.Cond.code yX0_settle prog_2_method_4_code (3) (Option.none : Option Jvm.ClassFile.FieldType) ∈ wg := List.mem_filter.mpr ⟨tb2 _ (List.mem_of_getElem? (i := 184) (by decide +kernel)), by decide +kernel⟩
theorem m490 : Jvm.Cond.methodLink "DrawnList$Answers" (38) yX6_forgetValues ∈ wg := List.mem_filter.mpr ⟨tb2 _ (List.mem_of_getElem? (i := 185) (by decide +kernel)), by decide +kernel⟩
theorem m491 : Jvm.Cond.instanceMethod yX6_forgetValues ∈ wg := List.mem_filter.mpr ⟨tb2 _ (List.mem_of_getElem? (i := 186) (by decide +kernel)), by decide +kernel⟩
theorem m492 : Jvm.Cond.selects "DrawnList$Roll" yX6_forgetValues yX6_forgetValues ∈ wg := List.mem_filter.mpr ⟨tb2 _ (List.mem_of_getElem? (i := 187) (by decide +kernel)), by decide +kernel⟩
theorem m493 : Jvm.Cond.code yX6_forgetValues prog_8_method_6_code (2) (Option.none : Option Jvm.ClassFile.FieldType) ∈ wg := List.mem_filter.mpr ⟨tb2 _ (List.mem_of_getElem? (i := 188) (by decide +kernel)), by decide +kernel⟩
theorem m494 : Jvm.Cond.methodLink "DrawnList$Answers" (43) yX6_hold ∈ wg := List.mem_filter.mpr ⟨tb2 _ (List.mem_of_getElem? (i := 189) (by decide +kernel)), by decide +kernel⟩
theorem m495 : Jvm.Cond.instanceMethod yX6_hold ∈ wg := List.mem_filter.mpr ⟨tb2 _ (List.mem_of_getElem? (i := 190) (by decide +kernel)), by decide +kernel⟩
theorem m496 : Jvm.Cond.selects "DrawnList$Roll" yX6_hold yX6_hold ∈ wg := List.mem_filter.mpr ⟨tb2 _ (List.mem_of_getElem? (i := 191) (by decide +kernel)), by decide +kernel⟩
theorem m497 : Jvm.Cond.code yX6_hold prog_8_method_7_code (3) (Option.none : Option Jvm.ClassFile.FieldType) ∈ wg := List.mem_filter.mpr ⟨tb2 _ (List.mem_of_getElem? (i := 192) (by decide +kernel)), by decide +kernel⟩
theorem m498 : Jvm.Cond.methodLink "DrawnListLaw" (33) yX11_asOf ∈ wg := List.mem_filter.mpr ⟨tb2 _ (List.mem_of_getElem? (i := 193) (by decide +kernel)), by decide +kernel⟩
theorem m499 : Jvm.Cond.instanceMethod yX11_asOf ∈ wg := List.mem_filter.mpr ⟨tb2 _ (List.mem_of_getElem? (i := 194) (by decide +kernel)), by decide +kernel⟩
theorem m500 : Jvm.Cond.selects "DrawnList" yX11_asOf yX11_asOf ∈ wg := List.mem_filter.mpr ⟨tb2 _ (List.mem_of_getElem? (i := 195) (by decide +kernel)), by decide +kernel⟩
theorem m501 : Jvm.Cond.code yX11_asOf prog_1_method_6_code (2) (Option.some Jvm.ClassFile.FieldType.int) ∈ wg := List.mem_filter.mpr ⟨tb2 _ (List.mem_of_getElem? (i := 196) (by decide +kernel)), by decide +kernel⟩
theorem m502 : Jvm.Cond.methodLink "DrawnList" (113) yX0_look ∈ wg := List.mem_filter.mpr ⟨tb2 _ (List.mem_of_getElem? (i := 197) (by decide +kernel)), by decide +kernel⟩
theorem m503 : Jvm.Cond.instanceMethod yX0_look ∈ wg := List.mem_filter.mpr ⟨tb2 _ (List.mem_of_getElem? (i := 198) (by decide +kernel)), by decide +kernel⟩
theorem m504 : Jvm.Cond.selects "DrawnList$Answers" yX0_look yX0_look ∈ wg := List.mem_filter.mpr ⟨tb2 _ (List.mem_of_getElem? (i := 199) (by decide +kernel)), by decide +kernel⟩
theorem m505 : Jvm.Cond.code yX0_look prog_2_method_3_code (3) (Option.some Jvm.ClassFile.FieldType.int) ∈ wg := List.mem_filter.mpr ⟨tb2 _ (List.mem_of_getElem? (i := 200) (by decide +kernel)), by decide +kernel⟩
theorem m506 : Jvm.Cond.methodLink "DrawnListLaw" (37) yX11_many ∈ wg := List.mem_filter.mpr ⟨tb2 _ (List.mem_of_getElem? (i := 201) (by decide +kernel)), by decide +kernel⟩
theorem m507 : Jvm.Cond.instanceMethod yX11_many ∈ wg := List.mem_filter.mpr ⟨tb2 _ (List.mem_of_getElem? (i := 202) (by decide +kernel)), by decide +kernel⟩
theorem m508 : Jvm.Cond.selects "DrawnList" yX11_many yX11_many ∈ wg := List.mem_filter.mpr ⟨tb2 _ (List.mem_of_getElem? (i := 203) (by decide +kernel)), by decide +kernel⟩
theorem m509 : Jvm.Cond.code yX11_many prog_1_method_7_code (3) (Option.some Jvm.ClassFile.FieldType.int) ∈ wg := List.mem_filter.mpr ⟨tb2 _ (List.mem_of_getElem? (i := 204) (by decide +kernel)), by decide +kernel⟩
theorem m510 : Jvm.Cond.methodLink "DrawnList" (119) yJ6_bitCount_0f7a4 ∈ wg := List.mem_filter.mpr ⟨tb2 _ (List.mem_of_getElem? (i := 205) (by decide +kernel)), by decide +kernel⟩
theorem m511 : Jvm.Cond.static yJ6_bitCount_0f7a4 ∈ wg := List.mem_filter.mpr ⟨tb2 _ (List.mem_of_getElem? (i := 206) (by decide +kernel)), by decide +kernel⟩
theorem m512 : Jvm.Cond.code yJ6_bitCount_0f7a4 prog_15_method_49_code (1) (Option.some Jvm.ClassFile.FieldType.int) ∈ wg := List.mem_filter.mpr ⟨tb2 _ (List.mem_of_getElem? (i := 207) (by decide +kernel)), by decide +kernel⟩
theorem m513 : Jvm.Cond.constant "java/lang/Integer" (265) (1431655765) ∈ wg := List.mem_filter.mpr ⟨tb2 _ (List.mem_of_getElem? (i := 208) (by decide +kernel)), by decide +kernel⟩
theorem m514 : Jvm.Cond.constant "java/lang/Integer" (266) (858993459) ∈ wg := List.mem_filter.mpr ⟨tb2 _ (List.mem_of_getElem? (i := 209) (by decide +kernel)), by decide +kernel⟩
theorem m515 : Jvm.Cond.constant "java/lang/Integer" (267) (252645135) ∈ wg := List.mem_filter.mpr ⟨tb2 _ (List.mem_of_getElem? (i := 210) (by decide +kernel)), by decide +kernel⟩
theorem m516 : Jvm.Cond.methodLink "DrawnListLaw" (41) yX11_type ∈ wg := List.mem_filter.mpr ⟨tb2 _ (List.mem_of_getElem? (i := 211) (by decide +kernel)), by decide +kernel⟩
theorem m517 : Jvm.Cond.instanceMethod yX11_type ∈ wg := List.mem_filter.mpr ⟨tb2 _ (List.mem_of_getElem? (i := 212) (by decide +kernel)), by decide +kernel⟩
theorem m518 : Jvm.Cond.selects "DrawnList" yX11_type yX11_type ∈ wg := List.mem_filter.mpr ⟨tb2 _ (List.mem_of_getElem? (i := 213) (by decide +kernel)), by decide +kernel⟩
theorem m519 : Jvm.Cond.code yX11_type prog_1_method_8_code (3) (Option.some Jvm.ClassFile.FieldType.int) ∈ wg := List.mem_filter.mpr ⟨tb2 _ (List.mem_of_getElem? (i := 214) (by decide +kernel)), by decide +kernel⟩
theorem m520 : Jvm.Cond.methodLink "DrawnList" (133) yX11_isPlan ∈ wg := List.mem_filter.mpr ⟨tb2 _ (List.mem_of_getElem? (i := 215) (by decide +kernel)), by decide +kernel⟩
theorem m521 : Jvm.Cond.static yX11_isPlan ∈ wg := List.mem_filter.mpr ⟨tb2 _ (List.mem_of_getElem? (i := 216) (by decide +kernel)), by decide +kernel⟩
theorem m522 : Jvm.Cond.code yX11_isPlan prog_1_method_38_code (1) (Option.some Jvm.ClassFile.FieldType.boolean) ∈ wg := List.mem_filter.mpr ⟨tb2 _ (List.mem_of_getElem? (i := 217) (by decide +kernel)), by decide +kernel⟩
theorem m523 : Jvm.Cond.methodLink "DrawnList" (136) yX5_append ∈ wg := List.mem_filter.mpr ⟨tb2 _ (List.mem_of_getElem? (i := 218) (by decide +kernel)), by decide +kernel⟩
theorem m524 : Jvm.Cond.instanceMethod yX5_append ∈ wg := List.mem_filter.mpr ⟨tb2 _ (List.mem_of_getElem? (i := 219) (by decide +kernel)), by decide +kernel⟩
theorem m525 : Jvm.Cond.selects "DrawnList$Plan" yX5_append yX5_append ∈ wg := List.mem_filter.mpr ⟨tb2 _ (List.mem_of_getElem? (i := 220) (by decide +kernel)), by decide +kernel⟩
theorem m526 : Jvm.Cond.code yX5_append prog_7_method_2_code (2) (Option.some Jvm.ClassFile.FieldType.int) ∈ wg := List.mem_filter.mpr ⟨tb2 _ (List.mem_of_getElem? (i := 221) (by decide +kernel)), by decide +kernel⟩
theorem m527 : Jvm.Cond.methodLink "DrawnList$Plan" (51) yX5_understand ∈ wg := List.mem_filter.mpr ⟨tb2 _ (List.mem_of_getElem? (i := 222) (by decide +kernel)), by decide +kernel⟩
theorem m529 : Jvm.Cond.instanceMethod yX5_understand ∈ wg := List.mem_filter.mpr ⟨tb2 _ (List.mem_of_getElem? (i := 224) (by decide +kernel)), by decide +kernel⟩
theorem m530 : Jvm.Cond.code yX5_understand prog_7_method_5_code (1) (Option.none : Option Jvm.ClassFile.FieldType) ∈ wg := List.mem_filter.mpr ⟨tb2 _ (List.mem_of_getElem? (i := 225) (by decide +kernel)), by decide +kernel⟩
theorem m531 : Jvm.Cond.methodLink "DrawnList$Plan" (66) yX5_byteAt ∈ wg := List.mem_filter.mpr ⟨tb2 _ (List.mem_of_getElem? (i := 226) (by decide +kernel)), by decide +kernel⟩
theorem m533 : Jvm.Cond.instanceMethod yX5_byteAt ∈ wg := List.mem_filter.mpr ⟨tb2 _ (List.mem_of_getElem? (i := 228) (by decide +kernel)), by decide +kernel⟩
theorem m534 : Jvm.Cond.code yX5_byteAt prog_7_method_7_code (2) (Option.some Jvm.ClassFile.FieldType.int) ∈ wg := List.mem_filter.mpr ⟨tb2 _ (List.mem_of_getElem? (i := 229) (by decide +kernel)), by decide +kernel⟩
theorem m535 : Jvm.Cond.methodLinkNest "DrawnList$Plan" (78) yX11_within "DrawnList" ∈ wn := List.mem_filter.mpr ⟨tb2 _ (List.mem_of_getElem? (i := 230) (by decide +kernel)), by decide +kernel⟩
theorem m536 : Jvm.Cond.methodLink "DrawnList$Plan" (70) yX5_faultOfNumbers ∈ wg := List.mem_filter.mpr ⟨tb2 _ (List.mem_of_getElem? (i := 231) (by decide +kernel)), by decide +kernel⟩
theorem m538 : Jvm.Cond.instanceMethod yX5_faultOfNumbers ∈ wg := List.mem_filter.mpr ⟨tb2 _ (List.mem_of_getElem? (i := 233) (by decide +kernel)), by decide +kernel⟩
theorem m539 : Jvm.Cond.code yX5_faultOfNumbers prog_7_method_6_code (5) (Option.some Jvm.ClassFile.FieldType.int) ∈ wg := List.mem_filter.mpr ⟨tb2 _ (List.mem_of_getElem? (i := 234) (by decide +kernel)), by decide +kernel⟩
theorem m540 : Jvm.Cond.methodLink "DrawnList$Plan" (74) yX5_isFigure ∈ wg := List.mem_filter.mpr ⟨tb2 _ (List.mem_of_getElem? (i := 235) (by decide +kernel)), by decide +kernel⟩
theorem m542 : Jvm.Cond.instanceMethod yX5_isFigure ∈ wg := List.mem_filter.mpr ⟨tb2 _ (List.mem_of_getElem? (i := 237) (by decide +kernel)), by decide +kernel⟩
theorem m543 : Jvm.Cond.code yX5_isFigure prog_7_method_8_code (2) (Option.some Jvm.ClassFile.FieldType.boolean) ∈ wg := List.mem_filter.mpr ⟨tb2 _ (List.mem_of_getElem? (i := 238) (by decide +kernel)), by decide +kernel⟩
theorem m544 : Jvm.Cond.methodLink "DrawnListLaw" (45) yX11_wipe ∈ wg := List.mem_filter.mpr ⟨tb2 _ (List.mem_of_getElem? (i := 239) (by decide +kernel)), by decide +kernel⟩
theorem m545 : Jvm.Cond.instanceMethod yX11_wipe ∈ wg := List.mem_filter.mpr ⟨tb3 _ (List.mem_of_getElem? (i := 0) (by decide +kernel)), by decide +kernel⟩
theorem m546 : Jvm.Cond.selects "DrawnList" yX11_wipe yX11_wipe ∈ wg := List.mem_filter.mpr ⟨tb3 _ (List.mem_of_getElem? (i := 1) (by decide +kernel)), by decide +kernel⟩
theorem m547 : Jvm.Cond.code yX11_wipe prog_1_method_9_code (2) (Option.some Jvm.ClassFile.FieldType.int) ∈ wg := List.mem_filter.mpr ⟨tb3 _ (List.mem_of_getElem? (i := 2) (by decide +kernel)), by decide +kernel⟩
theorem m548 : Jvm.Cond.methodLink "DrawnList" (139) yX5_clear ∈ wg := List.mem_filter.mpr ⟨tb3 _ (List.mem_of_getElem? (i := 3) (by decide +kernel)), by decide +kernel⟩
theorem m549 : Jvm.Cond.instanceMethod yX5_clear ∈ wg := List.mem_filter.mpr ⟨tb3 _ (List.mem_of_getElem? (i := 4) (by decide +kernel)), by decide +kernel⟩
theorem m550 : Jvm.Cond.selects "DrawnList$Plan" yX5_clear yX5_clear ∈ wg := List.mem_filter.mpr ⟨tb3 _ (List.mem_of_getElem? (i := 5) (by decide +kernel)), by decide +kernel⟩
theorem m551 : Jvm.Cond.code yX5_clear prog_7_method_3_code (2) (Option.some Jvm.ClassFile.FieldType.int) ∈ wg := List.mem_filter.mpr ⟨tb3 _ (List.mem_of_getElem? (i := 6) (by decide +kernel)), by decide +kernel⟩
theorem m552 : Jvm.Cond.methodLink "DrawnListLaw" (49) yX11_fault ∈ wg := List.mem_filter.mpr ⟨tb3 _ (List.mem_of_getElem? (i := 7) (by decide +kernel)), by decide +kernel⟩
theorem m553 : Jvm.Cond.instanceMethod yX11_fault ∈ wg := List.mem_filter.mpr ⟨tb3 _ (List.mem_of_getElem? (i := 8) (by decide +kernel)), by decide +kernel⟩
theorem m554 : Jvm.Cond.selects "DrawnList" yX11_fault yX11_fault ∈ wg := List.mem_filter.mpr ⟨tb3 _ (List.mem_of_getElem? (i := 9) (by decide +kernel)), by decide +kernel⟩
theorem m555 : Jvm.Cond.code yX11_fault prog_1_method_10_code (2) (Option.some Jvm.ClassFile.FieldType.int) ∈ wg := List.mem_filter.mpr ⟨tb3 _ (List.mem_of_getElem? (i := 10) (by decide +kernel)), by decide +kernel⟩
theorem m556 : Jvm.Cond.methodLink "DrawnListLaw" (53) yX11_can ∈ wg := List.mem_filter.mpr ⟨tb3 _ (List.mem_of_getElem? (i := 11) (by decide +kernel)), by decide +kernel⟩
theorem m557 : Jvm.Cond.instanceMethod yX11_can ∈ wg := List.mem_filter.mpr ⟨tb3 _ (List.mem_of_getElem? (i := 12) (by decide +kernel)), by decide +kernel⟩
theorem m558 : Jvm.Cond.selects "DrawnList" yX11_can yX11_can ∈ wg := List.mem_filter.mpr ⟨tb3 _ (List.mem_of_getElem? (i := 13) (by decide +kernel)), by decide +kernel⟩
theorem m559 : Jvm.Cond.code yX11_can prog_1_method_11_code (2) (Option.some Jvm.ClassFile.FieldType.int) ∈ wg := List.mem_filter.mpr ⟨tb3 _ (List.mem_of_getElem? (i := 14) (by decide +kernel)), by decide +kernel⟩
theorem m560 : Jvm.Cond.methodLink "DrawnList" (146) yX5_possibleWay ∈ wg := List.mem_filter.mpr ⟨tb3 _ (List.mem_of_getElem? (i := 15) (by decide +kernel)), by decide +kernel⟩
theorem m561 : Jvm.Cond.instanceMethod yX5_possibleWay ∈ wg := List.mem_filter.mpr ⟨tb3 _ (List.mem_of_getElem? (i := 16) (by decide +kernel)), by decide +kernel⟩
theorem m562 : Jvm.Cond.selects "DrawnList$Plan" yX5_possibleWay yX5_possibleWay ∈ wg := List.mem_filter.mpr ⟨tb3 _ (List.mem_of_getElem? (i := 17) (by decide +kernel)), by decide +kernel⟩
theorem m563 : Jvm.Cond.code yX5_possibleWay prog_7_method_4_code (1) (Option.some (Jvm.ClassFile.FieldType.object "DrawnList$Way")) ∈ wg := List.mem_filter.mpr ⟨tb3 _ (List.mem_of_getElem? (i := 18) (by decide +kernel)), by decide +kernel⟩
theorem m564 : Jvm.Cond.methodLink "DrawnList$Plan" (60) ⟨"DrawnList$Way", "canBe", "()Z"⟩ ∈ wg := List.mem_filter.mpr ⟨tb3 _ (List.mem_of_getElem? (i := 19) (by decide +kernel)), by decide +kernel⟩
theorem m565 : Jvm.Cond.declares ⟨"DrawnList$Way", "canBe", "()Z"⟩ ∈ wn := List.mem_filter.mpr ⟨tb3 _ (List.mem_of_getElem? (i := 20) (by decide +kernel)), by decide +kernel⟩
theorem m566 : Jvm.Cond.sameMethod "DrawnList$Way" "DrawnList$Way" "canBe" "()Z" ∈ wg := List.mem_filter.mpr ⟨tb3 _ (List.mem_of_getElem? (i := 21) (by decide +kernel)), by decide +kernel⟩
theorem m567 : Jvm.Cond.selects "DrawnList$GroupWay" ⟨"DrawnList$Way", "canBe", "()Z"⟩ yX2_canBe ∈ wg := List.mem_filter.mpr ⟨tb3 _ (List.mem_of_getElem? (i := 22) (by decide +kernel)), by decide +kernel⟩
theorem m568 : Jvm.Cond.instanceMethod yX2_canBe ∈ wg := List.mem_filter.mpr ⟨tb3 _ (List.mem_of_getElem? (i := 23) (by decide +kernel)), by decide +kernel⟩
theorem m569 : Jvm.Cond.code yX2_canBe prog_4_method_5_code (3) (Option.some Jvm.ClassFile.FieldType.boolean) ∈ wg := List.mem_filter.mpr ⟨tb3 _ (List.mem_of_getElem? (i := 24) (by decide +kernel)), by decide +kernel⟩
theorem m570 : Jvm.Cond.methodLink "DrawnList$GroupWay" (47) yX2_sizeOf ∈ wg := List.mem_filter.mpr ⟨tb3 _ (List.mem_of_getElem? (i := 25) (by decide +kernel)), by decide +kernel⟩
theorem m572 : Jvm.Cond.instanceMethod yX2_sizeOf ∈ wg := List.mem_filter.mpr ⟨tb3 _ (List.mem_of_getElem? (i := 27) (by decide +kernel)), by decide +kernel⟩
theorem m573 : Jvm.Cond.code yX2_sizeOf prog_4_method_4_code (2) (Option.some Jvm.ClassFile.FieldType.int) ∈ wg := List.mem_filter.mpr ⟨tb3 _ (List.mem_of_getElem? (i := 28) (by decide +kernel)), by decide +kernel⟩
theorem m574 : Jvm.Cond.methodLink "DrawnList$GroupWay" (35) yX2_membersOf ∈ wg := List.mem_filter.mpr ⟨tb3 _ (List.mem_of_getElem? (i := 29) (by decide +kernel)), by decide +kernel⟩
theorem m576 : Jvm.Cond.instanceMethod yX2_membersOf ∈ wg := List.mem_filter.mpr ⟨tb3 _ (List.mem_of_getElem? (i := 31) (by decide +kernel)), by decide +kernel⟩
theorem m577 : Jvm.Cond.code yX2_membersOf prog_4_method_3_code (2) (Option.some Jvm.ClassFile.FieldType.int) ∈ wg := List.mem_filter.mpr ⟨tb3 _ (List.mem_of_getElem? (i := 32) (by decide +kernel)), by decide +kernel⟩
theorem m578 : Jvm.Cond.methodLink "DrawnList$GroupWay" (39) yJ6_bitCount_0f7a4 ∈ wg := List.mem_filter.mpr ⟨tb3 _ (List.mem_of_getElem? (i := 33) (by decide +kernel)), by decide +kernel⟩
theorem m579 : Jvm.Cond.selects "DrawnList$LineWay" ⟨"DrawnList$Way", "canBe", "()Z"⟩ yX4_canBe ∈ wg := List.mem_filter.mpr ⟨tb3 _ (List.mem_of_getElem? (i := 34) (by decide +kernel)), by decide +kernel⟩
theorem m580 : Jvm.Cond.instanceMethod yX4_canBe ∈ wg := List.mem_filter.mpr ⟨tb3 _ (List.mem_of_getElem? (i := 35) (by decide +kernel)), by decide +kernel⟩
theorem m581 : Jvm.Cond.code yX4_canBe prog_6_method_2_code (1) (Option.some Jvm.ClassFile.FieldType.boolean) ∈ wg := List.mem_filter.mpr ⟨tb3 _ (List.mem_of_getElem? (i := 36) (by decide +kernel)), by decide +kernel⟩
theorem m582 : Jvm.Cond.methodLink "DrawnList$LineWay" (15) yX4_pointCount ∈ wg := List.mem_filter.mpr ⟨tb3 _ (List.mem_of_getElem? (i := 37) (by decide +kernel)), by decide +kernel⟩
theorem m583 : Jvm.Cond.instanceMethod yX4_pointCount ∈ wg := List.mem_filter.mpr ⟨tb3 _ (List.mem_of_getElem? (i := 38) (by decide +kernel)), by decide +kernel⟩
theorem m584 : Jvm.Cond.selects "DrawnList$LineWay" yX4_pointCount yX4_pointCount ∈ wg := List.mem_filter.mpr ⟨tb3 _ (List.mem_of_getElem? (i := 39) (by decide +kernel)), by decide +kernel⟩
theorem m585 : Jvm.Cond.code yX4_pointCount prog_6_method_3_code (1) (Option.some Jvm.ClassFile.FieldType.int) ∈ wg := List.mem_filter.mpr ⟨tb3 _ (List.mem_of_getElem? (i := 40) (by decide +kernel)), by decide +kernel⟩
theorem m586 : Jvm.Cond.methodLink "DrawnList$LineWay" (27) yX4_lengthOfStep ∈ wg := List.mem_filter.mpr ⟨tb3 _ (List.mem_of_getElem? (i := 41) (by decide +kernel)), by decide +kernel⟩
theorem m588 : Jvm.Cond.instanceMethod yX4_lengthOfStep ∈ wg := List.mem_filter.mpr ⟨tb3 _ (List.mem_of_getElem? (i := 43) (by decide +kernel)), by decide +kernel⟩
theorem m589 : Jvm.Cond.code yX4_lengthOfStep prog_6_method_4_code (1) (Option.some Jvm.ClassFile.FieldType.int) ∈ wg := List.mem_filter.mpr ⟨tb3 _ (List.mem_of_getElem? (i := 44) (by decide +kernel)), by decide +kernel⟩
theorem m590 : Jvm.Cond.methodLinkNest "DrawnList$LineWay" (23) yX11_within "DrawnList" ∈ wn := List.mem_filter.mpr ⟨tb3 _ (List.mem_of_getElem? (i := 45) (by decide +kernel)), by decide +kernel⟩
theorem m591 : Jvm.Cond.selects "DrawnList$StepWay" ⟨"DrawnList$Way", "canBe", "()Z"⟩ yX8_canBe ∈ wg := List.mem_filter.mpr ⟨tb3 _ (List.mem_of_getElem? (i := 46) (by decide +kernel)), by decide +kernel⟩
theorem m592 : Jvm.Cond.instanceMethod yX8_canBe ∈ wg := List.mem_filter.mpr ⟨tb3 _ (List.mem_of_getElem? (i := 47) (by decide +kernel)), by decide +kernel⟩
theorem m593 : Jvm.Cond.code yX8_canBe prog_10_method_5_code (1) (Option.some Jvm.ClassFile.FieldType.boolean) ∈ wg := List.mem_filter.mpr ⟨tb3 _ (List.mem_of_getElem? (i := 48) (by decide +kernel)), by decide +kernel⟩
theorem m594 : Jvm.Cond.methodLink "DrawnList$StepWay" (47) yX8_clusters ∈ wg := List.mem_filter.mpr ⟨tb3 _ (List.mem_of_getElem? (i := 49) (by decide +kernel)), by decide +kernel⟩
theorem m596 : Jvm.Cond.instanceMethod yX8_clusters ∈ wg := List.mem_filter.mpr ⟨tb3 _ (List.mem_of_getElem? (i := 51) (by decide +kernel)), by decide +kernel⟩
theorem m597 : Jvm.Cond.code yX8_clusters prog_10_method_2_code (1) (Option.some Jvm.ClassFile.FieldType.int) ∈ wg := List.mem_filter.mpr ⟨tb3 _ (List.mem_of_getElem? (i := 52) (by decide +kernel)), by decide +kernel⟩
theorem m598 : Jvm.Cond.methodLink "DrawnList$StepWay" (25) yJ6_bitCount_0f7a4 ∈ wg := List.mem_filter.mpr ⟨tb3 _ (List.mem_of_getElem? (i := 53) (by decide +kernel)), by decide +kernel⟩
theorem m599 : Jvm.Cond.methodLinkNest "DrawnList$StepWay" (51) yX11_within "DrawnList" ∈ wn := List.mem_filter.mpr ⟨tb3 _ (List.mem_of_getElem? (i := 54) (by decide +kernel)), by decide +kernel⟩
theorem m600 : Jvm.Cond.methodLink "DrawnListLaw" (57) yX11_draws ∈ wg := List.mem_filter.mpr ⟨tb3 _ (List.mem_of_getElem? (i := 55) (by decide +kernel)), by decide +kernel⟩
theorem m601 : Jvm.Cond.instanceMethod yX11_draws ∈ wg := List.mem_filter.mpr ⟨tb3 _ (List.mem_of_getElem? (i := 56) (by decide +kernel)), by decide +kernel⟩
theorem m602 : Jvm.Cond.selects "DrawnList" yX11_draws yX11_draws ∈ wg := List.mem_filter.mpr ⟨tb3 _ (List.mem_of_getElem? (i := 57) (by decide +kernel)), by decide +kernel⟩
theorem m603 : Jvm.Cond.code yX11_draws prog_1_method_12_code (3) (Option.some Jvm.ClassFile.FieldType.long) ∈ wg := List.mem_filter.mpr ⟨tb3 _ (List.mem_of_getElem? (i := 58) (by decide +kernel)), by decide +kernel⟩
theorem m604 : Jvm.Cond.methodLink "DrawnList" (150) yX11_asLong ∈ wg := List.mem_filter.mpr ⟨tb3 _ (List.mem_of_getElem? (i := 59) (by decide +kernel)), by decide +kernel⟩
theorem m605 : Jvm.Cond.static yX11_asLong ∈ wg := List.mem_filter.mpr ⟨tb3 _ (List.mem_of_getElem? (i := 60) (by decide +kernel)), by decide +kernel⟩
theorem m606 : Jvm.Cond.code yX11_asLong prog_1_method_43_code (1) (Option.some Jvm.ClassFile.FieldType.long) ∈ wg := List.mem_filter.mpr ⟨tb3 _ (List.mem_of_getElem? (i := 61) (by decide +kernel)), by decide +kernel⟩
theorem m607 : Jvm.Cond.constantLong "DrawnList" (326) (-9223372036854775808) ∈ wg := List.mem_filter.mpr ⟨tb3 _ (List.mem_of_getElem? (i := 62) (by decide +kernel)), by decide +kernel⟩
theorem m608 : Jvm.Cond.methodLink "DrawnList" (154) ⟨"DrawnList$Way", "countWays", "()J"⟩ ∈ wg := List.mem_filter.mpr ⟨tb3 _ (List.mem_of_getElem? (i := 63) (by decide +kernel)), by decide +kernel⟩
theorem m609 : Jvm.Cond.declares ⟨"DrawnList$Way", "countWays", "()J"⟩ ∈ wn := List.mem_filter.mpr ⟨tb3 _ (List.mem_of_getElem? (i := 64) (by decide +kernel)), by decide +kernel⟩
theorem m610 : Jvm.Cond.sameMethod "DrawnList$Way" "DrawnList$Way" "countWays" "()J" ∈ wg := List.mem_filter.mpr ⟨tb3 _ (List.mem_of_getElem? (i := 65) (by decide +kernel)), by decide +kernel⟩
theorem m611 : Jvm.Cond.selects "DrawnList$GroupWay" ⟨"DrawnList$Way", "countWays", "()J"⟩ yX2_countWays ∈ wg := List.mem_filter.mpr ⟨tb3 _ (List.mem_of_getElem? (i := 66) (by decide +kernel)), by decide +kernel⟩
theorem m612 : Jvm.Cond.instanceMethod yX2_countWays ∈ wg := List.mem_filter.mpr ⟨tb3 _ (List.mem_of_getElem? (i := 67) (by decide +kernel)), by decide +kernel⟩
theorem m613 : Jvm.Cond.code yX2_countWays prog_4_method_6_code (4) (Option.some Jvm.ClassFile.FieldType.long) ∈ wg := List.mem_filter.mpr ⟨tb3 _ (List.mem_of_getElem? (i := 68) (by decide +kernel)), by decide +kernel⟩
theorem m614 : Jvm.Cond.methodLink "DrawnList$GroupWay" (50) ⟨"DrawnList$GroupWay", "waysToTake", "(II)J"⟩ ∈ wg := List.mem_filter.mpr ⟨tb3 _ (List.mem_of_getElem? (i := 69) (by decide +kernel)), by decide +kernel⟩
theorem m615 : Jvm.Cond.sameMethod "DrawnList$GroupWay" "DrawnList$Way" "waysToTake" "(II)J" ∈ wg := List.mem_filter.mpr ⟨tb3 _ (List.mem_of_getElem? (i := 70) (by decide +kernel)), by decide +kernel⟩
theorem m616 : Jvm.Cond.static yX9_waysToTake ∈ wg := List.mem_filter.mpr ⟨tb3 _ (List.mem_of_getElem? (i := 71) (by decide +kernel)), by decide +kernel⟩
theorem m617 : Jvm.Cond.code yX9_waysToTake prog_11_method_12_code (5) (Option.some Jvm.ClassFile.FieldType.long) ∈ wg := List.mem_filter.mpr ⟨tb3 _ (List.mem_of_getElem? (i := 72) (by decide +kernel)), by decide +kernel⟩
theorem m618 : Jvm.Cond.selects "DrawnList$LineWay" ⟨"DrawnList$Way", "countWays", "()J"⟩ yX4_countWays ∈ wg := List.mem_filter.mpr ⟨tb3 _ (List.mem_of_getElem? (i := 73) (by decide +kernel)), by decide +kernel⟩
theorem m619 : Jvm.Cond.instanceMethod yX4_countWays ∈ wg := List.mem_filter.mpr ⟨tb3 _ (List.mem_of_getElem? (i := 74) (by decide +kernel)), by decide +kernel⟩
theorem m620 : Jvm.Cond.code yX4_countWays prog_6_method_9_code (1) (Option.some Jvm.ClassFile.FieldType.long) ∈ wg := List.mem_filter.mpr ⟨tb3 _ (List.mem_of_getElem? (i := 75) (by decide +kernel)), by decide +kernel⟩
theorem m621 : Jvm.Cond.selects "DrawnList$StepWay" ⟨"DrawnList$Way", "countWays", "()J"⟩ yX8_countWays ∈ wg := List.mem_filter.mpr ⟨tb3 _ (List.mem_of_getElem? (i := 76) (by decide +kernel)), by decide +kernel⟩
theorem m622 : Jvm.Cond.instanceMethod yX8_countWays ∈ wg := List.mem_filter.mpr ⟨tb3 _ (List.mem_of_getElem? (i := 77) (by decide +kernel)), by decide +kernel⟩
theorem m623 : Jvm.Cond.code yX8_countWays prog_10_method_6_code (5) (Option.some Jvm.ClassFile.FieldType.long) ∈ wg := List.mem_filter.mpr ⟨tb3 _ (List.mem_of_getElem? (i := 78) (by decide +kernel)), by decide +kernel⟩
theorem m624 : Jvm.Cond.methodLink "DrawnList$StepWay" (38) yX8_sizeOf ∈ wg := List.mem_filter.mpr ⟨tb3 _ (List.mem_of_getElem? (i := 79) (by decide +kernel)), by decide +kernel⟩
theorem m626 : Jvm.Cond.instanceMethod yX8_sizeOf ∈ wg := List.mem_filter.mpr ⟨tb3 _ (List.mem_of_getElem? (i := 81) (by decide +kernel)), by decide +kernel⟩
theorem m627 : Jvm.Cond.code yX8_sizeOf prog_10_method_3_code (2) (Option.some Jvm.ClassFile.FieldType.int) ∈ wg := List.mem_filter.mpr ⟨tb3 _ (List.mem_of_getElem? (i := 82) (by decide +kernel)), by decide +kernel⟩
theorem m628 : Jvm.Cond.methodLink "DrawnList$StepWay" (55) yX8_takenOf ∈ wg := List.mem_filter.mpr ⟨tb3 _ (List.mem_of_getElem? (i := 83) (by decide +kernel)), by decide +kernel⟩
theorem m630 : Jvm.Cond.instanceMethod yX8_takenOf ∈ wg := List.mem_filter.mpr ⟨tb3 _ (List.mem_of_getElem? (i := 85) (by decide +kernel)), by decide +kernel⟩
theorem m631 : Jvm.Cond.code yX8_takenOf prog_10_method_4_code (2) (Option.some Jvm.ClassFile.FieldType.int) ∈ wg := List.mem_filter.mpr ⟨tb3 _ (List.mem_of_getElem? (i := 86) (by decide +kernel)), by decide +kernel⟩
theorem m632 : Jvm.Cond.methodLink "DrawnList$StepWay" (41) yJ9_min_7cf53 ∈ wg := List.mem_filter.mpr ⟨tb3 _ (List.mem_of_getElem? (i := 87) (by decide +kernel)), by decide +kernel⟩
theorem m633 : Jvm.Cond.static yJ9_min_7cf53 ∈ wg := List.mem_filter.mpr ⟨tb3 _ (List.mem_of_getElem? (i := 88) (by decide +kernel)), by decide +kernel⟩
theorem m634 : Jvm.Cond.code yJ9_min_7cf53 prog_17_method_69_code (2) (Option.some Jvm.ClassFile.FieldType.int) ∈ wg := List.mem_filter.mpr ⟨tb3 _ (List.mem_of_getElem? (i := 89) (by decide +kernel)), by decide +kernel⟩
theorem m635 : Jvm.Cond.methodLink "DrawnList$StepWay" (58) ⟨"DrawnList$StepWay", "waysToTake", "(II)J"⟩ ∈ wg := List.mem_filter.mpr ⟨tb3 _ (List.mem_of_getElem? (i := 90) (by decide +kernel)), by decide +kernel⟩
theorem m636 : Jvm.Cond.sameMethod "DrawnList$StepWay" "DrawnList$Way" "waysToTake" "(II)J" ∈ wg := List.mem_filter.mpr ⟨tb3 _ (List.mem_of_getElem? (i := 91) (by decide +kernel)), by decide +kernel⟩
theorem m637 : Jvm.Cond.methodLink "DrawnListLaw" (62) yX11_share ∈ wg := List.mem_filter.mpr ⟨tb3 _ (List.mem_of_getElem? (i := 92) (by decide +kernel)), by decide +kernel⟩
theorem m638 : Jvm.Cond.instanceMethod yX11_share ∈ wg := List.mem_filter.mpr ⟨tb3 _ (List.mem_of_getElem? (i := 93) (by decide +kernel)), by decide +kernel⟩
theorem m639 : Jvm.Cond.selects "DrawnList" yX11_share yX11_share ∈ wg := List.mem_filter.mpr ⟨tb3 _ (List.mem_of_getElem? (i := 94) (by decide +kernel)), by decide +kernel⟩
theorem m640 : Jvm.Cond.code yX11_share prog_1_method_13_code (5) (Option.some Jvm.ClassFile.FieldType.long) ∈ wg := List.mem_filter.mpr ⟨tb3 _ (List.mem_of_getElem? (i := 95) (by decide +kernel)), by decide +kernel⟩
theorem m641 : Jvm.Cond.methodLink "DrawnList" (160) yX11_isAboveOrBelow ∈ wg := List.mem_filter.mpr ⟨tb3 _ (List.mem_of_getElem? (i := 96) (by decide +kernel)), by decide +kernel⟩
theorem m642 : Jvm.Cond.static yX11_isAboveOrBelow ∈ wg := List.mem_filter.mpr ⟨tb3 _ (List.mem_of_getElem? (i := 97) (by decide +kernel)), by decide +kernel⟩
theorem m643 : Jvm.Cond.code yX11_isAboveOrBelow prog_1_method_41_code (1) (Option.some Jvm.ClassFile.FieldType.boolean) ∈ wg := List.mem_filter.mpr ⟨tb3 _ (List.mem_of_getElem? (i := 98) (by decide +kernel)), by decide +kernel⟩
theorem m644 : Jvm.Cond.methodLink "DrawnList" (163) ⟨"DrawnList$Way", "shareOfOne", "(ILDrawnList$Fraction;)V"⟩ ∈ wg := List.mem_filter.mpr ⟨tb3 _ (List.mem_of_getElem? (i := 99) (by decide +kernel)), by decide +kernel⟩
theorem m645 : Jvm.Cond.declares ⟨"DrawnList$Way", "shareOfOne", "(ILDrawnList$Fraction;)V"⟩ ∈ wn := List.mem_filter.mpr ⟨tb3 _ (List.mem_of_getElem? (i := 100) (by decide +kernel)), by decide +kernel⟩
theorem m646 : Jvm.Cond.sameMethod "DrawnList$Way" "DrawnList$Way" "shareOfOne" "(ILDrawnList$Fraction;)V" ∈ wg := List.mem_filter.mpr ⟨tb3 _ (List.mem_of_getElem? (i := 101) (by decide +kernel)), by decide +kernel⟩
theorem m647 : Jvm.Cond.selects "DrawnList$GroupWay" ⟨"DrawnList$Way", "shareOfOne", "(ILDrawnList$Fraction;)V"⟩ yX2_shareOfOne ∈ wg := List.mem_filter.mpr ⟨tb3 _ (List.mem_of_getElem? (i := 102) (by decide +kernel)), by decide +kernel⟩
theorem m648 : Jvm.Cond.instanceMethod yX2_shareOfOne ∈ wg := List.mem_filter.mpr ⟨tb3 _ (List.mem_of_getElem? (i := 103) (by decide +kernel)), by decide +kernel⟩
theorem m649 : Jvm.Cond.code yX2_shareOfOne prog_4_method_7_code (4) (Option.none : Option Jvm.ClassFile.FieldType) ∈ wg := List.mem_filter.mpr ⟨tb3 _ (List.mem_of_getElem? (i := 104) (by decide +kernel)), by decide +kernel⟩
theorem m650 : Jvm.Cond.methodLink "DrawnList$GroupWay" (54) yX2_groupOf ∈ wg := List.mem_filter.mpr ⟨tb3 _ (List.mem_of_getElem? (i := 105) (by decide +kernel)), by decide +kernel⟩
theorem m652 : Jvm.Cond.instanceMethod yX2_groupOf ∈ wg := List.mem_filter.mpr ⟨tb3 _ (List.mem_of_getElem? (i := 107) (by decide +kernel)), by decide +kernel⟩
theorem m653 : Jvm.Cond.code yX2_groupOf prog_4_method_2_code (2) (Option.some Jvm.ClassFile.FieldType.int) ∈ wg := List.mem_filter.mpr ⟨tb3 _ (List.mem_of_getElem? (i := 108) (by decide +kernel)), by decide +kernel⟩
theorem m654 : Jvm.Cond.methodLink "DrawnList$GroupWay" (57) yX1_become ∈ wg := List.mem_filter.mpr ⟨tb3 _ (List.mem_of_getElem? (i := 109) (by decide +kernel)), by decide +kernel⟩
theorem m655 : Jvm.Cond.instanceMethod yX1_become ∈ wg := List.mem_filter.mpr ⟨tb3 _ (List.mem_of_getElem? (i := 110) (by decide +kernel)), by decide +kernel⟩
theorem m656 : Jvm.Cond.selects "DrawnList$Fraction" yX1_become yX1_become ∈ wg := List.mem_filter.mpr ⟨tb3 _ (List.mem_of_getElem? (i := 111) (by decide +kernel)), by decide +kernel⟩
theorem m657 : Jvm.Cond.code yX1_become prog_3_method_2_code (7) (Option.none : Option Jvm.ClassFile.FieldType) ∈ wg := List.mem_filter.mpr ⟨tb3 _ (List.mem_of_getElem? (i := 112) (by decide +kernel)), by decide +kernel⟩
theorem m658 : Jvm.Cond.methodLink "DrawnList$Fraction" (16) yX1_commonDivisor ∈ wg := List.mem_filter.mpr ⟨tb3 _ (List.mem_of_getElem? (i := 113) (by decide +kernel)), by decide +kernel⟩
theorem m659 : Jvm.Cond.static yX1_commonDivisor ∈ wg := List.mem_filter.mpr ⟨tb3 _ (List.mem_of_getElem? (i := 114) (by decide +kernel)), by decide +kernel⟩
theorem m660 : Jvm.Cond.code yX1_commonDivisor prog_3_method_8_code (11) (Option.some Jvm.ClassFile.FieldType.long) ∈ wg := List.mem_filter.mpr ⟨tb3 _ (List.mem_of_getElem? (i := 115) (by decide +kernel)), by decide +kernel⟩
theorem m661 : Jvm.Cond.selects "DrawnList$LineWay" ⟨"DrawnList$Way", "shareOfOne", "(ILDrawnList$Fraction;)V"⟩ yX4_shareOfOne ∈ wg := List.mem_filter.mpr ⟨tb3 _ (List.mem_of_getElem? (i := 116) (by decide +kernel)), by decide +kernel⟩
theorem m662 : Jvm.Cond.instanceMethod yX4_shareOfOne ∈ wg := List.mem_filter.mpr ⟨tb3 _ (List.mem_of_getElem? (i := 117) (by decide +kernel)), by decide +kernel⟩
theorem m663 : Jvm.Cond.code yX4_shareOfOne prog_6_method_10_code (3) (Option.none : Option Jvm.ClassFile.FieldType) ∈ wg := List.mem_filter.mpr ⟨tb3 _ (List.mem_of_getElem? (i := 118) (by decide +kernel)), by decide +kernel⟩
theorem m664 : Jvm.Cond.methodLink "DrawnList$LineWay" (68) yX4_pointsWith ∈ wg := List.mem_filter.mpr ⟨tb3 _ (List.mem_of_getElem? (i := 119) (by decide +kernel)), by decide +kernel⟩
theorem m666 : Jvm.Cond.instanceMethod yX4_pointsWith ∈ wg := List.mem_filter.mpr ⟨tb3 _ (List.mem_of_getElem? (i := 121) (by decide +kernel)), by decide +kernel⟩
theorem m667 : Jvm.Cond.code yX4_pointsWith prog_6_method_8_code (4) (Option.some Jvm.ClassFile.FieldType.int) ∈ wg := List.mem_filter.mpr ⟨tb3 _ (List.mem_of_getElem? (i := 122) (by decide +kernel)), by decide +kernel⟩
theorem m668 : Jvm.Cond.methodLink "DrawnList$LineWay" (65) yJ9_min_7cf53 ∈ wg := List.mem_filter.mpr ⟨tb3 _ (List.mem_of_getElem? (i := 123) (by decide +kernel)), by decide +kernel⟩
theorem m669 : Jvm.Cond.methodLink "DrawnList$LineWay" (47) yJ9_max_7cf53 ∈ wg := List.mem_filter.mpr ⟨tb3 _ (List.mem_of_getElem? (i := 124) (by decide +kernel)), by decide +kernel⟩
theorem m670 : Jvm.Cond.static yJ9_max_7cf53 ∈ wg := List.mem_filter.mpr ⟨tb3 _ (List.mem_of_getElem? (i := 125) (by decide +kernel)), by decide +kernel⟩
theorem m671 : Jvm.Cond.code yJ9_max_7cf53 prog_17_method_65_code (2) (Option.some Jvm.ClassFile.FieldType.int) ∈ wg := List.mem_filter.mpr ⟨tb3 _ (List.mem_of_getElem? (i := 126) (by decide +kernel)), by decide +kernel⟩
theorem m672 : Jvm.Cond.methodLink "DrawnList$LineWay" (71) yX1_become ∈ wg := List.mem_filter.mpr ⟨tb3 _ (List.mem_of_getElem? (i := 127) (by decide +kernel)), by decide +kernel⟩
theorem m673 : Jvm.Cond.selects "DrawnList$StepWay" ⟨"DrawnList$Way", "shareOfOne", "(ILDrawnList$Fraction;)V"⟩ yX8_shareOfOne ∈ wg := List.mem_filter.mpr ⟨tb3 _ (List.mem_of_getElem? (i := 128) (by decide +kernel)), by decide +kernel⟩
theorem m674 : Jvm.Cond.instanceMethod yX8_shareOfOne ∈ wg := List.mem_filter.mpr ⟨tb3 _ (List.mem_of_getElem? (i := 129) (by decide +kernel)), by decide +kernel⟩
theorem m675 : Jvm.Cond.code yX8_shareOfOne prog_10_method_7_code (4) (Option.none : Option Jvm.ClassFile.FieldType) ∈ wg := List.mem_filter.mpr ⟨tb3 _ (List.mem_of_getElem? (i := 130) (by decide +kernel)), by decide +kernel⟩
theorem m676 : Jvm.Cond.methodLink "DrawnList$StepWay" (65) yX1_become ∈ wg := List.mem_filter.mpr ⟨tb3 _ (List.mem_of_getElem? (i := 131) (by decide +kernel)), by decide +kernel⟩
theorem m677 : Jvm.Cond.methodLink "DrawnList" (167) yX1_told ∈ wg := List.mem_filter.mpr ⟨tb3 _ (List.mem_of_getElem? (i := 132) (by decide +kernel)), by decide +kernel⟩
theorem m678 : Jvm.Cond.instanceMethod yX1_told ∈ wg := List.mem_filter.mpr ⟨tb3 _ (List.mem_of_getElem? (i := 133) (by decide +kernel)), by decide +kernel⟩
theorem m679 : Jvm.Cond.selects "DrawnList$Fraction" yX1_told yX1_told ∈ wg := List.mem_filter.mpr ⟨tb3 _ (List.mem_of_getElem? (i := 134) (by decide +kernel)), by decide +kernel⟩
theorem m680 : Jvm.Cond.code yX1_told prog_3_method_7_code (2) (Option.some Jvm.ClassFile.FieldType.long) ∈ wg := List.mem_filter.mpr ⟨tb3 _ (List.mem_of_getElem? (i := 135) (by decide +kernel)), by decide +kernel⟩
theorem m681 : Jvm.Cond.methodLink "DrawnListLaw" (67) yX11_both ∈ wg := List.mem_filter.mpr ⟨tb3 _ (List.mem_of_getElem? (i := 136) (by decide +kernel)), by decide +kernel⟩
theorem m682 : Jvm.Cond.instanceMethod yX11_both ∈ wg := List.mem_filter.mpr ⟨tb3 _ (List.mem_of_getElem? (i := 137) (by decide +kernel)), by decide +kernel⟩
theorem m683 : Jvm.Cond.selects "DrawnList" yX11_both yX11_both ∈ wg := List.mem_filter.mpr ⟨tb3 _ (List.mem_of_getElem? (i := 138) (by decide +kernel)), by decide +kernel⟩
theorem m684 : Jvm.Cond.code yX11_both prog_1_method_14_code (6) (Option.some Jvm.ClassFile.FieldType.long) ∈ wg := List.mem_filter.mpr ⟨tb3 _ (List.mem_of_getElem? (i := 139) (by decide +kernel)), by decide +kernel⟩
theorem m685 : Jvm.Cond.methodLink "DrawnList" (170) ⟨"DrawnList$Way", "shareOfTwo", "(IILDrawnList$Fraction;)V"⟩ ∈ wg := List.mem_filter.mpr ⟨tb3 _ (List.mem_of_getElem? (i := 140) (by decide +kernel)), by decide +kernel⟩
theorem m686 : Jvm.Cond.declares ⟨"DrawnList$Way", "shareOfTwo", "(IILDrawnList$Fraction;)V"⟩ ∈ wn := List.mem_filter.mpr ⟨tb3 _ (List.mem_of_getElem? (i := 141) (by decide +kernel)), by decide +kernel⟩
theorem m687 : Jvm.Cond.sameMethod "DrawnList$Way" "DrawnList$Way" "shareOfTwo" "(IILDrawnList$Fraction;)V" ∈ wg := List.mem_filter.mpr ⟨tb3 _ (List.mem_of_getElem? (i := 142) (by decide +kernel)), by decide +kernel⟩
theorem m688 : Jvm.Cond.selects "DrawnList$GroupWay" ⟨"DrawnList$Way", "shareOfTwo", "(IILDrawnList$Fraction;)V"⟩ yX2_shareOfTwo ∈ wg := List.mem_filter.mpr ⟨tb3 _ (List.mem_of_getElem? (i := 143) (by decide +kernel)), by decide +kernel⟩
theorem m689 : Jvm.Cond.instanceMethod yX2_shareOfTwo ∈ wg := List.mem_filter.mpr ⟨tb3 _ (List.mem_of_getElem? (i := 144) (by decide +kernel)), by decide +kernel⟩
theorem m690 : Jvm.Cond.code yX2_shareOfTwo prog_4_method_8_code (7) (Option.none : Option Jvm.ClassFile.FieldType) ∈ wg := List.mem_filter.mpr ⟨tb3 _ (List.mem_of_getElem? (i := 145) (by decide +kernel)), by decide +kernel⟩
theorem m691 : Jvm.Cond.selects "DrawnList$LineWay" ⟨"DrawnList$Way", "shareOfTwo", "(IILDrawnList$Fraction;)V"⟩ yX4_shareOfTwo ∈ wg := List.mem_filter.mpr ⟨tb3 _ (List.mem_of_getElem? (i := 146) (by decide +kernel)), by decide +kernel⟩
theorem m692 : Jvm.Cond.instanceMethod yX4_shareOfTwo ∈ wg := List.mem_filter.mpr ⟨tb3 _ (List.mem_of_getElem? (i := 147) (by decide +kernel)), by decide +kernel⟩
theorem m693 : Jvm.Cond.code yX4_shareOfTwo prog_6_method_11_code (8) (Option.none : Option Jvm.ClassFile.FieldType) ∈ wg := List.mem_filter.mpr ⟨tb3 _ (List.mem_of_getElem? (i := 148) (by decide +kernel)), by decide +kernel⟩
theorem m694 : Jvm.Cond.methodLink "DrawnList$LineWay" (77) yX4_drawAt ∈ wg := List.mem_filter.mpr ⟨tb3 _ (List.mem_of_getElem? (i := 149) (by decide +kernel)), by decide +kernel⟩
theorem m695 : Jvm.Cond.instanceMethod yX4_drawAt ∈ wg := List.mem_filter.mpr ⟨tb3 _ (List.mem_of_getElem? (i := 150) (by decide +kernel)), by decide +kernel⟩
theorem m696 : Jvm.Cond.selects "DrawnList$LineWay" yX4_drawAt yX4_drawAt ∈ wg := List.mem_filter.mpr ⟨tb3 _ (List.mem_of_getElem? (i := 151) (by decide +kernel)), by decide +kernel⟩
theorem m697 : Jvm.Cond.code yX4_drawAt prog_6_method_5_code (2) (Option.some Jvm.ClassFile.FieldType.int) ∈ wg := List.mem_filter.mpr ⟨tb3 _ (List.mem_of_getElem? (i := 152) (by decide +kernel)), by decide +kernel⟩
theorem m698 : Jvm.Cond.methodLink "DrawnList$LineWay" (40) yX4_drawAlongSizes ∈ wg := List.mem_filter.mpr ⟨tb3 _ (List.mem_of_getElem? (i := 153) (by decide +kernel)), by decide +kernel⟩
theorem m700 : Jvm.Cond.instanceMethod yX4_drawAlongSizes ∈ wg := List.mem_filter.mpr ⟨tb3 _ (List.mem_of_getElem? (i := 155) (by decide +kernel)), by decide +kernel⟩
theorem m701 : Jvm.Cond.code yX4_drawAlongSizes prog_6_method_7_code (6) (Option.some Jvm.ClassFile.FieldType.int) ∈ wg := List.mem_filter.mpr ⟨tb3 _ (List.mem_of_getElem? (i := 156) (by decide +kernel)), by decide +kernel⟩
theorem m702 : Jvm.Cond.methodLink "DrawnList$LineWay" (44) yX4_drawRoundList ∈ wg := List.mem_filter.mpr ⟨tb3 _ (List.mem_of_getElem? (i := 157) (by decide +kernel)), by decide +kernel⟩
theorem m704 : Jvm.Cond.instanceMethod yX4_drawRoundList ∈ wg := List.mem_filter.mpr ⟨tb3 _ (List.mem_of_getElem? (i := 159) (by decide +kernel)), by decide +kernel⟩
theorem m705 : Jvm.Cond.code yX4_drawRoundList prog_6_method_6_code (5) (Option.some Jvm.ClassFile.FieldType.int) ∈ wg := List.mem_filter.mpr ⟨tb3 _ (List.mem_of_getElem? (i := 160) (by decide +kernel)), by decide +kernel⟩
theorem m706 : Jvm.Cond.selects "DrawnList$StepWay" ⟨"DrawnList$Way", "shareOfTwo", "(IILDrawnList$Fraction;)V"⟩ yX8_shareOfTwo ∈ wg := List.mem_filter.mpr ⟨tb3 _ (List.mem_of_getElem? (i := 161) (by decide +kernel)), by decide +kernel⟩
theorem m707 : Jvm.Cond.instanceMethod yX8_shareOfTwo ∈ wg := List.mem_filter.mpr ⟨tb3 _ (List.mem_of_getElem? (i := 162) (by decide +kernel)), by decide +kernel⟩
theorem m708 : Jvm.Cond.code yX8_shareOfTwo prog_10_method_8_code (10) (Option.none : Option Jvm.ClassFile.FieldType) ∈ wg := List.mem_filter.mpr ⟨tb3 _ (List.mem_of_getElem? (i := 163) (by decide +kernel)), by decide +kernel⟩
theorem m709 : Jvm.Cond.methodLink "DrawnListLaw" (72) yX11_width ∈ wg := List.mem_filter.mpr ⟨tb3 _ (List.mem_of_getElem? (i := 164) (by decide +kernel)), by decide +kernel⟩
theorem m710 : Jvm.Cond.instanceMethod yX11_width ∈ wg := List.mem_filter.mpr ⟨tb3 _ (List.mem_of_getElem? (i := 165) (by decide +kernel)), by decide +kernel⟩
theorem m711 : Jvm.Cond.selects "DrawnList" yX11_width yX11_width ∈ wg := List.mem_filter.mpr ⟨tb3 _ (List.mem_of_getElem? (i := 166) (by decide +kernel)), by decide +kernel⟩
theorem m712 : Jvm.Cond.code yX11_width prog_1_method_15_code (4) (Option.some Jvm.ClassFile.FieldType.int) ∈ wg := List.mem_filter.mpr ⟨tb3 _ (List.mem_of_getElem? (i := 167) (by decide +kernel)), by decide +kernel⟩
theorem m713 : Jvm.Cond.methodLink "DrawnList" (174) ⟨"DrawnList$Way", "fewest", "()I"⟩ ∈ wg := List.mem_filter.mpr ⟨tb3 _ (List.mem_of_getElem? (i := 168) (by decide +kernel)), by decide +kernel⟩
theorem m714 : Jvm.Cond.declares ⟨"DrawnList$Way", "fewest", "()I"⟩ ∈ wn := List.mem_filter.mpr ⟨tb3 _ (List.mem_of_getElem? (i := 169) (by decide +kernel)), by decide +kernel⟩
theorem m715 : Jvm.Cond.sameMethod "DrawnList$Way" "DrawnList$Way" "fewest" "()I" ∈ wg := List.mem_filter.mpr ⟨tb3 _ (List.mem_of_getElem? (i := 170) (by decide +kernel)), by decide +kernel⟩
theorem m716 : Jvm.Cond.selects "DrawnList$GroupWay" ⟨"DrawnList$Way", "fewest", "()I"⟩ yX2_fewest ∈ wg := List.mem_filter.mpr ⟨tb3 _ (List.mem_of_getElem? (i := 171) (by decide +kernel)), by decide +kernel⟩
theorem m717 : Jvm.Cond.instanceMethod yX2_fewest ∈ wg := List.mem_filter.mpr ⟨tb3 _ (List.mem_of_getElem? (i := 172) (by decide +kernel)), by decide +kernel⟩
theorem m718 : Jvm.Cond.code yX2_fewest prog_4_method_9_code (1) (Option.some Jvm.ClassFile.FieldType.int) ∈ wg := List.mem_filter.mpr ⟨tb3 _ (List.mem_of_getElem? (i := 173) (by decide +kernel)), by decide +kernel⟩
theorem m719 : Jvm.Cond.methodLink "DrawnList$GroupWay" (63) yX2_most ∈ wg := List.mem_filter.mpr ⟨tb3 _ (List.mem_of_getElem? (i := 174) (by decide +kernel)), by decide +kernel⟩
theorem m720 : Jvm.Cond.instanceMethod yX2_most ∈ wg := List.mem_filter.mpr ⟨tb3 _ (List.mem_of_getElem? (i := 175) (by decide +kernel)), by decide +kernel⟩
theorem m721 : Jvm.Cond.selects "DrawnList$GroupWay" yX2_most yX2_most ∈ wg := List.mem_filter.mpr ⟨tb3 _ (List.mem_of_getElem? (i := 176) (by decide +kernel)), by decide +kernel⟩
theorem m722 : Jvm.Cond.code yX2_most prog_4_method_10_code (3) (Option.some Jvm.ClassFile.FieldType.int) ∈ wg := List.mem_filter.mpr ⟨tb3 _ (List.mem_of_getElem? (i := 177) (by decide +kernel)), by decide +kernel⟩
theorem m723 : Jvm.Cond.selects "DrawnList$LineWay" ⟨"DrawnList$Way", "fewest", "()I"⟩ yX4_fewest ∈ wg := List.mem_filter.mpr ⟨tb3 _ (List.mem_of_getElem? (i := 178) (by decide +kernel)), by decide +kernel⟩
theorem m724 : Jvm.Cond.instanceMethod yX4_fewest ∈ wg := List.mem_filter.mpr ⟨tb3 _ (List.mem_of_getElem? (i := 179) (by decide +kernel)), by decide +kernel⟩
theorem m725 : Jvm.Cond.code yX4_fewest prog_6_method_12_code (4) (Option.some Jvm.ClassFile.FieldType.int) ∈ wg := List.mem_filter.mpr ⟨tb3 _ (List.mem_of_getElem? (i := 180) (by decide +kernel)), by decide +kernel⟩
theorem m726 : Jvm.Cond.methodLink "DrawnList$LineWay" (80) yJ6_bitCount_0f7a4 ∈ wg := List.mem_filter.mpr ⟨tb3 _ (List.mem_of_getElem? (i := 181) (by decide +kernel)), by decide +kernel⟩
theorem m727 : Jvm.Cond.selects "DrawnList$StepWay" ⟨"DrawnList$Way", "fewest", "()I"⟩ yX8_fewest ∈ wg := List.mem_filter.mpr ⟨tb3 _ (List.mem_of_getElem? (i := 182) (by decide +kernel)), by decide +kernel⟩
theorem m728 : Jvm.Cond.instanceMethod yX8_fewest ∈ wg := List.mem_filter.mpr ⟨tb3 _ (List.mem_of_getElem? (i := 183) (by decide +kernel)), by decide +kernel⟩
theorem m729 : Jvm.Cond.code yX8_fewest prog_10_method_9_code (5) (Option.some Jvm.ClassFile.FieldType.int) ∈ wg := List.mem_filter.mpr ⟨tb3 _ (List.mem_of_getElem? (i := 184) (by decide +kernel)), by decide +kernel⟩
theorem m730 : Jvm.Cond.methodLink "DrawnList$StepWay" (71) yX8_clustersThatGive ∈ wg := List.mem_filter.mpr ⟨tb3 _ (List.mem_of_getElem? (i := 185) (by decide +kernel)), by decide +kernel⟩
theorem m732 : Jvm.Cond.instanceMethod yX8_clustersThatGive ∈ wg := List.mem_filter.mpr ⟨tb3 _ (List.mem_of_getElem? (i := 187) (by decide +kernel)), by decide +kernel⟩
theorem m733 : Jvm.Cond.code yX8_clustersThatGive prog_10_method_11_code (4) (Option.some Jvm.ClassFile.FieldType.int) ∈ wg := List.mem_filter.mpr ⟨tb3 _ (List.mem_of_getElem? (i := 188) (by decide +kernel)), by decide +kernel⟩
theorem m734 : Jvm.Cond.methodLink "DrawnList" (177) ⟨"DrawnList$Way", "most", "()I"⟩ ∈ wg := List.mem_filter.mpr ⟨tb3 _ (List.mem_of_getElem? (i := 189) (by decide +kernel)), by decide +kernel⟩
theorem m735 : Jvm.Cond.declares ⟨"DrawnList$Way", "most", "()I"⟩ ∈ wn := List.mem_filter.mpr ⟨tb3 _ (List.mem_of_getElem? (i := 190) (by decide +kernel)), by decide +kernel⟩
theorem m736 : Jvm.Cond.sameMethod "DrawnList$Way" "DrawnList$Way" "most" "()I" ∈ wg := List.mem_filter.mpr ⟨tb3 _ (List.mem_of_getElem? (i := 191) (by decide +kernel)), by decide +kernel⟩
theorem m737 : Jvm.Cond.selects "DrawnList$GroupWay" ⟨"DrawnList$Way", "most", "()I"⟩ yX2_most ∈ wg := List.mem_filter.mpr ⟨tb3 _ (List.mem_of_getElem? (i := 192) (by decide +kernel)), by decide +kernel⟩
theorem m738 : Jvm.Cond.selects "DrawnList$LineWay" ⟨"DrawnList$Way", "most", "()I"⟩ yX4_most ∈ wg := List.mem_filter.mpr ⟨tb3 _ (List.mem_of_getElem? (i := 193) (by decide +kernel)), by decide +kernel⟩
theorem m739 : Jvm.Cond.instanceMethod yX4_most ∈ wg := List.mem_filter.mpr ⟨tb3 _ (List.mem_of_getElem? (i := 194) (by decide +kernel)), by decide +kernel⟩
theorem m740 : Jvm.Cond.code yX4_most prog_6_method_13_code (4) (Option.some Jvm.ClassFile.FieldType.int) ∈ wg := List.mem_filter.mpr ⟨tb3 _ (List.mem_of_getElem? (i := 195) (by decide +kernel)), by decide +kernel⟩
theorem m741 : Jvm.Cond.selects "DrawnList$StepWay" ⟨"DrawnList$Way", "most", "()I"⟩ yX8_most ∈ wg := List.mem_filter.mpr ⟨tb3 _ (List.mem_of_getElem? (i := 196) (by decide +kernel)), by decide +kernel⟩
theorem m742 : Jvm.Cond.instanceMethod yX8_most ∈ wg := List.mem_filter.mpr ⟨tb3 _ (List.mem_of_getElem? (i := 197) (by decide +kernel)), by decide +kernel⟩
theorem m743 : Jvm.Cond.code yX8_most prog_10_method_10_code (5) (Option.some Jvm.ClassFile.FieldType.int) ∈ wg := List.mem_filter.mpr ⟨tb3 _ (List.mem_of_getElem? (i := 198) (by decide +kernel)), by decide +kernel⟩
theorem m744 : Jvm.Cond.methodLink "DrawnListLaw" (76) yX11_lots ∈ wg := List.mem_filter.mpr ⟨tb3 _ (List.mem_of_getElem? (i := 199) (by decide +kernel)), by decide +kernel⟩
theorem m745 : Jvm.Cond.instanceMethod yX11_lots ∈ wg := List.mem_filter.mpr ⟨tb3 _ (List.mem_of_getElem? (i := 200) (by decide +kernel)), by decide +kernel⟩
theorem m746 : Jvm.Cond.selects "DrawnList" yX11_lots yX11_lots ∈ wg := List.mem_filter.mpr ⟨tb3 _ (List.mem_of_getElem? (i := 201) (by decide +kernel)), by decide +kernel⟩
theorem m747 : Jvm.Cond.code yX11_lots prog_1_method_16_code (4) (Option.some Jvm.ClassFile.FieldType.int) ∈ wg := List.mem_filter.mpr ⟨tb3 _ (List.mem_of_getElem? (i := 202) (by decide +kernel)), by decide +kernel⟩
theorem m748 : Jvm.Cond.methodLink "DrawnList" (183) ⟨"DrawnList$Way", "drawByLots", "()I"⟩ ∈ wg := List.mem_filter.mpr ⟨tb3 _ (List.mem_of_getElem? (i := 203) (by decide +kernel)), by decide +kernel⟩
theorem m749 : Jvm.Cond.declares ⟨"DrawnList$Way", "drawByLots", "()I"⟩ ∈ wn := List.mem_filter.mpr ⟨tb3 _ (List.mem_of_getElem? (i := 204) (by decide +kernel)), by decide +kernel⟩
theorem m750 : Jvm.Cond.sameMethod "DrawnList$Way" "DrawnList$Way" "drawByLots" "()I" ∈ wg := List.mem_filter.mpr ⟨tb3 _ (List.mem_of_getElem? (i := 205) (by decide +kernel)), by decide +kernel⟩
theorem m751 : Jvm.Cond.selects "DrawnList$GroupWay" ⟨"DrawnList$Way", "drawByLots", "()I"⟩ yX2_drawByLots ∈ wg := List.mem_filter.mpr ⟨tb3 _ (List.mem_of_getElem? (i := 206) (by decide +kernel)), by decide +kernel⟩
theorem m752 : Jvm.Cond.instanceMethod yX2_drawByLots ∈ wg := List.mem_filter.mpr ⟨tb3 _ (List.mem_of_getElem? (i := 207) (by decide +kernel)), by decide +kernel⟩
theorem m753 : Jvm.Cond.code yX2_drawByLots prog_4_method_12_code (3) (Option.some Jvm.ClassFile.FieldType.int) ∈ wg := List.mem_filter.mpr ⟨tb3 _ (List.mem_of_getElem? (i := 208) (by decide +kernel)), by decide +kernel⟩
theorem m754 : Jvm.Cond.methodLink "DrawnList$GroupWay" (67) ⟨"DrawnList$GroupWay", "takeByLots", "(II)I"⟩ ∈ wg := List.mem_filter.mpr ⟨tb3 _ (List.mem_of_getElem? (i := 209) (by decide +kernel)), by decide +kernel⟩
theorem m755 : Jvm.Cond.sameMethod "DrawnList$GroupWay" "DrawnList$Way" "takeByLots" "(II)I" ∈ wg := List.mem_filter.mpr ⟨tb3 _ (List.mem_of_getElem? (i := 210) (by decide +kernel)), by decide +kernel⟩
theorem m756 : Jvm.Cond.declares yX9_takeByLots ∈ wn := List.mem_filter.mpr ⟨tb3 _ (List.mem_of_getElem? (i := 211) (by decide +kernel)), by decide +kernel⟩
theorem m757 : Jvm.Cond.selects "DrawnList$GroupWay" ⟨"DrawnList$GroupWay", "takeByLots", "(II)I"⟩ yX9_takeByLots ∈ wg := List.mem_filter.mpr ⟨tb3 _ (List.mem_of_getElem? (i := 212) (by decide +kernel)), by decide +kernel⟩
theorem m758 : Jvm.Cond.instanceMethod yX9_takeByLots ∈ wg := List.mem_filter.mpr ⟨tb3 _ (List.mem_of_getElem? (i := 213) (by decide +kernel)), by decide +kernel⟩
theorem m759 : Jvm.Cond.code yX9_takeByLots prog_11_method_11_code (7) (Option.some Jvm.ClassFile.FieldType.int) ∈ wg := List.mem_filter.mpr ⟨tb3 _ (List.mem_of_getElem? (i := 214) (by decide +kernel)), by decide +kernel⟩
theorem m760 : Jvm.Cond.methodLink "DrawnList$Way" (24) yJ6_bitCount_0f7a4 ∈ wg := List.mem_filter.mpr ⟨tb3 _ (List.mem_of_getElem? (i := 215) (by decide +kernel)), by decide +kernel⟩
theorem m761 : Jvm.Cond.methodLinkNest "DrawnList$Way" (30) yX11_isIn "DrawnList" ∈ wn := List.mem_filter.mpr ⟨tb3 _ (List.mem_of_getElem? (i := 216) (by decide +kernel)), by decide +kernel⟩
theorem m762 : Jvm.Cond.static yX11_isIn ∈ wg := List.mem_filter.mpr ⟨tb3 _ (List.mem_of_getElem? (i := 217) (by decide +kernel)), by decide +kernel⟩
theorem m763 : Jvm.Cond.code yX11_isIn prog_1_method_42_code (2) (Option.some Jvm.ClassFile.FieldType.boolean) ∈ wg := List.mem_filter.mpr ⟨tb3 _ (List.mem_of_getElem? (i := 218) (by decide +kernel)), by decide +kernel⟩
theorem m764 : Jvm.Cond.methodLink "DrawnList$Way" (34) yX9_castLot ∈ wg := List.mem_filter.mpr ⟨tb3 _ (List.mem_of_getElem? (i := 219) (by decide +kernel)), by decide +kernel⟩
theorem m765 : Jvm.Cond.instanceMethod yX9_castLot ∈ wg := List.mem_filter.mpr ⟨tb3 _ (List.mem_of_getElem? (i := 220) (by decide +kernel)), by decide +kernel⟩
theorem m766 : Jvm.Cond.sameMethod "DrawnList$Way" "DrawnList$Way" "castLot" "(I)I" ∈ wg := List.mem_filter.mpr ⟨tb3 _ (List.mem_of_getElem? (i := 221) (by decide +kernel)), by decide +kernel⟩
theorem m767 : Jvm.Cond.selects "DrawnList$GroupWay" yX9_castLot yX9_castLot ∈ wg := List.mem_filter.mpr ⟨tb3 _ (List.mem_of_getElem? (i := 222) (by decide +kernel)), by decide +kernel⟩
theorem m768 : Jvm.Cond.selects "DrawnList$LineWay" yX9_castLot yX9_castLot ∈ wg := List.mem_filter.mpr ⟨tb3 _ (List.mem_of_getElem? (i := 223) (by decide +kernel)), by decide +kernel⟩
theorem m769 : Jvm.Cond.selects "DrawnList$StepWay" yX9_castLot yX9_castLot ∈ wg := List.mem_filter.mpr ⟨tb3 _ (List.mem_of_getElem? (i := 224) (by decide +kernel)), by decide +kernel⟩
theorem m770 : Jvm.Cond.code yX9_castLot prog_11_method_10_code (2) (Option.some Jvm.ClassFile.FieldType.int) ∈ wg := List.mem_filter.mpr ⟨tb3 _ (List.mem_of_getElem? (i := 225) (by decide +kernel)), by decide +kernel⟩
theorem m771 : Jvm.Cond.constant "DrawnList$Way" (19) (1103515245) ∈ wg := List.mem_filter.mpr ⟨tb3 _ (List.mem_of_getElem? (i := 226) (by decide +kernel)), by decide +kernel⟩
theorem m772 : Jvm.Cond.selects "DrawnList$LineWay" ⟨"DrawnList$Way", "drawByLots", "()I"⟩ yX4_drawByLots ∈ wg := List.mem_filter.mpr ⟨tb3 _ (List.mem_of_getElem? (i := 227) (by decide +kernel)), by decide +kernel⟩
theorem m773 : Jvm.Cond.instanceMethod yX4_drawByLots ∈ wg := List.mem_filter.mpr ⟨tb3 _ (List.mem_of_getElem? (i := 228) (by decide +kernel)), by decide +kernel⟩
theorem m774 : Jvm.Cond.code yX4_drawByLots prog_6_method_15_code (1) (Option.some Jvm.ClassFile.FieldType.int) ∈ wg := List.mem_filter.mpr ⟨tb3 _ (List.mem_of_getElem? (i := 229) (by decide +kernel)), by decide +kernel⟩
theorem m775 : Jvm.Cond.methodLink "DrawnList$LineWay" (85) ⟨"DrawnList$LineWay", "castLot", "(I)I"⟩ ∈ wg := List.mem_filter.mpr ⟨tb3 _ (List.mem_of_getElem? (i := 230) (by decide +kernel)), by decide +kernel⟩
theorem m776 : Jvm.Cond.sameMethod "DrawnList$LineWay" "DrawnList$Way" "castLot" "(I)I" ∈ wg := List.mem_filter.mpr ⟨tb3 _ (List.mem_of_getElem? (i := 231) (by decide +kernel)), by decide +kernel⟩
theorem m777 : Jvm.Cond.declares yX9_castLot ∈ wn := List.mem_filter.mpr ⟨tb3 _ (List.mem_of_getElem? (i := 232) (by decide +kernel)), by decide +kernel⟩
theorem m778 : Jvm.Cond.selects "DrawnList$LineWay" ⟨"DrawnList$LineWay", "castLot", "(I)I"⟩ yX9_castLot ∈ wg := List.mem_filter.mpr ⟨tb3 _ (List.mem_of_getElem? (i := 233) (by decide +kernel)), by decide +kernel⟩
theorem m779 : Jvm.Cond.selects "DrawnList$StepWay" ⟨"DrawnList$Way", "drawByLots", "()I"⟩ yX8_drawByLots ∈ wg := List.mem_filter.mpr ⟨tb3 _ (List.mem_of_getElem? (i := 234) (by decide +kernel)), by decide +kernel⟩
theorem m780 : Jvm.Cond.instanceMethod yX8_drawByLots ∈ wg := List.mem_filter.mpr ⟨tb3 _ (List.mem_of_getElem? (i := 235) (by decide +kernel)), by decide +kernel⟩
theorem m781 : Jvm.Cond.code yX8_drawByLots prog_10_method_13_code (4) (Option.some Jvm.ClassFile.FieldType.int) ∈ wg := List.mem_filter.mpr ⟨tb3 _ (List.mem_of_getElem? (i := 236) (by decide +kernel)), by decide +kernel⟩
theorem m782 : Jvm.Cond.methodLink "DrawnList$StepWay" (74) ⟨"DrawnList$StepWay", "takeByLots", "(II)I"⟩ ∈ wg := List.mem_filter.mpr ⟨tb3 _ (List.mem_of_getElem? (i := 237) (by decide +kernel)), by decide +kernel⟩
theorem m783 : Jvm.Cond.sameMethod "DrawnList$StepWay" "DrawnList$Way" "takeByLots" "(II)I" ∈ wg := List.mem_filter.mpr ⟨tb3 _ (List.mem_of_getElem? (i := 238) (by decide +kernel)), by decide +kernel⟩
theorem m784 : Jvm.Cond.selects "DrawnList$StepWay" ⟨"DrawnList$StepWay", "takeByLots", "(II)I"⟩ yX9_takeByLots ∈ wg := List.mem_filter.mpr ⟨tb3 _ (List.mem_of_getElem? (i := 239) (by decide +kernel)), by decide +kernel⟩
theorem m785 : Jvm.Cond.methodLinkNest "DrawnList$StepWay" (77) yX11_isIn "DrawnList" ∈ wn := List.mem_filter.mpr ⟨tb4 _ (List.mem_of_getElem? (i := 0) (by decide +kernel)), by decide +kernel⟩
theorem m786 : Jvm.Cond.methodLink "DrawnListLaw" (80) yX11_makes ∈ wg := List.mem_filter.mpr ⟨tb4 _ (List.mem_of_getElem? (i := 1) (by decide +kernel)), by decide +kernel⟩
theorem m787 : Jvm.Cond.instanceMethod yX11_makes ∈ wg := List.mem_filter.mpr ⟨tb4 _ (List.mem_of_getElem? (i := 2) (by decide +kernel)), by decide +kernel⟩
theorem m788 : Jvm.Cond.selects "DrawnList" yX11_makes yX11_makes ∈ wg := List.mem_filter.mpr ⟨tb4 _ (List.mem_of_getElem? (i := 3) (by decide +kernel)), by decide +kernel⟩
theorem m789 : Jvm.Cond.code yX11_makes prog_1_method_17_code (4) (Option.some Jvm.ClassFile.FieldType.int) ∈ wg := List.mem_filter.mpr ⟨tb4 _ (List.mem_of_getElem? (i := 4) (by decide +kernel)), by decide +kernel⟩
theorem m790 : Jvm.Cond.methodLink "DrawnList" (186) yX6_hasAll ∈ wg := List.mem_filter.mpr ⟨tb4 _ (List.mem_of_getElem? (i := 5) (by decide +kernel)), by decide +kernel⟩
theorem m791 : Jvm.Cond.instanceMethod yX6_hasAll ∈ wg := List.mem_filter.mpr ⟨tb4 _ (List.mem_of_getElem? (i := 6) (by decide +kernel)), by decide +kernel⟩
theorem m792 : Jvm.Cond.selects "DrawnList$Roll" yX6_hasAll yX6_hasAll ∈ wg := List.mem_filter.mpr ⟨tb4 _ (List.mem_of_getElem? (i := 7) (by decide +kernel)), by decide +kernel⟩
theorem m793 : Jvm.Cond.code yX6_hasAll prog_8_method_3_code (2) (Option.some Jvm.ClassFile.FieldType.boolean) ∈ wg := List.mem_filter.mpr ⟨tb4 _ (List.mem_of_getElem? (i := 8) (by decide +kernel)), by decide +kernel⟩
theorem m794 : Jvm.Cond.methodLink "DrawnList" (189) ⟨"DrawnList$Way", "canMake", "(I)Z"⟩ ∈ wg := List.mem_filter.mpr ⟨tb4 _ (List.mem_of_getElem? (i := 9) (by decide +kernel)), by decide +kernel⟩
theorem m795 : Jvm.Cond.declares ⟨"DrawnList$Way", "canMake", "(I)Z"⟩ ∈ wn := List.mem_filter.mpr ⟨tb4 _ (List.mem_of_getElem? (i := 10) (by decide +kernel)), by decide +kernel⟩
theorem m796 : Jvm.Cond.sameMethod "DrawnList$Way" "DrawnList$Way" "canMake" "(I)Z" ∈ wg := List.mem_filter.mpr ⟨tb4 _ (List.mem_of_getElem? (i := 11) (by decide +kernel)), by decide +kernel⟩
theorem m797 : Jvm.Cond.selects "DrawnList$GroupWay" ⟨"DrawnList$Way", "canMake", "(I)Z"⟩ yX2_canMake ∈ wg := List.mem_filter.mpr ⟨tb4 _ (List.mem_of_getElem? (i := 12) (by decide +kernel)), by decide +kernel⟩
theorem m798 : Jvm.Cond.instanceMethod yX2_canMake ∈ wg := List.mem_filter.mpr ⟨tb4 _ (List.mem_of_getElem? (i := 13) (by decide +kernel)), by decide +kernel⟩
theorem m799 : Jvm.Cond.code yX2_canMake prog_4_method_11_code (3) (Option.some Jvm.ClassFile.FieldType.boolean) ∈ wg := List.mem_filter.mpr ⟨tb4 _ (List.mem_of_getElem? (i := 14) (by decide +kernel)), by decide +kernel⟩
theorem m800 : Jvm.Cond.selects "DrawnList$LineWay" ⟨"DrawnList$Way", "canMake", "(I)Z"⟩ yX4_canMake ∈ wg := List.mem_filter.mpr ⟨tb4 _ (List.mem_of_getElem? (i := 15) (by decide +kernel)), by decide +kernel⟩
theorem m801 : Jvm.Cond.instanceMethod yX4_canMake ∈ wg := List.mem_filter.mpr ⟨tb4 _ (List.mem_of_getElem? (i := 16) (by decide +kernel)), by decide +kernel⟩
theorem m802 : Jvm.Cond.code yX4_canMake prog_6_method_14_code (4) (Option.some Jvm.ClassFile.FieldType.boolean) ∈ wg := List.mem_filter.mpr ⟨tb4 _ (List.mem_of_getElem? (i := 17) (by decide +kernel)), by decide +kernel⟩
theorem m803 : Jvm.Cond.selects "DrawnList$StepWay" ⟨"DrawnList$Way", "canMake", "(I)Z"⟩ yX8_canMake ∈ wg := List.mem_filter.mpr ⟨tb4 _ (List.mem_of_getElem? (i := 18) (by decide +kernel)), by decide +kernel⟩
theorem m804 : Jvm.Cond.instanceMethod yX8_canMake ∈ wg := List.mem_filter.mpr ⟨tb4 _ (List.mem_of_getElem? (i := 19) (by decide +kernel)), by decide +kernel⟩
theorem m805 : Jvm.Cond.code yX8_canMake prog_10_method_12_code (5) (Option.some Jvm.ClassFile.FieldType.boolean) ∈ wg := List.mem_filter.mpr ⟨tb4 _ (List.mem_of_getElem? (i := 20) (by decide +kernel)), by decide +kernel⟩
theorem m806 : Jvm.Cond.methodLink "DrawnListLaw" (84) yX11_sum ∈ wg := List.mem_filter.mpr ⟨tb4 _ (List.mem_of_getElem? (i := 21) (by decide +kernel)), by decide +kernel⟩
theorem m807 : Jvm.Cond.instanceMethod yX11_sum ∈ wg := List.mem_filter.mpr ⟨tb4 _ (List.mem_of_getElem? (i := 22) (by decide +kernel)), by decide +kernel⟩
theorem m808 : Jvm.Cond.selects "DrawnList" yX11_sum yX11_sum ∈ wg := List.mem_filter.mpr ⟨tb4 _ (List.mem_of_getElem? (i := 23) (by decide +kernel)), by decide +kernel⟩
theorem m809 : Jvm.Cond.code yX11_sum prog_1_method_18_code (5) (Option.some Jvm.ClassFile.FieldType.long) ∈ wg := List.mem_filter.mpr ⟨tb4 _ (List.mem_of_getElem? (i := 24) (by decide +kernel)), by decide +kernel⟩
theorem m810 : Jvm.Cond.methodLink "DrawnList" (192) yX11_refusalOfDraw ∈ wg := List.mem_filter.mpr ⟨tb4 _ (List.mem_of_getElem? (i := 25) (by decide +kernel)), by decide +kernel⟩
theorem m812 : Jvm.Cond.instanceMethod yX11_refusalOfDraw ∈ wg := List.mem_filter.mpr ⟨tb4 _ (List.mem_of_getElem? (i := 27) (by decide +kernel)), by decide +kernel⟩
theorem m813 : Jvm.Cond.code yX11_refusalOfDraw prog_1_method_46_code (4) (Option.some Jvm.ClassFile.FieldType.int) ∈ wg := List.mem_filter.mpr ⟨tb4 _ (List.mem_of_getElem? (i := 28) (by decide +kernel)), by decide +kernel⟩
theorem m814 : Jvm.Cond.methodLink "DrawnList" (196) yX11_addUp ∈ wg := List.mem_filter.mpr ⟨tb4 _ (List.mem_of_getElem? (i := 29) (by decide +kernel)), by decide +kernel⟩
theorem m816 : Jvm.Cond.instanceMethod yX11_addUp ∈ wg := List.mem_filter.mpr ⟨tb4 _ (List.mem_of_getElem? (i := 31) (by decide +kernel)), by decide +kernel⟩
theorem m817 : Jvm.Cond.code yX11_addUp prog_1_method_47_code (5) (Option.none : Option Jvm.ClassFile.FieldType) ∈ wg := List.mem_filter.mpr ⟨tb4 _ (List.mem_of_getElem? (i := 32) (by decide +kernel)), by decide +kernel⟩
theorem m818 : Jvm.Cond.methodLink "DrawnList" (328) yX1_become ∈ wg := List.mem_filter.mpr ⟨tb4 _ (List.mem_of_getElem? (i := 33) (by decide +kernel)), by decide +kernel⟩
theorem m819 : Jvm.Cond.methodLink "DrawnList" (285) yX11_isIn ∈ wg := List.mem_filter.mpr ⟨tb4 _ (List.mem_of_getElem? (i := 34) (by decide +kernel)), by decide +kernel⟩
theorem m820 : Jvm.Cond.methodLink "DrawnList" (339) yX1_add ∈ wg := List.mem_filter.mpr ⟨tb4 _ (List.mem_of_getElem? (i := 35) (by decide +kernel)), by decide +kernel⟩
theorem m821 : Jvm.Cond.instanceMethod yX1_add ∈ wg := List.mem_filter.mpr ⟨tb4 _ (List.mem_of_getElem? (i := 36) (by decide +kernel)), by decide +kernel⟩
theorem m822 : Jvm.Cond.selects "DrawnList$Fraction" yX1_add yX1_add ∈ wg := List.mem_filter.mpr ⟨tb4 _ (List.mem_of_getElem? (i := 37) (by decide +kernel)), by decide +kernel⟩
theorem m823 : Jvm.Cond.code yX1_add prog_3_method_3_code (9) (Option.none : Option Jvm.ClassFile.FieldType) ∈ wg := List.mem_filter.mpr ⟨tb4 _ (List.mem_of_getElem? (i := 38) (by decide +kernel)), by decide +kernel⟩
theorem m824 : Jvm.Cond.methodLink "DrawnList$Fraction" (20) yX1_become ∈ wg := List.mem_filter.mpr ⟨tb4 _ (List.mem_of_getElem? (i := 39) (by decide +kernel)), by decide +kernel⟩
theorem m825 : Jvm.Cond.methodLink "DrawnListLaw" (88) yX11_silent ∈ wg := List.mem_filter.mpr ⟨tb4 _ (List.mem_of_getElem? (i := 40) (by decide +kernel)), by decide +kernel⟩
theorem m826 : Jvm.Cond.instanceMethod yX11_silent ∈ wg := List.mem_filter.mpr ⟨tb4 _ (List.mem_of_getElem? (i := 41) (by decide +kernel)), by decide +kernel⟩
theorem m827 : Jvm.Cond.selects "DrawnList" yX11_silent yX11_silent ∈ wg := List.mem_filter.mpr ⟨tb4 _ (List.mem_of_getElem? (i := 42) (by decide +kernel)), by decide +kernel⟩
theorem m828 : Jvm.Cond.code yX11_silent prog_1_method_19_code (2) (Option.some Jvm.ClassFile.FieldType.int) ∈ wg := List.mem_filter.mpr ⟨tb4 _ (List.mem_of_getElem? (i := 43) (by decide +kernel)), by decide +kernel⟩
theorem m829 : Jvm.Cond.methodLink "DrawnListLaw" (92) yX11_spread ∈ wg := List.mem_filter.mpr ⟨tb4 _ (List.mem_of_getElem? (i := 44) (by decide +kernel)), by decide +kernel⟩
theorem m830 : Jvm.Cond.instanceMethod yX11_spread ∈ wg := List.mem_filter.mpr ⟨tb4 _ (List.mem_of_getElem? (i := 45) (by decide +kernel)), by decide +kernel⟩
theorem m831 : Jvm.Cond.selects "DrawnList" yX11_spread yX11_spread ∈ wg := List.mem_filter.mpr ⟨tb4 _ (List.mem_of_getElem? (i := 46) (by decide +kernel)), by decide +kernel⟩
theorem m832 : Jvm.Cond.code yX11_spread prog_1_method_20_code (3) (Option.some Jvm.ClassFile.FieldType.long) ∈ wg := List.mem_filter.mpr ⟨tb4 _ (List.mem_of_getElem? (i := 47) (by decide +kernel)), by decide +kernel⟩
theorem m833 : Jvm.Cond.methodLink "DrawnList" (203) yX11_spreadOf ∈ wg := List.mem_filter.mpr ⟨tb4 _ (List.mem_of_getElem? (i := 48) (by decide +kernel)), by decide +kernel⟩
theorem m835 : Jvm.Cond.instanceMethod yX11_spreadOf ∈ wg := List.mem_filter.mpr ⟨tb4 _ (List.mem_of_getElem? (i := 50) (by decide +kernel)), by decide +kernel⟩
theorem m836 : Jvm.Cond.code yX11_spreadOf prog_1_method_48_code (5) (Option.some Jvm.ClassFile.FieldType.boolean) ∈ wg := List.mem_filter.mpr ⟨tb4 _ (List.mem_of_getElem? (i := 51) (by decide +kernel)), by decide +kernel⟩
theorem m837 : Jvm.Cond.classLink "DrawnList" (342) "DrawnList$GroupWay" ∈ wg := List.mem_filter.mpr ⟨tb4 _ (List.mem_of_getElem? (i := 52) (by decide +kernel)), by decide +kernel⟩
theorem m838 : Jvm.Cond.methodLink "DrawnList" (344) yX2_spreadInto ∈ wg := List.mem_filter.mpr ⟨tb4 _ (List.mem_of_getElem? (i := 53) (by decide +kernel)), by decide +kernel⟩
theorem m839 : Jvm.Cond.instanceMethod yX2_spreadInto ∈ wg := List.mem_filter.mpr ⟨tb4 _ (List.mem_of_getElem? (i := 54) (by decide +kernel)), by decide +kernel⟩
theorem m840 : Jvm.Cond.selects "DrawnList$GroupWay" yX2_spreadInto yX2_spreadInto ∈ wg := List.mem_filter.mpr ⟨tb4 _ (List.mem_of_getElem? (i := 55) (by decide +kernel)), by decide +kernel⟩
theorem m841 : Jvm.Cond.code yX2_spreadInto prog_4_method_13_code (3) (Option.some Jvm.ClassFile.FieldType.boolean) ∈ wg := List.mem_filter.mpr ⟨tb4 _ (List.mem_of_getElem? (i := 56) (by decide +kernel)), by decide +kernel⟩
theorem m842 : Jvm.Cond.methodLink "DrawnList$GroupWay" (74) yX2_addSpreadOf ∈ wg := List.mem_filter.mpr ⟨tb4 _ (List.mem_of_getElem? (i := 57) (by decide +kernel)), by decide +kernel⟩
theorem m844 : Jvm.Cond.instanceMethod yX2_addSpreadOf ∈ wg := List.mem_filter.mpr ⟨tb4 _ (List.mem_of_getElem? (i := 59) (by decide +kernel)), by decide +kernel⟩
theorem m845 : Jvm.Cond.code yX2_addSpreadOf prog_4_method_14_code (12) (Option.none : Option Jvm.ClassFile.FieldType) ∈ wg := List.mem_filter.mpr ⟨tb4 _ (List.mem_of_getElem? (i := 60) (by decide +kernel)), by decide +kernel⟩
theorem m846 : Jvm.Cond.methodLinkNest "DrawnList$GroupWay" (81) yX11_isIn "DrawnList" ∈ wn := List.mem_filter.mpr ⟨tb4 _ (List.mem_of_getElem? (i := 61) (by decide +kernel)), by decide +kernel⟩
theorem m847 : Jvm.Cond.methodLink "DrawnList$GroupWay" (88) yX1_add ∈ wg := List.mem_filter.mpr ⟨tb4 _ (List.mem_of_getElem? (i := 62) (by decide +kernel)), by decide +kernel⟩
theorem m848 : Jvm.Cond.methodLink "DrawnListLaw" (97) yX11_wider ∈ wg := List.mem_filter.mpr ⟨tb4 _ (List.mem_of_getElem? (i := 63) (by decide +kernel)), by decide +kernel⟩
theorem m849 : Jvm.Cond.instanceMethod yX11_wider ∈ wg := List.mem_filter.mpr ⟨tb4 _ (List.mem_of_getElem? (i := 64) (by decide +kernel)), by decide +kernel⟩
theorem m850 : Jvm.Cond.selects "DrawnList" yX11_wider yX11_wider ∈ wg := List.mem_filter.mpr ⟨tb4 _ (List.mem_of_getElem? (i := 65) (by decide +kernel)), by decide +kernel⟩
theorem m851 : Jvm.Cond.code yX11_wider prog_1_method_21_code (3) (Option.some Jvm.ClassFile.FieldType.int) ∈ wg := List.mem_filter.mpr ⟨tb4 _ (List.mem_of_getElem? (i := 66) (by decide +kernel)), by decide +kernel⟩
theorem m852 : Jvm.Cond.methodLink "DrawnList" (207) yX1_compareWith ∈ wg := List.mem_filter.mpr ⟨tb4 _ (List.mem_of_getElem? (i := 67) (by decide +kernel)), by decide +kernel⟩
theorem m853 : Jvm.Cond.instanceMethod yX1_compareWith ∈ wg := List.mem_filter.mpr ⟨tb4 _ (List.mem_of_getElem? (i := 68) (by decide +kernel)), by decide +kernel⟩
theorem m854 : Jvm.Cond.selects "DrawnList$Fraction" yX1_compareWith yX1_compareWith ∈ wg := List.mem_filter.mpr ⟨tb4 _ (List.mem_of_getElem? (i := 69) (by decide +kernel)), by decide +kernel⟩
theorem m855 : Jvm.Cond.code yX1_compareWith prog_3_method_4_code (3) (Option.some Jvm.ClassFile.FieldType.int) ∈ wg := List.mem_filter.mpr ⟨tb4 _ (List.mem_of_getElem? (i := 70) (by decide +kernel)), by decide +kernel⟩
theorem m856 : Jvm.Cond.methodLink "DrawnList$Fraction" (24) yX1_roundedDown ∈ wg := List.mem_filter.mpr ⟨tb4 _ (List.mem_of_getElem? (i := 71) (by decide +kernel)), by decide +kernel⟩
theorem m857 : Jvm.Cond.instanceMethod yX1_roundedDown ∈ wg := List.mem_filter.mpr ⟨tb4 _ (List.mem_of_getElem? (i := 72) (by decide +kernel)), by decide +kernel⟩
theorem m858 : Jvm.Cond.selects "DrawnList$Fraction" yX1_roundedDown yX1_roundedDown ∈ wg := List.mem_filter.mpr ⟨tb4 _ (List.mem_of_getElem? (i := 73) (by decide +kernel)), by decide +kernel⟩
theorem m859 : Jvm.Cond.code yX1_roundedDown prog_3_method_5_code (1) (Option.some Jvm.ClassFile.FieldType.long) ∈ wg := List.mem_filter.mpr ⟨tb4 _ (List.mem_of_getElem? (i := 74) (by decide +kernel)), by decide +kernel⟩
theorem m860 : Jvm.Cond.methodLink "DrawnList$Fraction" (28) yJ13_compare_74951 ∈ wg := List.mem_filter.mpr ⟨tb4 _ (List.mem_of_getElem? (i := 75) (by decide +kernel)), by decide +kernel⟩
theorem m861 : Jvm.Cond.static yJ13_compare_74951 ∈ wg := List.mem_filter.mpr ⟨tb4 _ (List.mem_of_getElem? (i := 76) (by decide +kernel)), by decide +kernel⟩
theorem m862 : Jvm.Cond.code yJ13_compare_74951 prog_16_method_42_code (4) (Option.some Jvm.ClassFile.FieldType.int) ∈ wg := List.mem_filter.mpr ⟨tb4 _ (List.mem_of_getElem? (i := 77) (by decide +kernel)), by decide +kernel⟩
theorem m863 : Jvm.Cond.methodLink "DrawnListLaw" (101) yX11_edge ∈ wg := List.mem_filter.mpr ⟨tb4 _ (List.mem_of_getElem? (i := 78) (by decide +kernel)), by decide +kernel⟩
theorem m864 : Jvm.Cond.instanceMethod yX11_edge ∈ wg := List.mem_filter.mpr ⟨tb4 _ (List.mem_of_getElem? (i := 79) (by decide +kernel)), by decide +kernel⟩
theorem m865 : Jvm.Cond.selects "DrawnList" yX11_edge yX11_edge ∈ wg := List.mem_filter.mpr ⟨tb4 _ (List.mem_of_getElem? (i := 80) (by decide +kernel)), by decide +kernel⟩
theorem m866 : Jvm.Cond.code yX11_edge prog_1_method_22_code (5) (Option.some Jvm.ClassFile.FieldType.long) ∈ wg := List.mem_filter.mpr ⟨tb4 _ (List.mem_of_getElem? (i := 81) (by decide +kernel)), by decide +kernel⟩
theorem m867 : Jvm.Cond.classLink "DrawnList" (211) "DrawnList$LineWay" ∈ wg := List.mem_filter.mpr ⟨tb4 _ (List.mem_of_getElem? (i := 82) (by decide +kernel)), by decide +kernel⟩
theorem m868 : Jvm.Cond.methodLink "DrawnList" (213) yX11_edgeOf ∈ wg := List.mem_filter.mpr ⟨tb4 _ (List.mem_of_getElem? (i := 83) (by decide +kernel)), by decide +kernel⟩
theorem m870 : Jvm.Cond.instanceMethod yX11_edgeOf ∈ wg := List.mem_filter.mpr ⟨tb4 _ (List.mem_of_getElem? (i := 85) (by decide +kernel)), by decide +kernel⟩
theorem m871 : Jvm.Cond.code yX11_edgeOf prog_1_method_49_code (10) (Option.some Jvm.ClassFile.FieldType.long) ∈ wg := List.mem_filter.mpr ⟨tb4 _ (List.mem_of_getElem? (i := 86) (by decide +kernel)), by decide +kernel⟩
theorem m872 : Jvm.Cond.methodLink "DrawnList" (348) yX4_pointCount ∈ wg := List.mem_filter.mpr ⟨tb4 _ (List.mem_of_getElem? (i := 87) (by decide +kernel)), by decide +kernel⟩
theorem m873 : Jvm.Cond.methodLink "DrawnList" (351) yX4_drawAt ∈ wg := List.mem_filter.mpr ⟨tb4 _ (List.mem_of_getElem? (i := 88) (by decide +kernel)), by decide +kernel⟩
theorem m874 : Jvm.Cond.methodLink "DrawnList" (354) yX1_roundedDown ∈ wg := List.mem_filter.mpr ⟨tb4 _ (List.mem_of_getElem? (i := 89) (by decide +kernel)), by decide +kernel⟩
theorem m875 : Jvm.Cond.methodLink "DrawnListLaw" (105) yX11_known ∈ wg := List.mem_filter.mpr ⟨tb4 _ (List.mem_of_getElem? (i := 90) (by decide +kernel)), by decide +kernel⟩
theorem m876 : Jvm.Cond.instanceMethod yX11_known ∈ wg := List.mem_filter.mpr ⟨tb4 _ (List.mem_of_getElem? (i := 91) (by decide +kernel)), by decide +kernel⟩
theorem m877 : Jvm.Cond.selects "DrawnList" yX11_known yX11_known ∈ wg := List.mem_filter.mpr ⟨tb4 _ (List.mem_of_getElem? (i := 92) (by decide +kernel)), by decide +kernel⟩
theorem m878 : Jvm.Cond.code yX11_known prog_1_method_23_code (4) (Option.some Jvm.ClassFile.FieldType.int) ∈ wg := List.mem_filter.mpr ⟨tb4 _ (List.mem_of_getElem? (i := 93) (by decide +kernel)), by decide +kernel⟩
theorem m879 : Jvm.Cond.methodLink "DrawnList" (220) yX11_swap ∈ wg := List.mem_filter.mpr ⟨tb4 _ (List.mem_of_getElem? (i := 94) (by decide +kernel)), by decide +kernel⟩
theorem m880 : Jvm.Cond.static yX11_swap ∈ wg := List.mem_filter.mpr ⟨tb4 _ (List.mem_of_getElem? (i := 95) (by decide +kernel)), by decide +kernel⟩
theorem m881 : Jvm.Cond.code yX11_swap prog_1_method_44_code (4) (Option.some Jvm.ClassFile.FieldType.int) ∈ wg := List.mem_filter.mpr ⟨tb4 _ (List.mem_of_getElem? (i := 96) (by decide +kernel)), by decide +kernel⟩
theorem m882 : Jvm.Cond.methodLink "DrawnListLaw" (109) yX11_weight ∈ wg := List.mem_filter.mpr ⟨tb4 _ (List.mem_of_getElem? (i := 97) (by decide +kernel)), by decide +kernel⟩
theorem m883 : Jvm.Cond.instanceMethod yX11_weight ∈ wg := List.mem_filter.mpr ⟨tb4 _ (List.mem_of_getElem? (i := 98) (by decide +kernel)), by decide +kernel⟩
theorem m884 : Jvm.Cond.selects "DrawnList" yX11_weight yX11_weight ∈ wg := List.mem_filter.mpr ⟨tb4 _ (List.mem_of_getElem? (i := 99) (by decide +kernel)), by decide +kernel⟩
theorem m885 : Jvm.Cond.code yX11_weight prog_1_method_24_code (6) (Option.some Jvm.ClassFile.FieldType.int) ∈ wg := List.mem_filter.mpr ⟨tb4 _ (List.mem_of_getElem? (i := 100) (by decide +kernel)), by decide +kernel⟩
theorem m886 : Jvm.Cond.methodLink "DrawnList" (227) yX10_lead ∈ wg := List.mem_filter.mpr ⟨tb4 _ (List.mem_of_getElem? (i := 101) (by decide +kernel)), by decide +kernel⟩
theorem m887 : Jvm.Cond.instanceMethod yX10_lead ∈ wg := List.mem_filter.mpr ⟨tb4 _ (List.mem_of_getElem? (i := 102) (by decide +kernel)), by decide +kernel⟩
theorem m888 : Jvm.Cond.selects "DrawnList$Weights" yX10_lead yX10_lead ∈ wg := List.mem_filter.mpr ⟨tb4 _ (List.mem_of_getElem? (i := 103) (by decide +kernel)), by decide +kernel⟩
theorem m889 : Jvm.Cond.code yX10_lead prog_12_method_2_code (6) (Option.none : Option Jvm.ClassFile.FieldType) ∈ wg := List.mem_filter.mpr ⟨tb4 _ (List.mem_of_getElem? (i := 104) (by decide +kernel)), by decide +kernel⟩
theorem m890 : Jvm.Cond.methodLink "DrawnList$Weights" (42) yX10_start ∈ wg := List.mem_filter.mpr ⟨tb4 _ (List.mem_of_getElem? (i := 105) (by decide +kernel)), by decide +kernel⟩
theorem m892 : Jvm.Cond.instanceMethod yX10_start ∈ wg := List.mem_filter.mpr ⟨tb4 _ (List.mem_of_getElem? (i := 107) (by decide +kernel)), by decide +kernel⟩
theorem m893 : Jvm.Cond.code yX10_start prog_12_method_3_code (4) (Option.none : Option Jvm.ClassFile.FieldType) ∈ wg := List.mem_filter.mpr ⟨tb4 _ (List.mem_of_getElem? (i := 108) (by decide +kernel)), by decide +kernel⟩
theorem m894 : Jvm.Cond.methodLinkNest "DrawnList$Weights" (56) yX11_isIn "DrawnList" ∈ wn := List.mem_filter.mpr ⟨tb4 _ (List.mem_of_getElem? (i := 109) (by decide +kernel)), by decide +kernel⟩
theorem m895 : Jvm.Cond.methodLink "DrawnList$Weights" (60) ⟨"DrawnList$Way", "shareOfOne", "(ILDrawnList$Fraction;)V"⟩ ∈ wg := List.mem_filter.mpr ⟨tb4 _ (List.mem_of_getElem? (i := 110) (by decide +kernel)), by decide +kernel⟩
theorem m896 : Jvm.Cond.methodLink "DrawnList$Weights" (66) yX1_thousandBy ∈ wg := List.mem_filter.mpr ⟨tb4 _ (List.mem_of_getElem? (i := 111) (by decide +kernel)), by decide +kernel⟩
theorem m897 : Jvm.Cond.instanceMethod yX1_thousandBy ∈ wg := List.mem_filter.mpr ⟨tb4 _ (List.mem_of_getElem? (i := 112) (by decide +kernel)), by decide +kernel⟩
theorem m898 : Jvm.Cond.selects "DrawnList$Fraction" yX1_thousandBy yX1_thousandBy ∈ wg := List.mem_filter.mpr ⟨tb4 _ (List.mem_of_getElem? (i := 113) (by decide +kernel)), by decide +kernel⟩
theorem m899 : Jvm.Cond.code yX1_thousandBy prog_3_method_6_code (1) (Option.some Jvm.ClassFile.FieldType.int) ∈ wg := List.mem_filter.mpr ⟨tb4 _ (List.mem_of_getElem? (i := 114) (by decide +kernel)), by decide +kernel⟩
theorem m900 : Jvm.Cond.constantLong "DrawnList$Fraction" (34) (1000) ∈ wg := List.mem_filter.mpr ⟨tb4 _ (List.mem_of_getElem? (i := 115) (by decide +kernel)), by decide +kernel⟩
theorem m901 : Jvm.Cond.methodLink "DrawnList$Weights" (49) yX10_divide ∈ wg := List.mem_filter.mpr ⟨tb4 _ (List.mem_of_getElem? (i := 116) (by decide +kernel)), by decide +kernel⟩
theorem m903 : Jvm.Cond.instanceMethod yX10_divide ∈ wg := List.mem_filter.mpr ⟨tb4 _ (List.mem_of_getElem? (i := 118) (by decide +kernel)), by decide +kernel⟩
theorem m904 : Jvm.Cond.code yX10_divide prog_12_method_4_code (9) (Option.none : Option Jvm.ClassFile.FieldType) ∈ wg := List.mem_filter.mpr ⟨tb4 _ (List.mem_of_getElem? (i := 119) (by decide +kernel)), by decide +kernel⟩
theorem m905 : Jvm.Cond.methodLink "DrawnList$Weights" (70) yX10_sumOf ∈ wg := List.mem_filter.mpr ⟨tb4 _ (List.mem_of_getElem? (i := 120) (by decide +kernel)), by decide +kernel⟩
theorem m907 : Jvm.Cond.instanceMethod yX10_sumOf ∈ wg := List.mem_filter.mpr ⟨tb4 _ (List.mem_of_getElem? (i := 122) (by decide +kernel)), by decide +kernel⟩
theorem m908 : Jvm.Cond.code yX10_sumOf prog_12_method_6_code (4) (Option.some Jvm.ClassFile.FieldType.int) ∈ wg := List.mem_filter.mpr ⟨tb4 _ (List.mem_of_getElem? (i := 123) (by decide +kernel)), by decide +kernel⟩
theorem m909 : Jvm.Cond.methodLink "DrawnList$Weights" (77) yX10_raiseGreatestRest ∈ wg := List.mem_filter.mpr ⟨tb4 _ (List.mem_of_getElem? (i := 124) (by decide +kernel)), by decide +kernel⟩
theorem m911 : Jvm.Cond.instanceMethod yX10_raiseGreatestRest ∈ wg := List.mem_filter.mpr ⟨tb4 _ (List.mem_of_getElem? (i := 126) (by decide +kernel)), by decide +kernel⟩
theorem m912 : Jvm.Cond.code yX10_raiseGreatestRest prog_12_method_5_code (4) (Option.none : Option Jvm.ClassFile.FieldType) ∈ wg := List.mem_filter.mpr ⟨tb4 _ (List.mem_of_getElem? (i := 127) (by decide +kernel)), by decide +kernel⟩
theorem m913 : Jvm.Cond.constantLong "DrawnList$Weights" (81) (-1) ∈ wg := List.mem_filter.mpr ⟨tb4 _ (List.mem_of_getElem? (i := 128) (by decide +kernel)), by decide +kernel⟩
theorem m914 : Jvm.Cond.methodLink "DrawnListLaw" (113) yX11_led ∈ wg := List.mem_filter.mpr ⟨tb4 _ (List.mem_of_getElem? (i := 129) (by decide +kernel)), by decide +kernel⟩
theorem m915 : Jvm.Cond.instanceMethod yX11_led ∈ wg := List.mem_filter.mpr ⟨tb4 _ (List.mem_of_getElem? (i := 130) (by decide +kernel)), by decide +kernel⟩
theorem m916 : Jvm.Cond.selects "DrawnList" yX11_led yX11_led ∈ wg := List.mem_filter.mpr ⟨tb4 _ (List.mem_of_getElem? (i := 131) (by decide +kernel)), by decide +kernel⟩
theorem m917 : Jvm.Cond.code yX11_led prog_1_method_25_code (6) (Option.some Jvm.ClassFile.FieldType.int) ∈ wg := List.mem_filter.mpr ⟨tb4 _ (List.mem_of_getElem? (i := 132) (by decide +kernel)), by decide +kernel⟩
theorem m918 : Jvm.Cond.methodLink "DrawnList" (234) yX10_miss ∈ wg := List.mem_filter.mpr ⟨tb4 _ (List.mem_of_getElem? (i := 133) (by decide +kernel)), by decide +kernel⟩
theorem m919 : Jvm.Cond.instanceMethod yX10_miss ∈ wg := List.mem_filter.mpr ⟨tb4 _ (List.mem_of_getElem? (i := 134) (by decide +kernel)), by decide +kernel⟩
theorem m920 : Jvm.Cond.selects "DrawnList$Weights" yX10_miss yX10_miss ∈ wg := List.mem_filter.mpr ⟨tb4 _ (List.mem_of_getElem? (i := 135) (by decide +kernel)), by decide +kernel⟩
theorem m921 : Jvm.Cond.code yX10_miss prog_12_method_7_code (3) (Option.some Jvm.ClassFile.FieldType.int) ∈ wg := List.mem_filter.mpr ⟨tb4 _ (List.mem_of_getElem? (i := 136) (by decide +kernel)), by decide +kernel⟩
theorem m922 : Jvm.Cond.methodLink "DrawnList$Weights" (83) yJ9_abs_0f7a4 ∈ wg := List.mem_filter.mpr ⟨tb4 _ (List.mem_of_getElem? (i := 137) (by decide +kernel)), by decide +kernel⟩
theorem m923 : Jvm.Cond.static yJ9_abs_0f7a4 ∈ wg := List.mem_filter.mpr ⟨tb4 _ (List.mem_of_getElem? (i := 138) (by decide +kernel)), by decide +kernel⟩
theorem m924 : Jvm.Cond.code yJ9_abs_0f7a4 prog_17_method_59_code (1) (Option.some Jvm.ClassFile.FieldType.int) ∈ wg := List.mem_filter.mpr ⟨tb4 _ (List.mem_of_getElem? (i := 139) (by decide +kernel)), by decide +kernel⟩
theorem m925 : Jvm.Cond.methodLink "DrawnList" (237) yX10_ledSum ∈ wg := List.mem_filter.mpr ⟨tb4 _ (List.mem_of_getElem? (i := 140) (by decide +kernel)), by decide +kernel⟩
theorem m926 : Jvm.Cond.instanceMethod yX10_ledSum ∈ wg := List.mem_filter.mpr ⟨tb4 _ (List.mem_of_getElem? (i := 141) (by decide +kernel)), by decide +kernel⟩
theorem m927 : Jvm.Cond.selects "DrawnList$Weights" yX10_ledSum yX10_ledSum ∈ wg := List.mem_filter.mpr ⟨tb4 _ (List.mem_of_getElem? (i := 142) (by decide +kernel)), by decide +kernel⟩
theorem m928 : Jvm.Cond.code yX10_ledSum prog_12_method_8_code (4) (Option.some Jvm.ClassFile.FieldType.int) ∈ wg := List.mem_filter.mpr ⟨tb4 _ (List.mem_of_getElem? (i := 143) (by decide +kernel)), by decide +kernel⟩
theorem m929 : Jvm.Cond.constantLong "DrawnList$Weights" (91) (1000) ∈ wg := List.mem_filter.mpr ⟨tb4 _ (List.mem_of_getElem? (i := 144) (by decide +kernel)), by decide +kernel⟩
theorem m930 : Jvm.Cond.methodLink "DrawnListLaw" (117) yX11_cost ∈ wg := List.mem_filter.mpr ⟨tb4 _ (List.mem_of_getElem? (i := 145) (by decide +kernel)), by decide +kernel⟩
theorem m931 : Jvm.Cond.instanceMethod yX11_cost ∈ wg := List.mem_filter.mpr ⟨tb4 _ (List.mem_of_getElem? (i := 146) (by decide +kernel)), by decide +kernel⟩
theorem m932 : Jvm.Cond.selects "DrawnList" yX11_cost yX11_cost ∈ wg := List.mem_filter.mpr ⟨tb4 _ (List.mem_of_getElem? (i := 147) (by decide +kernel)), by decide +kernel⟩
theorem m933 : Jvm.Cond.code yX11_cost prog_1_method_26_code (3) (Option.some Jvm.ClassFile.FieldType.int) ∈ wg := List.mem_filter.mpr ⟨tb4 _ (List.mem_of_getElem? (i := 148) (by decide +kernel)), by decide +kernel⟩
theorem m934 : Jvm.Cond.methodLink "DrawnListLaw" (121) yX11_again ∈ wg := List.mem_filter.mpr ⟨tb4 _ (List.mem_of_getElem? (i := 149) (by decide +kernel)), by decide +kernel⟩
theorem m935 : Jvm.Cond.instanceMethod yX11_again ∈ wg := List.mem_filter.mpr ⟨tb4 _ (List.mem_of_getElem? (i := 150) (by decide +kernel)), by decide +kernel⟩
theorem m936 : Jvm.Cond.selects "DrawnList" yX11_again yX11_again ∈ wg := List.mem_filter.mpr ⟨tb4 _ (List.mem_of_getElem? (i := 151) (by decide +kernel)), by decide +kernel⟩
theorem m937 : Jvm.Cond.code yX11_again prog_1_method_27_code (6) (Option.some Jvm.ClassFile.FieldType.int) ∈ wg := List.mem_filter.mpr ⟨tb4 _ (List.mem_of_getElem? (i := 152) (by decide +kernel)), by decide +kernel⟩
theorem m938 : Jvm.Cond.methodLink "DrawnList" (243) yX3_seek ∈ wg := List.mem_filter.mpr ⟨tb4 _ (List.mem_of_getElem? (i := 153) (by decide +kernel)), by decide +kernel⟩
theorem m939 : Jvm.Cond.instanceMethod yX3_seek ∈ wg := List.mem_filter.mpr ⟨tb4 _ (List.mem_of_getElem? (i := 154) (by decide +kernel)), by decide +kernel⟩
theorem m940 : Jvm.Cond.selects "DrawnList$Journey" yX3_seek yX3_seek ∈ wg := List.mem_filter.mpr ⟨tb4 _ (List.mem_of_getElem? (i := 155) (by decide +kernel)), by decide +kernel⟩
theorem m941 : Jvm.Cond.code yX3_seek prog_5_method_2_code (9) (Option.none : Option Jvm.ClassFile.FieldType) ∈ wg := List.mem_filter.mpr ⟨tb4 _ (List.mem_of_getElem? (i := 156) (by decide +kernel)), by decide +kernel⟩
theorem m942 : Jvm.Cond.methodLink "DrawnList$Journey" (35) yX3_gatherGains ∈ wg := List.mem_filter.mpr ⟨tb4 _ (List.mem_of_getElem? (i := 157) (by decide +kernel)), by decide +kernel⟩
theorem m944 : Jvm.Cond.instanceMethod yX3_gatherGains ∈ wg := List.mem_filter.mpr ⟨tb4 _ (List.mem_of_getElem? (i := 159) (by decide +kernel)), by decide +kernel⟩
theorem m945 : Jvm.Cond.code yX3_gatherGains prog_5_method_3_code (5) (Option.some Jvm.ClassFile.FieldType.int) ∈ wg := List.mem_filter.mpr ⟨tb4 _ (List.mem_of_getElem? (i := 160) (by decide +kernel)), by decide +kernel⟩
theorem m946 : Jvm.Cond.methodLinkNest "DrawnList$Journey" (55) yX11_isIn "DrawnList" ∈ wn := List.mem_filter.mpr ⟨tb4 _ (List.mem_of_getElem? (i := 161) (by decide +kernel)), by decide +kernel⟩
theorem m947 : Jvm.Cond.methodLink "DrawnList$Journey" (59) ⟨"DrawnList$Way", "shareOfOne", "(ILDrawnList$Fraction;)V"⟩ ∈ wg := List.mem_filter.mpr ⟨tb4 _ (List.mem_of_getElem? (i := 162) (by decide +kernel)), by decide +kernel⟩
theorem m948 : Jvm.Cond.methodLink "DrawnList$Journey" (68) yX1_thousandBy ∈ wg := List.mem_filter.mpr ⟨tb4 _ (List.mem_of_getElem? (i := 163) (by decide +kernel)), by decide +kernel⟩
theorem m949 : Jvm.Cond.methodLink "DrawnList$Journey" (48) yX3_together ∈ wg := List.mem_filter.mpr ⟨tb4 _ (List.mem_of_getElem? (i := 164) (by decide +kernel)), by decide +kernel⟩
theorem m950 : Jvm.Cond.static yX3_together ∈ wg := List.mem_filter.mpr ⟨tb4 _ (List.mem_of_getElem? (i := 165) (by decide +kernel)), by decide +kernel⟩
theorem m951 : Jvm.Cond.code yX3_together prog_5_method_4_code (4) (Option.some Jvm.ClassFile.FieldType.int) ∈ wg := List.mem_filter.mpr ⟨tb4 _ (List.mem_of_getElem? (i := 166) (by decide +kernel)), by decide +kernel⟩
theorem m952 : Jvm.Cond.methodLink "DrawnListLaw" (125) yX11_sheet ∈ wg := List.mem_filter.mpr ⟨tb4 _ (List.mem_of_getElem? (i := 167) (by decide +kernel)), by decide +kernel⟩
theorem m953 : Jvm.Cond.instanceMethod yX11_sheet ∈ wg := List.mem_filter.mpr ⟨tb4 _ (List.mem_of_getElem? (i := 168) (by decide +kernel)), by decide +kernel⟩
theorem m954 : Jvm.Cond.selects "DrawnList" yX11_sheet yX11_sheet ∈ wg := List.mem_filter.mpr ⟨tb4 _ (List.mem_of_getElem? (i := 169) (by decide +kernel)), by decide +kernel⟩
theorem m955 : Jvm.Cond.code yX11_sheet prog_1_method_28_code (4) (Option.some Jvm.ClassFile.FieldType.int) ∈ wg := List.mem_filter.mpr ⟨tb4 _ (List.mem_of_getElem? (i := 170) (by decide +kernel)), by decide +kernel⟩
theorem m956 : Jvm.Cond.methodLink "DrawnList" (255) yX11_isForm ∈ wg := List.mem_filter.mpr ⟨tb4 _ (List.mem_of_getElem? (i := 171) (by decide +kernel)), by decide +kernel⟩
theorem m957 : Jvm.Cond.static yX11_isForm ∈ wg := List.mem_filter.mpr ⟨tb4 _ (List.mem_of_getElem? (i := 172) (by decide +kernel)), by decide +kernel⟩
theorem m958 : Jvm.Cond.code yX11_isForm prog_1_method_40_code (1) (Option.some Jvm.ClassFile.FieldType.boolean) ∈ wg := List.mem_filter.mpr ⟨tb4 _ (List.mem_of_getElem? (i := 173) (by decide +kernel)), by decide +kernel⟩
theorem m959 : Jvm.Cond.methodLink "DrawnList" (258) yX7_renew ∈ wg := List.mem_filter.mpr ⟨tb4 _ (List.mem_of_getElem? (i := 174) (by decide +kernel)), by decide +kernel⟩
theorem m960 : Jvm.Cond.instanceMethod yX7_renew ∈ wg := List.mem_filter.mpr ⟨tb4 _ (List.mem_of_getElem? (i := 175) (by decide +kernel)), by decide +kernel⟩
theorem m961 : Jvm.Cond.selects "DrawnList$Sheet" yX7_renew yX7_renew ∈ wg := List.mem_filter.mpr ⟨tb4 _ (List.mem_of_getElem? (i := 176) (by decide +kernel)), by decide +kernel⟩
theorem m962 : Jvm.Cond.code yX7_renew prog_9_method_2_code (4) (Option.none : Option Jvm.ClassFile.FieldType) ∈ wg := List.mem_filter.mpr ⟨tb4 _ (List.mem_of_getElem? (i := 177) (by decide +kernel)), by decide +kernel⟩
theorem m963 : Jvm.Cond.methodLink "DrawnListLaw" (129) yX11_lose ∈ wg := List.mem_filter.mpr ⟨tb4 _ (List.mem_of_getElem? (i := 178) (by decide +kernel)), by decide +kernel⟩
theorem m964 : Jvm.Cond.instanceMethod yX11_lose ∈ wg := List.mem_filter.mpr ⟨tb4 _ (List.mem_of_getElem? (i := 179) (by decide +kernel)), by decide +kernel⟩
theorem m965 : Jvm.Cond.selects "DrawnList" yX11_lose yX11_lose ∈ wg := List.mem_filter.mpr ⟨tb4 _ (List.mem_of_getElem? (i := 180) (by decide +kernel)), by decide +kernel⟩
theorem m966 : Jvm.Cond.code yX11_lose prog_1_method_29_code (2) (Option.some Jvm.ClassFile.FieldType.int) ∈ wg := List.mem_filter.mpr ⟨tb4 _ (List.mem_of_getElem? (i := 181) (by decide +kernel)), by decide +kernel⟩
theorem m967 : Jvm.Cond.methodLink "DrawnListLaw" (133) yX11_put ∈ wg := List.mem_filter.mpr ⟨tb4 _ (List.mem_of_getElem? (i := 182) (by decide +kernel)), by decide +kernel⟩
theorem m968 : Jvm.Cond.instanceMethod yX11_put ∈ wg := List.mem_filter.mpr ⟨tb4 _ (List.mem_of_getElem? (i := 183) (by decide +kernel)), by decide +kernel⟩
theorem m969 : Jvm.Cond.selects "DrawnList" yX11_put yX11_put ∈ wg := List.mem_filter.mpr ⟨tb4 _ (List.mem_of_getElem? (i := 184) (by decide +kernel)), by decide +kernel⟩
theorem m970 : Jvm.Cond.code yX11_put prog_1_method_30_code (6) (Option.some Jvm.ClassFile.FieldType.int) ∈ wg := List.mem_filter.mpr ⟨tb4 _ (List.mem_of_getElem? (i := 185) (by decide +kernel)), by decide +kernel⟩
theorem m971 : Jvm.Cond.methodLink "DrawnList" (262) yX7_findingAt ∈ wg := List.mem_filter.mpr ⟨tb4 _ (List.mem_of_getElem? (i := 186) (by decide +kernel)), by decide +kernel⟩
theorem m972 : Jvm.Cond.instanceMethod yX7_findingAt ∈ wg := List.mem_filter.mpr ⟨tb4 _ (List.mem_of_getElem? (i := 187) (by decide +kernel)), by decide +kernel⟩
theorem m973 : Jvm.Cond.selects "DrawnList$Sheet" yX7_findingAt yX7_findingAt ∈ wg := List.mem_filter.mpr ⟨tb4 _ (List.mem_of_getElem? (i := 188) (by decide +kernel)), by decide +kernel⟩
theorem m974 : Jvm.Cond.code yX7_findingAt prog_9_method_3_code (3) (Option.some Jvm.ClassFile.FieldType.int) ∈ wg := List.mem_filter.mpr ⟨tb4 _ (List.mem_of_getElem? (i := 189) (by decide +kernel)), by decide +kernel⟩
theorem m975 : Jvm.Cond.methodLinkNest "DrawnList$Sheet" (26) yX11_within "DrawnList" ∈ wn := List.mem_filter.mpr ⟨tb4 _ (List.mem_of_getElem? (i := 190) (by decide +kernel)), by decide +kernel⟩
theorem m976 : Jvm.Cond.methodLink "DrawnList" (265) yX7_store ∈ wg := List.mem_filter.mpr ⟨tb4 _ (List.mem_of_getElem? (i := 191) (by decide +kernel)), by decide +kernel⟩
theorem m977 : Jvm.Cond.instanceMethod yX7_store ∈ wg := List.mem_filter.mpr ⟨tb4 _ (List.mem_of_getElem? (i := 192) (by decide +kernel)), by decide +kernel⟩
theorem m978 : Jvm.Cond.selects "DrawnList$Sheet" yX7_store yX7_store ∈ wg := List.mem_filter.mpr ⟨tb4 _ (List.mem_of_getElem? (i := 193) (by decide +kernel)), by decide +kernel⟩
theorem m979 : Jvm.Cond.code yX7_store prog_9_method_5_code (3) (Option.none : Option Jvm.ClassFile.FieldType) ∈ wg := List.mem_filter.mpr ⟨tb4 _ (List.mem_of_getElem? (i := 194) (by decide +kernel)), by decide +kernel⟩
theorem m980 : Jvm.Cond.methodLink "DrawnListLaw" (137) yX11_get ∈ wg := List.mem_filter.mpr ⟨tb4 _ (List.mem_of_getElem? (i := 195) (by decide +kernel)), by decide +kernel⟩
theorem m981 : Jvm.Cond.instanceMethod yX11_get ∈ wg := List.mem_filter.mpr ⟨tb4 _ (List.mem_of_getElem? (i := 196) (by decide +kernel)), by decide +kernel⟩
theorem m982 : Jvm.Cond.selects "DrawnList" yX11_get yX11_get ∈ wg := List.mem_filter.mpr ⟨tb4 _ (List.mem_of_getElem? (i := 197) (by decide +kernel)), by decide +kernel⟩
theorem m983 : Jvm.Cond.code yX11_get prog_1_method_31_code (5) (Option.some Jvm.ClassFile.FieldType.int) ∈ wg := List.mem_filter.mpr ⟨tb4 _ (List.mem_of_getElem? (i := 198) (by decide +kernel)), by decide +kernel⟩
theorem m984 : Jvm.Cond.constant "DrawnList" (268) (-2147483648) ∈ wg := List.mem_filter.mpr ⟨tb4 _ (List.mem_of_getElem? (i := 199) (by decide +kernel)), by decide +kernel⟩
theorem m985 : Jvm.Cond.methodLink "DrawnListLaw" (141) yX11_copy ∈ wg := List.mem_filter.mpr ⟨tb4 _ (List.mem_of_getElem? (i := 200) (by decide +kernel)), by decide +kernel⟩
theorem m986 : Jvm.Cond.instanceMethod yX11_copy ∈ wg := List.mem_filter.mpr ⟨tb4 _ (List.mem_of_getElem? (i := 201) (by decide +kernel)), by decide +kernel⟩
theorem m987 : Jvm.Cond.selects "DrawnList" yX11_copy yX11_copy ∈ wg := List.mem_filter.mpr ⟨tb4 _ (List.mem_of_getElem? (i := 202) (by decide +kernel)), by decide +kernel⟩
theorem m988 : Jvm.Cond.code yX11_copy prog_1_method_32_code (8) (Option.some Jvm.ClassFile.FieldType.int) ∈ wg := List.mem_filter.mpr ⟨tb4 _ (List.mem_of_getElem? (i := 203) (by decide +kernel)), by decide +kernel⟩
theorem m989 : Jvm.Cond.methodLink "DrawnList" (275) yX7_reaches ∈ wg := List.mem_filter.mpr ⟨tb4 _ (List.mem_of_getElem? (i := 204) (by decide +kernel)), by decide +kernel⟩
theorem m990 : Jvm.Cond.instanceMethod yX7_reaches ∈ wg := List.mem_filter.mpr ⟨tb4 _ (List.mem_of_getElem? (i := 205) (by decide +kernel)), by decide +kernel⟩
theorem m991 : Jvm.Cond.selects "DrawnList$Sheet" yX7_reaches yX7_reaches ∈ wg := List.mem_filter.mpr ⟨tb4 _ (List.mem_of_getElem? (i := 206) (by decide +kernel)), by decide +kernel⟩
theorem m992 : Jvm.Cond.code yX7_reaches prog_9_method_4_code (3) (Option.some Jvm.ClassFile.FieldType.boolean) ∈ wg := List.mem_filter.mpr ⟨tb4 _ (List.mem_of_getElem? (i := 207) (by decide +kernel)), by decide +kernel⟩
theorem m993 : Jvm.Cond.methodLink "DrawnList" (279) ⟨"java/lang/System", "arraycopy", "(Ljava/lang/Object;ILjava/lang/Object;II)V"⟩ ∈ wg := List.mem_filter.mpr ⟨tb4 _ (List.mem_of_getElem? (i := 208) (by decide +kernel)), by decide +kernel⟩
theorem m994 : Jvm.Cond.static ⟨"java/lang/System", "arraycopy", "(Ljava/lang/Object;ILjava/lang/Object;II)V"⟩ ∈ wg := List.mem_filter.mpr ⟨tb4 _ (List.mem_of_getElem? (i := 209) (by decide +kernel)), by decide +kernel⟩
theorem m995 : Jvm.Cond.native ⟨"java/lang/System", "arraycopy", "(Ljava/lang/Object;ILjava/lang/Object;II)V"⟩ ∈ wg := List.mem_filter.mpr ⟨tb4 _ (List.mem_of_getElem? (i := 210) (by decide +kernel)), by decide +kernel⟩
theorem m996 : Jvm.Cond.methodLink "DrawnListLaw" (146) yX11_write ∈ wg := List.mem_filter.mpr ⟨tb4 _ (List.mem_of_getElem? (i := 211) (by decide +kernel)), by decide +kernel⟩
theorem m997 : Jvm.Cond.instanceMethod yX11_write ∈ wg := List.mem_filter.mpr ⟨tb4 _ (List.mem_of_getElem? (i := 212) (by decide +kernel)), by decide +kernel⟩
theorem m998 : Jvm.Cond.selects "DrawnList" yX11_write yX11_write ∈ wg := List.mem_filter.mpr ⟨tb4 _ (List.mem_of_getElem? (i := 213) (by decide +kernel)), by decide +kernel⟩
theorem m999 : Jvm.Cond.code yX11_write prog_1_method_33_code (6) (Option.some Jvm.ClassFile.FieldType.int) ∈ wg := List.mem_filter.mpr ⟨tb4 _ (List.mem_of_getElem? (i := 214) (by decide +kernel)), by decide +kernel⟩
theorem m1000 : Jvm.Cond.methodLink "DrawnListLaw" (150) yX11_count ∈ wg := List.mem_filter.mpr ⟨tb4 _ (List.mem_of_getElem? (i := 215) (by decide +kernel)), by decide +kernel⟩
theorem m1001 : Jvm.Cond.instanceMethod yX11_count ∈ wg := List.mem_filter.mpr ⟨tb4 _ (List.mem_of_getElem? (i := 216) (by decide +kernel)), by decide +kernel⟩
theorem m1002 : Jvm.Cond.selects "DrawnList" yX11_count yX11_count ∈ wg := List.mem_filter.mpr ⟨tb4 _ (List.mem_of_getElem? (i := 217) (by decide +kernel)), by decide +kernel⟩
theorem m1003 : Jvm.Cond.code yX11_count prog_1_method_34_code (2) (Option.some Jvm.ClassFile.FieldType.int) ∈ wg := List.mem_filter.mpr ⟨tb4 _ (List.mem_of_getElem? (i := 218) (by decide +kernel)), by decide +kernel⟩
theorem m1004 : Jvm.Cond.methodLink "DrawnListLaw" (154) yX11_digest ∈ wg := List.mem_filter.mpr ⟨tb4 _ (List.mem_of_getElem? (i := 219) (by decide +kernel)), by decide +kernel⟩
theorem m1005 : Jvm.Cond.instanceMethod yX11_digest ∈ wg := List.mem_filter.mpr ⟨tb4 _ (List.mem_of_getElem? (i := 220) (by decide +kernel)), by decide +kernel⟩
theorem m1006 : Jvm.Cond.selects "DrawnList" yX11_digest yX11_digest ∈ wg := List.mem_filter.mpr ⟨tb4 _ (List.mem_of_getElem? (i := 221) (by decide +kernel)), by decide +kernel⟩
theorem m1007 : Jvm.Cond.code yX11_digest prog_1_method_35_code (5) (Option.some Jvm.ClassFile.FieldType.long) ∈ wg := List.mem_filter.mpr ⟨tb4 _ (List.mem_of_getElem? (i := 222) (by decide +kernel)), by decide +kernel⟩
theorem m1008 : Jvm.Cond.constantLong "DrawnList" (297) (17) ∈ wg := List.mem_filter.mpr ⟨tb4 _ (List.mem_of_getElem? (i := 223) (by decide +kernel)), by decide +kernel⟩
theorem m1009 : Jvm.Cond.constantLong "DrawnList" (299) (31) ∈ wg := List.mem_filter.mpr ⟨tb4 _ (List.mem_of_getElem? (i := 224) (by decide +kernel)), by decide +kernel⟩
theorem m1010 : Jvm.Cond.methodLink "DrawnList" (301) yX11_count ∈ wg := List.mem_filter.mpr ⟨tb4 _ (List.mem_of_getElem? (i := 225) (by decide +kernel)), by decide +kernel⟩
theorem m1011 : Jvm.Cond.methodLink "DrawnList" (303) yX11_about ∈ wg := List.mem_filter.mpr ⟨tb4 _ (List.mem_of_getElem? (i := 226) (by decide +kernel)), by decide +kernel⟩
theorem m1012 : Jvm.Cond.methodLink "DrawnList" (306) yX11_digestOfPlan ∈ wg := List.mem_filter.mpr ⟨tb4 _ (List.mem_of_getElem? (i := 227) (by decide +kernel)), by decide +kernel⟩
theorem m1014 : Jvm.Cond.instanceMethod yX11_digestOfPlan ∈ wg := List.mem_filter.mpr ⟨tb4 _ (List.mem_of_getElem? (i := 229) (by decide +kernel)), by decide +kernel⟩
theorem m1015 : Jvm.Cond.code yX11_digestOfPlan prog_1_method_36_code (7) (Option.some Jvm.ClassFile.FieldType.long) ∈ wg := List.mem_filter.mpr ⟨tb4 _ (List.mem_of_getElem? (i := 230) (by decide +kernel)), by decide +kernel⟩
theorem m1016 : Jvm.Cond.methodLink "DrawnList" (310) yX11_fault ∈ wg := List.mem_filter.mpr ⟨tb4 _ (List.mem_of_getElem? (i := 231) (by decide +kernel)), by decide +kernel⟩
theorem m1017 : Jvm.Cond.methodLink "DrawnList" (313) yX11_can ∈ wg := List.mem_filter.mpr ⟨tb4 _ (List.mem_of_getElem? (i := 232) (by decide +kernel)), by decide +kernel⟩
theorem m1018 : Jvm.Cond.methodLink "DrawnList" (316) yX11_draws ∈ wg := List.mem_filter.mpr ⟨tb4 _ (List.mem_of_getElem? (i := 233) (by decide +kernel)), by decide +kernel⟩
theorem m1019 : Jvm.Cond.methodLink "DrawnList" (319) yX11_lots ∈ wg := List.mem_filter.mpr ⟨tb4 _ (List.mem_of_getElem? (i := 234) (by decide +kernel)), by decide +kernel⟩
theorem m1020 : Jvm.Cond.methodLink "DrawnList" (322) yX11_share ∈ wg := List.mem_filter.mpr ⟨tb4 _ (List.mem_of_getElem? (i := 235) (by decide +kernel)), by decide +kernel⟩
theorem m1021 : Jvm.Cond.classLink "DrawnListLaw" (10) "DrawnListModel" ∈ wg := List.mem_filter.mpr ⟨tb4 _ (List.mem_of_getElem? (i := 236) (by decide +kernel)), by decide +kernel⟩
theorem m1022 : Jvm.Cond.instantiable "DrawnListModel" (36) ∈ wg := List.mem_filter.mpr ⟨tb4 _ (List.mem_of_getElem? (i := 237) (by decide +kernel)), by decide +kernel⟩
theorem m1023 : Jvm.Cond.methodLink "DrawnListLaw" (12) yX12_init ∈ wg := List.mem_filter.mpr ⟨tb4 _ (List.mem_of_getElem? (i := 238) (by decide +kernel)), by decide +kernel⟩
theorem m1024 : Jvm.Cond.instanceMethod yX12_init ∈ wg := List.mem_filter.mpr ⟨tb4 _ (List.mem_of_getElem? (i := 239) (by decide +kernel)), by decide +kernel⟩
theorem m1025 : Jvm.Cond.code yX12_init prog_14_method_1_code (2) (Option.none : Option Jvm.ClassFile.FieldType) ∈ wg := List.mem_filter.mpr ⟨tb5 _ (List.mem_of_getElem? (i := 0) (by decide +kernel)), by decide +kernel⟩
theorem m1026 : Jvm.Cond.methodLink "DrawnListModel" (1) objectInit ∈ wg := List.mem_filter.mpr ⟨tb5 _ (List.mem_of_getElem? (i := 1) (by decide +kernel)), by decide +kernel⟩
theorem m1027 : Jvm.Cond.fieldLink "DrawnListModel" (7) "DrawnListModel" "forms" "[I" ∈ wg := List.mem_filter.mpr ⟨tb5 _ (List.mem_of_getElem? (i := 2) (by decide +kernel)), by decide +kernel⟩
theorem m1028 : Jvm.Cond.fieldLink "DrawnListModel" (13) "DrawnListModel" "sizes" "[I" ∈ wg := List.mem_filter.mpr ⟨tb5 _ (List.mem_of_getElem? (i := 3) (by decide +kernel)), by decide +kernel⟩
theorem m1029 : Jvm.Cond.fieldLink "DrawnListModel" (16) "DrawnListModel" "items" "[I" ∈ wg := List.mem_filter.mpr ⟨tb5 _ (List.mem_of_getElem? (i := 4) (by decide +kernel)), by decide +kernel⟩
theorem m1030 : Jvm.Cond.fieldLink "DrawnListModel" (19) "DrawnListModel" "moved" "[I" ∈ wg := List.mem_filter.mpr ⟨tb5 _ (List.mem_of_getElem? (i := 5) (by decide +kernel)), by decide +kernel⟩
theorem m1031 : Jvm.Cond.fieldLink "DrawnListModel" (87) "DrawnListModel" "latest" "I" ∈ wg := List.mem_filter.mpr ⟨tb5 _ (List.mem_of_getElem? (i := 6) (by decide +kernel)), by decide +kernel⟩
theorem m1032 : Jvm.Cond.fieldLink "DrawnListModel" (115) "DrawnListModel" "names" "I" ∈ wg := List.mem_filter.mpr ⟨tb5 _ (List.mem_of_getElem? (i := 7) (by decide +kernel)), by decide +kernel⟩
theorem m1033 : Jvm.Cond.fieldLink "DrawnListModel" (22) "DrawnListModel" "layers" "[I" ∈ wg := List.mem_filter.mpr ⟨tb5 _ (List.mem_of_getElem? (i := 8) (by decide +kernel)), by decide +kernel⟩
theorem m1034 : Jvm.Cond.fieldLink "DrawnListModel" (25) "DrawnListModel" "clusters" "[I" ∈ wg := List.mem_filter.mpr ⟨tb5 _ (List.mem_of_getElem? (i := 9) (by decide +kernel)), by decide +kernel⟩
theorem m1035 : Jvm.Cond.fieldLink "DrawnListModel" (28) "DrawnListModel" "lengths" "[I" ∈ wg := List.mem_filter.mpr ⟨tb5 _ (List.mem_of_getElem? (i := 10) (by decide +kernel)), by decide +kernel⟩
theorem m1036 : Jvm.Cond.fieldLink "DrawnListModel" (31) "DrawnListModel" "marks" "[I" ∈ wg := List.mem_filter.mpr ⟨tb5 _ (List.mem_of_getElem? (i := 11) (by decide +kernel)), by decide +kernel⟩
theorem m1037 : Jvm.Cond.fieldLink "DrawnListModel" (128) "DrawnListModel" "answers" "I" ∈ wg := List.mem_filter.mpr ⟨tb5 _ (List.mem_of_getElem? (i := 12) (by decide +kernel)), by decide +kernel⟩
theorem m1038 : Jvm.Cond.fieldLink "DrawnListModel" (34) "DrawnListModel" "answerOf" "[I" ∈ wg := List.mem_filter.mpr ⟨tb5 _ (List.mem_of_getElem? (i := 13) (by decide +kernel)), by decide +kernel⟩
theorem m1039 : Jvm.Cond.fieldLink "DrawnListModel" (37) "DrawnListModel" "answerValue" "[I" ∈ wg := List.mem_filter.mpr ⟨tb5 _ (List.mem_of_getElem? (i := 14) (by decide +kernel)), by decide +kernel⟩
theorem m1040 : Jvm.Cond.fieldLink "DrawnListModel" (40) "DrawnListModel" "answerDay" "[I" ∈ wg := List.mem_filter.mpr ⟨tb5 _ (List.mem_of_getElem? (i := 15) (by decide +kernel)), by decide +kernel⟩
theorem m1041 : Jvm.Cond.fieldLink "DrawnListModel" (43) "DrawnListModel" "asOf" "I" ∈ wg := List.mem_filter.mpr ⟨tb5 _ (List.mem_of_getElem? (i := 16) (by decide +kernel)), by decide +kernel⟩
theorem m1042 : Jvm.Cond.fieldLink "DrawnListModel" (47) "DrawnListModel" "texts" "[I" ∈ wg := List.mem_filter.mpr ⟨tb5 _ (List.mem_of_getElem? (i := 17) (by decide +kernel)), by decide +kernel⟩
theorem m1043 : Jvm.Cond.fieldLink "DrawnListModel" (50) "DrawnListModel" "typed" "[I" ∈ wg := List.mem_filter.mpr ⟨tb5 _ (List.mem_of_getElem? (i := 18) (by decide +kernel)), by decide +kernel⟩
theorem m1044 : Jvm.Cond.fieldLink "DrawnListModel" (166) "DrawnListModel" "kind" "I" ∈ wg := List.mem_filter.mpr ⟨tb5 _ (List.mem_of_getElem? (i := 19) (by decide +kernel)), by decide +kernel⟩
theorem m1045 : Jvm.Cond.fieldLink "DrawnListModel" (53) "DrawnListModel" "wants" "[I" ∈ wg := List.mem_filter.mpr ⟨tb5 _ (List.mem_of_getElem? (i := 20) (by decide +kernel)), by decide +kernel⟩
theorem m1046 : Jvm.Cond.fieldLink "DrawnListModel" (152) "DrawnListModel" "at" "I" ∈ wg := List.mem_filter.mpr ⟨tb5 _ (List.mem_of_getElem? (i := 21) (by decide +kernel)), by decide +kernel⟩
theorem m1047 : Jvm.Cond.fieldLink "DrawnListModel" (182) "DrawnListModel" "step" "I" ∈ wg := List.mem_filter.mpr ⟨tb5 _ (List.mem_of_getElem? (i := 22) (by decide +kernel)), by decide +kernel⟩
theorem m1048 : Jvm.Cond.fieldLink "DrawnListModel" (162) "DrawnListModel" "counted" "Z" ∈ wg := List.mem_filter.mpr ⟨tb5 _ (List.mem_of_getElem? (i := 23) (by decide +kernel)), by decide +kernel⟩
theorem m1049 : Jvm.Cond.fieldLink "DrawnListModel" (56) "DrawnListModel" "waysOf" "[I" ∈ wg := List.mem_filter.mpr ⟨tb5 _ (List.mem_of_getElem? (i := 24) (by decide +kernel)), by decide +kernel⟩
theorem m1050 : Jvm.Cond.fieldLink "DrawnListModel" (59) "DrawnListModel" "taken" "[J" ∈ wg := List.mem_filter.mpr ⟨tb5 _ (List.mem_of_getElem? (i := 25) (by decide +kernel)), by decide +kernel⟩
theorem m1051 : Jvm.Cond.fieldLink "DrawnListModel" (210) "DrawnListModel" "above" "J" ∈ wg := List.mem_filter.mpr ⟨tb5 _ (List.mem_of_getElem? (i := 26) (by decide +kernel)), by decide +kernel⟩
theorem m1052 : Jvm.Cond.fieldLink "DrawnListModel" (214) "DrawnListModel" "below" "J" ∈ wg := List.mem_filter.mpr ⟨tb5 _ (List.mem_of_getElem? (i := 27) (by decide +kernel)), by decide +kernel⟩
theorem m1053 : Jvm.Cond.fieldLink "DrawnListModel" (248) "DrawnListModel" "seed" "I" ∈ wg := List.mem_filter.mpr ⟨tb5 _ (List.mem_of_getElem? (i := 28) (by decide +kernel)), by decide +kernel⟩
theorem m1054 : Jvm.Cond.fieldLink "DrawnListModel" (272) "DrawnListModel" "sumAbove" "J" ∈ wg := List.mem_filter.mpr ⟨tb5 _ (List.mem_of_getElem? (i := 29) (by decide +kernel)), by decide +kernel⟩
theorem m1055 : Jvm.Cond.fieldLink "DrawnListModel" (275) "DrawnListModel" "sumBelow" "J" ∈ wg := List.mem_filter.mpr ⟨tb5 _ (List.mem_of_getElem? (i := 30) (by decide +kernel)), by decide +kernel⟩
theorem m1056 : Jvm.Cond.fieldLink "DrawnListModel" (63) "DrawnListModel" "knownLayer" "[I" ∈ wg := List.mem_filter.mpr ⟨tb5 _ (List.mem_of_getElem? (i := 31) (by decide +kernel)), by decide +kernel⟩
theorem m1057 : Jvm.Cond.fieldLink "DrawnListModel" (66) "DrawnListModel" "knownMark" "[I" ∈ wg := List.mem_filter.mpr ⟨tb5 _ (List.mem_of_getElem? (i := 32) (by decide +kernel)), by decide +kernel⟩
theorem m1058 : Jvm.Cond.fieldLink "DrawnListModel" (69) "DrawnListModel" "weights" "[J" ∈ wg := List.mem_filter.mpr ⟨tb5 _ (List.mem_of_getElem? (i := 33) (by decide +kernel)), by decide +kernel⟩
theorem m1059 : Jvm.Cond.fieldLink "DrawnListModel" (72) "DrawnListModel" "weighs" "[Z" ∈ wg := List.mem_filter.mpr ⟨tb5 _ (List.mem_of_getElem? (i := 34) (by decide +kernel)), by decide +kernel⟩
theorem m1060 : Jvm.Cond.fieldLink "DrawnListModel" (76) "DrawnListModel" "rests" "[J" ∈ wg := List.mem_filter.mpr ⟨tb5 _ (List.mem_of_getElem? (i := 35) (by decide +kernel)), by decide +kernel⟩
theorem m1061 : Jvm.Cond.fieldLink "DrawnListModel" (79) "DrawnListModel" "costs" "[I" ∈ wg := List.mem_filter.mpr ⟨tb5 _ (List.mem_of_getElem? (i := 36) (by decide +kernel)), by decide +kernel⟩
theorem m1062 : Jvm.Cond.fieldLink "DrawnListModel" (82) "DrawnListModel" "gains" "[J" ∈ wg := List.mem_filter.mpr ⟨tb5 _ (List.mem_of_getElem? (i := 37) (by decide +kernel)), by decide +kernel⟩
theorem m1063 : Jvm.Cond.laysFinal "DrawnListModel" "DrawnListModel" "forms" "[I" ∈ wg := List.mem_filter.mpr ⟨tb5 _ (List.mem_of_getElem? (i := 38) (by decide +kernel)), by decide +kernel⟩
theorem m1065 : Jvm.Cond.laysFinal "DrawnListModel" "DrawnListModel" "sizes" "[I" ∈ wg := List.mem_filter.mpr ⟨tb5 _ (List.mem_of_getElem? (i := 40) (by decide +kernel)), by decide +kernel⟩
theorem m1067 : Jvm.Cond.laysFinal "DrawnListModel" "DrawnListModel" "items" "[I" ∈ wg := List.mem_filter.mpr ⟨tb5 _ (List.mem_of_getElem? (i := 42) (by decide +kernel)), by decide +kernel⟩
theorem m1069 : Jvm.Cond.laysFinal "DrawnListModel" "DrawnListModel" "moved" "[I" ∈ wg := List.mem_filter.mpr ⟨tb5 _ (List.mem_of_getElem? (i := 44) (by decide +kernel)), by decide +kernel⟩
theorem m1071 : Jvm.Cond.lays "DrawnListModel" "DrawnListModel" "latest" "I" ∈ wg := List.mem_filter.mpr ⟨tb5 _ (List.mem_of_getElem? (i := 46) (by decide +kernel)), by decide +kernel⟩
theorem m1073 : Jvm.Cond.lays "DrawnListModel" "DrawnListModel" "names" "I" ∈ wg := List.mem_filter.mpr ⟨tb5 _ (List.mem_of_getElem? (i := 48) (by decide +kernel)), by decide +kernel⟩
theorem m1075 : Jvm.Cond.laysFinal "DrawnListModel" "DrawnListModel" "layers" "[I" ∈ wg := List.mem_filter.mpr ⟨tb5 _ (List.mem_of_getElem? (i := 50) (by decide +kernel)), by decide +kernel⟩
theorem m1077 : Jvm.Cond.laysFinal "DrawnListModel" "DrawnListModel" "clusters" "[I" ∈ wg := List.mem_filter.mpr ⟨tb5 _ (List.mem_of_getElem? (i := 52) (by decide +kernel)), by decide +kernel⟩
theorem m1079 : Jvm.Cond.laysFinal "DrawnListModel" "DrawnListModel" "lengths" "[I" ∈ wg := List.mem_filter.mpr ⟨tb5 _ (List.mem_of_getElem? (i := 54) (by decide +kernel)), by decide +kernel⟩
theorem m1081 : Jvm.Cond.laysFinal "DrawnListModel" "DrawnListModel" "marks" "[I" ∈ wg := List.mem_filter.mpr ⟨tb5 _ (List.mem_of_getElem? (i := 56) (by decide +kernel)), by decide +kernel⟩
theorem m1083 : Jvm.Cond.lays "DrawnListModel" "DrawnListModel" "answers" "I" ∈ wg := List.mem_filter.mpr ⟨tb5 _ (List.mem_of_getElem? (i := 58) (by decide +kernel)), by decide +kernel⟩
theorem m1085 : Jvm.Cond.laysFinal "DrawnListModel" "DrawnListModel" "answerOf" "[I" ∈ wg := List.mem_filter.mpr ⟨tb5 _ (List.mem_of_getElem? (i := 60) (by decide +kernel)), by decide +kernel⟩
theorem m1087 : Jvm.Cond.laysFinal "DrawnListModel" "DrawnListModel" "answerValue" "[I" ∈ wg := List.mem_filter.mpr ⟨tb5 _ (List.mem_of_getElem? (i := 62) (by decide +kernel)), by decide +kernel⟩
theorem m1089 : Jvm.Cond.laysFinal "DrawnListModel" "DrawnListModel" "answerDay" "[I" ∈ wg := List.mem_filter.mpr ⟨tb5 _ (List.mem_of_getElem? (i := 64) (by decide +kernel)), by decide +kernel⟩
theorem m1091 : Jvm.Cond.lays "DrawnListModel" "DrawnListModel" "asOf" "I" ∈ wg := List.mem_filter.mpr ⟨tb5 _ (List.mem_of_getElem? (i := 66) (by decide +kernel)), by decide +kernel⟩
theorem m1093 : Jvm.Cond.laysFinal "DrawnListModel" "DrawnListModel" "texts" "[I" ∈ wg := List.mem_filter.mpr ⟨tb5 _ (List.mem_of_getElem? (i := 68) (by decide +kernel)), by decide +kernel⟩
theorem m1095 : Jvm.Cond.laysFinal "DrawnListModel" "DrawnListModel" "typed" "[I" ∈ wg := List.mem_filter.mpr ⟨tb5 _ (List.mem_of_getElem? (i := 70) (by decide +kernel)), by decide +kernel⟩
theorem m1097 : Jvm.Cond.lays "DrawnListModel" "DrawnListModel" "kind" "I" ∈ wg := List.mem_filter.mpr ⟨tb5 _ (List.mem_of_getElem? (i := 72) (by decide +kernel)), by decide +kernel⟩
theorem m1099 : Jvm.Cond.laysFinal "DrawnListModel" "DrawnListModel" "wants" "[I" ∈ wg := List.mem_filter.mpr ⟨tb5 _ (List.mem_of_getElem? (i := 74) (by decide +kernel)), by decide +kernel⟩
theorem m1101 : Jvm.Cond.lays "DrawnListModel" "DrawnListModel" "at" "I" ∈ wg := List.mem_filter.mpr ⟨tb5 _ (List.mem_of_getElem? (i := 76) (by decide +kernel)), by decide +kernel⟩
theorem m1103 : Jvm.Cond.lays "DrawnListModel" "DrawnListModel" "step" "I" ∈ wg := List.mem_filter.mpr ⟨tb5 _ (List.mem_of_getElem? (i := 78) (by decide +kernel)), by decide +kernel⟩
theorem m1105 : Jvm.Cond.lays "DrawnListModel" "DrawnListModel" "counted" "Z" ∈ wg := List.mem_filter.mpr ⟨tb5 _ (List.mem_of_getElem? (i := 80) (by decide +kernel)), by decide +kernel⟩
theorem m1107 : Jvm.Cond.laysFinal "DrawnListModel" "DrawnListModel" "waysOf" "[I" ∈ wg := List.mem_filter.mpr ⟨tb5 _ (List.mem_of_getElem? (i := 82) (by decide +kernel)), by decide +kernel⟩
theorem m1109 : Jvm.Cond.laysFinal "DrawnListModel" "DrawnListModel" "taken" "[J" ∈ wg := List.mem_filter.mpr ⟨tb5 _ (List.mem_of_getElem? (i := 84) (by decide +kernel)), by decide +kernel⟩
theorem m1111 : Jvm.Cond.lays "DrawnListModel" "DrawnListModel" "above" "J" ∈ wg := List.mem_filter.mpr ⟨tb5 _ (List.mem_of_getElem? (i := 86) (by decide +kernel)), by decide +kernel⟩
theorem m1113 : Jvm.Cond.lays "DrawnListModel" "DrawnListModel" "below" "J" ∈ wg := List.mem_filter.mpr ⟨tb5 _ (List.mem_of_getElem? (i := 88) (by decide +kernel)), by decide +kernel⟩
theorem m1115 : Jvm.Cond.lays "DrawnListModel" "DrawnListModel" "seed" "I" ∈ wg := List.mem_filter.mpr ⟨tb5 _ (List.mem_of_getElem? (i := 90) (by decide +kernel)), by decide +kernel⟩
theorem m1117 : Jvm.Cond.lays "DrawnListModel" "DrawnListModel" "sumAbove" "J" ∈ wg := List.mem_filter.mpr ⟨tb5 _ (List.mem_of_getElem? (i := 92) (by decide +kernel)), by decide +kernel⟩
theorem m1119 : Jvm.Cond.lays "DrawnListModel" "DrawnListModel" "sumBelow" "J" ∈ wg := List.mem_filter.mpr ⟨tb5 _ (List.mem_of_getElem? (i := 94) (by decide +kernel)), by decide +kernel⟩
theorem m1121 : Jvm.Cond.laysFinal "DrawnListModel" "DrawnListModel" "knownLayer" "[I" ∈ wg := List.mem_filter.mpr ⟨tb5 _ (List.mem_of_getElem? (i := 96) (by decide +kernel)), by decide +kernel⟩
theorem m1123 : Jvm.Cond.laysFinal "DrawnListModel" "DrawnListModel" "knownMark" "[I" ∈ wg := List.mem_filter.mpr ⟨tb5 _ (List.mem_of_getElem? (i := 98) (by decide +kernel)), by decide +kernel⟩
theorem m1125 : Jvm.Cond.laysFinal "DrawnListModel" "DrawnListModel" "weights" "[J" ∈ wg := List.mem_filter.mpr ⟨tb5 _ (List.mem_of_getElem? (i := 100) (by decide +kernel)), by decide +kernel⟩
theorem m1127 : Jvm.Cond.laysFinal "DrawnListModel" "DrawnListModel" "weighs" "[Z" ∈ wg := List.mem_filter.mpr ⟨tb5 _ (List.mem_of_getElem? (i := 102) (by decide +kernel)), by decide +kernel⟩
theorem m1129 : Jvm.Cond.laysFinal "DrawnListModel" "DrawnListModel" "rests" "[J" ∈ wg := List.mem_filter.mpr ⟨tb5 _ (List.mem_of_getElem? (i := 104) (by decide +kernel)), by decide +kernel⟩
theorem m1131 : Jvm.Cond.laysFinal "DrawnListModel" "DrawnListModel" "costs" "[I" ∈ wg := List.mem_filter.mpr ⟨tb5 _ (List.mem_of_getElem? (i := 106) (by decide +kernel)), by decide +kernel⟩
theorem m1133 : Jvm.Cond.laysFinal "DrawnListModel" "DrawnListModel" "gains" "[J" ∈ wg := List.mem_filter.mpr ⟨tb5 _ (List.mem_of_getElem? (i := 108) (by decide +kernel)), by decide +kernel⟩
theorem m1136 : Jvm.Cond.arrayClass Jvm.ClassFile.FieldType.boolean ∈ wg := List.mem_filter.mpr ⟨tb5 _ (List.mem_of_getElem? (i := 111) (by decide +kernel)), by decide +kernel⟩
theorem m1137 : Jvm.Cond.methodLink "DrawnListLaw" (128) yX12_sheet ∈ wg := List.mem_filter.mpr ⟨tb5 _ (List.mem_of_getElem? (i := 112) (by decide +kernel)), by decide +kernel⟩
theorem m1138 : Jvm.Cond.instanceMethod yX12_sheet ∈ wg := List.mem_filter.mpr ⟨tb5 _ (List.mem_of_getElem? (i := 113) (by decide +kernel)), by decide +kernel⟩
theorem m1139 : Jvm.Cond.selects "DrawnListModel" yX12_sheet yX12_sheet ∈ wg := List.mem_filter.mpr ⟨tb5 _ (List.mem_of_getElem? (i := 114) (by decide +kernel)), by decide +kernel⟩
theorem m1140 : Jvm.Cond.code yX12_sheet prog_14_method_7_code (5) (Option.some Jvm.ClassFile.FieldType.int) ∈ wg := List.mem_filter.mpr ⟨tb5 _ (List.mem_of_getElem? (i := 115) (by decide +kernel)), by decide +kernel⟩
theorem m1141 : Jvm.Cond.methodLink "DrawnListModel" (96) yX12_isSheet ∈ wg := List.mem_filter.mpr ⟨tb5 _ (List.mem_of_getElem? (i := 116) (by decide +kernel)), by decide +kernel⟩
theorem m1142 : Jvm.Cond.static yX12_isSheet ∈ wg := List.mem_filter.mpr ⟨tb5 _ (List.mem_of_getElem? (i := 117) (by decide +kernel)), by decide +kernel⟩
theorem m1143 : Jvm.Cond.code yX12_isSheet prog_14_method_6_code (1) (Option.some Jvm.ClassFile.FieldType.boolean) ∈ wg := List.mem_filter.mpr ⟨tb5 _ (List.mem_of_getElem? (i := 118) (by decide +kernel)), by decide +kernel⟩
theorem m1144 : Jvm.Cond.constantLong "DrawnListModel" (90) (3) ∈ wg := List.mem_filter.mpr ⟨tb5 _ (List.mem_of_getElem? (i := 119) (by decide +kernel)), by decide +kernel⟩
theorem m1145 : Jvm.Cond.methodLink "DrawnListModel" (92) yX12_in ∈ wg := List.mem_filter.mpr ⟨tb5 _ (List.mem_of_getElem? (i := 120) (by decide +kernel)), by decide +kernel⟩
theorem m1146 : Jvm.Cond.static yX12_in ∈ wg := List.mem_filter.mpr ⟨tb5 _ (List.mem_of_getElem? (i := 121) (by decide +kernel)), by decide +kernel⟩
theorem m1147 : Jvm.Cond.code yX12_in prog_14_method_3_code (6) (Option.some Jvm.ClassFile.FieldType.boolean) ∈ wg := List.mem_filter.mpr ⟨tb5 _ (List.mem_of_getElem? (i := 122) (by decide +kernel)), by decide +kernel⟩
theorem m1148 : Jvm.Cond.constantLong "DrawnListModel" (100) (2) ∈ wg := List.mem_filter.mpr ⟨tb5 _ (List.mem_of_getElem? (i := 123) (by decide +kernel)), by decide +kernel⟩
theorem m1149 : Jvm.Cond.methodLink "DrawnListModel" (102) yX12_met ∈ wg := List.mem_filter.mpr ⟨tb5 _ (List.mem_of_getElem? (i := 124) (by decide +kernel)), by decide +kernel⟩
theorem m1151 : Jvm.Cond.instanceMethod yX12_met ∈ wg := List.mem_filter.mpr ⟨tb5 _ (List.mem_of_getElem? (i := 126) (by decide +kernel)), by decide +kernel⟩
theorem m1152 : Jvm.Cond.code yX12_met prog_14_method_5_code (2) (Option.some Jvm.ClassFile.FieldType.int) ∈ wg := List.mem_filter.mpr ⟨tb5 _ (List.mem_of_getElem? (i := 127) (by decide +kernel)), by decide +kernel⟩
theorem m1153 : Jvm.Cond.methodLink "DrawnListLaw" (132) yX12_lose ∈ wg := List.mem_filter.mpr ⟨tb5 _ (List.mem_of_getElem? (i := 128) (by decide +kernel)), by decide +kernel⟩
theorem m1154 : Jvm.Cond.instanceMethod yX12_lose ∈ wg := List.mem_filter.mpr ⟨tb5 _ (List.mem_of_getElem? (i := 129) (by decide +kernel)), by decide +kernel⟩
theorem m1155 : Jvm.Cond.selects "DrawnListModel" yX12_lose yX12_lose ∈ wg := List.mem_filter.mpr ⟨tb5 _ (List.mem_of_getElem? (i := 130) (by decide +kernel)), by decide +kernel⟩
theorem m1156 : Jvm.Cond.code yX12_lose prog_14_method_8_code (2) (Option.some Jvm.ClassFile.FieldType.int) ∈ wg := List.mem_filter.mpr ⟨tb5 _ (List.mem_of_getElem? (i := 131) (by decide +kernel)), by decide +kernel⟩
theorem m1157 : Jvm.Cond.methodLink "DrawnListLaw" (136) yX12_put ∈ wg := List.mem_filter.mpr ⟨tb5 _ (List.mem_of_getElem? (i := 132) (by decide +kernel)), by decide +kernel⟩
theorem m1158 : Jvm.Cond.instanceMethod yX12_put ∈ wg := List.mem_filter.mpr ⟨tb5 _ (List.mem_of_getElem? (i := 133) (by decide +kernel)), by decide +kernel⟩
theorem m1159 : Jvm.Cond.selects "DrawnListModel" yX12_put yX12_put ∈ wg := List.mem_filter.mpr ⟨tb5 _ (List.mem_of_getElem? (i := 134) (by decide +kernel)), by decide +kernel⟩
theorem m1160 : Jvm.Cond.code yX12_put prog_14_method_11_code (6) (Option.some Jvm.ClassFile.FieldType.int) ∈ wg := List.mem_filter.mpr ⟨tb5 _ (List.mem_of_getElem? (i := 135) (by decide +kernel)), by decide +kernel⟩
theorem m1161 : Jvm.Cond.methodLink "DrawnListModel" (106) yX12_lacks ∈ wg := List.mem_filter.mpr ⟨tb5 _ (List.mem_of_getElem? (i := 136) (by decide +kernel)), by decide +kernel⟩
theorem m1163 : Jvm.Cond.instanceMethod yX12_lacks ∈ wg := List.mem_filter.mpr ⟨tb5 _ (List.mem_of_getElem? (i := 138) (by decide +kernel)), by decide +kernel⟩
theorem m1164 : Jvm.Cond.code yX12_lacks prog_14_method_9_code (4) (Option.some Jvm.ClassFile.FieldType.int) ∈ wg := List.mem_filter.mpr ⟨tb5 _ (List.mem_of_getElem? (i := 139) (by decide +kernel)), by decide +kernel⟩
theorem m1165 : Jvm.Cond.methodLink "DrawnListModel" (110) yX12_low ∈ wg := List.mem_filter.mpr ⟨tb5 _ (List.mem_of_getElem? (i := 140) (by decide +kernel)), by decide +kernel⟩
theorem m1166 : Jvm.Cond.static yX12_low ∈ wg := List.mem_filter.mpr ⟨tb5 _ (List.mem_of_getElem? (i := 141) (by decide +kernel)), by decide +kernel⟩
theorem m1167 : Jvm.Cond.code yX12_low prog_14_method_10_code (2) (Option.some Jvm.ClassFile.FieldType.int) ∈ wg := List.mem_filter.mpr ⟨tb5 _ (List.mem_of_getElem? (i := 142) (by decide +kernel)), by decide +kernel⟩
theorem m1168 : Jvm.Cond.methodLink "DrawnListLaw" (140) yX12_get ∈ wg := List.mem_filter.mpr ⟨tb5 _ (List.mem_of_getElem? (i := 143) (by decide +kernel)), by decide +kernel⟩
theorem m1169 : Jvm.Cond.instanceMethod yX12_get ∈ wg := List.mem_filter.mpr ⟨tb5 _ (List.mem_of_getElem? (i := 144) (by decide +kernel)), by decide +kernel⟩
theorem m1170 : Jvm.Cond.selects "DrawnListModel" yX12_get yX12_get ∈ wg := List.mem_filter.mpr ⟨tb5 _ (List.mem_of_getElem? (i := 145) (by decide +kernel)), by decide +kernel⟩
theorem m1171 : Jvm.Cond.code yX12_get prog_14_method_12_code (4) (Option.some Jvm.ClassFile.FieldType.int) ∈ wg := List.mem_filter.mpr ⟨tb5 _ (List.mem_of_getElem? (i := 146) (by decide +kernel)), by decide +kernel⟩
theorem m1172 : Jvm.Cond.constant "DrawnListModel" (114) (-2147483648) ∈ wg := List.mem_filter.mpr ⟨tb5 _ (List.mem_of_getElem? (i := 147) (by decide +kernel)), by decide +kernel⟩
theorem m1173 : Jvm.Cond.methodLink "DrawnListLaw" (145) yX12_copy ∈ wg := List.mem_filter.mpr ⟨tb5 _ (List.mem_of_getElem? (i := 148) (by decide +kernel)), by decide +kernel⟩
theorem m1174 : Jvm.Cond.instanceMethod yX12_copy ∈ wg := List.mem_filter.mpr ⟨tb5 _ (List.mem_of_getElem? (i := 149) (by decide +kernel)), by decide +kernel⟩
theorem m1175 : Jvm.Cond.selects "DrawnListModel" yX12_copy yX12_copy ∈ wg := List.mem_filter.mpr ⟨tb5 _ (List.mem_of_getElem? (i := 150) (by decide +kernel)), by decide +kernel⟩
theorem m1176 : Jvm.Cond.code yX12_copy prog_14_method_13_code (7) (Option.some Jvm.ClassFile.FieldType.int) ∈ wg := List.mem_filter.mpr ⟨tb5 _ (List.mem_of_getElem? (i := 151) (by decide +kernel)), by decide +kernel⟩
theorem m1177 : Jvm.Cond.methodLink "DrawnListLaw" (17) yX12_name ∈ wg := List.mem_filter.mpr ⟨tb5 _ (List.mem_of_getElem? (i := 152) (by decide +kernel)), by decide +kernel⟩
theorem m1178 : Jvm.Cond.instanceMethod yX12_name ∈ wg := List.mem_filter.mpr ⟨tb5 _ (List.mem_of_getElem? (i := 153) (by decide +kernel)), by decide +kernel⟩
theorem m1179 : Jvm.Cond.selects "DrawnListModel" yX12_name yX12_name ∈ wg := List.mem_filter.mpr ⟨tb5 _ (List.mem_of_getElem? (i := 154) (by decide +kernel)), by decide +kernel⟩
theorem m1180 : Jvm.Cond.code yX12_name prog_14_method_16_code (5) (Option.some Jvm.ClassFile.FieldType.int) ∈ wg := List.mem_filter.mpr ⟨tb5 _ (List.mem_of_getElem? (i := 155) (by decide +kernel)), by decide +kernel⟩
theorem m1181 : Jvm.Cond.constantLong "DrawnListModel" (120) (7) ∈ wg := List.mem_filter.mpr ⟨tb5 _ (List.mem_of_getElem? (i := 156) (by decide +kernel)), by decide +kernel⟩
theorem m1182 : Jvm.Cond.constantLong "DrawnListModel" (122) (20) ∈ wg := List.mem_filter.mpr ⟨tb5 _ (List.mem_of_getElem? (i := 157) (by decide +kernel)), by decide +kernel⟩
theorem m1183 : Jvm.Cond.methodLink "DrawnListLaw" (22) yX12_read ∈ wg := List.mem_filter.mpr ⟨tb5 _ (List.mem_of_getElem? (i := 158) (by decide +kernel)), by decide +kernel⟩
theorem m1184 : Jvm.Cond.instanceMethod yX12_read ∈ wg := List.mem_filter.mpr ⟨tb5 _ (List.mem_of_getElem? (i := 159) (by decide +kernel)), by decide +kernel⟩
theorem m1185 : Jvm.Cond.selects "DrawnListModel" yX12_read yX12_read ∈ wg := List.mem_filter.mpr ⟨tb5 _ (List.mem_of_getElem? (i := 160) (by decide +kernel)), by decide +kernel⟩
theorem m1186 : Jvm.Cond.code yX12_read prog_14_method_17_code (5) (Option.some Jvm.ClassFile.FieldType.int) ∈ wg := List.mem_filter.mpr ⟨tb5 _ (List.mem_of_getElem? (i := 161) (by decide +kernel)), by decide +kernel⟩
theorem m1187 : Jvm.Cond.methodLink "DrawnListModel" (124) yX12_name ∈ wg := List.mem_filter.mpr ⟨tb5 _ (List.mem_of_getElem? (i := 162) (by decide +kernel)), by decide +kernel⟩
theorem m1188 : Jvm.Cond.methodLink "DrawnListLaw" (27) yX12_about ∈ wg := List.mem_filter.mpr ⟨tb5 _ (List.mem_of_getElem? (i := 163) (by decide +kernel)), by decide +kernel⟩
theorem m1189 : Jvm.Cond.instanceMethod yX12_about ∈ wg := List.mem_filter.mpr ⟨tb5 _ (List.mem_of_getElem? (i := 164) (by decide +kernel)), by decide +kernel⟩
theorem m1190 : Jvm.Cond.selects "DrawnListModel" yX12_about yX12_about ∈ wg := List.mem_filter.mpr ⟨tb5 _ (List.mem_of_getElem? (i := 165) (by decide +kernel)), by decide +kernel⟩
theorem m1191 : Jvm.Cond.code yX12_about prog_14_method_19_code (3) (Option.some Jvm.ClassFile.FieldType.int) ∈ wg := List.mem_filter.mpr ⟨tb5 _ (List.mem_of_getElem? (i := 166) (by decide +kernel)), by decide +kernel⟩
theorem m1192 : Jvm.Cond.methodLink "DrawnListModel" (131) yX12_isName ∈ wg := List.mem_filter.mpr ⟨tb5 _ (List.mem_of_getElem? (i := 167) (by decide +kernel)), by decide +kernel⟩
theorem m1194 : Jvm.Cond.instanceMethod yX12_isName ∈ wg := List.mem_filter.mpr ⟨tb5 _ (List.mem_of_getElem? (i := 169) (by decide +kernel)), by decide +kernel⟩
theorem m1195 : Jvm.Cond.code yX12_isName prog_14_method_14_code (2) (Option.some Jvm.ClassFile.FieldType.boolean) ∈ wg := List.mem_filter.mpr ⟨tb5 _ (List.mem_of_getElem? (i := 170) (by decide +kernel)), by decide +kernel⟩
theorem m1196 : Jvm.Cond.methodLink "DrawnListModel" (134) yX12_valueOf ∈ wg := List.mem_filter.mpr ⟨tb5 _ (List.mem_of_getElem? (i := 171) (by decide +kernel)), by decide +kernel⟩
theorem m1198 : Jvm.Cond.instanceMethod yX12_valueOf ∈ wg := List.mem_filter.mpr ⟨tb5 _ (List.mem_of_getElem? (i := 173) (by decide +kernel)), by decide +kernel⟩
theorem m1199 : Jvm.Cond.code yX12_valueOf prog_14_method_18_code (4) (Option.some Jvm.ClassFile.FieldType.int) ∈ wg := List.mem_filter.mpr ⟨tb5 _ (List.mem_of_getElem? (i := 174) (by decide +kernel)), by decide +kernel⟩
theorem m1200 : Jvm.Cond.methodLink "DrawnListLaw" (32) yX12_answer ∈ wg := List.mem_filter.mpr ⟨tb5 _ (List.mem_of_getElem? (i := 175) (by decide +kernel)), by decide +kernel⟩
theorem m1201 : Jvm.Cond.instanceMethod yX12_answer ∈ wg := List.mem_filter.mpr ⟨tb5 _ (List.mem_of_getElem? (i := 176) (by decide +kernel)), by decide +kernel⟩
theorem m1202 : Jvm.Cond.selects "DrawnListModel" yX12_answer yX12_answer ∈ wg := List.mem_filter.mpr ⟨tb5 _ (List.mem_of_getElem? (i := 177) (by decide +kernel)), by decide +kernel⟩
theorem m1203 : Jvm.Cond.code yX12_answer prog_14_method_20_code (4) (Option.some Jvm.ClassFile.FieldType.int) ∈ wg := List.mem_filter.mpr ⟨tb5 _ (List.mem_of_getElem? (i := 178) (by decide +kernel)), by decide +kernel⟩
theorem m1204 : Jvm.Cond.constantLong "DrawnListModel" (137) (-1) ∈ wg := List.mem_filter.mpr ⟨tb5 _ (List.mem_of_getElem? (i := 179) (by decide +kernel)), by decide +kernel⟩
theorem m1205 : Jvm.Cond.constantLong "DrawnListModel" (139) (10000) ∈ wg := List.mem_filter.mpr ⟨tb5 _ (List.mem_of_getElem? (i := 180) (by decide +kernel)), by decide +kernel⟩
theorem m1206 : Jvm.Cond.methodLink "DrawnListModel" (141) yX12_isDay ∈ wg := List.mem_filter.mpr ⟨tb5 _ (List.mem_of_getElem? (i := 181) (by decide +kernel)), by decide +kernel⟩
theorem m1207 : Jvm.Cond.static yX12_isDay ∈ wg := List.mem_filter.mpr ⟨tb5 _ (List.mem_of_getElem? (i := 182) (by decide +kernel)), by decide +kernel⟩
theorem m1208 : Jvm.Cond.code yX12_isDay prog_14_method_15_code (1) (Option.some Jvm.ClassFile.FieldType.boolean) ∈ wg := List.mem_filter.mpr ⟨tb5 _ (List.mem_of_getElem? (i := 183) (by decide +kernel)), by decide +kernel⟩
theorem m1209 : Jvm.Cond.constantLong "DrawnListModel" (118) (399) ∈ wg := List.mem_filter.mpr ⟨tb5 _ (List.mem_of_getElem? (i := 184) (by decide +kernel)), by decide +kernel⟩
theorem m1210 : Jvm.Cond.methodLink "DrawnListLaw" (36) yX12_asOf ∈ wg := List.mem_filter.mpr ⟨tb5 _ (List.mem_of_getElem? (i := 185) (by decide +kernel)), by decide +kernel⟩
theorem m1211 : Jvm.Cond.instanceMethod yX12_asOf ∈ wg := List.mem_filter.mpr ⟨tb5 _ (List.mem_of_getElem? (i := 186) (by decide +kernel)), by decide +kernel⟩
theorem m1212 : Jvm.Cond.selects "DrawnListModel" yX12_asOf yX12_asOf ∈ wg := List.mem_filter.mpr ⟨tb5 _ (List.mem_of_getElem? (i := 187) (by decide +kernel)), by decide +kernel⟩
theorem m1213 : Jvm.Cond.code yX12_asOf prog_14_method_21_code (3) (Option.some Jvm.ClassFile.FieldType.int) ∈ wg := List.mem_filter.mpr ⟨tb5 _ (List.mem_of_getElem? (i := 188) (by decide +kernel)), by decide +kernel⟩
theorem m1214 : Jvm.Cond.methodLink "DrawnListLaw" (40) yX12_many ∈ wg := List.mem_filter.mpr ⟨tb5 _ (List.mem_of_getElem? (i := 189) (by decide +kernel)), by decide +kernel⟩
theorem m1215 : Jvm.Cond.instanceMethod yX12_many ∈ wg := List.mem_filter.mpr ⟨tb5 _ (List.mem_of_getElem? (i := 190) (by decide +kernel)), by decide +kernel⟩
theorem m1216 : Jvm.Cond.selects "DrawnListModel" yX12_many yX12_many ∈ wg := List.mem_filter.mpr ⟨tb5 _ (List.mem_of_getElem? (i := 191) (by decide +kernel)), by decide +kernel⟩
theorem m1217 : Jvm.Cond.code yX12_many prog_14_method_23_code (4) (Option.some Jvm.ClassFile.FieldType.int) ∈ wg := List.mem_filter.mpr ⟨tb5 _ (List.mem_of_getElem? (i := 192) (by decide +kernel)), by decide +kernel⟩
theorem m1218 : Jvm.Cond.methodLink "DrawnListModel" (144) yX12_manyOf ∈ wg := List.mem_filter.mpr ⟨tb5 _ (List.mem_of_getElem? (i := 193) (by decide +kernel)), by decide +kernel⟩
theorem m1220 : Jvm.Cond.instanceMethod yX12_manyOf ∈ wg := List.mem_filter.mpr ⟨tb5 _ (List.mem_of_getElem? (i := 195) (by decide +kernel)), by decide +kernel⟩
theorem m1221 : Jvm.Cond.code yX12_manyOf prog_14_method_22_code (5) (Option.some Jvm.ClassFile.FieldType.int) ∈ wg := List.mem_filter.mpr ⟨tb5 _ (List.mem_of_getElem? (i := 196) (by decide +kernel)), by decide +kernel⟩
theorem m1222 : Jvm.Cond.methodLink "DrawnListLaw" (44) yX12_type ∈ wg := List.mem_filter.mpr ⟨tb5 _ (List.mem_of_getElem? (i := 197) (by decide +kernel)), by decide +kernel⟩
theorem m1223 : Jvm.Cond.instanceMethod yX12_type ∈ wg := List.mem_filter.mpr ⟨tb5 _ (List.mem_of_getElem? (i := 198) (by decide +kernel)), by decide +kernel⟩
theorem m1224 : Jvm.Cond.selects "DrawnListModel" yX12_type yX12_type ∈ wg := List.mem_filter.mpr ⟨tb5 _ (List.mem_of_getElem? (i := 199) (by decide +kernel)), by decide +kernel⟩
theorem m1225 : Jvm.Cond.code yX12_type prog_14_method_27_code (3) (Option.some Jvm.ClassFile.FieldType.int) ∈ wg := List.mem_filter.mpr ⟨tb5 _ (List.mem_of_getElem? (i := 200) (by decide +kernel)), by decide +kernel⟩
theorem m1226 : Jvm.Cond.methodLink "DrawnListModel" (147) yX12_isPlan ∈ wg := List.mem_filter.mpr ⟨tb5 _ (List.mem_of_getElem? (i := 201) (by decide +kernel)), by decide +kernel⟩
theorem m1227 : Jvm.Cond.static yX12_isPlan ∈ wg := List.mem_filter.mpr ⟨tb5 _ (List.mem_of_getElem? (i := 202) (by decide +kernel)), by decide +kernel⟩
theorem m1228 : Jvm.Cond.code yX12_isPlan prog_14_method_26_code (1) (Option.some Jvm.ClassFile.FieldType.boolean) ∈ wg := List.mem_filter.mpr ⟨tb5 _ (List.mem_of_getElem? (i := 203) (by decide +kernel)), by decide +kernel⟩
theorem m1229 : Jvm.Cond.constantLong "DrawnListModel" (150) (255) ∈ wg := List.mem_filter.mpr ⟨tb5 _ (List.mem_of_getElem? (i := 204) (by decide +kernel)), by decide +kernel⟩
theorem m1230 : Jvm.Cond.methodLink "DrawnListLaw" (48) yX12_wipe ∈ wg := List.mem_filter.mpr ⟨tb5 _ (List.mem_of_getElem? (i := 205) (by decide +kernel)), by decide +kernel⟩
theorem m1231 : Jvm.Cond.instanceMethod yX12_wipe ∈ wg := List.mem_filter.mpr ⟨tb5 _ (List.mem_of_getElem? (i := 206) (by decide +kernel)), by decide +kernel⟩
theorem m1232 : Jvm.Cond.selects "DrawnListModel" yX12_wipe yX12_wipe ∈ wg := List.mem_filter.mpr ⟨tb5 _ (List.mem_of_getElem? (i := 207) (by decide +kernel)), by decide +kernel⟩
theorem m1233 : Jvm.Cond.code yX12_wipe prog_14_method_28_code (3) (Option.some Jvm.ClassFile.FieldType.int) ∈ wg := List.mem_filter.mpr ⟨tb5 _ (List.mem_of_getElem? (i := 208) (by decide +kernel)), by decide +kernel⟩
theorem m1234 : Jvm.Cond.methodLink "DrawnListLaw" (52) yX12_fault ∈ wg := List.mem_filter.mpr ⟨tb5 _ (List.mem_of_getElem? (i := 209) (by decide +kernel)), by decide +kernel⟩
theorem m1235 : Jvm.Cond.instanceMethod yX12_fault ∈ wg := List.mem_filter.mpr ⟨tb5 _ (List.mem_of_getElem? (i := 210) (by decide +kernel)), by decide +kernel⟩
theorem m1236 : Jvm.Cond.selects "DrawnListModel" yX12_fault yX12_fault ∈ wg := List.mem_filter.mpr ⟨tb5 _ (List.mem_of_getElem? (i := 211) (by decide +kernel)), by decide +kernel⟩
theorem m1237 : Jvm.Cond.code yX12_fault prog_14_method_32_code (2) (Option.some Jvm.ClassFile.FieldType.int) ∈ wg := List.mem_filter.mpr ⟨tb5 _ (List.mem_of_getElem? (i := 212) (by decide +kernel)), by decide +kernel⟩
theorem m1238 : Jvm.Cond.methodLink "DrawnListModel" (173) yX12_reads ∈ wg := List.mem_filter.mpr ⟨tb5 _ (List.mem_of_getElem? (i := 213) (by decide +kernel)), by decide +kernel⟩
theorem m1240 : Jvm.Cond.instanceMethod yX12_reads ∈ wg := List.mem_filter.mpr ⟨tb5 _ (List.mem_of_getElem? (i := 215) (by decide +kernel)), by decide +kernel⟩
theorem m1241 : Jvm.Cond.code yX12_reads prog_14_method_31_code (4) (Option.some Jvm.ClassFile.FieldType.int) ∈ wg := List.mem_filter.mpr ⟨tb5 _ (List.mem_of_getElem? (i := 216) (by decide +kernel)), by decide +kernel⟩
theorem m1242 : Jvm.Cond.methodLink "DrawnListModel" (155) yX12_here ∈ wg := List.mem_filter.mpr ⟨tb5 _ (List.mem_of_getElem? (i := 217) (by decide +kernel)), by decide +kernel⟩
theorem m1244 : Jvm.Cond.instanceMethod yX12_here ∈ wg := List.mem_filter.mpr ⟨tb5 _ (List.mem_of_getElem? (i := 219) (by decide +kernel)), by decide +kernel⟩
theorem m1245 : Jvm.Cond.code yX12_here prog_14_method_29_code (2) (Option.some Jvm.ClassFile.FieldType.int) ∈ wg := List.mem_filter.mpr ⟨tb5 _ (List.mem_of_getElem? (i := 220) (by decide +kernel)), by decide +kernel⟩
theorem m1246 : Jvm.Cond.methodLink "DrawnListModel" (169) yX12_number ∈ wg := List.mem_filter.mpr ⟨tb5 _ (List.mem_of_getElem? (i := 221) (by decide +kernel)), by decide +kernel⟩
theorem m1248 : Jvm.Cond.instanceMethod yX12_number ∈ wg := List.mem_filter.mpr ⟨tb5 _ (List.mem_of_getElem? (i := 223) (by decide +kernel)), by decide +kernel⟩
theorem m1249 : Jvm.Cond.code yX12_number prog_14_method_30_code (5) (Option.some Jvm.ClassFile.FieldType.boolean) ∈ wg := List.mem_filter.mpr ⟨tb5 _ (List.mem_of_getElem? (i := 224) (by decide +kernel)), by decide +kernel⟩
theorem m1250 : Jvm.Cond.constantLong "DrawnListModel" (158) (48) ∈ wg := List.mem_filter.mpr ⟨tb5 _ (List.mem_of_getElem? (i := 225) (by decide +kernel)), by decide +kernel⟩
theorem m1251 : Jvm.Cond.constantLong "DrawnListModel" (160) (57) ∈ wg := List.mem_filter.mpr ⟨tb5 _ (List.mem_of_getElem? (i := 226) (by decide +kernel)), by decide +kernel⟩
theorem m1252 : Jvm.Cond.methodLink "DrawnListLaw" (56) yX12_can ∈ wg := List.mem_filter.mpr ⟨tb5 _ (List.mem_of_getElem? (i := 227) (by decide +kernel)), by decide +kernel⟩
theorem m1253 : Jvm.Cond.instanceMethod yX12_can ∈ wg := List.mem_filter.mpr ⟨tb5 _ (List.mem_of_getElem? (i := 228) (by decide +kernel)), by decide +kernel⟩
theorem m1254 : Jvm.Cond.selects "DrawnListModel" yX12_can yX12_can ∈ wg := List.mem_filter.mpr ⟨tb5 _ (List.mem_of_getElem? (i := 229) (by decide +kernel)), by decide +kernel⟩
theorem m1255 : Jvm.Cond.code yX12_can prog_14_method_34_code (2) (Option.some Jvm.ClassFile.FieldType.int) ∈ wg := List.mem_filter.mpr ⟨tb5 _ (List.mem_of_getElem? (i := 230) (by decide +kernel)), by decide +kernel⟩
theorem m1256 : Jvm.Cond.methodLink "DrawnListModel" (188) yX12_canBe ∈ wg := List.mem_filter.mpr ⟨tb5 _ (List.mem_of_getElem? (i := 231) (by decide +kernel)), by decide +kernel⟩
theorem m1258 : Jvm.Cond.instanceMethod yX12_canBe ∈ wg := List.mem_filter.mpr ⟨tb5 _ (List.mem_of_getElem? (i := 233) (by decide +kernel)), by decide +kernel⟩
theorem m1259 : Jvm.Cond.code yX12_canBe prog_14_method_33_code (5) (Option.some Jvm.ClassFile.FieldType.boolean) ∈ wg := List.mem_filter.mpr ⟨tb5 _ (List.mem_of_getElem? (i := 234) (by decide +kernel)), by decide +kernel⟩
theorem m1260 : Jvm.Cond.constantLong "DrawnListModel" (176) (30) ∈ wg := List.mem_filter.mpr ⟨tb5 _ (List.mem_of_getElem? (i := 235) (by decide +kernel)), by decide +kernel⟩
theorem m1261 : Jvm.Cond.methodLink "DrawnListModel" (178) yX12_allSizes ∈ wg := List.mem_filter.mpr ⟨tb5 _ (List.mem_of_getElem? (i := 236) (by decide +kernel)), by decide +kernel⟩
theorem m1263 : Jvm.Cond.instanceMethod yX12_allSizes ∈ wg := List.mem_filter.mpr ⟨tb5 _ (List.mem_of_getElem? (i := 238) (by decide +kernel)), by decide +kernel⟩
theorem m1264 : Jvm.Cond.code yX12_allSizes prog_14_method_25_code (3) (Option.some Jvm.ClassFile.FieldType.int) ∈ wg := List.mem_filter.mpr ⟨tb5 _ (List.mem_of_getElem? (i := 239) (by decide +kernel)), by decide +kernel⟩
theorem m1265 : Jvm.Cond.methodLink "DrawnListModel" (185) yX12_clustersNow ∈ wg := List.mem_filter.mpr ⟨tb6 _ (List.mem_of_getElem? (i := 0) (by decide +kernel)), by decide +kernel⟩
theorem m1267 : Jvm.Cond.instanceMethod yX12_clustersNow ∈ wg := List.mem_filter.mpr ⟨tb6 _ (List.mem_of_getElem? (i := 2) (by decide +kernel)), by decide +kernel⟩
theorem m1268 : Jvm.Cond.code yX12_clustersNow prog_14_method_24_code (3) (Option.some Jvm.ClassFile.FieldType.int) ∈ wg := List.mem_filter.mpr ⟨tb6 _ (List.mem_of_getElem? (i := 3) (by decide +kernel)), by decide +kernel⟩
theorem m1269 : Jvm.Cond.methodLink "DrawnListLaw" (61) yX12_draws ∈ wg := List.mem_filter.mpr ⟨tb6 _ (List.mem_of_getElem? (i := 4) (by decide +kernel)), by decide +kernel⟩
theorem m1270 : Jvm.Cond.instanceMethod yX12_draws ∈ wg := List.mem_filter.mpr ⟨tb6 _ (List.mem_of_getElem? (i := 5) (by decide +kernel)), by decide +kernel⟩
theorem m1271 : Jvm.Cond.selects "DrawnListModel" yX12_draws yX12_draws ∈ wg := List.mem_filter.mpr ⟨tb6 _ (List.mem_of_getElem? (i := 6) (by decide +kernel)), by decide +kernel⟩
theorem m1272 : Jvm.Cond.code yX12_draws prog_14_method_38_code (2) (Option.some Jvm.ClassFile.FieldType.long) ∈ wg := List.mem_filter.mpr ⟨tb6 _ (List.mem_of_getElem? (i := 7) (by decide +kernel)), by decide +kernel⟩
theorem m1273 : Jvm.Cond.methodLink "DrawnListModel" (198) yX12_no ∈ wg := List.mem_filter.mpr ⟨tb6 _ (List.mem_of_getElem? (i := 8) (by decide +kernel)), by decide +kernel⟩
theorem m1274 : Jvm.Cond.static yX12_no ∈ wg := List.mem_filter.mpr ⟨tb6 _ (List.mem_of_getElem? (i := 9) (by decide +kernel)), by decide +kernel⟩
theorem m1275 : Jvm.Cond.code yX12_no prog_14_method_4_code (1) (Option.some Jvm.ClassFile.FieldType.long) ∈ wg := List.mem_filter.mpr ⟨tb6 _ (List.mem_of_getElem? (i := 10) (by decide +kernel)), by decide +kernel⟩
theorem m1276 : Jvm.Cond.constantLong "DrawnListModel" (85) (-9223372036854775808) ∈ wg := List.mem_filter.mpr ⟨tb6 _ (List.mem_of_getElem? (i := 11) (by decide +kernel)), by decide +kernel⟩
theorem m1277 : Jvm.Cond.methodLink "DrawnListModel" (202) yX12_drawsNow ∈ wg := List.mem_filter.mpr ⟨tb6 _ (List.mem_of_getElem? (i := 12) (by decide +kernel)), by decide +kernel⟩
theorem m1279 : Jvm.Cond.instanceMethod yX12_drawsNow ∈ wg := List.mem_filter.mpr ⟨tb6 _ (List.mem_of_getElem? (i := 14) (by decide +kernel)), by decide +kernel⟩
theorem m1280 : Jvm.Cond.code yX12_drawsNow prog_14_method_37_code (4) (Option.some Jvm.ClassFile.FieldType.long) ∈ wg := List.mem_filter.mpr ⟨tb6 _ (List.mem_of_getElem? (i := 15) (by decide +kernel)), by decide +kernel⟩
theorem m1281 : Jvm.Cond.methodLink "DrawnListModel" (191) yX12_over ∈ wg := List.mem_filter.mpr ⟨tb6 _ (List.mem_of_getElem? (i := 16) (by decide +kernel)), by decide +kernel⟩
theorem m1282 : Jvm.Cond.static yX12_over ∈ wg := List.mem_filter.mpr ⟨tb6 _ (List.mem_of_getElem? (i := 17) (by decide +kernel)), by decide +kernel⟩
theorem m1283 : Jvm.Cond.code yX12_over prog_14_method_35_code (5) (Option.some Jvm.ClassFile.FieldType.long) ∈ wg := List.mem_filter.mpr ⟨tb6 _ (List.mem_of_getElem? (i := 18) (by decide +kernel)), by decide +kernel⟩
theorem m1284 : Jvm.Cond.methodLink "DrawnListModel" (195) yX12_ofCluster ∈ wg := List.mem_filter.mpr ⟨tb6 _ (List.mem_of_getElem? (i := 19) (by decide +kernel)), by decide +kernel⟩
theorem m1286 : Jvm.Cond.instanceMethod yX12_ofCluster ∈ wg := List.mem_filter.mpr ⟨tb6 _ (List.mem_of_getElem? (i := 21) (by decide +kernel)), by decide +kernel⟩
theorem m1287 : Jvm.Cond.code yX12_ofCluster prog_14_method_36_code (3) (Option.some Jvm.ClassFile.FieldType.int) ∈ wg := List.mem_filter.mpr ⟨tb6 _ (List.mem_of_getElem? (i := 22) (by decide +kernel)), by decide +kernel⟩
theorem m1288 : Jvm.Cond.methodLink "DrawnListLaw" (66) yX12_share ∈ wg := List.mem_filter.mpr ⟨tb6 _ (List.mem_of_getElem? (i := 23) (by decide +kernel)), by decide +kernel⟩
theorem m1289 : Jvm.Cond.instanceMethod yX12_share ∈ wg := List.mem_filter.mpr ⟨tb6 _ (List.mem_of_getElem? (i := 24) (by decide +kernel)), by decide +kernel⟩
theorem m1290 : Jvm.Cond.selects "DrawnListModel" yX12_share yX12_share ∈ wg := List.mem_filter.mpr ⟨tb6 _ (List.mem_of_getElem? (i := 25) (by decide +kernel)), by decide +kernel⟩
theorem m1291 : Jvm.Cond.code yX12_share prog_14_method_46_code (4) (Option.some Jvm.ClassFile.FieldType.long) ∈ wg := List.mem_filter.mpr ⟨tb6 _ (List.mem_of_getElem? (i := 26) (by decide +kernel)), by decide +kernel⟩
theorem m1292 : Jvm.Cond.methodLink "DrawnListModel" (230) yX12_findShare ∈ wg := List.mem_filter.mpr ⟨tb6 _ (List.mem_of_getElem? (i := 27) (by decide +kernel)), by decide +kernel⟩
theorem m1294 : Jvm.Cond.instanceMethod yX12_findShare ∈ wg := List.mem_filter.mpr ⟨tb6 _ (List.mem_of_getElem? (i := 29) (by decide +kernel)), by decide +kernel⟩
theorem m1295 : Jvm.Cond.code yX12_findShare prog_14_method_45_code (3) (Option.none : Option Jvm.ClassFile.FieldType) ∈ wg := List.mem_filter.mpr ⟨tb6 _ (List.mem_of_getElem? (i := 30) (by decide +kernel)), by decide +kernel⟩
theorem m1296 : Jvm.Cond.methodLink "DrawnListModel" (220) yX12_goesRound ∈ wg := List.mem_filter.mpr ⟨tb6 _ (List.mem_of_getElem? (i := 31) (by decide +kernel)), by decide +kernel⟩
theorem m1298 : Jvm.Cond.instanceMethod yX12_goesRound ∈ wg := List.mem_filter.mpr ⟨tb6 _ (List.mem_of_getElem? (i := 33) (by decide +kernel)), by decide +kernel⟩
theorem m1299 : Jvm.Cond.code yX12_goesRound prog_14_method_42_code (1) (Option.some Jvm.ClassFile.FieldType.boolean) ∈ wg := List.mem_filter.mpr ⟨tb6 _ (List.mem_of_getElem? (i := 34) (by decide +kernel)), by decide +kernel⟩
theorem m1300 : Jvm.Cond.methodLink "DrawnListModel" (224) yX12_waysOf ∈ wg := List.mem_filter.mpr ⟨tb6 _ (List.mem_of_getElem? (i := 35) (by decide +kernel)), by decide +kernel⟩
theorem m1302 : Jvm.Cond.instanceMethod yX12_waysOf ∈ wg := List.mem_filter.mpr ⟨tb6 _ (List.mem_of_getElem? (i := 37) (by decide +kernel)), by decide +kernel⟩
theorem m1303 : Jvm.Cond.code yX12_waysOf prog_14_method_44_code (6) (Option.some Jvm.ClassFile.FieldType.int) ∈ wg := List.mem_filter.mpr ⟨tb6 _ (List.mem_of_getElem? (i := 38) (by decide +kernel)), by decide +kernel⟩
theorem m1304 : Jvm.Cond.methodLink "DrawnListModel" (217) yX12_drawOf ∈ wg := List.mem_filter.mpr ⟨tb6 _ (List.mem_of_getElem? (i := 39) (by decide +kernel)), by decide +kernel⟩
theorem m1306 : Jvm.Cond.instanceMethod yX12_drawOf ∈ wg := List.mem_filter.mpr ⟨tb6 _ (List.mem_of_getElem? (i := 41) (by decide +kernel)), by decide +kernel⟩
theorem m1307 : Jvm.Cond.code yX12_drawOf prog_14_method_41_code (7) (Option.some Jvm.ClassFile.FieldType.int) ∈ wg := List.mem_filter.mpr ⟨tb6 _ (List.mem_of_getElem? (i := 42) (by decide +kernel)), by decide +kernel⟩
theorem m1308 : Jvm.Cond.methodLink "DrawnListModel" (226) yX12_becomes ∈ wg := List.mem_filter.mpr ⟨tb6 _ (List.mem_of_getElem? (i := 43) (by decide +kernel)), by decide +kernel⟩
theorem m1310 : Jvm.Cond.instanceMethod yX12_becomes ∈ wg := List.mem_filter.mpr ⟨tb6 _ (List.mem_of_getElem? (i := 45) (by decide +kernel)), by decide +kernel⟩
theorem m1311 : Jvm.Cond.code yX12_becomes prog_14_method_40_code (7) (Option.none : Option Jvm.ClassFile.FieldType) ∈ wg := List.mem_filter.mpr ⟨tb6 _ (List.mem_of_getElem? (i := 46) (by decide +kernel)), by decide +kernel⟩
theorem m1312 : Jvm.Cond.methodLink "DrawnListModel" (206) yX12_common ∈ wg := List.mem_filter.mpr ⟨tb6 _ (List.mem_of_getElem? (i := 47) (by decide +kernel)), by decide +kernel⟩
theorem m1313 : Jvm.Cond.static yX12_common ∈ wg := List.mem_filter.mpr ⟨tb6 _ (List.mem_of_getElem? (i := 48) (by decide +kernel)), by decide +kernel⟩
theorem m1314 : Jvm.Cond.code yX12_common prog_14_method_39_code (10) (Option.some Jvm.ClassFile.FieldType.long) ∈ wg := List.mem_filter.mpr ⟨tb6 _ (List.mem_of_getElem? (i := 49) (by decide +kernel)), by decide +kernel⟩
theorem m1315 : Jvm.Cond.methodLink "DrawnListLaw" (71) yX12_both ∈ wg := List.mem_filter.mpr ⟨tb6 _ (List.mem_of_getElem? (i := 50) (by decide +kernel)), by decide +kernel⟩
theorem m1316 : Jvm.Cond.instanceMethod yX12_both ∈ wg := List.mem_filter.mpr ⟨tb6 _ (List.mem_of_getElem? (i := 51) (by decide +kernel)), by decide +kernel⟩
theorem m1317 : Jvm.Cond.selects "DrawnListModel" yX12_both yX12_both ∈ wg := List.mem_filter.mpr ⟨tb6 _ (List.mem_of_getElem? (i := 52) (by decide +kernel)), by decide +kernel⟩
theorem m1318 : Jvm.Cond.code yX12_both prog_14_method_48_code (5) (Option.some Jvm.ClassFile.FieldType.long) ∈ wg := List.mem_filter.mpr ⟨tb6 _ (List.mem_of_getElem? (i := 53) (by decide +kernel)), by decide +kernel⟩
theorem m1319 : Jvm.Cond.methodLink "DrawnListModel" (237) yX12_findBoth ∈ wg := List.mem_filter.mpr ⟨tb6 _ (List.mem_of_getElem? (i := 54) (by decide +kernel)), by decide +kernel⟩
theorem m1321 : Jvm.Cond.instanceMethod yX12_findBoth ∈ wg := List.mem_filter.mpr ⟨tb6 _ (List.mem_of_getElem? (i := 56) (by decide +kernel)), by decide +kernel⟩
theorem m1322 : Jvm.Cond.code yX12_findBoth prog_14_method_47_code (11) (Option.none : Option Jvm.ClassFile.FieldType) ∈ wg := List.mem_filter.mpr ⟨tb6 _ (List.mem_of_getElem? (i := 57) (by decide +kernel)), by decide +kernel⟩
theorem m1323 : Jvm.Cond.methodLink "DrawnListModel" (234) yX12_waysWith ∈ wg := List.mem_filter.mpr ⟨tb6 _ (List.mem_of_getElem? (i := 58) (by decide +kernel)), by decide +kernel⟩
theorem m1325 : Jvm.Cond.instanceMethod yX12_waysWith ∈ wg := List.mem_filter.mpr ⟨tb6 _ (List.mem_of_getElem? (i := 60) (by decide +kernel)), by decide +kernel⟩
theorem m1326 : Jvm.Cond.code yX12_waysWith prog_14_method_43_code (5) (Option.some Jvm.ClassFile.FieldType.int) ∈ wg := List.mem_filter.mpr ⟨tb6 _ (List.mem_of_getElem? (i := 61) (by decide +kernel)), by decide +kernel⟩
theorem m1327 : Jvm.Cond.methodLink "DrawnListLaw" (75) yX12_width ∈ wg := List.mem_filter.mpr ⟨tb6 _ (List.mem_of_getElem? (i := 62) (by decide +kernel)), by decide +kernel⟩
theorem m1328 : Jvm.Cond.instanceMethod yX12_width ∈ wg := List.mem_filter.mpr ⟨tb6 _ (List.mem_of_getElem? (i := 63) (by decide +kernel)), by decide +kernel⟩
theorem m1329 : Jvm.Cond.selects "DrawnListModel" yX12_width yX12_width ∈ wg := List.mem_filter.mpr ⟨tb6 _ (List.mem_of_getElem? (i := 64) (by decide +kernel)), by decide +kernel⟩
theorem m1330 : Jvm.Cond.code yX12_width prog_14_method_51_code (7) (Option.some Jvm.ClassFile.FieldType.int) ∈ wg := List.mem_filter.mpr ⟨tb6 _ (List.mem_of_getElem? (i := 65) (by decide +kernel)), by decide +kernel⟩
theorem m1331 : Jvm.Cond.methodLink "DrawnListModel" (241) yX12_ofClusters ∈ wg := List.mem_filter.mpr ⟨tb6 _ (List.mem_of_getElem? (i := 66) (by decide +kernel)), by decide +kernel⟩
theorem m1333 : Jvm.Cond.instanceMethod yX12_ofClusters ∈ wg := List.mem_filter.mpr ⟨tb6 _ (List.mem_of_getElem? (i := 68) (by decide +kernel)), by decide +kernel⟩
theorem m1334 : Jvm.Cond.code yX12_ofClusters prog_14_method_50_code (8) (Option.some Jvm.ClassFile.FieldType.int) ∈ wg := List.mem_filter.mpr ⟨tb6 _ (List.mem_of_getElem? (i := 69) (by decide +kernel)), by decide +kernel⟩
theorem m1335 : Jvm.Cond.methodLink "DrawnListModel" (244) yX12_ones ∈ wg := List.mem_filter.mpr ⟨tb6 _ (List.mem_of_getElem? (i := 70) (by decide +kernel)), by decide +kernel⟩
theorem m1336 : Jvm.Cond.static yX12_ones ∈ wg := List.mem_filter.mpr ⟨tb6 _ (List.mem_of_getElem? (i := 71) (by decide +kernel)), by decide +kernel⟩
theorem m1337 : Jvm.Cond.code yX12_ones prog_14_method_49_code (3) (Option.some Jvm.ClassFile.FieldType.int) ∈ wg := List.mem_filter.mpr ⟨tb6 _ (List.mem_of_getElem? (i := 72) (by decide +kernel)), by decide +kernel⟩
theorem m1338 : Jvm.Cond.methodLink "DrawnListLaw" (79) yX12_lots ∈ wg := List.mem_filter.mpr ⟨tb6 _ (List.mem_of_getElem? (i := 73) (by decide +kernel)), by decide +kernel⟩
theorem m1339 : Jvm.Cond.instanceMethod yX12_lots ∈ wg := List.mem_filter.mpr ⟨tb6 _ (List.mem_of_getElem? (i := 74) (by decide +kernel)), by decide +kernel⟩
theorem m1340 : Jvm.Cond.selects "DrawnListModel" yX12_lots yX12_lots ∈ wg := List.mem_filter.mpr ⟨tb6 _ (List.mem_of_getElem? (i := 75) (by decide +kernel)), by decide +kernel⟩
theorem m1341 : Jvm.Cond.code yX12_lots prog_14_method_57_code (3) (Option.some Jvm.ClassFile.FieldType.int) ∈ wg := List.mem_filter.mpr ⟨tb6 _ (List.mem_of_getElem? (i := 76) (by decide +kernel)), by decide +kernel⟩
theorem m1342 : Jvm.Cond.methodLink "DrawnListModel" (263) yX12_lotsNow ∈ wg := List.mem_filter.mpr ⟨tb6 _ (List.mem_of_getElem? (i := 77) (by decide +kernel)), by decide +kernel⟩
theorem m1344 : Jvm.Cond.instanceMethod yX12_lotsNow ∈ wg := List.mem_filter.mpr ⟨tb6 _ (List.mem_of_getElem? (i := 79) (by decide +kernel)), by decide +kernel⟩
theorem m1345 : Jvm.Cond.code yX12_lotsNow prog_14_method_56_code (6) (Option.some Jvm.ClassFile.FieldType.int) ∈ wg := List.mem_filter.mpr ⟨tb6 _ (List.mem_of_getElem? (i := 80) (by decide +kernel)), by decide +kernel⟩
theorem m1346 : Jvm.Cond.methodLink "DrawnListModel" (251) yX12_lot ∈ wg := List.mem_filter.mpr ⟨tb6 _ (List.mem_of_getElem? (i := 81) (by decide +kernel)), by decide +kernel⟩
theorem m1348 : Jvm.Cond.instanceMethod yX12_lot ∈ wg := List.mem_filter.mpr ⟨tb6 _ (List.mem_of_getElem? (i := 83) (by decide +kernel)), by decide +kernel⟩
theorem m1349 : Jvm.Cond.code yX12_lot prog_14_method_52_code (2) (Option.some Jvm.ClassFile.FieldType.int) ∈ wg := List.mem_filter.mpr ⟨tb6 _ (List.mem_of_getElem? (i := 84) (by decide +kernel)), by decide +kernel⟩
theorem m1350 : Jvm.Cond.constant "DrawnListModel" (247) (1103515245) ∈ wg := List.mem_filter.mpr ⟨tb6 _ (List.mem_of_getElem? (i := 85) (by decide +kernel)), by decide +kernel⟩
theorem m1351 : Jvm.Cond.methodLink "DrawnListModel" (254) yX12_allBits ∈ wg := List.mem_filter.mpr ⟨tb6 _ (List.mem_of_getElem? (i := 86) (by decide +kernel)), by decide +kernel⟩
theorem m1353 : Jvm.Cond.instanceMethod yX12_allBits ∈ wg := List.mem_filter.mpr ⟨tb6 _ (List.mem_of_getElem? (i := 88) (by decide +kernel)), by decide +kernel⟩
theorem m1354 : Jvm.Cond.code yX12_allBits prog_14_method_55_code (3) (Option.some Jvm.ClassFile.FieldType.int) ∈ wg := List.mem_filter.mpr ⟨tb6 _ (List.mem_of_getElem? (i := 89) (by decide +kernel)), by decide +kernel⟩
theorem m1355 : Jvm.Cond.methodLink "DrawnListModel" (257) yX12_takes ∈ wg := List.mem_filter.mpr ⟨tb6 _ (List.mem_of_getElem? (i := 90) (by decide +kernel)), by decide +kernel⟩
theorem m1357 : Jvm.Cond.instanceMethod yX12_takes ∈ wg := List.mem_filter.mpr ⟨tb6 _ (List.mem_of_getElem? (i := 92) (by decide +kernel)), by decide +kernel⟩
theorem m1358 : Jvm.Cond.code yX12_takes prog_14_method_53_code (7) (Option.some Jvm.ClassFile.FieldType.int) ∈ wg := List.mem_filter.mpr ⟨tb6 _ (List.mem_of_getElem? (i := 93) (by decide +kernel)), by decide +kernel⟩
theorem m1359 : Jvm.Cond.methodLink "DrawnListModel" (260) yX12_bitsOf ∈ wg := List.mem_filter.mpr ⟨tb6 _ (List.mem_of_getElem? (i := 94) (by decide +kernel)), by decide +kernel⟩
theorem m1361 : Jvm.Cond.instanceMethod yX12_bitsOf ∈ wg := List.mem_filter.mpr ⟨tb6 _ (List.mem_of_getElem? (i := 96) (by decide +kernel)), by decide +kernel⟩
theorem m1362 : Jvm.Cond.code yX12_bitsOf prog_14_method_54_code (5) (Option.some Jvm.ClassFile.FieldType.int) ∈ wg := List.mem_filter.mpr ⟨tb6 _ (List.mem_of_getElem? (i := 97) (by decide +kernel)), by decide +kernel⟩
theorem m1363 : Jvm.Cond.methodLink "DrawnListLaw" (83) yX12_makes ∈ wg := List.mem_filter.mpr ⟨tb6 _ (List.mem_of_getElem? (i := 98) (by decide +kernel)), by decide +kernel⟩
theorem m1364 : Jvm.Cond.instanceMethod yX12_makes ∈ wg := List.mem_filter.mpr ⟨tb6 _ (List.mem_of_getElem? (i := 99) (by decide +kernel)), by decide +kernel⟩
theorem m1365 : Jvm.Cond.selects "DrawnListModel" yX12_makes yX12_makes ∈ wg := List.mem_filter.mpr ⟨tb6 _ (List.mem_of_getElem? (i := 100) (by decide +kernel)), by decide +kernel⟩
theorem m1366 : Jvm.Cond.code yX12_makes prog_14_method_60_code (3) (Option.some Jvm.ClassFile.FieldType.int) ∈ wg := List.mem_filter.mpr ⟨tb6 _ (List.mem_of_getElem? (i := 101) (by decide +kernel)), by decide +kernel⟩
theorem m1367 : Jvm.Cond.methodLink "DrawnListModel" (266) yX12_isDraw ∈ wg := List.mem_filter.mpr ⟨tb6 _ (List.mem_of_getElem? (i := 102) (by decide +kernel)), by decide +kernel⟩
theorem m1369 : Jvm.Cond.instanceMethod yX12_isDraw ∈ wg := List.mem_filter.mpr ⟨tb6 _ (List.mem_of_getElem? (i := 104) (by decide +kernel)), by decide +kernel⟩
theorem m1370 : Jvm.Cond.code yX12_isDraw prog_14_method_58_code (2) (Option.some Jvm.ClassFile.FieldType.boolean) ∈ wg := List.mem_filter.mpr ⟨tb6 _ (List.mem_of_getElem? (i := 105) (by decide +kernel)), by decide +kernel⟩
theorem m1371 : Jvm.Cond.methodLink "DrawnListModel" (269) yX12_makesIt ∈ wg := List.mem_filter.mpr ⟨tb6 _ (List.mem_of_getElem? (i := 106) (by decide +kernel)), by decide +kernel⟩
theorem m1373 : Jvm.Cond.instanceMethod yX12_makesIt ∈ wg := List.mem_filter.mpr ⟨tb6 _ (List.mem_of_getElem? (i := 108) (by decide +kernel)), by decide +kernel⟩
theorem m1374 : Jvm.Cond.code yX12_makesIt prog_14_method_59_code (6) (Option.some Jvm.ClassFile.FieldType.boolean) ∈ wg := List.mem_filter.mpr ⟨tb6 _ (List.mem_of_getElem? (i := 109) (by decide +kernel)), by decide +kernel⟩
theorem m1375 : Jvm.Cond.methodLink "DrawnListLaw" (87) yX12_sum ∈ wg := List.mem_filter.mpr ⟨tb6 _ (List.mem_of_getElem? (i := 110) (by decide +kernel)), by decide +kernel⟩
theorem m1376 : Jvm.Cond.instanceMethod yX12_sum ∈ wg := List.mem_filter.mpr ⟨tb6 _ (List.mem_of_getElem? (i := 111) (by decide +kernel)), by decide +kernel⟩
theorem m1377 : Jvm.Cond.selects "DrawnListModel" yX12_sum yX12_sum ∈ wg := List.mem_filter.mpr ⟨tb6 _ (List.mem_of_getElem? (i := 112) (by decide +kernel)), by decide +kernel⟩
theorem m1378 : Jvm.Cond.code yX12_sum prog_14_method_63_code (5) (Option.some Jvm.ClassFile.FieldType.long) ∈ wg := List.mem_filter.mpr ⟨tb6 _ (List.mem_of_getElem? (i := 113) (by decide +kernel)), by decide +kernel⟩
theorem m1379 : Jvm.Cond.methodLink "DrawnListModel" (278) yX12_without ∈ wg := List.mem_filter.mpr ⟨tb6 _ (List.mem_of_getElem? (i := 114) (by decide +kernel)), by decide +kernel⟩
theorem m1381 : Jvm.Cond.instanceMethod yX12_without ∈ wg := List.mem_filter.mpr ⟨tb6 _ (List.mem_of_getElem? (i := 116) (by decide +kernel)), by decide +kernel⟩
theorem m1382 : Jvm.Cond.code yX12_without prog_14_method_62_code (3) (Option.some Jvm.ClassFile.FieldType.int) ∈ wg := List.mem_filter.mpr ⟨tb6 _ (List.mem_of_getElem? (i := 117) (by decide +kernel)), by decide +kernel⟩
theorem m1383 : Jvm.Cond.methodLink "DrawnListModel" (281) yX12_findSum ∈ wg := List.mem_filter.mpr ⟨tb6 _ (List.mem_of_getElem? (i := 118) (by decide +kernel)), by decide +kernel⟩
theorem m1385 : Jvm.Cond.instanceMethod yX12_findSum ∈ wg := List.mem_filter.mpr ⟨tb6 _ (List.mem_of_getElem? (i := 120) (by decide +kernel)), by decide +kernel⟩
theorem m1386 : Jvm.Cond.code yX12_findSum prog_14_method_61_code (4) (Option.none : Option Jvm.ClassFile.FieldType) ∈ wg := List.mem_filter.mpr ⟨tb6 _ (List.mem_of_getElem? (i := 121) (by decide +kernel)), by decide +kernel⟩
theorem m1387 : Jvm.Cond.methodLink "DrawnListLaw" (91) yX12_silent ∈ wg := List.mem_filter.mpr ⟨tb6 _ (List.mem_of_getElem? (i := 122) (by decide +kernel)), by decide +kernel⟩
theorem m1388 : Jvm.Cond.instanceMethod yX12_silent ∈ wg := List.mem_filter.mpr ⟨tb6 _ (List.mem_of_getElem? (i := 123) (by decide +kernel)), by decide +kernel⟩
theorem m1389 : Jvm.Cond.selects "DrawnListModel" yX12_silent yX12_silent ∈ wg := List.mem_filter.mpr ⟨tb6 _ (List.mem_of_getElem? (i := 124) (by decide +kernel)), by decide +kernel⟩
theorem m1390 : Jvm.Cond.code yX12_silent prog_14_method_64_code (4) (Option.some Jvm.ClassFile.FieldType.int) ∈ wg := List.mem_filter.mpr ⟨tb6 _ (List.mem_of_getElem? (i := 125) (by decide +kernel)), by decide +kernel⟩
theorem m1391 : Jvm.Cond.methodLink "DrawnListLaw" (96) yX12_spread ∈ wg := List.mem_filter.mpr ⟨tb6 _ (List.mem_of_getElem? (i := 126) (by decide +kernel)), by decide +kernel⟩
theorem m1392 : Jvm.Cond.instanceMethod yX12_spread ∈ wg := List.mem_filter.mpr ⟨tb6 _ (List.mem_of_getElem? (i := 127) (by decide +kernel)), by decide +kernel⟩
theorem m1393 : Jvm.Cond.selects "DrawnListModel" yX12_spread yX12_spread ∈ wg := List.mem_filter.mpr ⟨tb6 _ (List.mem_of_getElem? (i := 128) (by decide +kernel)), by decide +kernel⟩
theorem m1394 : Jvm.Cond.code yX12_spread prog_14_method_67_code (3) (Option.some Jvm.ClassFile.FieldType.long) ∈ wg := List.mem_filter.mpr ⟨tb6 _ (List.mem_of_getElem? (i := 129) (by decide +kernel)), by decide +kernel⟩
theorem m1395 : Jvm.Cond.methodLink "DrawnListModel" (287) yX12_findSpread ∈ wg := List.mem_filter.mpr ⟨tb6 _ (List.mem_of_getElem? (i := 130) (by decide +kernel)), by decide +kernel⟩
theorem m1397 : Jvm.Cond.instanceMethod yX12_findSpread ∈ wg := List.mem_filter.mpr ⟨tb6 _ (List.mem_of_getElem? (i := 132) (by decide +kernel)), by decide +kernel⟩
theorem m1398 : Jvm.Cond.code yX12_findSpread prog_14_method_66_code (4) (Option.some Jvm.ClassFile.FieldType.boolean) ∈ wg := List.mem_filter.mpr ⟨tb6 _ (List.mem_of_getElem? (i := 133) (by decide +kernel)), by decide +kernel⟩
theorem m1399 : Jvm.Cond.methodLink "DrawnListModel" (284) yX12_spreads ∈ wg := List.mem_filter.mpr ⟨tb6 _ (List.mem_of_getElem? (i := 134) (by decide +kernel)), by decide +kernel⟩
theorem m1401 : Jvm.Cond.instanceMethod yX12_spreads ∈ wg := List.mem_filter.mpr ⟨tb6 _ (List.mem_of_getElem? (i := 136) (by decide +kernel)), by decide +kernel⟩
theorem m1402 : Jvm.Cond.code yX12_spreads prog_14_method_65_code (10) (Option.some Jvm.ClassFile.FieldType.boolean) ∈ wg := List.mem_filter.mpr ⟨tb6 _ (List.mem_of_getElem? (i := 137) (by decide +kernel)), by decide +kernel⟩
theorem m1403 : Jvm.Cond.methodLink "DrawnListLaw" (100) yX12_wider ∈ wg := List.mem_filter.mpr ⟨tb6 _ (List.mem_of_getElem? (i := 138) (by decide +kernel)), by decide +kernel⟩
theorem m1404 : Jvm.Cond.instanceMethod yX12_wider ∈ wg := List.mem_filter.mpr ⟨tb6 _ (List.mem_of_getElem? (i := 139) (by decide +kernel)), by decide +kernel⟩
theorem m1405 : Jvm.Cond.selects "DrawnListModel" yX12_wider yX12_wider ∈ wg := List.mem_filter.mpr ⟨tb6 _ (List.mem_of_getElem? (i := 140) (by decide +kernel)), by decide +kernel⟩
theorem m1406 : Jvm.Cond.code yX12_wider prog_14_method_68_code (18) (Option.some Jvm.ClassFile.FieldType.int) ∈ wg := List.mem_filter.mpr ⟨tb6 _ (List.mem_of_getElem? (i := 141) (by decide +kernel)), by decide +kernel⟩
theorem m1407 : Jvm.Cond.methodLink "DrawnListLaw" (104) yX12_edge ∈ wg := List.mem_filter.mpr ⟨tb6 _ (List.mem_of_getElem? (i := 142) (by decide +kernel)), by decide +kernel⟩
theorem m1408 : Jvm.Cond.instanceMethod yX12_edge ∈ wg := List.mem_filter.mpr ⟨tb6 _ (List.mem_of_getElem? (i := 143) (by decide +kernel)), by decide +kernel⟩
theorem m1409 : Jvm.Cond.selects "DrawnListModel" yX12_edge yX12_edge ∈ wg := List.mem_filter.mpr ⟨tb6 _ (List.mem_of_getElem? (i := 144) (by decide +kernel)), by decide +kernel⟩
theorem m1410 : Jvm.Cond.code yX12_edge prog_14_method_69_code (9) (Option.some Jvm.ClassFile.FieldType.long) ∈ wg := List.mem_filter.mpr ⟨tb6 _ (List.mem_of_getElem? (i := 145) (by decide +kernel)), by decide +kernel⟩
theorem m1411 : Jvm.Cond.methodLink "DrawnListLaw" (108) yX12_known ∈ wg := List.mem_filter.mpr ⟨tb6 _ (List.mem_of_getElem? (i := 146) (by decide +kernel)), by decide +kernel⟩
theorem m1412 : Jvm.Cond.instanceMethod yX12_known ∈ wg := List.mem_filter.mpr ⟨tb6 _ (List.mem_of_getElem? (i := 147) (by decide +kernel)), by decide +kernel⟩
theorem m1413 : Jvm.Cond.selects "DrawnListModel" yX12_known yX12_known ∈ wg := List.mem_filter.mpr ⟨tb6 _ (List.mem_of_getElem? (i := 148) (by decide +kernel)), by decide +kernel⟩
theorem m1414 : Jvm.Cond.code yX12_known prog_14_method_70_code (5) (Option.some Jvm.ClassFile.FieldType.int) ∈ wg := List.mem_filter.mpr ⟨tb6 _ (List.mem_of_getElem? (i := 149) (by decide +kernel)), by decide +kernel⟩
theorem m1415 : Jvm.Cond.constantLong "DrawnListModel" (290) (30000) ∈ wg := List.mem_filter.mpr ⟨tb6 _ (List.mem_of_getElem? (i := 150) (by decide +kernel)), by decide +kernel⟩
theorem m1416 : Jvm.Cond.methodLink "DrawnListLaw" (112) yX12_weight ∈ wg := List.mem_filter.mpr ⟨tb6 _ (List.mem_of_getElem? (i := 151) (by decide +kernel)), by decide +kernel⟩
theorem m1417 : Jvm.Cond.instanceMethod yX12_weight ∈ wg := List.mem_filter.mpr ⟨tb6 _ (List.mem_of_getElem? (i := 152) (by decide +kernel)), by decide +kernel⟩
theorem m1418 : Jvm.Cond.selects "DrawnListModel" yX12_weight yX12_weight ∈ wg := List.mem_filter.mpr ⟨tb6 _ (List.mem_of_getElem? (i := 153) (by decide +kernel)), by decide +kernel⟩
theorem m1419 : Jvm.Cond.code yX12_weight prog_14_method_75_code (6) (Option.some Jvm.ClassFile.FieldType.int) ∈ wg := List.mem_filter.mpr ⟨tb6 _ (List.mem_of_getElem? (i := 154) (by decide +kernel)), by decide +kernel⟩
theorem m1420 : Jvm.Cond.methodLink "DrawnListModel" (306) yX12_findWeights ∈ wg := List.mem_filter.mpr ⟨tb6 _ (List.mem_of_getElem? (i := 155) (by decide +kernel)), by decide +kernel⟩
theorem m1422 : Jvm.Cond.instanceMethod yX12_findWeights ∈ wg := List.mem_filter.mpr ⟨tb6 _ (List.mem_of_getElem? (i := 157) (by decide +kernel)), by decide +kernel⟩
theorem m1423 : Jvm.Cond.code yX12_findWeights prog_14_method_74_code (5) (Option.none : Option Jvm.ClassFile.FieldType) ∈ wg := List.mem_filter.mpr ⟨tb6 _ (List.mem_of_getElem? (i := 158) (by decide +kernel)), by decide +kernel⟩
theorem m1424 : Jvm.Cond.constantLong "DrawnListModel" (301) (1000) ∈ wg := List.mem_filter.mpr ⟨tb6 _ (List.mem_of_getElem? (i := 159) (by decide +kernel)), by decide +kernel⟩
theorem m1425 : Jvm.Cond.methodLink "DrawnListModel" (303) yX12_parts ∈ wg := List.mem_filter.mpr ⟨tb6 _ (List.mem_of_getElem? (i := 160) (by decide +kernel)), by decide +kernel⟩
theorem m1427 : Jvm.Cond.instanceMethod yX12_parts ∈ wg := List.mem_filter.mpr ⟨tb6 _ (List.mem_of_getElem? (i := 162) (by decide +kernel)), by decide +kernel⟩
theorem m1428 : Jvm.Cond.code yX12_parts prog_14_method_73_code (12) (Option.none : Option Jvm.ClassFile.FieldType) ∈ wg := List.mem_filter.mpr ⟨tb6 _ (List.mem_of_getElem? (i := 163) (by decide +kernel)), by decide +kernel⟩
theorem m1429 : Jvm.Cond.methodLink "DrawnListModel" (296) yX12_weightOf ∈ wg := List.mem_filter.mpr ⟨tb6 _ (List.mem_of_getElem? (i := 164) (by decide +kernel)), by decide +kernel⟩
theorem m1431 : Jvm.Cond.instanceMethod yX12_weightOf ∈ wg := List.mem_filter.mpr ⟨tb6 _ (List.mem_of_getElem? (i := 166) (by decide +kernel)), by decide +kernel⟩
theorem m1432 : Jvm.Cond.code yX12_weightOf prog_14_method_72_code (6) (Option.some Jvm.ClassFile.FieldType.long) ∈ wg := List.mem_filter.mpr ⟨tb6 _ (List.mem_of_getElem? (i := 167) (by decide +kernel)), by decide +kernel⟩
theorem m1433 : Jvm.Cond.methodLink "DrawnListModel" (292) yX12_isOf ∈ wg := List.mem_filter.mpr ⟨tb6 _ (List.mem_of_getElem? (i := 168) (by decide +kernel)), by decide +kernel⟩
theorem m1435 : Jvm.Cond.instanceMethod yX12_isOf ∈ wg := List.mem_filter.mpr ⟨tb6 _ (List.mem_of_getElem? (i := 170) (by decide +kernel)), by decide +kernel⟩
theorem m1436 : Jvm.Cond.code yX12_isOf prog_14_method_71_code (4) (Option.some Jvm.ClassFile.FieldType.boolean) ∈ wg := List.mem_filter.mpr ⟨tb6 _ (List.mem_of_getElem? (i := 171) (by decide +kernel)), by decide +kernel⟩
theorem m1437 : Jvm.Cond.constantLong "DrawnListModel" (299) (-2) ∈ wg := List.mem_filter.mpr ⟨tb6 _ (List.mem_of_getElem? (i := 172) (by decide +kernel)), by decide +kernel⟩
theorem m1438 : Jvm.Cond.methodLink "DrawnListLaw" (116) yX12_led ∈ wg := List.mem_filter.mpr ⟨tb6 _ (List.mem_of_getElem? (i := 173) (by decide +kernel)), by decide +kernel⟩
theorem m1439 : Jvm.Cond.instanceMethod yX12_led ∈ wg := List.mem_filter.mpr ⟨tb6 _ (List.mem_of_getElem? (i := 174) (by decide +kernel)), by decide +kernel⟩
theorem m1440 : Jvm.Cond.selects "DrawnListModel" yX12_led yX12_led ∈ wg := List.mem_filter.mpr ⟨tb6 _ (List.mem_of_getElem? (i := 175) (by decide +kernel)), by decide +kernel⟩
theorem m1441 : Jvm.Cond.code yX12_led prog_14_method_77_code (9) (Option.some Jvm.ClassFile.FieldType.int) ∈ wg := List.mem_filter.mpr ⟨tb6 _ (List.mem_of_getElem? (i := 176) (by decide +kernel)), by decide +kernel⟩
theorem m1442 : Jvm.Cond.methodLink "DrawnListModel" (309) yX12_amount ∈ wg := List.mem_filter.mpr ⟨tb6 _ (List.mem_of_getElem? (i := 177) (by decide +kernel)), by decide +kernel⟩
theorem m1443 : Jvm.Cond.static yX12_amount ∈ wg := List.mem_filter.mpr ⟨tb6 _ (List.mem_of_getElem? (i := 178) (by decide +kernel)), by decide +kernel⟩
theorem m1444 : Jvm.Cond.code yX12_amount prog_14_method_76_code (2) (Option.some Jvm.ClassFile.FieldType.long) ∈ wg := List.mem_filter.mpr ⟨tb6 _ (List.mem_of_getElem? (i := 179) (by decide +kernel)), by decide +kernel⟩
theorem m1445 : Jvm.Cond.methodLink "DrawnListLaw" (120) yX12_cost ∈ wg := List.mem_filter.mpr ⟨tb6 _ (List.mem_of_getElem? (i := 180) (by decide +kernel)), by decide +kernel⟩
theorem m1446 : Jvm.Cond.instanceMethod yX12_cost ∈ wg := List.mem_filter.mpr ⟨tb6 _ (List.mem_of_getElem? (i := 181) (by decide +kernel)), by decide +kernel⟩
theorem m1447 : Jvm.Cond.selects "DrawnListModel" yX12_cost yX12_cost ∈ wg := List.mem_filter.mpr ⟨tb6 _ (List.mem_of_getElem? (i := 182) (by decide +kernel)), by decide +kernel⟩
theorem m1448 : Jvm.Cond.code yX12_cost prog_14_method_78_code (4) (Option.some Jvm.ClassFile.FieldType.int) ∈ wg := List.mem_filter.mpr ⟨tb6 _ (List.mem_of_getElem? (i := 183) (by decide +kernel)), by decide +kernel⟩
theorem m1449 : Jvm.Cond.constantLong "DrawnListModel" (313) (100) ∈ wg := List.mem_filter.mpr ⟨tb6 _ (List.mem_of_getElem? (i := 184) (by decide +kernel)), by decide +kernel⟩
theorem m1450 : Jvm.Cond.methodLink "DrawnListLaw" (124) yX12_again ∈ wg := List.mem_filter.mpr ⟨tb6 _ (List.mem_of_getElem? (i := 185) (by decide +kernel)), by decide +kernel⟩
theorem m1451 : Jvm.Cond.instanceMethod yX12_again ∈ wg := List.mem_filter.mpr ⟨tb6 _ (List.mem_of_getElem? (i := 186) (by decide +kernel)), by decide +kernel⟩
theorem m1452 : Jvm.Cond.selects "DrawnListModel" yX12_again yX12_again ∈ wg := List.mem_filter.mpr ⟨tb6 _ (List.mem_of_getElem? (i := 187) (by decide +kernel)), by decide +kernel⟩
theorem m1453 : Jvm.Cond.code yX12_again prog_14_method_79_code (16) (Option.some Jvm.ClassFile.FieldType.int) ∈ wg := List.mem_filter.mpr ⟨tb6 _ (List.mem_of_getElem? (i := 188) (by decide +kernel)), by decide +kernel⟩
theorem m1454 : Jvm.Cond.constantLong "DrawnListModel" (315) (800) ∈ wg := List.mem_filter.mpr ⟨tb6 _ (List.mem_of_getElem? (i := 189) (by decide +kernel)), by decide +kernel⟩
theorem m1455 : Jvm.Cond.methodLink "DrawnListLaw" (149) yX12_write ∈ wg := List.mem_filter.mpr ⟨tb6 _ (List.mem_of_getElem? (i := 190) (by decide +kernel)), by decide +kernel⟩
theorem m1456 : Jvm.Cond.instanceMethod yX12_write ∈ wg := List.mem_filter.mpr ⟨tb6 _ (List.mem_of_getElem? (i := 191) (by decide +kernel)), by decide +kernel⟩
theorem m1457 : Jvm.Cond.selects "DrawnListModel" yX12_write yX12_write ∈ wg := List.mem_filter.mpr ⟨tb6 _ (List.mem_of_getElem? (i := 192) (by decide +kernel)), by decide +kernel⟩
theorem m1458 : Jvm.Cond.code yX12_write prog_14_method_80_code (5) (Option.some Jvm.ClassFile.FieldType.int) ∈ wg := List.mem_filter.mpr ⟨tb6 _ (List.mem_of_getElem? (i := 193) (by decide +kernel)), by decide +kernel⟩
theorem m1459 : Jvm.Cond.methodLink "DrawnListLaw" (153) yX12_count ∈ wg := List.mem_filter.mpr ⟨tb6 _ (List.mem_of_getElem? (i := 194) (by decide +kernel)), by decide +kernel⟩
theorem m1460 : Jvm.Cond.instanceMethod yX12_count ∈ wg := List.mem_filter.mpr ⟨tb6 _ (List.mem_of_getElem? (i := 195) (by decide +kernel)), by decide +kernel⟩
theorem m1461 : Jvm.Cond.selects "DrawnListModel" yX12_count yX12_count ∈ wg := List.mem_filter.mpr ⟨tb6 _ (List.mem_of_getElem? (i := 196) (by decide +kernel)), by decide +kernel⟩
theorem m1462 : Jvm.Cond.code yX12_count prog_14_method_81_code (4) (Option.some Jvm.ClassFile.FieldType.int) ∈ wg := List.mem_filter.mpr ⟨tb6 _ (List.mem_of_getElem? (i := 197) (by decide +kernel)), by decide +kernel⟩
theorem m1463 : Jvm.Cond.methodLink "DrawnListLaw" (158) yX12_digest ∈ wg := List.mem_filter.mpr ⟨tb6 _ (List.mem_of_getElem? (i := 198) (by decide +kernel)), by decide +kernel⟩
theorem m1464 : Jvm.Cond.instanceMethod yX12_digest ∈ wg := List.mem_filter.mpr ⟨tb6 _ (List.mem_of_getElem? (i := 199) (by decide +kernel)), by decide +kernel⟩
theorem m1465 : Jvm.Cond.selects "DrawnListModel" yX12_digest yX12_digest ∈ wg := List.mem_filter.mpr ⟨tb6 _ (List.mem_of_getElem? (i := 200) (by decide +kernel)), by decide +kernel⟩
theorem m1466 : Jvm.Cond.code yX12_digest prog_14_method_82_code (6) (Option.some Jvm.ClassFile.FieldType.long) ∈ wg := List.mem_filter.mpr ⟨tb6 _ (List.mem_of_getElem? (i := 201) (by decide +kernel)), by decide +kernel⟩
theorem m1467 : Jvm.Cond.constantLong "DrawnListModel" (317) (17) ∈ wg := List.mem_filter.mpr ⟨tb6 _ (List.mem_of_getElem? (i := 202) (by decide +kernel)), by decide +kernel⟩
theorem m1468 : Jvm.Cond.constantLong "DrawnListModel" (319) (31) ∈ wg := List.mem_filter.mpr ⟨tb6 _ (List.mem_of_getElem? (i := 203) (by decide +kernel)), by decide +kernel⟩
theorem m1469 : Jvm.Cond.methodLink "DrawnListModel" (321) yX12_count ∈ wg := List.mem_filter.mpr ⟨tb6 _ (List.mem_of_getElem? (i := 204) (by decide +kernel)), by decide +kernel⟩
theorem m1470 : Jvm.Cond.methodLink "DrawnListModel" (324) yX12_about ∈ wg := List.mem_filter.mpr ⟨tb6 _ (List.mem_of_getElem? (i := 205) (by decide +kernel)), by decide +kernel⟩
