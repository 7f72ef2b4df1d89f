theorem cd_L_13_X11_name_X11 : CDV RX11 RL 13 yX11_name cX11_name 5 (some .int) 4 := ⟨m446, m66, ⟨m443, m444, m445⟩, ⟨by decide, by decide, by decide +kernel⟩⟩
theorem cd_L_17_X12_name_X12 : CDV RX12 RL 17 yX12_name cX12_name 5 (some .int) 4 := ⟨m1180, m78, ⟨m1177, m1178, m1179⟩, ⟨by decide, by decide, by decide +kernel⟩⟩
theorem cd_L_18_X11_read_X11 : CDV RX11 RL 18 yX11_read cX11_read 6 (some .int) 1 := ⟨m461, m66, ⟨m458, m459, m460⟩, ⟨by decide, by decide, by decide +kernel⟩⟩
theorem cd_L_22_X12_read_X12 : CDV RX12 RL 22 yX12_read cX12_read 5 (some .int) 1 := ⟨m1186, m78, ⟨m1183, m1184, m1185⟩, ⟨by decide, by decide, by decide +kernel⟩⟩
theorem cd_L_23_X11_about_X11 : CDV RX11 RL 23 yX11_about cX11_about 3 (some .int) 2 := ⟨m473, m66, ⟨m470, m471, m472⟩, ⟨by decide, by decide, by decide +kernel⟩⟩
theorem cd_L_27_X12_about_X12 : CDV RX12 RL 27 yX12_about cX12_about 3 (some .int) 2 := ⟨m1191, m78, ⟨m1188, m1189, m1190⟩, ⟨by decide, by decide, by decide +kernel⟩⟩
theorem cd_L_28_X11_answer_X11 : CDV RX11 RL 28 yX11_answer cX11_answer 4 (some .int) 3 := ⟨m481, m66, ⟨m478, m479, m480⟩, ⟨by decide, by decide, by decide +kernel⟩⟩
theorem cd_L_32_X12_answer_X12 : CDV RX12 RL 32 yX12_answer cX12_answer 4 (some .int) 3 := ⟨m1203, m78, ⟨m1200, m1201, m1202⟩, ⟨by decide, by decide, by decide +kernel⟩⟩
theorem cd_L_33_X11_asOf_X11 : CDV RX11 RL 33 yX11_asOf cX11_asOf 2 (some .int) 1 := ⟨m501, m66, ⟨m498, m499, m500⟩, ⟨by decide, by decide, by decide +kernel⟩⟩
theorem cd_L_36_X12_asOf_X12 : CDV RX12 RL 36 yX12_asOf cX12_asOf 3 (some .int) 1 := ⟨m1213, m78, ⟨m1210, m1211, m1212⟩, ⟨by decide, by decide, by decide +kernel⟩⟩
theorem cd_L_37_X11_many_X11 : CDV RX11 RL 37 yX11_many cX11_many 3 (some .int) 2 := ⟨m509, m66, ⟨m506, m507, m508⟩, ⟨by decide, by decide, by decide +kernel⟩⟩
theorem cd_L_40_X12_many_X12 : CDV RX12 RL 40 yX12_many cX12_many 4 (some .int) 2 := ⟨m1217, m78, ⟨m1214, m1215, m1216⟩, ⟨by decide, by decide, by decide +kernel⟩⟩
theorem cd_L_41_X11_type_X11 : CDV RX11 RL 41 yX11_type cX11_type 3 (some .int) 2 := ⟨m519, m66, ⟨m516, m517, m518⟩, ⟨by decide, by decide, by decide +kernel⟩⟩
theorem cd_L_44_X12_type_X12 : CDV RX12 RL 44 yX12_type cX12_type 3 (some .int) 2 := ⟨m1225, m78, ⟨m1222, m1223, m1224⟩, ⟨by decide, by decide, by decide +kernel⟩⟩
theorem cd_L_45_X11_wipe_X11 : CDV RX11 RL 45 yX11_wipe cX11_wipe 2 (some .int) 1 := ⟨m547, m66, ⟨m544, m545, m546⟩, ⟨by decide, by decide, by decide +kernel⟩⟩
theorem cd_L_48_X12_wipe_X12 : CDV RX12 RL 48 yX12_wipe cX12_wipe 3 (some .int) 1 := ⟨m1233, m78, ⟨m1230, m1231, m1232⟩, ⟨by decide, by decide, by decide +kernel⟩⟩
theorem cd_L_49_X11_fault_X11 : CDV RX11 RL 49 yX11_fault cX11_fault 2 (some .int) 1 := ⟨m555, m66, ⟨m552, m553, m554⟩, ⟨by decide, by decide, by decide +kernel⟩⟩
theorem cd_L_52_X12_fault_X12 : CDV RX12 RL 52 yX12_fault cX12_fault 2 (some .int) 1 := ⟨m1237, m78, ⟨m1234, m1235, m1236⟩, ⟨by decide, by decide, by decide +kernel⟩⟩
theorem cd_L_53_X11_can_X11 : CDV RX11 RL 53 yX11_can cX11_can 2 (some .int) 1 := ⟨m559, m66, ⟨m556, m557, m558⟩, ⟨by decide, by decide, by decide +kernel⟩⟩
theorem cd_L_56_X12_can_X12 : CDV RX12 RL 56 yX12_can cX12_can 2 (some .int) 1 := ⟨m1255, m78, ⟨m1252, m1253, m1254⟩, ⟨by decide, by decide, by decide +kernel⟩⟩
theorem cd_L_57_X11_draws_X11 : CDV RX11 RL 57 yX11_draws cX11_draws 3 (some .long) 1 := ⟨m603, m66, ⟨m600, m601, m602⟩, ⟨by decide, by decide, by decide +kernel⟩⟩
theorem cd_L_61_X12_draws_X12 : CDV RX12 RL 61 yX12_draws cX12_draws 2 (some .long) 1 := ⟨m1272, m78, ⟨m1269, m1270, m1271⟩, ⟨by decide, by decide, by decide +kernel⟩⟩
theorem cd_L_62_X11_share_X11 : CDV RX11 RL 62 yX11_share cX11_share 5 (some .long) 3 := ⟨m640, m66, ⟨m637, m638, m639⟩, ⟨by decide, by decide, by decide +kernel⟩⟩
theorem cd_L_66_X12_share_X12 : CDV RX12 RL 66 yX12_share cX12_share 4 (some .long) 3 := ⟨m1291, m78, ⟨m1288, m1289, m1290⟩, ⟨by decide, by decide, by decide +kernel⟩⟩
theorem cd_L_67_X11_both_X11 : CDV RX11 RL 67 yX11_both cX11_both 6 (some .long) 4 := ⟨m684, m66, ⟨m681, m682, m683⟩, ⟨by decide, by decide, by decide +kernel⟩⟩
theorem cd_L_71_X12_both_X12 : CDV RX12 RL 71 yX12_both cX12_both 5 (some .long) 4 := ⟨m1318, m78, ⟨m1315, m1316, m1317⟩, ⟨by decide, by decide, by decide +kernel⟩⟩
theorem cd_L_72_X11_width_X11 : CDV RX11 RL 72 yX11_width cX11_width 4 (some .int) 2 := ⟨m712, m66, ⟨m709, m710, m711⟩, ⟨by decide, by decide, by decide +kernel⟩⟩
theorem cd_L_75_X12_width_X12 : CDV RX12 RL 75 yX12_width cX12_width 7 (some .int) 2 := ⟨m1330, m78, ⟨m1327, m1328, m1329⟩, ⟨by decide, by decide, by decide +kernel⟩⟩
theorem cd_L_76_X11_lots_X11 : CDV RX11 RL 76 yX11_lots cX11_lots 4 (some .int) 2 := ⟨m747, m66, ⟨m744, m745, m746⟩, ⟨by decide, by decide, by decide +kernel⟩⟩
theorem cd_L_79_X12_lots_X12 : CDV RX12 RL 79 yX12_lots cX12_lots 3 (some .int) 2 := ⟨m1341, m78, ⟨m1338, m1339, m1340⟩, ⟨by decide, by decide, by decide +kernel⟩⟩
theorem cd_L_80_X11_makes_X11 : CDV RX11 RL 80 yX11_makes cX11_makes 4 (some .int) 2 := ⟨m789, m66, ⟨m786, m787, m788⟩, ⟨by decide, by decide, by decide +kernel⟩⟩
theorem cd_L_83_X12_makes_X12 : CDV RX12 RL 83 yX12_makes cX12_makes 3 (some .int) 2 := ⟨m1366, m78, ⟨m1363, m1364, m1365⟩, ⟨by decide, by decide, by decide +kernel⟩⟩
theorem cd_L_84_X11_sum_X11 : CDV RX11 RL 84 yX11_sum cX11_sum 5 (some .long) 3 := ⟨m809, m66, ⟨m806, m807, m808⟩, ⟨by decide, by decide, by decide +kernel⟩⟩
theorem cd_L_87_X12_sum_X12 : CDV RX12 RL 87 yX12_sum cX12_sum 5 (some .long) 3 := ⟨m1378, m78, ⟨m1375, m1376, m1377⟩, ⟨by decide, by decide, by decide +kernel⟩⟩
theorem cd_L_88_X11_silent_X11 : CDV RX11 RL 88 yX11_silent cX11_silent 2 (some .int) 1 := ⟨m828, m66, ⟨m825, m826, m827⟩, ⟨by decide, by decide, by decide +kernel⟩⟩
theorem cd_L_91_X12_silent_X12 : CDV RX12 RL 91 yX12_silent cX12_silent 4 (some .int) 1 := ⟨m1390, m78, ⟨m1387, m1388, m1389⟩, ⟨by decide, by decide, by decide +kernel⟩⟩
theorem cd_L_92_X11_spread_X11 : CDV RX11 RL 92 yX11_spread cX11_spread 3 (some .long) 2 := ⟨m832, m66, ⟨m829, m830, m831⟩, ⟨by decide, by decide, by decide +kernel⟩⟩
theorem cd_L_96_X12_spread_X12 : CDV RX12 RL 96 yX12_spread cX12_spread 3 (some .long) 2 := ⟨m1394, m78, ⟨m1391, m1392, m1393⟩, ⟨by decide, by decide, by decide +kernel⟩⟩
theorem cd_L_97_X11_wider_X11 : CDV RX11 RL 97 yX11_wider cX11_wider 3 (some .int) 2 := ⟨m851, m66, ⟨m848, m849, m850⟩, ⟨by decide, by decide, by decide +kernel⟩⟩
theorem cd_L_100_X12_wider_X12 : CDV RX12 RL 100 yX12_wider cX12_wider 18 (some .int) 2 := ⟨m1406, m78, ⟨m1403, m1404, m1405⟩, ⟨by decide, by decide, by decide +kernel⟩⟩
theorem cd_L_101_X11_edge_X11 : CDV RX11 RL 101 yX11_edge cX11_edge 5 (some .long) 2 := ⟨m866, m66, ⟨m863, m864, m865⟩, ⟨by decide, by decide, by decide +kernel⟩⟩
theorem cd_L_104_X12_edge_X12 : CDV RX12 RL 104 yX12_edge cX12_edge 9 (some .long) 2 := ⟨m1410, m78, ⟨m1407, m1408, m1409⟩, ⟨by decide, by decide, by decide +kernel⟩⟩
theorem cd_L_105_X11_known_X11 : CDV RX11 RL 105 yX11_known cX11_known 4 (some .int) 3 := ⟨m878, m66, ⟨m875, m876, m877⟩, ⟨by decide, by decide, by decide +kernel⟩⟩
theorem cd_L_108_X12_known_X12 : CDV RX12 RL 108 yX12_known cX12_known 5 (some .int) 3 := ⟨m1414, m78, ⟨m1411, m1412, m1413⟩, ⟨by decide, by decide, by decide +kernel⟩⟩
theorem cd_L_109_X11_weight_X11 : CDV RX11 RL 109 yX11_weight cX11_weight 6 (some .int) 4 := ⟨m885, m66, ⟨m882, m883, m884⟩, ⟨by decide, by decide, by decide +kernel⟩⟩
theorem cd_L_112_X12_weight_X12 : CDV RX12 RL 112 yX12_weight cX12_weight 6 (some .int) 4 := ⟨m1419, m78, ⟨m1416, m1417, m1418⟩, ⟨by decide, by decide, by decide +kernel⟩⟩
theorem cd_L_113_X11_led_X11 : CDV RX11 RL 113 yX11_led cX11_led 6 (some .int) 4 := ⟨m917, m66, ⟨m914, m915, m916⟩, ⟨by decide, by decide, by decide +kernel⟩⟩
theorem cd_L_116_X12_led_X12 : CDV RX12 RL 116 yX12_led cX12_led 9 (some .int) 4 := ⟨m1441, m78, ⟨m1438, m1439, m1440⟩, ⟨by decide, by decide, by decide +kernel⟩⟩
theorem cd_L_117_X11_cost_X11 : CDV RX11 RL 117 yX11_cost cX11_cost 3 (some .int) 2 := ⟨m933, m66, ⟨m930, m931, m932⟩, ⟨by decide, by decide, by decide +kernel⟩⟩
theorem cd_L_120_X12_cost_X12 : CDV RX12 RL 120 yX12_cost cX12_cost 4 (some .int) 2 := ⟨m1448, m78, ⟨m1445, m1446, m1447⟩, ⟨by decide, by decide, by decide +kernel⟩⟩
theorem cd_L_121_X11_again_X11 : CDV RX11 RL 121 yX11_again cX11_again 6 (some .int) 4 := ⟨m937, m66, ⟨m934, m935, m936⟩, ⟨by decide, by decide, by decide +kernel⟩⟩
theorem cd_L_124_X12_again_X12 : CDV RX12 RL 124 yX12_again cX12_again 16 (some .int) 4 := ⟨m1453, m78, ⟨m1450, m1451, m1452⟩, ⟨by decide, by decide, by decide +kernel⟩⟩
theorem cd_L_125_X11_sheet_X11 : CDV RX11 RL 125 yX11_sheet cX11_sheet 4 (some .int) 3 := ⟨m955, m66, ⟨m952, m953, m954⟩, ⟨by decide, by decide, by decide +kernel⟩⟩
theorem cd_L_128_X12_sheet_X12 : CDV RX12 RL 128 yX12_sheet cX12_sheet 5 (some .int) 3 := ⟨m1140, m78, ⟨m1137, m1138, m1139⟩, ⟨by decide, by decide, by decide +kernel⟩⟩
theorem cd_L_129_X11_lose_X11 : CDV RX11 RL 129 yX11_lose cX11_lose 2 (some .int) 1 := ⟨m966, m66, ⟨m963, m964, m965⟩, ⟨by decide, by decide, by decide +kernel⟩⟩
theorem cd_L_132_X12_lose_X12 : CDV RX12 RL 132 yX12_lose cX12_lose 2 (some .int) 1 := ⟨m1156, m78, ⟨m1153, m1154, m1155⟩, ⟨by decide, by decide, by decide +kernel⟩⟩
theorem cd_L_133_X11_put_X11 : CDV RX11 RL 133 yX11_put cX11_put 6 (some .int) 4 := ⟨m970, m66, ⟨m967, m968, m969⟩, ⟨by decide, by decide, by decide +kernel⟩⟩
theorem cd_L_136_X12_put_X12 : CDV RX12 RL 136 yX12_put cX12_put 6 (some .int) 4 := ⟨m1160, m78, ⟨m1157, m1158, m1159⟩, ⟨by decide, by decide, by decide +kernel⟩⟩
theorem cd_L_137_X11_get_X11 : CDV RX11 RL 137 yX11_get cX11_get 5 (some .int) 3 := ⟨m983, m66, ⟨m980, m981, m982⟩, ⟨by decide, by decide, by decide +kernel⟩⟩
theorem cd_L_140_X12_get_X12 : CDV RX12 RL 140 yX12_get cX12_get 4 (some .int) 3 := ⟨m1171, m78, ⟨m1168, m1169, m1170⟩, ⟨by decide, by decide, by decide +kernel⟩⟩
theorem cd_L_141_X11_copy_X11 : CDV RX11 RL 141 yX11_copy cX11_copy 8 (some .int) 5 := ⟨m988, m66, ⟨m985, m986, m987⟩, ⟨by decide, by decide, by decide +kernel⟩⟩
theorem cd_L_145_X12_copy_X12 : CDV RX12 RL 145 yX12_copy cX12_copy 7 (some .int) 5 := ⟨m1176, m78, ⟨m1173, m1174, m1175⟩, ⟨by decide, by decide, by decide +kernel⟩⟩
theorem cd_L_146_X11_write_X11 : CDV RX11 RL 146 yX11_write cX11_write 6 (some .int) 2 := ⟨m999, m66, ⟨m996, m997, m998⟩, ⟨by decide, by decide, by decide +kernel⟩⟩
theorem cd_L_149_X12_write_X12 : CDV RX12 RL 149 yX12_write cX12_write 5 (some .int) 2 := ⟨m1458, m78, ⟨m1455, m1456, m1457⟩, ⟨by decide, by decide, by decide +kernel⟩⟩
theorem cd_L_150_X11_count_X11 : CDV RX11 RL 150 yX11_count cX11_count 2 (some .int) 1 := ⟨m1003, m66, ⟨m1000, m1001, m1002⟩, ⟨by decide, by decide, by decide +kernel⟩⟩
theorem cd_L_153_X12_count_X12 : CDV RX12 RL 153 yX12_count cX12_count 4 (some .int) 1 := ⟨m1462, m78, ⟨m1459, m1460, m1461⟩, ⟨by decide, by decide, by decide +kernel⟩⟩
theorem cd_L_154_X11_digest_X11 : CDV RX11 RL 154 yX11_digest cX11_digest 5 (some .long) 0 := ⟨m1007, m66, ⟨m1004, m1005, m1006⟩, ⟨by decide, by decide, by decide +kernel⟩⟩
theorem cd_L_158_X12_digest_X12 : CDV RX12 RL 158 yX12_digest cX12_digest 6 (some .long) 0 := ⟨m1466, m78, ⟨m1463, m1464, m1465⟩, ⟨by decide, by decide, by decide +kernel⟩⟩
/-- what is owed of the pure side: a relation that every call keeps, with equal answers -/
def Sim (F : Nat) (Rel : Mem → Mem → Prop) : Prop :=
  (∀ (μ ρ : Mem) (a1 a2 a3 a4 : Int32), Rel μ ρ → ∃ (r : Int32) (μ2 ρ2 : Mem), f_X11_name F μ a1 a2 a3 a4 = some (r, μ2) ∧ f_X12_name F ρ a1 a2 a3 a4 = some (r, ρ2) ∧ Rel μ2 ρ2) ∧
  (∀ (μ ρ : Mem) (a1 : Int32), Rel μ ρ → ∃ (r : Int32) (μ2 ρ2 : Mem), f_X11_read F μ a1 = some (r, μ2) ∧ f_X12_read F ρ a1 = some (r, ρ2) ∧ Rel μ2 ρ2) ∧
  (∀ (μ ρ : Mem) (a1 a2 : Int32), Rel μ ρ → ∃ (r : Int32) (μ2 ρ2 : Mem), f_X11_about F μ a1 a2 = some (r, μ2) ∧ f_X12_about F ρ a1 a2 = some (r, ρ2) ∧ Rel μ2 ρ2) ∧
  (∀ (μ ρ : Mem) (a1 a2 a3 : Int32), Rel μ ρ → ∃ (r : Int32) (μ2 ρ2 : Mem), f_X11_answer F μ a1 a2 a3 = some (r, μ2) ∧ f_X12_answer F ρ a1 a2 a3 = some (r, ρ2) ∧ Rel μ2 ρ2) ∧
  (∀ (μ ρ : Mem) (a1 : Int32), Rel μ ρ → ∃ (r : Int32) (μ2 ρ2 : Mem), f_X11_asOf F μ a1 = some (r, μ2) ∧ f_X12_asOf F ρ a1 = some (r, ρ2) ∧ Rel μ2 ρ2) ∧
  (∀ (μ ρ : Mem) (a1 a2 : Int32), Rel μ ρ → ∃ (r : Int32) (μ2 ρ2 : Mem), f_X11_many F μ a1 a2 = some (r, μ2) ∧ f_X12_many F ρ a1 a2 = some (r, ρ2) ∧ Rel μ2 ρ2) ∧
  (∀ (μ ρ : Mem) (a1 a2 : Int32), Rel μ ρ → ∃ (r : Int32) (μ2 ρ2 : Mem), f_X11_type F μ a1 a2 = some (r, μ2) ∧ f_X12_type F ρ a1 a2 = some (r, ρ2) ∧ Rel μ2 ρ2) ∧
  (∀ (μ ρ : Mem) (a1 : Int32), Rel μ ρ → ∃ (r : Int32) (μ2 ρ2 : Mem), f_X11_wipe F μ a1 = some (r, μ2) ∧ f_X12_wipe F ρ a1 = some (r, ρ2) ∧ Rel μ2 ρ2) ∧
  (∀ (μ ρ : Mem) (a1 : Int32), Rel μ ρ → ∃ (r : Int32) (μ2 ρ2 : Mem), f_X11_fault F μ a1 = some (r, μ2) ∧ f_X12_fault F ρ a1 = some (r, ρ2) ∧ Rel μ2 ρ2) ∧
  (∀ (μ ρ : Mem) (a1 : Int32), Rel μ ρ → ∃ (r : Int32) (μ2 ρ2 : Mem), f_X11_can F μ a1 = some (r, μ2) ∧ f_X12_can F ρ a1 = some (r, ρ2) ∧ Rel μ2 ρ2) ∧
  (∀ (μ ρ : Mem) (a1 : Int32), Rel μ ρ → ∃ (r : Int64) (μ2 ρ2 : Mem), f_X11_draws F μ a1 = some (r, μ2) ∧ f_X12_draws F ρ a1 = some (r, ρ2) ∧ Rel μ2 ρ2) ∧
  (∀ (μ ρ : Mem) (a1 a2 a3 : Int32), Rel μ ρ → ∃ (r : Int64) (μ2 ρ2 : Mem), f_X11_share F μ a1 a2 a3 = some (r, μ2) ∧ f_X12_share F ρ a1 a2 a3 = some (r, ρ2) ∧ Rel μ2 ρ2) ∧
  (∀ (μ ρ : Mem) (a1 a2 a3 a4 : Int32), Rel μ ρ → ∃ (r : Int64) (μ2 ρ2 : Mem), f_X11_both F μ a1 a2 a3 a4 = some (r, μ2) ∧ f_X12_both F ρ a1 a2 a3 a4 = some (r, ρ2) ∧ Rel μ2 ρ2) ∧
  (∀ (μ ρ : Mem) (a1 a2 : Int32), Rel μ ρ → ∃ (r : Int32) (μ2 ρ2 : Mem), f_X11_width F μ a1 a2 = some (r, μ2) ∧ f_X12_width F ρ a1 a2 = some (r, ρ2) ∧ Rel μ2 ρ2) ∧
  (∀ (μ ρ : Mem) (a1 a2 : Int32), Rel μ ρ → ∃ (r : Int32) (μ2 ρ2 : Mem), f_X11_lots F μ a1 a2 = some (r, μ2) ∧ f_X12_lots F ρ a1 a2 = some (r, ρ2) ∧ Rel μ2 ρ2) ∧
  (∀ (μ ρ : Mem) (a1 a2 : Int32), Rel μ ρ → ∃ (r : Int32) (μ2 ρ2 : Mem), f_X11_makes F μ a1 a2 = some (r, μ2) ∧ f_X12_makes F ρ a1 a2 = some (r, ρ2) ∧ Rel μ2 ρ2) ∧
  (∀ (μ ρ : Mem) (a1 a2 a3 : Int32), Rel μ ρ → ∃ (r : Int64) (μ2 ρ2 : Mem), f_X11_sum F μ a1 a2 a3 = some (r, μ2) ∧ f_X12_sum F ρ a1 a2 a3 = some (r, ρ2) ∧ Rel μ2 ρ2) ∧
  (∀ (μ ρ : Mem) (a1 : Int32), Rel μ ρ → ∃ (r : Int32) (μ2 ρ2 : Mem), f_X11_silent F μ a1 = some (r, μ2) ∧ f_X12_silent F ρ a1 = some (r, ρ2) ∧ Rel μ2 ρ2) ∧
  (∀ (μ ρ : Mem) (a1 a2 : Int32), Rel μ ρ → ∃ (r : Int64) (μ2 ρ2 : Mem), f_X11_spread F μ a1 a2 = some (r, μ2) ∧ f_X12_spread F ρ a1 a2 = some (r, ρ2) ∧ Rel μ2 ρ2) ∧
  (∀ (μ ρ : Mem) (a1 a2 : Int32), Rel μ ρ → ∃ (r : Int32) (μ2 ρ2 : Mem), f_X11_wider F μ a1 a2 = some (r, μ2) ∧ f_X12_wider F ρ a1 a2 = some (r, ρ2) ∧ Rel μ2 ρ2) ∧
  (∀ (μ ρ : Mem) (a1 a2 : Int32), Rel μ ρ → ∃ (r : Int64) (μ2 ρ2 : Mem), f_X11_edge F μ a1 a2 = some (r, μ2) ∧ f_X12_edge F ρ a1 a2 = some (r, ρ2) ∧ Rel μ2 ρ2) ∧
  (∀ (μ ρ : Mem) (a1 a2 a3 : Int32), Rel μ ρ → ∃ (r : Int32) (μ2 ρ2 : Mem), f_X11_known F μ a1 a2 a3 = some (r, μ2) ∧ f_X12_known F ρ a1 a2 a3 = some (r, ρ2) ∧ Rel μ2 ρ2) ∧
  (∀ (μ ρ : Mem) (a1 a2 a3 a4 : Int32), Rel μ ρ → ∃ (r : Int32) (μ2 ρ2 : Mem), f_X11_weight F μ a1 a2 a3 a4 = some (r, μ2) ∧ f_X12_weight F ρ a1 a2 a3 a4 = some (r, ρ2) ∧ Rel μ2 ρ2) ∧
  (∀ (μ ρ : Mem) (a1 a2 a3 a4 : Int32), Rel μ ρ → ∃ (r : Int32) (μ2 ρ2 : Mem), f_X11_led F μ a1 a2 a3 a4 = some (r, μ2) ∧ f_X12_led F ρ a1 a2 a3 a4 = some (r, ρ2) ∧ Rel μ2 ρ2) ∧
  (∀ (μ ρ : Mem) (a1 a2 : Int32), Rel μ ρ → ∃ (r : Int32) (μ2 ρ2 : Mem), f_X11_cost F μ a1 a2 = some (r, μ2) ∧ f_X12_cost F ρ a1 a2 = some (r, ρ2) ∧ Rel μ2 ρ2) ∧
  (∀ (μ ρ : Mem) (a1 a2 a3 a4 : Int32), Rel μ ρ → ∃ (r : Int32) (μ2 ρ2 : Mem), f_X11_again F μ a1 a2 a3 a4 = some (r, μ2) ∧ f_X12_again F ρ a1 a2 a3 a4 = some (r, ρ2) ∧ Rel μ2 ρ2) ∧
  (∀ (μ ρ : Mem) (a1 a2 a3 : Int32), Rel μ ρ → ∃ (r : Int32) (μ2 ρ2 : Mem), f_X11_sheet F μ a1 a2 a3 = some (r, μ2) ∧ f_X12_sheet F ρ a1 a2 a3 = some (r, ρ2) ∧ Rel μ2 ρ2) ∧
  (∀ (μ ρ : Mem) (a1 : Int32), Rel μ ρ → ∃ (r : Int32) (μ2 ρ2 : Mem), f_X11_lose F μ a1 = some (r, μ2) ∧ f_X12_lose F ρ a1 = some (r, ρ2) ∧ Rel μ2 ρ2) ∧
  (∀ (μ ρ : Mem) (a1 a2 a3 a4 : Int32), Rel μ ρ → ∃ (r : Int32) (μ2 ρ2 : Mem), f_X11_put F μ a1 a2 a3 a4 = some (r, μ2) ∧ f_X12_put F ρ a1 a2 a3 a4 = some (r, ρ2) ∧ Rel μ2 ρ2) ∧
  (∀ (μ ρ : Mem) (a1 a2 a3 : Int32), Rel μ ρ → ∃ (r : Int32) (μ2 ρ2 : Mem), f_X11_get F μ a1 a2 a3 = some (r, μ2) ∧ f_X12_get F ρ a1 a2 a3 = some (r, ρ2) ∧ Rel μ2 ρ2) ∧
  (∀ (μ ρ : Mem) (a1 a2 a3 a4 a5 : Int32), Rel μ ρ → ∃ (r : Int32) (μ2 ρ2 : Mem), f_X11_copy F μ a1 a2 a3 a4 a5 = some (r, μ2) ∧ f_X12_copy F ρ a1 a2 a3 a4 a5 = some (r, ρ2) ∧ Rel μ2 ρ2) ∧
  (∀ (μ ρ : Mem) (a1 a2 : Int32), Rel μ ρ → ∃ (r : Int32) (μ2 ρ2 : Mem), f_X11_write F μ a1 a2 = some (r, μ2) ∧ f_X12_write F ρ a1 a2 = some (r, ρ2) ∧ Rel μ2 ρ2) ∧
  (∀ (μ ρ : Mem) (a1 : Int32), Rel μ ρ → ∃ (r : Int32) (μ2 ρ2 : Mem), f_X11_count F μ a1 = some (r, μ2) ∧ f_X12_count F ρ a1 = some (r, ρ2) ∧ Rel μ2 ρ2) ∧
  (∀ (μ ρ : Mem), Rel μ ρ → ∃ (r : Int64) (μ2 ρ2 : Mem), f_X11_digest F μ  = some (r, μ2) ∧ f_X12_digest F ρ  = some (r, ρ2) ∧ Rel μ2 ρ2)
set_option maxRecDepth 100000 in
set_option maxHeartbeats 4000000 in
theorem law_c0 {p : Program} {l : Launch} {e : Env} {s : State} {m : MethodId} {args : Array Value} {below : List Frame} {meth : Method} {c : Code} {D : va_G} {ks : Nat → ClassId} {A1 A2 : Nat → Prop} {ad1 ad2 : Nat → Nat} {b L : Nat} {xs : Nat → Int32} {Q : State → Prop} {ce sl : Nat} (X : XL p room_1 s m args meth c D ks A1 A2 ad1 ad2 b L xs ce sl) {F : Nat} {Rel : Mem → Mem → Prop} (S : Sim F Rel) {μ ρ : Mem} {j : Nat} (hj : j + 6 ≤ L) (hR : Rel μ ρ) (K : ∀ μ ρ : Mem, Rel μ ρ → GL p l e room_1 s m args below meth c D ks ad1 ad2 Q ce sl μ ρ 1413 [(0, .ref b), (1, .ref (ad1 0)), (2, .ref (ad2 0)), (3, .int (nI j))] []) : GL p l e room_1 s m args below meth c D ks ad1 ad2 Q ce sl μ ρ 184 [(0, .ref b), (1, .ref (ad1 0)), (2, .ref (ad2 0)), (3, .int (nI j))] [] := by
  obtain ⟨r, μ2, ρ2, e1, e2, hR2⟩ := S.1 μ ρ (xs (nI j + 1).toNatClampNeg) (xs (nI j + 2).toNatClampNeg) (xs (nI j + 3).toNatClampNeg) (xs (nI j + 4).toNatClampNeg) hR
  refine l_aload_n 185 X 1 dL_law_184 rfl rfl ?_
  refine l_aload_n 186 X 0 dL_law_185 rfl rfl ?_
  refine l_iload_n 187 X 3 dL_law_186 rfl rfl ?_
  refine l_iconst 188 X dL_law_187 ic1 rfl ?_
  refine l_iadd 189 X dL_law_188 rfl ?_
  refine l_sld 190 X (vjk 1 rfl (by decide) hj X.2.2.2.2.2.2.2.2.2.2) dL_law_189 rfl ?_
  refine l_aload_n 191 X 0 dL_law_190 rfl rfl ?_
  refine l_iload_n 192 X 3 dL_law_191 rfl rfl ?_
  refine l_iconst 193 X dL_law_192 ic2 rfl ?_
  refine l_iadd 194 X dL_law_193 rfl ?_
  refine l_sld 195 X (vjk 2 rfl (by decide) hj X.2.2.2.2.2.2.2.2.2.2) dL_law_194 rfl ?_
  refine l_aload_n 196 X 0 dL_law_195 rfl rfl ?_
  refine l_iload_n 197 X 3 dL_law_196 rfl rfl ?_
  refine l_iconst 198 X dL_law_197 ic3 rfl ?_
  refine l_iadd 199 X dL_law_198 rfl ?_
  refine l_sld 200 X (vjk 3 rfl (by decide) hj X.2.2.2.2.2.2.2.2.2.2) dL_law_199 rfl ?_
  refine l_aload_n 201 X 0 dL_law_200 rfl rfl ?_
  refine l_iload_n 202 X 3 dL_law_201 rfl rfl ?_
  refine l_iconst 203 X dL_law_202 ic4 rfl ?_
  refine l_iadd 204 X dL_law_203 rfl ?_
  refine l_sld 205 X (vjk 4 rfl (by decide) hj X.2.2.2.2.2.2.2.2.2.2) dL_law_204 rfl ?_
  refine l_Ci 208 X cd_L_13_X11_name_X11 ⟨rfl, rfl⟩ ⟨Nat.le_of_ble_eq_true rfl, Nat.le_of_ble_eq_true rfl⟩ (c_X11_name X.2.2.2.1 e1) rfl rfl (Nat.le_of_ble_eq_true rfl) dL_law_205 rfl ?_
  refine l_aload_n 209 X 2 dL_law_208 rfl rfl ?_
  refine l_aload_n 210 X 0 dL_law_209 rfl rfl ?_
  refine l_iload_n 211 X 3 dL_law_210 rfl rfl ?_
  refine l_iconst 212 X dL_law_211 ic1 rfl ?_
  refine l_iadd 213 X dL_law_212 rfl ?_
  refine l_sld 214 X (vjk 1 rfl (by decide) hj X.2.2.2.2.2.2.2.2.2.2) dL_law_213 rfl ?_
  refine l_aload_n 215 X 0 dL_law_214 rfl rfl ?_
  refine l_iload_n 216 X 3 dL_law_215 rfl rfl ?_
  refine l_iconst 217 X dL_law_216 ic2 rfl ?_
  refine l_iadd 218 X dL_law_217 rfl ?_
  refine l_sld 219 X (vjk 2 rfl (by decide) hj X.2.2.2.2.2.2.2.2.2.2) dL_law_218 rfl ?_
  refine l_aload_n 220 X 0 dL_law_219 rfl rfl ?_
  refine l_iload_n 221 X 3 dL_law_220 rfl rfl ?_
  refine l_iconst 222 X dL_law_221 ic3 rfl ?_
  refine l_iadd 223 X dL_law_222 rfl ?_
  refine l_sld 224 X (vjk 3 rfl (by decide) hj X.2.2.2.2.2.2.2.2.2.2) dL_law_223 rfl ?_
  refine l_aload_n 225 X 0 dL_law_224 rfl rfl ?_
  refine l_iload_n 226 X 3 dL_law_225 rfl rfl ?_
  refine l_iconst 227 X dL_law_226 ic4 rfl ?_
  refine l_iadd 228 X dL_law_227 rfl ?_
  refine l_sld 229 X (vjk 4 rfl (by decide) hj X.2.2.2.2.2.2.2.2.2.2) dL_law_228 rfl ?_
  refine l_Ri 232 X cd_L_17_X12_name_X12 ⟨rfl, rfl⟩ ⟨Nat.le_of_ble_eq_true rfl, Nat.le_of_ble_eq_true rfl⟩ (c_X12_name X.2.2.2.2.1 e2) rfl rfl (Nat.le_of_ble_eq_true rfl) dL_law_229 rfl ?_
  refine l_eq 1413 X dL_law_232 (by decide) ?_
  exact K μ2 ρ2 hR2
set_option maxRecDepth 100000 in
set_option maxHeartbeats 4000000 in
theorem law_c1 {p : Program} {l : Launch} {e : Env} {s : State} {m : MethodId} {args : Array Value} {below : List Frame} {meth : Method} {c : Code} {D : va_G} {ks : Nat → ClassId} {A1 A2 : Nat → Prop} {ad1 ad2 : Nat → Nat} {b L : Nat} {xs : Nat → Int32} {Q : State → Prop} {ce sl : Nat} (X : XL p room_1 s m args meth c D ks A1 A2 ad1 ad2 b L xs ce sl) {F : Nat} {Rel : Mem → Mem → Prop} (S : Sim F Rel) {μ ρ : Mem} {j : Nat} (hj : j + 6 ≤ L) (hR : Rel μ ρ) (K : ∀ μ ρ : Mem, Rel μ ρ → GL p l e room_1 s m args below meth c D ks ad1 ad2 Q ce sl μ ρ 1413 [(0, .ref b), (1, .ref (ad1 0)), (2, .ref (ad2 0)), (3, .int (nI j))] []) : GL p l e room_1 s m args below meth c D ks ad1 ad2 Q ce sl μ ρ 237 [(0, .ref b), (1, .ref (ad1 0)), (2, .ref (ad2 0)), (3, .int (nI j))] [] := by
  obtain ⟨r, μ2, ρ2, e1, e2, hR2⟩ := S.2.1 μ ρ (xs (nI j + 1).toNatClampNeg) hR
  refine l_aload_n 238 X 1 dL_law_237 rfl rfl ?_
  refine l_aload_n 239 X 0 dL_law_238 rfl rfl ?_
  refine l_iload_n 240 X 3 dL_law_239 rfl rfl ?_
  refine l_iconst 241 X dL_law_240 ic1 rfl ?_
  refine l_iadd 242 X dL_law_241 rfl ?_
  refine l_sld 243 X (vjk 1 rfl (by decide) hj X.2.2.2.2.2.2.2.2.2.2) dL_law_242 rfl ?_
  refine l_Ci 246 X cd_L_18_X11_read_X11 ⟨rfl, rfl⟩ ⟨Nat.le_of_ble_eq_true rfl, Nat.le_of_ble_eq_true rfl⟩ (c_X11_read X.2.2.2.1 e1) rfl rfl (Nat.le_of_ble_eq_true rfl) dL_law_243 rfl ?_
  refine l_aload_n 247 X 2 dL_law_246 rfl rfl ?_
  refine l_aload_n 248 X 0 dL_law_247 rfl rfl ?_
  refine l_iload_n 249 X 3 dL_law_248 rfl rfl ?_
  refine l_iconst 250 X dL_law_249 ic1 rfl ?_
  refine l_iadd 251 X dL_law_250 rfl ?_
  refine l_sld 252 X (vjk 1 rfl (by decide) hj X.2.2.2.2.2.2.2.2.2.2) dL_law_251 rfl ?_
  refine l_Ri 255 X cd_L_22_X12_read_X12 ⟨rfl, rfl⟩ ⟨Nat.le_of_ble_eq_true rfl, Nat.le_of_ble_eq_true rfl⟩ (c_X12_read X.2.2.2.2.1 e2) rfl rfl (Nat.le_of_ble_eq_true rfl) dL_law_252 rfl ?_
  refine l_eq 1413 X dL_law_255 (by decide) ?_
  exact K μ2 ρ2 hR2
set_option maxRecDepth 100000 in
set_option maxHeartbeats 4000000 in
theorem law_c2 {p : Program} {l : Launch} {e : Env} {s : State} {m : MethodId} {args : Array Value} {below : List Frame} {meth : Method} {c : Code} {D : va_G} {ks : Nat → ClassId} {A1 A2 : Nat → Prop} {ad1 ad2 : Nat → Nat} {b L : Nat} {xs : Nat → Int32} {Q : State → Prop} {ce sl : Nat} (X : XL p room_1 s m args meth c D ks A1 A2 ad1 ad2 b L xs ce sl) {F : Nat} {Rel : Mem → Mem → Prop} (S : Sim F Rel) {μ ρ : Mem} {j : Nat} (hj : j + 6 ≤ L) (hR : Rel μ ρ) (K : ∀ μ ρ : Mem, Rel μ ρ → GL p l e room_1 s m args below meth c D ks ad1 ad2 Q ce sl μ ρ 1413 [(0, .ref b), (1, .ref (ad1 0)), (2, .ref (ad2 0)), (3, .int (nI j))] []) : GL p l e room_1 s m args below meth c D ks ad1 ad2 Q ce sl μ ρ 260 [(0, .ref b), (1, .ref (ad1 0)), (2, .ref (ad2 0)), (3, .int (nI j))] [] := by
  obtain ⟨r, μ2, ρ2, e1, e2, hR2⟩ := S.2.2.1 μ ρ (xs (nI j + 1).toNatClampNeg) (xs (nI j + 2).toNatClampNeg) hR
  refine l_aload_n 261 X 1 dL_law_260 rfl rfl ?_
  refine l_aload_n 262 X 0 dL_law_261 rfl rfl ?_
  refine l_iload_n 263 X 3 dL_law_262 rfl rfl ?_
  refine l_iconst 264 X dL_law_263 ic1 rfl ?_
  refine l_iadd 265 X dL_law_264 rfl ?_
  refine l_sld 266 X (vjk 1 rfl (by decide) hj X.2.2.2.2.2.2.2.2.2.2) dL_law_265 rfl ?_
  refine l_aload_n 267 X 0 dL_law_266 rfl rfl ?_
  refine l_iload_n 268 X 3 dL_law_267 rfl rfl ?_
  refine l_iconst 269 X dL_law_268 ic2 rfl ?_
  refine l_iadd 270 X dL_law_269 rfl ?_
  refine l_sld 271 X (vjk 2 rfl (by decide) hj X.2.2.2.2.2.2.2.2.2.2) dL_law_270 rfl ?_
  refine l_Ci 274 X cd_L_23_X11_about_X11 ⟨rfl, rfl⟩ ⟨Nat.le_of_ble_eq_true rfl, Nat.le_of_ble_eq_true rfl⟩ (c_X11_about X.2.2.2.1 e1) rfl rfl (Nat.le_of_ble_eq_true rfl) dL_law_271 rfl ?_
  refine l_aload_n 275 X 2 dL_law_274 rfl rfl ?_
  refine l_aload_n 276 X 0 dL_law_275 rfl rfl ?_
  refine l_iload_n 277 X 3 dL_law_276 rfl rfl ?_
  refine l_iconst 278 X dL_law_277 ic1 rfl ?_
  refine l_iadd 279 X dL_law_278 rfl ?_
  refine l_sld 280 X (vjk 1 rfl (by decide) hj X.2.2.2.2.2.2.2.2.2.2) dL_law_279 rfl ?_
  refine l_aload_n 281 X 0 dL_law_280 rfl rfl ?_
  refine l_iload_n 282 X 3 dL_law_281 rfl rfl ?_
  refine l_iconst 283 X dL_law_282 ic2 rfl ?_
  refine l_iadd 284 X dL_law_283 rfl ?_
  refine l_sld 285 X (vjk 2 rfl (by decide) hj X.2.2.2.2.2.2.2.2.2.2) dL_law_284 rfl ?_
  refine l_Ri 288 X cd_L_27_X12_about_X12 ⟨rfl, rfl⟩ ⟨Nat.le_of_ble_eq_true rfl, Nat.le_of_ble_eq_true rfl⟩ (c_X12_about X.2.2.2.2.1 e2) rfl rfl (Nat.le_of_ble_eq_true rfl) dL_law_285 rfl ?_
  refine l_eq 1413 X dL_law_288 (by decide) ?_
  exact K μ2 ρ2 hR2
set_option maxRecDepth 100000 in
set_option maxHeartbeats 4000000 in
theorem law_c3 {p : Program} {l : Launch} {e : Env} {s : State} {m : MethodId} {args : Array Value} {below : List Frame} {meth : Method} {c : Code} {D : va_G} {ks : Nat → ClassId} {A1 A2 : Nat → Prop} {ad1 ad2 : Nat → Nat} {b L : Nat} {xs : Nat → Int32} {Q : State → Prop} {ce sl : Nat} (X : XL p room_1 s m args meth c D ks A1 A2 ad1 ad2 b L xs ce sl) {F : Nat} {Rel : Mem → Mem → Prop} (S : Sim F Rel) {μ ρ : Mem} {j : Nat} (hj : j + 6 ≤ L) (hR : Rel μ ρ) (K : ∀ μ ρ : Mem, Rel μ ρ → GL p l e room_1 s m args below meth c D ks ad1 ad2 Q ce sl μ ρ 1413 [(0, .ref b), (1, .ref (ad1 0)), (2, .ref (ad2 0)), (3, .int (nI j))] []) : GL p l e room_1 s m args below meth c D ks ad1 ad2 Q ce sl μ ρ 293 [(0, .ref b), (1, .ref (ad1 0)), (2, .ref (ad2 0)), (3, .int (nI j))] [] := by
  obtain ⟨r, μ2, ρ2, e1, e2, hR2⟩ := S.2.2.2.1 μ ρ (xs (nI j + 1).toNatClampNeg) (xs (nI j + 2).toNatClampNeg) (xs (nI j + 3).toNatClampNeg) hR
  refine l_aload_n 294 X 1 dL_law_293 rfl rfl ?_
  refine l_aload_n 295 X 0 dL_law_294 rfl rfl ?_
  refine l_iload_n 296 X 3 dL_law_295 rfl rfl ?_
  refine l_iconst 297 X dL_law_296 ic1 rfl ?_
  refine l_iadd 298 X dL_law_297 rfl ?_
  refine l_sld 299 X (vjk 1 rfl (by decide) hj X.2.2.2.2.2.2.2.2.2.2) dL_law_298 rfl ?_
  refine l_aload_n 300 X 0 dL_law_299 rfl rfl ?_
  refine l_iload_n 301 X 3 dL_law_300 rfl rfl ?_
  refine l_iconst 302 X dL_law_301 ic2 rfl ?_
  refine l_iadd 303 X dL_law_302 rfl ?_
  refine l_sld 304 X (vjk 2 rfl (by decide) hj X.2.2.2.2.2.2.2.2.2.2) dL_law_303 rfl ?_
  refine l_aload_n 305 X 0 dL_law_304 rfl rfl ?_
  refine l_iload_n 306 X 3 dL_law_305 rfl rfl ?_
  refine l_iconst 307 X dL_law_306 ic3 rfl ?_
  refine l_iadd 308 X dL_law_307 rfl ?_
  refine l_sld 309 X (vjk 3 rfl (by decide) hj X.2.2.2.2.2.2.2.2.2.2) dL_law_308 rfl ?_
  refine l_Ci 312 X cd_L_28_X11_answer_X11 ⟨rfl, rfl⟩ ⟨Nat.le_of_ble_eq_true rfl, Nat.le_of_ble_eq_true rfl⟩ (c_X11_answer X.2.2.2.1 e1) rfl rfl (Nat.le_of_ble_eq_true rfl) dL_law_309 rfl ?_
  refine l_aload_n 313 X 2 dL_law_312 rfl rfl ?_
  refine l_aload_n 314 X 0 dL_law_313 rfl rfl ?_
  refine l_iload_n 315 X 3 dL_law_314 rfl rfl ?_
  refine l_iconst 316 X dL_law_315 ic1 rfl ?_
  refine l_iadd 317 X dL_law_316 rfl ?_
  refine l_sld 318 X (vjk 1 rfl (by decide) hj X.2.2.2.2.2.2.2.2.2.2) dL_law_317 rfl ?_
  refine l_aload_n 319 X 0 dL_law_318 rfl rfl ?_
  refine l_iload_n 320 X 3 dL_law_319 rfl rfl ?_
  refine l_iconst 321 X dL_law_320 ic2 rfl ?_
  refine l_iadd 322 X dL_law_321 rfl ?_
  refine l_sld 323 X (vjk 2 rfl (by decide) hj X.2.2.2.2.2.2.2.2.2.2) dL_law_322 rfl ?_
  refine l_aload_n 324 X 0 dL_law_323 rfl rfl ?_
  refine l_iload_n 325 X 3 dL_law_324 rfl rfl ?_
  refine l_iconst 326 X dL_law_325 ic3 rfl ?_
  refine l_iadd 327 X dL_law_326 rfl ?_
  refine l_sld 328 X (vjk 3 rfl (by decide) hj X.2.2.2.2.2.2.2.2.2.2) dL_law_327 rfl ?_
  refine l_Ri 331 X cd_L_32_X12_answer_X12 ⟨rfl, rfl⟩ ⟨Nat.le_of_ble_eq_true rfl, Nat.le_of_ble_eq_true rfl⟩ (c_X12_answer X.2.2.2.2.1 e2) rfl rfl (Nat.le_of_ble_eq_true rfl) dL_law_328 rfl ?_
  refine l_eq 1413 X dL_law_331 (by decide) ?_
  exact K μ2 ρ2 hR2
set_option maxRecDepth 100000 in
set_option maxHeartbeats 4000000 in
theorem law_c4 {p : Program} {l : Launch} {e : Env} {s : State} {m : MethodId} {args : Array Value} {below : List Frame} {meth : Method} {c : Code} {D : va_G} {ks : Nat → ClassId} {A1 A2 : Nat → Prop} {ad1 ad2 : Nat → Nat} {b L : Nat} {xs : Nat → Int32} {Q : State → Prop} {ce sl : Nat} (X : XL p room_1 s m args meth c D ks A1 A2 ad1 ad2 b L xs ce sl) {F : Nat} {Rel : Mem → Mem → Prop} (S : Sim F Rel) {μ ρ : Mem} {j : Nat} (hj : j + 6 ≤ L) (hR : Rel μ ρ) (K : ∀ μ ρ : Mem, Rel μ ρ → GL p l e room_1 s m args below meth c D ks ad1 ad2 Q ce sl μ ρ 1413 [(0, .ref b), (1, .ref (ad1 0)), (2, .ref (ad2 0)), (3, .int (nI j))] []) : GL p l e room_1 s m args below meth c D ks ad1 ad2 Q ce sl μ ρ 336 [(0, .ref b), (1, .ref (ad1 0)), (2, .ref (ad2 0)), (3, .int (nI j))] [] := by
  obtain ⟨r, μ2, ρ2, e1, e2, hR2⟩ := S.2.2.2.2.1 μ ρ (xs (nI j + 1).toNatClampNeg) hR
  refine l_aload_n 337 X 1 dL_law_336 rfl rfl ?_
  refine l_aload_n 338 X 0 dL_law_337 rfl rfl ?_
  refine l_iload_n 339 X 3 dL_law_338 rfl rfl ?_
  refine l_iconst 340 X dL_law_339 ic1 rfl ?_
  refine l_iadd 341 X dL_law_340 rfl ?_
  refine l_sld 342 X (vjk 1 rfl (by decide) hj X.2.2.2.2.2.2.2.2.2.2) dL_law_341 rfl ?_
  refine l_Ci 345 X cd_L_33_X11_asOf_X11 ⟨rfl, rfl⟩ ⟨Nat.le_of_ble_eq_true rfl, Nat.le_of_ble_eq_true rfl⟩ (c_X11_asOf X.2.2.2.1 e1) rfl rfl (Nat.le_of_ble_eq_true rfl) dL_law_342 rfl ?_
  refine l_aload_n 346 X 2 dL_law_345 rfl rfl ?_
  refine l_aload_n 347 X 0 dL_law_346 rfl rfl ?_
  refine l_iload_n 348 X 3 dL_law_347 rfl rfl ?_
  refine l_iconst 349 X dL_law_348 ic1 rfl ?_
  refine l_iadd 350 X dL_law_349 rfl ?_
  refine l_sld 351 X (vjk 1 rfl (by decide) hj X.2.2.2.2.2.2.2.2.2.2) dL_law_350 rfl ?_
  refine l_Ri 354 X cd_L_36_X12_asOf_X12 ⟨rfl, rfl⟩ ⟨Nat.le_of_ble_eq_true rfl, Nat.le_of_ble_eq_true rfl⟩ (c_X12_asOf X.2.2.2.2.1 e2) rfl rfl (Nat.le_of_ble_eq_true rfl) dL_law_351 rfl ?_
  refine l_eq 1413 X dL_law_354 (by decide) ?_
  exact K μ2 ρ2 hR2
set_option maxRecDepth 100000 in
set_option maxHeartbeats 4000000 in
theorem law_c5 {p : Program} {l : Launch} {e : Env} {s : State} {m : MethodId} {args : Array Value} {below : List Frame} {meth : Method} {c : Code} {D : va_G} {ks : Nat → ClassId} {A1 A2 : Nat → Prop} {ad1 ad2 : Nat → Nat} {b L : Nat} {xs : Nat → Int32} {Q : State → Prop} {ce sl : Nat} (X : XL p room_1 s m args meth c D ks A1 A2 ad1 ad2 b L xs ce sl) {F : Nat} {Rel : Mem → Mem → Prop} (S : Sim F Rel) {μ ρ : Mem} {j : Nat} (hj : j + 6 ≤ L) (hR : Rel μ ρ) (K : ∀ μ ρ : Mem, Rel μ ρ → GL p l e room_1 s m args below meth c D ks ad1 ad2 Q ce sl μ ρ 1413 [(0, .ref b), (1, .ref (ad1 0)), (2, .ref (ad2 0)), (3, .int (nI j))] []) : GL p l e room_1 s m args below meth c D ks ad1 ad2 Q ce sl μ ρ 359 [(0, .ref b), (1, .ref (ad1 0)), (2, .ref (ad2 0)), (3, .int (nI j))] [] := by
  obtain ⟨r, μ2, ρ2, e1, e2, hR2⟩ := S.2.2.2.2.2.1 μ ρ (xs (nI j + 1).toNatClampNeg) (xs (nI j + 2).toNatClampNeg) hR
  refine l_aload_n 360 X 1 dL_law_359 rfl rfl ?_
  refine l_aload_n 361 X 0 dL_law_360 rfl rfl ?_
  refine l_iload_n 362 X 3 dL_law_361 rfl rfl ?_
  refine l_iconst 363 X dL_law_362 ic1 rfl ?_
  refine l_iadd 364 X dL_law_363 rfl ?_
  refine l_sld 365 X (vjk 1 rfl (by decide) hj X.2.2.2.2.2.2.2.2.2.2) dL_law_364 rfl ?_
  refine l_aload_n 366 X 0 dL_law_365 rfl rfl ?_
  refine l_iload_n 367 X 3 dL_law_366 rfl rfl ?_
  refine l_iconst 368 X dL_law_367 ic2 rfl ?_
  refine l_iadd 369 X dL_law_368 rfl ?_
  refine l_sld 370 X (vjk 2 rfl (by decide) hj X.2.2.2.2.2.2.2.2.2.2) dL_law_369 rfl ?_
  refine l_Ci 373 X cd_L_37_X11_many_X11 ⟨rfl, rfl⟩ ⟨Nat.le_of_ble_eq_true rfl, Nat.le_of_ble_eq_true rfl⟩ (c_X11_many X.2.2.2.1 e1) rfl rfl (Nat.le_of_ble_eq_true rfl) dL_law_370 rfl ?_
  refine l_aload_n 374 X 2 dL_law_373 rfl rfl ?_
  refine l_aload_n 375 X 0 dL_law_374 rfl rfl ?_
  refine l_iload_n 376 X 3 dL_law_375 rfl rfl ?_
  refine l_iconst 377 X dL_law_376 ic1 rfl ?_
  refine l_iadd 378 X dL_law_377 rfl ?_
  refine l_sld 379 X (vjk 1 rfl (by decide) hj X.2.2.2.2.2.2.2.2.2.2) dL_law_378 rfl ?_
  refine l_aload_n 380 X 0 dL_law_379 rfl rfl ?_
  refine l_iload_n 381 X 3 dL_law_380 rfl rfl ?_
  refine l_iconst 382 X dL_law_381 ic2 rfl ?_
  refine l_iadd 383 X dL_law_382 rfl ?_
  refine l_sld 384 X (vjk 2 rfl (by decide) hj X.2.2.2.2.2.2.2.2.2.2) dL_law_383 rfl ?_
  refine l_Ri 387 X cd_L_40_X12_many_X12 ⟨rfl, rfl⟩ ⟨Nat.le_of_ble_eq_true rfl, Nat.le_of_ble_eq_true rfl⟩ (c_X12_many X.2.2.2.2.1 e2) rfl rfl (Nat.le_of_ble_eq_true rfl) dL_law_384 rfl ?_
  refine l_eq 1413 X dL_law_387 (by decide) ?_
  exact K μ2 ρ2 hR2
set_option maxRecDepth 100000 in
set_option maxHeartbeats 4000000 in
theorem law_c6 {p : Program} {l : Launch} {e : Env} {s : State} {m : MethodId} {args : Array Value} {below : List Frame} {meth : Method} {c : Code} {D : va_G} {ks : Nat → ClassId} {A1 A2 : Nat → Prop} {ad1 ad2 : Nat → Nat} {b L : Nat} {xs : Nat → Int32} {Q : State → Prop} {ce sl : Nat} (X : XL p room_1 s m args meth c D ks A1 A2 ad1 ad2 b L xs ce sl) {F : Nat} {Rel : Mem → Mem → Prop} (S : Sim F Rel) {μ ρ : Mem} {j : Nat} (hj : j + 6 ≤ L) (hR : Rel μ ρ) (K : ∀ μ ρ : Mem, Rel μ ρ → GL p l e room_1 s m args below meth c D ks ad1 ad2 Q ce sl μ ρ 1413 [(0, .ref b), (1, .ref (ad1 0)), (2, .ref (ad2 0)), (3, .int (nI j))] []) : GL p l e room_1 s m args below meth c D ks ad1 ad2 Q ce sl μ ρ 392 [(0, .ref b), (1, .ref (ad1 0)), (2, .ref (ad2 0)), (3, .int (nI j))] [] := by
  obtain ⟨r, μ2, ρ2, e1, e2, hR2⟩ := S.2.2.2.2.2.2.1 μ ρ (xs (nI j + 1).toNatClampNeg) (xs (nI j + 2).toNatClampNeg) hR
  refine l_aload_n 393 X 1 dL_law_392 rfl rfl ?_
  refine l_aload_n 394 X 0 dL_law_393 rfl rfl ?_
  refine l_iload_n 395 X 3 dL_law_394 rfl rfl ?_
  refine l_iconst 396 X dL_law_395 ic1 rfl ?_
  refine l_iadd 397 X dL_law_396 rfl ?_
  refine l_sld 398 X (vjk 1 rfl (by decide) hj X.2.2.2.2.2.2.2.2.2.2) dL_law_397 rfl ?_
  refine l_aload_n 399 X 0 dL_law_398 rfl rfl ?_
  refine l_iload_n 400 X 3 dL_law_399 rfl rfl ?_
  refine l_iconst 401 X dL_law_400 ic2 rfl ?_
  refine l_iadd 402 X dL_law_401 rfl ?_
  refine l_sld 403 X (vjk 2 rfl (by decide) hj X.2.2.2.2.2.2.2.2.2.2) dL_law_402 rfl ?_
  refine l_Ci 406 X cd_L_41_X11_type_X11 ⟨rfl, rfl⟩ ⟨Nat.le_of_ble_eq_true rfl, Nat.le_of_ble_eq_true rfl⟩ (c_X11_type X.2.2.2.1 e1) rfl rfl (Nat.le_of_ble_eq_true rfl) dL_law_403 rfl ?_
  refine l_aload_n 407 X 2 dL_law_406 rfl rfl ?_
  refine l_aload_n 408 X 0 dL_law_407 rfl rfl ?_
  refine l_iload_n 409 X 3 dL_law_408 rfl rfl ?_
  refine l_iconst 410 X dL_law_409 ic1 rfl ?_
  refine l_iadd 411 X dL_law_410 rfl ?_
  refine l_sld 412 X (vjk 1 rfl (by decide) hj X.2.2.2.2.2.2.2.2.2.2) dL_law_411 rfl ?_
  refine l_aload_n 413 X 0 dL_law_412 rfl rfl ?_
  refine l_iload_n 414 X 3 dL_law_413 rfl rfl ?_
  refine l_iconst 415 X dL_law_414 ic2 rfl ?_
  refine l_iadd 416 X dL_law_415 rfl ?_
  refine l_sld 417 X (vjk 2 rfl (by decide) hj X.2.2.2.2.2.2.2.2.2.2) dL_law_416 rfl ?_
  refine l_Ri 420 X cd_L_44_X12_type_X12 ⟨rfl, rfl⟩ ⟨Nat.le_of_ble_eq_true rfl, Nat.le_of_ble_eq_true rfl⟩ (c_X12_type X.2.2.2.2.1 e2) rfl rfl (Nat.le_of_ble_eq_true rfl) dL_law_417 rfl ?_
  refine l_eq 1413 X dL_law_420 (by decide) ?_
  exact K μ2 ρ2 hR2
set_option maxRecDepth 100000 in
set_option maxHeartbeats 4000000 in
theorem law_c7 {p : Program} {l : Launch} {e : Env} {s : State} {m : MethodId} {args : Array Value} {below : List Frame} {meth : Method} {c : Code} {D : va_G} {ks : Nat → ClassId} {A1 A2 : Nat → Prop} {ad1 ad2 : Nat → Nat} {b L : Nat} {xs : Nat → Int32} {Q : State → Prop} {ce sl : Nat} (X : XL p room_1 s m args meth c D ks A1 A2 ad1 ad2 b L xs ce sl) {F : Nat} {Rel : Mem → Mem → Prop} (S : Sim F Rel) {μ ρ : Mem} {j : Nat} (hj : j + 6 ≤ L) (hR : Rel μ ρ) (K : ∀ μ ρ : Mem, Rel μ ρ → GL p l e room_1 s m args below meth c D ks ad1 ad2 Q ce sl μ ρ 1413 [(0, .ref b), (1, .ref (ad1 0)), (2, .ref (ad2 0)), (3, .int (nI j))] []) : GL p l e room_1 s m args below meth c D ks ad1 ad2 Q ce sl μ ρ 425 [(0, .ref b), (1, .ref (ad1 0)), (2, .ref (ad2 0)), (3, .int (nI j))] [] := by
  obtain ⟨r, μ2, ρ2, e1, e2, hR2⟩ := S.2.2.2.2.2.2.2.1 μ ρ (xs (nI j + 1).toNatClampNeg) hR
  refine l_aload_n 426 X 1 dL_law_425 rfl rfl ?_
  refine l_aload_n 427 X 0 dL_law_426 rfl rfl ?_
  refine l_iload_n 428 X 3 dL_law_427 rfl rfl ?_
  refine l_iconst 429 X dL_law_428 ic1 rfl ?_
  refine l_iadd 430 X dL_law_429 rfl ?_
  refine l_sld 431 X (vjk 1 rfl (by decide) hj X.2.2.2.2.2.2.2.2.2.2) dL_law_430 rfl ?_
  refine l_Ci 434 X cd_L_45_X11_wipe_X11 ⟨rfl, rfl⟩ ⟨Nat.le_of_ble_eq_true rfl, Nat.le_of_ble_eq_true rfl⟩ (c_X11_wipe X.2.2.2.1 e1) rfl rfl (Nat.le_of_ble_eq_true rfl) dL_law_431 rfl ?_
  refine l_aload_n 435 X 2 dL_law_434 rfl rfl ?_
  refine l_aload_n 436 X 0 dL_law_435 rfl rfl ?_
  refine l_iload_n 437 X 3 dL_law_436 rfl rfl ?_
  refine l_iconst 438 X dL_law_437 ic1 rfl ?_
  refine l_iadd 439 X dL_law_438 rfl ?_
  refine l_sld 440 X (vjk 1 rfl (by decide) hj X.2.2.2.2.2.2.2.2.2.2) dL_law_439 rfl ?_
  refine l_Ri 443 X cd_L_48_X12_wipe_X12 ⟨rfl, rfl⟩ ⟨Nat.le_of_ble_eq_true rfl, Nat.le_of_ble_eq_true rfl⟩ (c_X12_wipe X.2.2.2.2.1 e2) rfl rfl (Nat.le_of_ble_eq_true rfl) dL_law_440 rfl ?_
  refine l_eq 1413 X dL_law_443 (by decide) ?_
  exact K μ2 ρ2 hR2
set_option maxRecDepth 100000 in
set_option maxHeartbeats 4000000 in
theorem law_c8 {p : Program} {l : Launch} {e : Env} {s : State} {m : MethodId} {args : Array Value} {below : List Frame} {meth : Method} {c : Code} {D : va_G} {ks : Nat → ClassId} {A1 A2 : Nat → Prop} {ad1 ad2 : Nat → Nat} {b L : Nat} {xs : Nat → Int32} {Q : State → Prop} {ce sl : Nat} (X : XL p room_1 s m args meth c D ks A1 A2 ad1 ad2 b L xs ce sl) {F : Nat} {Rel : Mem → Mem → Prop} (S : Sim F Rel) {μ ρ : Mem} {j : Nat} (hj : j + 6 ≤ L) (hR : Rel μ ρ) (K : ∀ μ ρ : Mem, Rel μ ρ → GL p l e room_1 s m args below meth c D ks ad1 ad2 Q ce sl μ ρ 1413 [(0, .ref b), (1, .ref (ad1 0)), (2, .ref (ad2 0)), (3, .int (nI j))] []) : GL p l e room_1 s m args below meth c D ks ad1 ad2 Q ce sl μ ρ 448 [(0, .ref b), (1, .ref (ad1 0)), (2, .ref (ad2 0)), (3, .int (nI j))] [] := by
  obtain ⟨r, μ2, ρ2, e1, e2, hR2⟩ := S.2.2.2.2.2.2.2.2.1 μ ρ (xs (nI j + 1).toNatClampNeg) hR
  refine l_aload_n 449 X 1 dL_law_448 rfl rfl ?_
  refine l_aload_n 450 X 0 dL_law_449 rfl rfl ?_
  refine l_iload_n 451 X 3 dL_law_450 rfl rfl ?_
  refine l_iconst 452 X dL_law_451 ic1 rfl ?_
  refine l_iadd 453 X dL_law_452 rfl ?_
  refine l_sld 454 X (vjk 1 rfl (by decide) hj X.2.2.2.2.2.2.2.2.2.2) dL_law_453 rfl ?_
  refine l_Ci 457 X cd_L_49_X11_fault_X11 ⟨rfl, rfl⟩ ⟨Nat.le_of_ble_eq_true rfl, Nat.le_of_ble_eq_true rfl⟩ (c_X11_fault X.2.2.2.1 e1) rfl rfl (Nat.le_of_ble_eq_true rfl) dL_law_454 rfl ?_
  refine l_aload_n 458 X 2 dL_law_457 rfl rfl ?_
  refine l_aload_n 459 X 0 dL_law_458 rfl rfl ?_
  refine l_iload_n 460 X 3 dL_law_459 rfl rfl ?_
  refine l_iconst 461 X dL_law_460 ic1 rfl ?_
  refine l_iadd 462 X dL_law_461 rfl ?_
  refine l_sld 463 X (vjk 1 rfl (by decide) hj X.2.2.2.2.2.2.2.2.2.2) dL_law_462 rfl ?_
  refine l_Ri 466 X cd_L_52_X12_fault_X12 ⟨rfl, rfl⟩ ⟨Nat.le_of_ble_eq_true rfl, Nat.le_of_ble_eq_true rfl⟩ (c_X12_fault X.2.2.2.2.1 e2) rfl rfl (Nat.le_of_ble_eq_true rfl) dL_law_463 rfl ?_
  refine l_eq 1413 X dL_law_466 (by decide) ?_
  exact K μ2 ρ2 hR2
set_option maxRecDepth 100000 in
set_option maxHeartbeats 4000000 in
theorem law_c9 {p : Program} {l : Launch} {e : Env} {s : State} {m : MethodId} {args : Array Value} {below : List Frame} {meth : Method} {c : Code} {D : va_G} {ks : Nat → ClassId} {A1 A2 : Nat → Prop} {ad1 ad2 : Nat → Nat} {b L : Nat} {xs : Nat → Int32} {Q : State → Prop} {ce sl : Nat} (X : XL p room_1 s m args meth c D ks A1 A2 ad1 ad2 b L xs ce sl) {F : Nat} {Rel : Mem → Mem → Prop} (S : Sim F Rel) {μ ρ : Mem} {j : Nat} (hj : j + 6 ≤ L) (hR : Rel μ ρ) (K : ∀ μ ρ : Mem, Rel μ ρ → GL p l e room_1 s m args below meth c D ks ad1 ad2 Q ce sl μ ρ 1413 [(0, .ref b), (1, .ref (ad1 0)), (2, .ref (ad2 0)), (3, .int (nI j))] []) : GL p l e room_1 s m args below meth c D ks ad1 ad2 Q ce sl μ ρ 471 [(0, .ref b), (1, .ref (ad1 0)), (2, .ref (ad2 0)), (3, .int (nI j))] [] := by
  obtain ⟨r, μ2, ρ2, e1, e2, hR2⟩ := S.2.2.2.2.2.2.2.2.2.1 μ ρ (xs (nI j + 1).toNatClampNeg) hR
  refine l_aload_n 472 X 1 dL_law_471 rfl rfl ?_
  refine l_aload_n 473 X 0 dL_law_472 rfl rfl ?_
  refine l_iload_n 474 X 3 dL_law_473 rfl rfl ?_
  refine l_iconst 475 X dL_law_474 ic1 rfl ?_
  refine l_iadd 476 X dL_law_475 rfl ?_
  refine l_sld 477 X (vjk 1 rfl (by decide) hj X.2.2.2.2.2.2.2.2.2.2) dL_law_476 rfl ?_
  refine l_Ci 480 X cd_L_53_X11_can_X11 ⟨rfl, rfl⟩ ⟨Nat.le_of_ble_eq_true rfl, Nat.le_of_ble_eq_true rfl⟩ (c_X11_can X.2.2.2.1 e1) rfl rfl (Nat.le_of_ble_eq_true rfl) dL_law_477 rfl ?_
  refine l_aload_n 481 X 2 dL_law_480 rfl rfl ?_
  refine l_aload_n 482 X 0 dL_law_481 rfl rfl ?_
  refine l_iload_n 483 X 3 dL_law_482 rfl rfl ?_
  refine l_iconst 484 X dL_law_483 ic1 rfl ?_
  refine l_iadd 485 X dL_law_484 rfl ?_
  refine l_sld 486 X (vjk 1 rfl (by decide) hj X.2.2.2.2.2.2.2.2.2.2) dL_law_485 rfl ?_
  refine l_Ri 489 X cd_L_56_X12_can_X12 ⟨rfl, rfl⟩ ⟨Nat.le_of_ble_eq_true rfl, Nat.le_of_ble_eq_true rfl⟩ (c_X12_can X.2.2.2.2.1 e2) rfl rfl (Nat.le_of_ble_eq_true rfl) dL_law_486 rfl ?_
  refine l_eq 1413 X dL_law_489 (by decide) ?_
  exact K μ2 ρ2 hR2
set_option maxRecDepth 100000 in
set_option maxHeartbeats 4000000 in
theorem law_c10 {p : Program} {l : Launch} {e : Env} {s : State} {m : MethodId} {args : Array Value} {below : List Frame} {meth : Method} {c : Code} {D : va_G} {ks : Nat → ClassId} {A1 A2 : Nat → Prop} {ad1 ad2 : Nat → Nat} {b L : Nat} {xs : Nat → Int32} {Q : State → Prop} {ce sl : Nat} (X : XL p room_1 s m args meth c D ks A1 A2 ad1 ad2 b L xs ce sl) {F : Nat} {Rel : Mem → Mem → Prop} (S : Sim F Rel) {μ ρ : Mem} {j : Nat} (hj : j + 6 ≤ L) (hR : Rel μ ρ) (K : ∀ μ ρ : Mem, Rel μ ρ → GL p l e room_1 s m args below meth c D ks ad1 ad2 Q ce sl μ ρ 1413 [(0, .ref b), (1, .ref (ad1 0)), (2, .ref (ad2 0)), (3, .int (nI j))] []) : GL p l e room_1 s m args below meth c D ks ad1 ad2 Q ce sl μ ρ 494 [(0, .ref b), (1, .ref (ad1 0)), (2, .ref (ad2 0)), (3, .int (nI j))] [] := by
  obtain ⟨r, μ2, ρ2, e1, e2, hR2⟩ := S.2.2.2.2.2.2.2.2.2.2.1 μ ρ (xs (nI j + 1).toNatClampNeg) hR
  refine l_aload_n 495 X 1 dL_law_494 rfl rfl ?_
  refine l_aload_n 496 X 0 dL_law_495 rfl rfl ?_
  refine l_iload_n 497 X 3 dL_law_496 rfl rfl ?_
  refine l_iconst 498 X dL_law_497 ic1 rfl ?_
  refine l_iadd 499 X dL_law_498 rfl ?_
  refine l_sld 500 X (vjk 1 rfl (by decide) hj X.2.2.2.2.2.2.2.2.2.2) dL_law_499 rfl ?_
  refine l_Cl 503 X cd_L_57_X11_draws_X11 ⟨rfl, rfl⟩ ⟨Nat.le_of_ble_eq_true rfl, Nat.le_of_ble_eq_true rfl⟩ (c_X11_draws X.2.2.2.1 e1) rfl rfl (Nat.le_of_ble_eq_true rfl) dL_law_500 rfl ?_
  refine l_aload_n 504 X 2 dL_law_503 rfl rfl ?_
  refine l_aload_n 505 X 0 dL_law_504 rfl rfl ?_
  refine l_iload_n 506 X 3 dL_law_505 rfl rfl ?_
  refine l_iconst 507 X dL_law_506 ic1 rfl ?_
  refine l_iadd 508 X dL_law_507 rfl ?_
  refine l_sld 509 X (vjk 1 rfl (by decide) hj X.2.2.2.2.2.2.2.2.2.2) dL_law_508 rfl ?_
  refine l_Rl 512 X cd_L_61_X12_draws_X12 ⟨rfl, rfl⟩ ⟨Nat.le_of_ble_eq_true rfl, Nat.le_of_ble_eq_true rfl⟩ (c_X12_draws X.2.2.2.2.1 e2) rfl rfl (Nat.le_of_ble_eq_true rfl) dL_law_509 rfl ?_
  refine l_lcmp 513 X dL_law_512 rfl ?_
  refine l_eqL 1413 X dL_law_513 (by decide) ?_
  exact K μ2 ρ2 hR2
set_option maxRecDepth 100000 in
set_option maxHeartbeats 4000000 in
theorem law_c11 {p : Program} {l : Launch} {e : Env} {s : State} {m : MethodId} {args : Array Value} {below : List Frame} {meth : Method} {c : Code} {D : va_G} {ks : Nat → ClassId} {A1 A2 : Nat → Prop} {ad1 ad2 : Nat → Nat} {b L : Nat} {xs : Nat → Int32} {Q : State → Prop} {ce sl : Nat} (X : XL p room_1 s m args meth c D ks A1 A2 ad1 ad2 b L xs ce sl) {F : Nat} {Rel : Mem → Mem → Prop} (S : Sim F Rel) {μ ρ : Mem} {j : Nat} (hj : j + 6 ≤ L) (hR : Rel μ ρ) (K : ∀ μ ρ : Mem, Rel μ ρ → GL p l e room_1 s m args below meth c D ks ad1 ad2 Q ce sl μ ρ 1413 [(0, .ref b), (1, .ref (ad1 0)), (2, .ref (ad2 0)), (3, .int (nI j))] []) : GL p l e room_1 s m args below meth c D ks ad1 ad2 Q ce sl μ ρ 518 [(0, .ref b), (1, .ref (ad1 0)), (2, .ref (ad2 0)), (3, .int (nI j))] [] := by
  obtain ⟨r, μ2, ρ2, e1, e2, hR2⟩ := S.2.2.2.2.2.2.2.2.2.2.2.1 μ ρ (xs (nI j + 1).toNatClampNeg) (xs (nI j + 2).toNatClampNeg) (xs (nI j + 3).toNatClampNeg) hR
  refine l_aload_n 519 X 1 dL_law_518 rfl rfl ?_
  refine l_aload_n 520 X 0 dL_law_519 rfl rfl ?_
  refine l_iload_n 521 X 3 dL_law_520 rfl rfl ?_
  refine l_iconst 522 X dL_law_521 ic1 rfl ?_
  refine l_iadd 523 X dL_law_522 rfl ?_
  refine l_sld 524 X (vjk 1 rfl (by decide) hj X.2.2.2.2.2.2.2.2.2.2) dL_law_523 rfl ?_
  refine l_aload_n 525 X 0 dL_law_524 rfl rfl ?_
  refine l_iload_n 526 X 3 dL_law_525 rfl rfl ?_
  refine l_iconst 527 X dL_law_526 ic2 rfl ?_
  refine l_iadd 528 X dL_law_527 rfl ?_
  refine l_sld 529 X (vjk 2 rfl (by decide) hj X.2.2.2.2.2.2.2.2.2.2) dL_law_528 rfl ?_
  refine l_aload_n 530 X 0 dL_law_529 rfl rfl ?_
  refine l_iload_n 531 X 3 dL_law_530 rfl rfl ?_
  refine l_iconst 532 X dL_law_531 ic3 rfl ?_
  refine l_iadd 533 X dL_law_532 rfl ?_
  refine l_sld 534 X (vjk 3 rfl (by decide) hj X.2.2.2.2.2.2.2.2.2.2) dL_law_533 rfl ?_
  refine l_Cl 537 X cd_L_62_X11_share_X11 ⟨rfl, rfl⟩ ⟨Nat.le_of_ble_eq_true rfl, Nat.le_of_ble_eq_true rfl⟩ (c_X11_share X.2.2.2.1 e1) rfl rfl (Nat.le_of_ble_eq_true rfl) dL_law_534 rfl ?_
  refine l_aload_n 538 X 2 dL_law_537 rfl rfl ?_
  refine l_aload_n 539 X 0 dL_law_538 rfl rfl ?_
  refine l_iload_n 540 X 3 dL_law_539 rfl rfl ?_
  refine l_iconst 541 X dL_law_540 ic1 rfl ?_
  refine l_iadd 542 X dL_law_541 rfl ?_
  refine l_sld 543 X (vjk 1 rfl (by decide) hj X.2.2.2.2.2.2.2.2.2.2) dL_law_542 rfl ?_
  refine l_aload_n 544 X 0 dL_law_543 rfl rfl ?_
  refine l_iload_n 545 X 3 dL_law_544 rfl rfl ?_
  refine l_iconst 546 X dL_law_545 ic2 rfl ?_
  refine l_iadd 547 X dL_law_546 rfl ?_
  refine l_sld 548 X (vjk 2 rfl (by decide) hj X.2.2.2.2.2.2.2.2.2.2) dL_law_547 rfl ?_
  refine l_aload_n 549 X 0 dL_law_548 rfl rfl ?_
  refine l_iload_n 550 X 3 dL_law_549 rfl rfl ?_
  refine l_iconst 551 X dL_law_550 ic3 rfl ?_
  refine l_iadd 552 X dL_law_551 rfl ?_
  refine l_sld 553 X (vjk 3 rfl (by decide) hj X.2.2.2.2.2.2.2.2.2.2) dL_law_552 rfl ?_
  refine l_Rl 556 X cd_L_66_X12_share_X12 ⟨rfl, rfl⟩ ⟨Nat.le_of_ble_eq_true rfl, Nat.le_of_ble_eq_true rfl⟩ (c_X12_share X.2.2.2.2.1 e2) rfl rfl (Nat.le_of_ble_eq_true rfl) dL_law_553 rfl ?_
  refine l_lcmp 557 X dL_law_556 rfl ?_
  refine l_eqL 1413 X dL_law_557 (by decide) ?_
  exact K μ2 ρ2 hR2
set_option maxRecDepth 100000 in
set_option maxHeartbeats 4000000 in
theorem law_c12 {p : Program} {l : Launch} {e : Env} {s : State} {m : MethodId} {args : Array Value} {below : List Frame} {meth : Method} {c : Code} {D : va_G} {ks : Nat → ClassId} {A1 A2 : Nat → Prop} {ad1 ad2 : Nat → Nat} {b L : Nat} {xs : Nat → Int32} {Q : State → Prop} {ce sl : Nat} (X : XL p room_1 s m args meth c D ks A1 A2 ad1 ad2 b L xs ce sl) {F : Nat} {Rel : Mem → Mem → Prop} (S : Sim F Rel) {μ ρ : Mem} {j : Nat} (hj : j + 6 ≤ L) (hR : Rel μ ρ) (K : ∀ μ ρ : Mem, Rel μ ρ → GL p l e room_1 s m args below meth c D ks ad1 ad2 Q ce sl μ ρ 1413 [(0, .ref b), (1, .ref (ad1 0)), (2, .ref (ad2 0)), (3, .int (nI j))] []) : GL p l e room_1 s m args below meth c D ks ad1 ad2 Q ce sl μ ρ 562 [(0, .ref b), (1, .ref (ad1 0)), (2, .ref (ad2 0)), (3, .int (nI j))] [] := by
  obtain ⟨r, μ2, ρ2, e1, e2, hR2⟩ := S.2.2.2.2.2.2.2.2.2.2.2.2.1 μ ρ (xs (nI j + 1).toNatClampNeg) (xs (nI j + 2).toNatClampNeg) (xs (nI j + 3).toNatClampNeg) (xs (nI j + 4).toNatClampNeg) hR
  refine l_aload_n 563 X 1 dL_law_562 rfl rfl ?_
  refine l_aload_n 564 X 0 dL_law_563 rfl rfl ?_
  refine l_iload_n 565 X 3 dL_law_564 rfl rfl ?_
  refine l_iconst 566 X dL_law_565 ic1 rfl ?_
  refine l_iadd 567 X dL_law_566 rfl ?_
  refine l_sld 568 X (vjk 1 rfl (by decide) hj X.2.2.2.2.2.2.2.2.2.2) dL_law_567 rfl ?_
  refine l_aload_n 569 X 0 dL_law_568 rfl rfl ?_
  refine l_iload_n 570 X 3 dL_law_569 rfl rfl ?_
  refine l_iconst 571 X dL_law_570 ic2 rfl ?_
  refine l_iadd 572 X dL_law_571 rfl ?_
  refine l_sld 573 X (vjk 2 rfl (by decide) hj X.2.2.2.2.2.2.2.2.2.2) dL_law_572 rfl ?_
  refine l_aload_n 574 X 0 dL_law_573 rfl rfl ?_
  refine l_iload_n 575 X 3 dL_law_574 rfl rfl ?_
  refine l_iconst 576 X dL_law_575 ic3 rfl ?_
  refine l_iadd 577 X dL_law_576 rfl ?_
  refine l_sld 578 X (vjk 3 rfl (by decide) hj X.2.2.2.2.2.2.2.2.2.2) dL_law_577 rfl ?_
  refine l_aload_n 579 X 0 dL_law_578 rfl rfl ?_
  refine l_iload_n 580 X 3 dL_law_579 rfl rfl ?_
  refine l_iconst 581 X dL_law_580 ic4 rfl ?_
  refine l_iadd 582 X dL_law_581 rfl ?_
  refine l_sld 583 X (vjk 4 rfl (by decide) hj X.2.2.2.2.2.2.2.2.2.2) dL_law_582 rfl ?_
  refine l_Cl 586 X cd_L_67_X11_both_X11 ⟨rfl, rfl⟩ ⟨Nat.le_of_ble_eq_true rfl, Nat.le_of_ble_eq_true rfl⟩ (c_X11_both X.2.2.2.1 e1) rfl rfl (Nat.le_of_ble_eq_true rfl) dL_law_583 rfl ?_
  refine l_aload_n 587 X 2 dL_law_586 rfl rfl ?_
  refine l_aload_n 588 X 0 dL_law_587 rfl rfl ?_
  refine l_iload_n 589 X 3 dL_law_588 rfl rfl ?_
  refine l_iconst 590 X dL_law_589 ic1 rfl ?_
  refine l_iadd 591 X dL_law_590 rfl ?_
  refine l_sld 592 X (vjk 1 rfl (by decide) hj X.2.2.2.2.2.2.2.2.2.2) dL_law_591 rfl ?_
  refine l_aload_n 593 X 0 dL_law_592 rfl rfl ?_
  refine l_iload_n 594 X 3 dL_law_593 rfl rfl ?_
  refine l_iconst 595 X dL_law_594 ic2 rfl ?_
  refine l_iadd 596 X dL_law_595 rfl ?_
  refine l_sld 597 X (vjk 2 rfl (by decide) hj X.2.2.2.2.2.2.2.2.2.2) dL_law_596 rfl ?_
  refine l_aload_n 598 X 0 dL_law_597 rfl rfl ?_
  refine l_iload_n 599 X 3 dL_law_598 rfl rfl ?_
  refine l_iconst 600 X dL_law_599 ic3 rfl ?_
  refine l_iadd 601 X dL_law_600 rfl ?_
  refine l_sld 602 X (vjk 3 rfl (by decide) hj X.2.2.2.2.2.2.2.2.2.2) dL_law_601 rfl ?_
  refine l_aload_n 603 X 0 dL_law_602 rfl rfl ?_
  refine l_iload_n 604 X 3 dL_law_603 rfl rfl ?_
  refine l_iconst 605 X dL_law_604 ic4 rfl ?_
  refine l_iadd 606 X dL_law_605 rfl ?_
  refine l_sld 607 X (vjk 4 rfl (by decide) hj X.2.2.2.2.2.2.2.2.2.2) dL_law_606 rfl ?_
  refine l_Rl 610 X cd_L_71_X12_both_X12 ⟨rfl, rfl⟩ ⟨Nat.le_of_ble_eq_true rfl, Nat.le_of_ble_eq_true rfl⟩ (c_X12_both X.2.2.2.2.1 e2) rfl rfl (Nat.le_of_ble_eq_true rfl) dL_law_607 rfl ?_
  refine l_lcmp 611 X dL_law_610 rfl ?_
  refine l_eqL 1413 X dL_law_611 (by decide) ?_
  exact K μ2 ρ2 hR2
set_option maxRecDepth 100000 in
set_option maxHeartbeats 4000000 in
theorem law_c13 {p : Program} {l : Launch} {e : Env} {s : State} {m : MethodId} {args : Array Value} {below : List Frame} {meth : Method} {c : Code} {D : va_G} {ks : Nat → ClassId} {A1 A2 : Nat → Prop} {ad1 ad2 : Nat → Nat} {b L : Nat} {xs : Nat → Int32} {Q : State → Prop} {ce sl : Nat} (X : XL p room_1 s m args meth c D ks A1 A2 ad1 ad2 b L xs ce sl) {F : Nat} {Rel : Mem → Mem → Prop} (S : Sim F Rel) {μ ρ : Mem} {j : Nat} (hj : j + 6 ≤ L) (hR : Rel μ ρ) (K : ∀ μ ρ : Mem, Rel μ ρ → GL p l e room_1 s m args below meth c D ks ad1 ad2 Q ce sl μ ρ 1413 [(0, .ref b), (1, .ref (ad1 0)), (2, .ref (ad2 0)), (3, .int (nI j))] []) : GL p l e room_1 s m args below meth c D ks ad1 ad2 Q ce sl μ ρ 616 [(0, .ref b), (1, .ref (ad1 0)), (2, .ref (ad2 0)), (3, .int (nI j))] [] := by
  obtain ⟨r, μ2, ρ2, e1, e2, hR2⟩ := S.2.2.2.2.2.2.2.2.2.2.2.2.2.1 μ ρ (xs (nI j + 1).toNatClampNeg) (xs (nI j + 2).toNatClampNeg) hR
  refine l_aload_n 617 X 1 dL_law_616 rfl rfl ?_
  refine l_aload_n 618 X 0 dL_law_617 rfl rfl ?_
  refine l_iload_n 619 X 3 dL_law_618 rfl rfl ?_
  refine l_iconst 620 X dL_law_619 ic1 rfl ?_
  refine l_iadd 621 X dL_law_620 rfl ?_
  refine l_sld 622 X (vjk 1 rfl (by decide) hj X.2.2.2.2.2.2.2.2.2.2) dL_law_621 rfl ?_
  refine l_aload_n 623 X 0 dL_law_622 rfl rfl ?_
  refine l_iload_n 624 X 3 dL_law_623 rfl rfl ?_
  refine l_iconst 625 X dL_law_624 ic2 rfl ?_
  refine l_iadd 626 X dL_law_625 rfl ?_
  refine l_sld 627 X (vjk 2 rfl (by decide) hj X.2.2.2.2.2.2.2.2.2.2) dL_law_626 rfl ?_
  refine l_Ci 630 X cd_L_72_X11_width_X11 ⟨rfl, rfl⟩ ⟨Nat.le_of_ble_eq_true rfl, Nat.le_of_ble_eq_true rfl⟩ (c_X11_width X.2.2.2.1 e1) rfl rfl (Nat.le_of_ble_eq_true rfl) dL_law_627 rfl ?_
  refine l_aload_n 631 X 2 dL_law_630 rfl rfl ?_
  refine l_aload_n 632 X 0 dL_law_631 rfl rfl ?_
  refine l_iload_n 633 X 3 dL_law_632 rfl rfl ?_
  refine l_iconst 634 X dL_law_633 ic1 rfl ?_
  refine l_iadd 635 X dL_law_634 rfl ?_
  refine l_sld 636 X (vjk 1 rfl (by decide) hj X.2.2.2.2.2.2.2.2.2.2) dL_law_635 rfl ?_
  refine l_aload_n 637 X 0 dL_law_636 rfl rfl ?_
  refine l_iload_n 638 X 3 dL_law_637 rfl rfl ?_
  refine l_iconst 639 X dL_law_638 ic2 rfl ?_
  refine l_iadd 640 X dL_law_639 rfl ?_
  refine l_sld 641 X (vjk 2 rfl (by decide) hj X.2.2.2.2.2.2.2.2.2.2) dL_law_640 rfl ?_
  refine l_Ri 644 X cd_L_75_X12_width_X12 ⟨rfl, rfl⟩ ⟨Nat.le_of_ble_eq_true rfl, Nat.le_of_ble_eq_true rfl⟩ (c_X12_width X.2.2.2.2.1 e2) rfl rfl (Nat.le_of_ble_eq_true rfl) dL_law_641 rfl ?_
  refine l_eq 1413 X dL_law_644 (by decide) ?_
  exact K μ2 ρ2 hR2
set_option maxRecDepth 100000 in
set_option maxHeartbeats 4000000 in
theorem law_c14 {p : Program} {l : Launch} {e : Env} {s : State} {m : MethodId} {args : Array Value} {below : List Frame} {meth : Method} {c : Code} {D : va_G} {ks : Nat → ClassId} {A1 A2 : Nat → Prop} {ad1 ad2 : Nat → Nat} {b L : Nat} {xs : Nat → Int32} {Q : State → Prop} {ce sl : Nat} (X : XL p room_1 s m args meth c D ks A1 A2 ad1 ad2 b L xs ce sl) {F : Nat} {Rel : Mem → Mem → Prop} (S : Sim F Rel) {μ ρ : Mem} {j : Nat} (hj : j + 6 ≤ L) (hR : Rel μ ρ) (K : ∀ μ ρ : Mem, Rel μ ρ → GL p l e room_1 s m args below meth c D ks ad1 ad2 Q ce sl μ ρ 1413 [(0, .ref b), (1, .ref (ad1 0)), (2, .ref (ad2 0)), (3, .int (nI j))] []) : GL p l e room_1 s m args below meth c D ks ad1 ad2 Q ce sl μ ρ 649 [(0, .ref b), (1, .ref (ad1 0)), (2, .ref (ad2 0)), (3, .int (nI j))] [] := by
  obtain ⟨r, μ2, ρ2, e1, e2, hR2⟩ := S.2.2.2.2.2.2.2.2.2.2.2.2.2.2.1 μ ρ (xs (nI j + 1).toNatClampNeg) (xs (nI j + 2).toNatClampNeg) hR
  refine l_aload_n 650 X 1 dL_law_649 rfl rfl ?_
  refine l_aload_n 651 X 0 dL_law_650 rfl rfl ?_
  refine l_iload_n 652 X 3 dL_law_651 rfl rfl ?_
  refine l_iconst 653 X dL_law_652 ic1 rfl ?_
  refine l_iadd 654 X dL_law_653 rfl ?_
  refine l_sld 655 X (vjk 1 rfl (by decide) hj X.2.2.2.2.2.2.2.2.2.2) dL_law_654 rfl ?_
  refine l_aload_n 656 X 0 dL_law_655 rfl rfl ?_
  refine l_iload_n 657 X 3 dL_law_656 rfl rfl ?_
  refine l_iconst 658 X dL_law_657 ic2 rfl ?_
  refine l_iadd 659 X dL_law_658 rfl ?_
  refine l_sld 660 X (vjk 2 rfl (by decide) hj X.2.2.2.2.2.2.2.2.2.2) dL_law_659 rfl ?_
  refine l_Ci 663 X cd_L_76_X11_lots_X11 ⟨rfl, rfl⟩ ⟨Nat.le_of_ble_eq_true rfl, Nat.le_of_ble_eq_true rfl⟩ (c_X11_lots X.2.2.2.1 e1) rfl rfl (Nat.le_of_ble_eq_true rfl) dL_law_660 rfl ?_
  refine l_aload_n 664 X 2 dL_law_663 rfl rfl ?_
  refine l_aload_n 665 X 0 dL_law_664 rfl rfl ?_
  refine l_iload_n 666 X 3 dL_law_665 rfl rfl ?_
  refine l_iconst 667 X dL_law_666 ic1 rfl ?_
  refine l_iadd 668 X dL_law_667 rfl ?_
  refine l_sld 669 X (vjk 1 rfl (by decide) hj X.2.2.2.2.2.2.2.2.2.2) dL_law_668 rfl ?_
  refine l_aload_n 670 X 0 dL_law_669 rfl rfl ?_
  refine l_iload_n 671 X 3 dL_law_670 rfl rfl ?_
  refine l_iconst 672 X dL_law_671 ic2 rfl ?_
  refine l_iadd 673 X dL_law_672 rfl ?_
  refine l_sld 674 X (vjk 2 rfl (by decide) hj X.2.2.2.2.2.2.2.2.2.2) dL_law_673 rfl ?_
  refine l_Ri 677 X cd_L_79_X12_lots_X12 ⟨rfl, rfl⟩ ⟨Nat.le_of_ble_eq_true rfl, Nat.le_of_ble_eq_true rfl⟩ (c_X12_lots X.2.2.2.2.1 e2) rfl rfl (Nat.le_of_ble_eq_true rfl) dL_law_674 rfl ?_
  refine l_eq 1413 X dL_law_677 (by decide) ?_
  exact K μ2 ρ2 hR2
set_option maxRecDepth 100000 in
set_option maxHeartbeats 4000000 in
theorem law_c15 {p : Program} {l : Launch} {e : Env} {s : State} {m : MethodId} {args : Array Value} {below : List Frame} {meth : Method} {c : Code} {D : va_G} {ks : Nat → ClassId} {A1 A2 : Nat → Prop} {ad1 ad2 : Nat → Nat} {b L : Nat} {xs : Nat → Int32} {Q : State → Prop} {ce sl : Nat} (X : XL p room_1 s m args meth c D ks A1 A2 ad1 ad2 b L xs ce sl) {F : Nat} {Rel : Mem → Mem → Prop} (S : Sim F Rel) {μ ρ : Mem} {j : Nat} (hj : j + 6 ≤ L) (hR : Rel μ ρ) (K : ∀ μ ρ : Mem, Rel μ ρ → GL p l e room_1 s m args below meth c D ks ad1 ad2 Q ce sl μ ρ 1413 [(0, .ref b), (1, .ref (ad1 0)), (2, .ref (ad2 0)), (3, .int (nI j))] []) : GL p l e room_1 s m args below meth c D ks ad1 ad2 Q ce sl μ ρ 682 [(0, .ref b), (1, .ref (ad1 0)), (2, .ref (ad2 0)), (3, .int (nI j))] [] := by
  obtain ⟨r, μ2, ρ2, e1, e2, hR2⟩ := S.2.2.2.2.2.2.2.2.2.2.2.2.2.2.2.1 μ ρ (xs (nI j + 1).toNatClampNeg) (xs (nI j + 2).toNatClampNeg) hR
  refine l_aload_n 683 X 1 dL_law_682 rfl rfl ?_
  refine l_aload_n 684 X 0 dL_law_683 rfl rfl ?_
  refine l_iload_n 685 X 3 dL_law_684 rfl rfl ?_
  refine l_iconst 686 X dL_law_685 ic1 rfl ?_
  refine l_iadd 687 X dL_law_686 rfl ?_
  refine l_sld 688 X (vjk 1 rfl (by decide) hj X.2.2.2.2.2.2.2.2.2.2) dL_law_687 rfl ?_
  refine l_aload_n 689 X 0 dL_law_688 rfl rfl ?_
  refine l_iload_n 690 X 3 dL_law_689 rfl rfl ?_
  refine l_iconst 691 X dL_law_690 ic2 rfl ?_
  refine l_iadd 692 X dL_law_691 rfl ?_
  refine l_sld 693 X (vjk 2 rfl (by decide) hj X.2.2.2.2.2.2.2.2.2.2) dL_law_692 rfl ?_
  refine l_Ci 696 X cd_L_80_X11_makes_X11 ⟨rfl, rfl⟩ ⟨Nat.le_of_ble_eq_true rfl, Nat.le_of_ble_eq_true rfl⟩ (c_X11_makes X.2.2.2.1 e1) rfl rfl (Nat.le_of_ble_eq_true rfl) dL_law_693 rfl ?_
  refine l_aload_n 697 X 2 dL_law_696 rfl rfl ?_
  refine l_aload_n 698 X 0 dL_law_697 rfl rfl ?_
  refine l_iload_n 699 X 3 dL_law_698 rfl rfl ?_
  refine l_iconst 700 X dL_law_699 ic1 rfl ?_
  refine l_iadd 701 X dL_law_700 rfl ?_
  refine l_sld 702 X (vjk 1 rfl (by decide) hj X.2.2.2.2.2.2.2.2.2.2) dL_law_701 rfl ?_
  refine l_aload_n 703 X 0 dL_law_702 rfl rfl ?_
  refine l_iload_n 704 X 3 dL_law_703 rfl rfl ?_
  refine l_iconst 705 X dL_law_704 ic2 rfl ?_
  refine l_iadd 706 X dL_law_705 rfl ?_
  refine l_sld 707 X (vjk 2 rfl (by decide) hj X.2.2.2.2.2.2.2.2.2.2) dL_law_706 rfl ?_
  refine l_Ri 710 X cd_L_83_X12_makes_X12 ⟨rfl, rfl⟩ ⟨Nat.le_of_ble_eq_true rfl, Nat.le_of_ble_eq_true rfl⟩ (c_X12_makes X.2.2.2.2.1 e2) rfl rfl (Nat.le_of_ble_eq_true rfl) dL_law_707 rfl ?_
  refine l_eq 1413 X dL_law_710 (by decide) ?_
  exact K μ2 ρ2 hR2
set_option maxRecDepth 100000 in
set_option maxHeartbeats 4000000 in
theorem law_c16 {p : Program} {l : Launch} {e : Env} {s : State} {m : MethodId} {args : Array Value} {below : List Frame} {meth : Method} {c : Code} {D : va_G} {ks : Nat → ClassId} {A1 A2 : Nat → Prop} {ad1 ad2 : Nat → Nat} {b L : Nat} {xs : Nat → Int32} {Q : State → Prop} {ce sl : Nat} (X : XL p room_1 s m args meth c D ks A1 A2 ad1 ad2 b L xs ce sl) {F : Nat} {Rel : Mem → Mem → Prop} (S : Sim F Rel) {μ ρ : Mem} {j : Nat} (hj : j + 6 ≤ L) (hR : Rel μ ρ) (K : ∀ μ ρ : Mem, Rel μ ρ → GL p l e room_1 s m args below meth c D ks ad1 ad2 Q ce sl μ ρ 1413 [(0, .ref b), (1, .ref (ad1 0)), (2, .ref (ad2 0)), (3, .int (nI j))] []) : GL p l e room_1 s m args below meth c D ks ad1 ad2 Q ce sl μ ρ 715 [(0, .ref b), (1, .ref (ad1 0)), (2, .ref (ad2 0)), (3, .int (nI j))] [] := by
  obtain ⟨r, μ2, ρ2, e1, e2, hR2⟩ := S.2.2.2.2.2.2.2.2.2.2.2.2.2.2.2.2.1 μ ρ (xs (nI j + 1).toNatClampNeg) (xs (nI j + 2).toNatClampNeg) (xs (nI j + 3).toNatClampNeg) hR
  refine l_aload_n 716 X 1 dL_law_715 rfl rfl ?_
  refine l_aload_n 717 X 0 dL_law_716 rfl rfl ?_
  refine l_iload_n 718 X 3 dL_law_717 rfl rfl ?_
  refine l_iconst 719 X dL_law_718 ic1 rfl ?_
  refine l_iadd 720 X dL_law_719 rfl ?_
  refine l_sld 721 X (vjk 1 rfl (by decide) hj X.2.2.2.2.2.2.2.2.2.2) dL_law_720 rfl ?_
  refine l_aload_n 722 X 0 dL_law_721 rfl rfl ?_
  refine l_iload_n 723 X 3 dL_law_722 rfl rfl ?_
  refine l_iconst 724 X dL_law_723 ic2 rfl ?_
  refine l_iadd 725 X dL_law_724 rfl ?_
  refine l_sld 726 X (vjk 2 rfl (by decide) hj X.2.2.2.2.2.2.2.2.2.2) dL_law_725 rfl ?_
  refine l_aload_n 727 X 0 dL_law_726 rfl rfl ?_
  refine l_iload_n 728 X 3 dL_law_727 rfl rfl ?_
  refine l_iconst 729 X dL_law_728 ic3 rfl ?_
  refine l_iadd 730 X dL_law_729 rfl ?_
  refine l_sld 731 X (vjk 3 rfl (by decide) hj X.2.2.2.2.2.2.2.2.2.2) dL_law_730 rfl ?_
  refine l_Cl 734 X cd_L_84_X11_sum_X11 ⟨rfl, rfl⟩ ⟨Nat.le_of_ble_eq_true rfl, Nat.le_of_ble_eq_true rfl⟩ (c_X11_sum X.2.2.2.1 e1) rfl rfl (Nat.le_of_ble_eq_true rfl) dL_law_731 rfl ?_
  refine l_aload_n 735 X 2 dL_law_734 rfl rfl ?_
  refine l_aload_n 736 X 0 dL_law_735 rfl rfl ?_
  refine l_iload_n 737 X 3 dL_law_736 rfl rfl ?_
  refine l_iconst 738 X dL_law_737 ic1 rfl ?_
  refine l_iadd 739 X dL_law_738 rfl ?_
  refine l_sld 740 X (vjk 1 rfl (by decide) hj X.2.2.2.2.2.2.2.2.2.2) dL_law_739 rfl ?_
  refine l_aload_n 741 X 0 dL_law_740 rfl rfl ?_
  refine l_iload_n 742 X 3 dL_law_741 rfl rfl ?_
  refine l_iconst 743 X dL_law_742 ic2 rfl ?_
  refine l_iadd 744 X dL_law_743 rfl ?_
  refine l_sld 745 X (vjk 2 rfl (by decide) hj X.2.2.2.2.2.2.2.2.2.2) dL_law_744 rfl ?_
  refine l_aload_n 746 X 0 dL_law_745 rfl rfl ?_
  refine l_iload_n 747 X 3 dL_law_746 rfl rfl ?_
  refine l_iconst 748 X dL_law_747 ic3 rfl ?_
  refine l_iadd 749 X dL_law_748 rfl ?_
  refine l_sld 750 X (vjk 3 rfl (by decide) hj X.2.2.2.2.2.2.2.2.2.2) dL_law_749 rfl ?_
  refine l_Rl 753 X cd_L_87_X12_sum_X12 ⟨rfl, rfl⟩ ⟨Nat.le_of_ble_eq_true rfl, Nat.le_of_ble_eq_true rfl⟩ (c_X12_sum X.2.2.2.2.1 e2) rfl rfl (Nat.le_of_ble_eq_true rfl) dL_law_750 rfl ?_
  refine l_lcmp 754 X dL_law_753 rfl ?_
  refine l_eqL 1413 X dL_law_754 (by decide) ?_
  exact K μ2 ρ2 hR2
set_option maxRecDepth 100000 in
set_option maxHeartbeats 4000000 in
theorem law_c17 {p : Program} {l : Launch} {e : Env} {s : State} {m : MethodId} {args : Array Value} {below : List Frame} {meth : Method} {c : Code} {D : va_G} {ks : Nat → ClassId} {A1 A2 : Nat → Prop} {ad1 ad2 : Nat → Nat} {b L : Nat} {xs : Nat → Int32} {Q : State → Prop} {ce sl : Nat} (X : XL p room_1 s m args meth c D ks A1 A2 ad1 ad2 b L xs ce sl) {F : Nat} {Rel : Mem → Mem → Prop} (S : Sim F Rel) {μ ρ : Mem} {j : Nat} (hj : j + 6 ≤ L) (hR : Rel μ ρ) (K : ∀ μ ρ : Mem, Rel μ ρ → GL p l e room_1 s m args below meth c D ks ad1 ad2 Q ce sl μ ρ 1413 [(0, .ref b), (1, .ref (ad1 0)), (2, .ref (ad2 0)), (3, .int (nI j))] []) : GL p l e room_1 s m args below meth c D ks ad1 ad2 Q ce sl μ ρ 759 [(0, .ref b), (1, .ref (ad1 0)), (2, .ref (ad2 0)), (3, .int (nI j))] [] := by
  obtain ⟨r, μ2, ρ2, e1, e2, hR2⟩ := S.2.2.2.2.2.2.2.2.2.2.2.2.2.2.2.2.2.1 μ ρ (xs (nI j + 1).toNatClampNeg) hR
  refine l_aload_n 760 X 1 dL_law_759 rfl rfl ?_
  refine l_aload_n 761 X 0 dL_law_760 rfl rfl ?_
  refine l_iload_n 762 X 3 dL_law_761 rfl rfl ?_
  refine l_iconst 763 X dL_law_762 ic1 rfl ?_
  refine l_iadd 764 X dL_law_763 rfl ?_
  refine l_sld 765 X (vjk 1 rfl (by decide) hj X.2.2.2.2.2.2.2.2.2.2) dL_law_764 rfl ?_
  refine l_Ci 768 X cd_L_88_X11_silent_X11 ⟨rfl, rfl⟩ ⟨Nat.le_of_ble_eq_true rfl, Nat.le_of_ble_eq_true rfl⟩ (c_X11_silent X.2.2.2.1 e1) rfl rfl (Nat.le_of_ble_eq_true rfl) dL_law_765 rfl ?_
  refine l_aload_n 769 X 2 dL_law_768 rfl rfl ?_
  refine l_aload_n 770 X 0 dL_law_769 rfl rfl ?_
  refine l_iload_n 771 X 3 dL_law_770 rfl rfl ?_
  refine l_iconst 772 X dL_law_771 ic1 rfl ?_
  refine l_iadd 773 X dL_law_772 rfl ?_
  refine l_sld 774 X (vjk 1 rfl (by decide) hj X.2.2.2.2.2.2.2.2.2.2) dL_law_773 rfl ?_
  refine l_Ri 777 X cd_L_91_X12_silent_X12 ⟨rfl, rfl⟩ ⟨Nat.le_of_ble_eq_true rfl, Nat.le_of_ble_eq_true rfl⟩ (c_X12_silent X.2.2.2.2.1 e2) rfl rfl (Nat.le_of_ble_eq_true rfl) dL_law_774 rfl ?_
  refine l_eq 1413 X dL_law_777 (by decide) ?_
  exact K μ2 ρ2 hR2
set_option maxRecDepth 100000 in
set_option maxHeartbeats 4000000 in
theorem law_c18 {p : Program} {l : Launch} {e : Env} {s : State} {m : MethodId} {args : Array Value} {below : List Frame} {meth : Method} {c : Code} {D : va_G} {ks : Nat → ClassId} {A1 A2 : Nat → Prop} {ad1 ad2 : Nat → Nat} {b L : Nat} {xs : Nat → Int32} {Q : State → Prop} {ce sl : Nat} (X : XL p room_1 s m args meth c D ks A1 A2 ad1 ad2 b L xs ce sl) {F : Nat} {Rel : Mem → Mem → Prop} (S : Sim F Rel) {μ ρ : Mem} {j : Nat} (hj : j + 6 ≤ L) (hR : Rel μ ρ) (K : ∀ μ ρ : Mem, Rel μ ρ → GL p l e room_1 s m args below meth c D ks ad1 ad2 Q ce sl μ ρ 1413 [(0, .ref b), (1, .ref (ad1 0)), (2, .ref (ad2 0)), (3, .int (nI j))] []) : GL p l e room_1 s m args below meth c D ks ad1 ad2 Q ce sl μ ρ 782 [(0, .ref b), (1, .ref (ad1 0)), (2, .ref (ad2 0)), (3, .int (nI j))] [] := by
  obtain ⟨r, μ2, ρ2, e1, e2, hR2⟩ := S.2.2.2.2.2.2.2.2.2.2.2.2.2.2.2.2.2.2.1 μ ρ (xs (nI j + 1).toNatClampNeg) (xs (nI j + 2).toNatClampNeg) hR
  refine l_aload_n 783 X 1 dL_law_782 rfl rfl ?_
  refine l_aload_n 784 X 0 dL_law_783 rfl rfl ?_
  refine l_iload_n 785 X 3 dL_law_784 rfl rfl ?_
  refine l_iconst 786 X dL_law_785 ic1 rfl ?_
  refine l_iadd 787 X dL_law_786 rfl ?_
  refine l_sld 788 X (vjk 1 rfl (by decide) hj X.2.2.2.2.2.2.2.2.2.2) dL_law_787 rfl ?_
  refine l_aload_n 789 X 0 dL_law_788 rfl rfl ?_
  refine l_iload_n 790 X 3 dL_law_789 rfl rfl ?_
  refine l_iconst 791 X dL_law_790 ic2 rfl ?_
  refine l_iadd 792 X dL_law_791 rfl ?_
  refine l_sld 793 X (vjk 2 rfl (by decide) hj X.2.2.2.2.2.2.2.2.2.2) dL_law_792 rfl ?_
  refine l_Cl 796 X cd_L_92_X11_spread_X11 ⟨rfl, rfl⟩ ⟨Nat.le_of_ble_eq_true rfl, Nat.le_of_ble_eq_true rfl⟩ (c_X11_spread X.2.2.2.1 e1) rfl rfl (Nat.le_of_ble_eq_true rfl) dL_law_793 rfl ?_
  refine l_aload_n 797 X 2 dL_law_796 rfl rfl ?_
  refine l_aload_n 798 X 0 dL_law_797 rfl rfl ?_
  refine l_iload_n 799 X 3 dL_law_798 rfl rfl ?_
  refine l_iconst 800 X dL_law_799 ic1 rfl ?_
  refine l_iadd 801 X dL_law_800 rfl ?_
  refine l_sld 802 X (vjk 1 rfl (by decide) hj X.2.2.2.2.2.2.2.2.2.2) dL_law_801 rfl ?_
  refine l_aload_n 803 X 0 dL_law_802 rfl rfl ?_
  refine l_iload_n 804 X 3 dL_law_803 rfl rfl ?_
  refine l_iconst 805 X dL_law_804 ic2 rfl ?_
  refine l_iadd 806 X dL_law_805 rfl ?_
  refine l_sld 807 X (vjk 2 rfl (by decide) hj X.2.2.2.2.2.2.2.2.2.2) dL_law_806 rfl ?_
  refine l_Rl 810 X cd_L_96_X12_spread_X12 ⟨rfl, rfl⟩ ⟨Nat.le_of_ble_eq_true rfl, Nat.le_of_ble_eq_true rfl⟩ (c_X12_spread X.2.2.2.2.1 e2) rfl rfl (Nat.le_of_ble_eq_true rfl) dL_law_807 rfl ?_
  refine l_lcmp 811 X dL_law_810 rfl ?_
  refine l_eqL 1413 X dL_law_811 (by decide) ?_
  exact K μ2 ρ2 hR2
set_option maxRecDepth 100000 in
set_option maxHeartbeats 4000000 in
theorem law_c19 {p : Program} {l : Launch} {e : Env} {s : State} {m : MethodId} {args : Array Value} {below : List Frame} {meth : Method} {c : Code} {D : va_G} {ks : Nat → ClassId} {A1 A2 : Nat → Prop} {ad1 ad2 : Nat → Nat} {b L : Nat} {xs : Nat → Int32} {Q : State → Prop} {ce sl : Nat} (X : XL p room_1 s m args meth c D ks A1 A2 ad1 ad2 b L xs ce sl) {F : Nat} {Rel : Mem → Mem → Prop} (S : Sim F Rel) {μ ρ : Mem} {j : Nat} (hj : j + 6 ≤ L) (hR : Rel μ ρ) (K : ∀ μ ρ : Mem, Rel μ ρ → GL p l e room_1 s m args below meth c D ks ad1 ad2 Q ce sl μ ρ 1413 [(0, .ref b), (1, .ref (ad1 0)), (2, .ref (ad2 0)), (3, .int (nI j))] []) : GL p l e room_1 s m args below meth c D ks ad1 ad2 Q ce sl μ ρ 816 [(0, .ref b), (1, .ref (ad1 0)), (2, .ref (ad2 0)), (3, .int (nI j))] [] := by
  obtain ⟨r, μ2, ρ2, e1, e2, hR2⟩ := S.2.2.2.2.2.2.2.2.2.2.2.2.2.2.2.2.2.2.2.1 μ ρ (xs (nI j + 1).toNatClampNeg) (xs (nI j + 2).toNatClampNeg) hR
  refine l_aload_n 817 X 1 dL_law_816 rfl rfl ?_
  refine l_aload_n 818 X 0 dL_law_817 rfl rfl ?_
  refine l_iload_n 819 X 3 dL_law_818 rfl rfl ?_
  refine l_iconst 820 X dL_law_819 ic1 rfl ?_
  refine l_iadd 821 X dL_law_820 rfl ?_
  refine l_sld 822 X (vjk 1 rfl (by decide) hj X.2.2.2.2.2.2.2.2.2.2) dL_law_821 rfl ?_
  refine l_aload_n 823 X 0 dL_law_822 rfl rfl ?_
  refine l_iload_n 824 X 3 dL_law_823 rfl rfl ?_
  refine l_iconst 825 X dL_law_824 ic2 rfl ?_
  refine l_iadd 826 X dL_law_825 rfl ?_
  refine l_sld 827 X (vjk 2 rfl (by decide) hj X.2.2.2.2.2.2.2.2.2.2) dL_law_826 rfl ?_
  refine l_Ci 830 X cd_L_97_X11_wider_X11 ⟨rfl, rfl⟩ ⟨Nat.le_of_ble_eq_true rfl, Nat.le_of_ble_eq_true rfl⟩ (c_X11_wider X.2.2.2.1 e1) rfl rfl (Nat.le_of_ble_eq_true rfl) dL_law_827 rfl ?_
  refine l_aload_n 831 X 2 dL_law_830 rfl rfl ?_
  refine l_aload_n 832 X 0 dL_law_831 rfl rfl ?_
  refine l_iload_n 833 X 3 dL_law_832 rfl rfl ?_
  refine l_iconst 834 X dL_law_833 ic1 rfl ?_
  refine l_iadd 835 X dL_law_834 rfl ?_
  refine l_sld 836 X (vjk 1 rfl (by decide) hj X.2.2.2.2.2.2.2.2.2.2) dL_law_835 rfl ?_
  refine l_aload_n 837 X 0 dL_law_836 rfl rfl ?_
  refine l_iload_n 838 X 3 dL_law_837 rfl rfl ?_
  refine l_iconst 839 X dL_law_838 ic2 rfl ?_
  refine l_iadd 840 X dL_law_839 rfl ?_
  refine l_sld 841 X (vjk 2 rfl (by decide) hj X.2.2.2.2.2.2.2.2.2.2) dL_law_840 rfl ?_
  refine l_Ri 844 X cd_L_100_X12_wider_X12 ⟨rfl, rfl⟩ ⟨Nat.le_of_ble_eq_true rfl, Nat.le_of_ble_eq_true rfl⟩ (c_X12_wider X.2.2.2.2.1 e2) rfl rfl (Nat.le_of_ble_eq_true rfl) dL_law_841 rfl ?_
  refine l_eq 1413 X dL_law_844 (by decide) ?_
  exact K μ2 ρ2 hR2
set_option maxRecDepth 100000 in
set_option maxHeartbeats 4000000 in
theorem law_c20 {p : Program} {l : Launch} {e : Env} {s : State} {m : MethodId} {args : Array Value} {below : List Frame} {meth : Method} {c : Code} {D : va_G} {ks : Nat → ClassId} {A1 A2 : Nat → Prop} {ad1 ad2 : Nat → Nat} {b L : Nat} {xs : Nat → Int32} {Q : State → Prop} {ce sl : Nat} (X : XL p room_1 s m args meth c D ks A1 A2 ad1 ad2 b L xs ce sl) {F : Nat} {Rel : Mem → Mem → Prop} (S : Sim F Rel) {μ ρ : Mem} {j : Nat} (hj : j + 6 ≤ L) (hR : Rel μ ρ) (K : ∀ μ ρ : Mem, Rel μ ρ → GL p l e room_1 s m args below meth c D ks ad1 ad2 Q ce sl μ ρ 1413 [(0, .ref b), (1, .ref (ad1 0)), (2, .ref (ad2 0)), (3, .int (nI j))] []) : GL p l e room_1 s m args below meth c D ks ad1 ad2 Q ce sl μ ρ 849 [(0, .ref b), (1, .ref (ad1 0)), (2, .ref (ad2 0)), (3, .int (nI j))] [] := by
  obtain ⟨r, μ2, ρ2, e1, e2, hR2⟩ := S.2.2.2.2.2.2.2.2.2.2.2.2.2.2.2.2.2.2.2.2.1 μ ρ (xs (nI j + 1).toNatClampNeg) (xs (nI j + 2).toNatClampNeg) hR
  refine l_aload_n 850 X 1 dL_law_849 rfl rfl ?_
  refine l_aload_n 851 X 0 dL_law_850 rfl rfl ?_
  refine l_iload_n 852 X 3 dL_law_851 rfl rfl ?_
  refine l_iconst 853 X dL_law_852 ic1 rfl ?_
  refine l_iadd 854 X dL_law_853 rfl ?_
  refine l_sld 855 X (vjk 1 rfl (by decide) hj X.2.2.2.2.2.2.2.2.2.2) dL_law_854 rfl ?_
  refine l_aload_n 856 X 0 dL_law_855 rfl rfl ?_
  refine l_iload_n 857 X 3 dL_law_856 rfl rfl ?_
  refine l_iconst 858 X dL_law_857 ic2 rfl ?_
  refine l_iadd 859 X dL_law_858 rfl ?_
  refine l_sld 860 X (vjk 2 rfl (by decide) hj X.2.2.2.2.2.2.2.2.2.2) dL_law_859 rfl ?_
  refine l_Cl 863 X cd_L_101_X11_edge_X11 ⟨rfl, rfl⟩ ⟨Nat.le_of_ble_eq_true rfl, Nat.le_of_ble_eq_true rfl⟩ (c_X11_edge X.2.2.2.1 e1) rfl rfl (Nat.le_of_ble_eq_true rfl) dL_law_860 rfl ?_
  refine l_aload_n 864 X 2 dL_law_863 rfl rfl ?_
  refine l_aload_n 865 X 0 dL_law_864 rfl rfl ?_
  refine l_iload_n 866 X 3 dL_law_865 rfl rfl ?_
  refine l_iconst 867 X dL_law_866 ic1 rfl ?_
  refine l_iadd 868 X dL_law_867 rfl ?_
  refine l_sld 869 X (vjk 1 rfl (by decide) hj X.2.2.2.2.2.2.2.2.2.2) dL_law_868 rfl ?_
  refine l_aload_n 870 X 0 dL_law_869 rfl rfl ?_
  refine l_iload_n 871 X 3 dL_law_870 rfl rfl ?_
  refine l_iconst 872 X dL_law_871 ic2 rfl ?_
  refine l_iadd 873 X dL_law_872 rfl ?_
  refine l_sld 874 X (vjk 2 rfl (by decide) hj X.2.2.2.2.2.2.2.2.2.2) dL_law_873 rfl ?_
  refine l_Rl 877 X cd_L_104_X12_edge_X12 ⟨rfl, rfl⟩ ⟨Nat.le_of_ble_eq_true rfl, Nat.le_of_ble_eq_true rfl⟩ (c_X12_edge X.2.2.2.2.1 e2) rfl rfl (Nat.le_of_ble_eq_true rfl) dL_law_874 rfl ?_
  refine l_lcmp 878 X dL_law_877 rfl ?_
  refine l_eqL 1413 X dL_law_878 (by decide) ?_
  exact K μ2 ρ2 hR2
set_option maxRecDepth 100000 in
set_option maxHeartbeats 4000000 in
theorem law_c21 {p : Program} {l : Launch} {e : Env} {s : State} {m : MethodId} {args : Array Value} {below : List Frame} {meth : Method} {c : Code} {D : va_G} {ks : Nat → ClassId} {A1 A2 : Nat → Prop} {ad1 ad2 : Nat → Nat} {b L : Nat} {xs : Nat → Int32} {Q : State → Prop} {ce sl : Nat} (X : XL p room_1 s m args meth c D ks A1 A2 ad1 ad2 b L xs ce sl) {F : Nat} {Rel : Mem → Mem → Prop} (S : Sim F Rel) {μ ρ : Mem} {j : Nat} (hj : j + 6 ≤ L) (hR : Rel μ ρ) (K : ∀ μ ρ : Mem, Rel μ ρ → GL p l e room_1 s m args below meth c D ks ad1 ad2 Q ce sl μ ρ 1413 [(0, .ref b), (1, .ref (ad1 0)), (2, .ref (ad2 0)), (3, .int (nI j))] []) : GL p l e room_1 s m args below meth c D ks ad1 ad2 Q ce sl μ ρ 883 [(0, .ref b), (1, .ref (ad1 0)), (2, .ref (ad2 0)), (3, .int (nI j))] [] := by
  obtain ⟨r, μ2, ρ2, e1, e2, hR2⟩ := S.2.2.2.2.2.2.2.2.2.2.2.2.2.2.2.2.2.2.2.2.2.1 μ ρ (xs (nI j + 1).toNatClampNeg) (xs (nI j + 2).toNatClampNeg) (xs (nI j + 3).toNatClampNeg) hR
  refine l_aload_n 884 X 1 dL_law_883 rfl rfl ?_
  refine l_aload_n 885 X 0 dL_law_884 rfl rfl ?_
  refine l_iload_n 886 X 3 dL_law_885 rfl rfl ?_
  refine l_iconst 887 X dL_law_886 ic1 rfl ?_
  refine l_iadd 888 X dL_law_887 rfl ?_
  refine l_sld 889 X (vjk 1 rfl (by decide) hj X.2.2.2.2.2.2.2.2.2.2) dL_law_888 rfl ?_
  refine l_aload_n 890 X 0 dL_law_889 rfl rfl ?_
  refine l_iload_n 891 X 3 dL_law_890 rfl rfl ?_
  refine l_iconst 892 X dL_law_891 ic2 rfl ?_
  refine l_iadd 893 X dL_law_892 rfl ?_
  refine l_sld 894 X (vjk 2 rfl (by decide) hj X.2.2.2.2.2.2.2.2.2.2) dL_law_893 rfl ?_
  refine l_aload_n 895 X 0 dL_law_894 rfl rfl ?_
  refine l_iload_n 896 X 3 dL_law_895 rfl rfl ?_
  refine l_iconst 897 X dL_law_896 ic3 rfl ?_
  refine l_iadd 898 X dL_law_897 rfl ?_
  refine l_sld 899 X (vjk 3 rfl (by decide) hj X.2.2.2.2.2.2.2.2.2.2) dL_law_898 rfl ?_
  refine l_Ci 902 X cd_L_105_X11_known_X11 ⟨rfl, rfl⟩ ⟨Nat.le_of_ble_eq_true rfl, Nat.le_of_ble_eq_true rfl⟩ (c_X11_known X.2.2.2.1 e1) rfl rfl (Nat.le_of_ble_eq_true rfl) dL_law_899 rfl ?_
  refine l_aload_n 903 X 2 dL_law_902 rfl rfl ?_
  refine l_aload_n 904 X 0 dL_law_903 rfl rfl ?_
  refine l_iload_n 905 X 3 dL_law_904 rfl rfl ?_
  refine l_iconst 906 X dL_law_905 ic1 rfl ?_
  refine l_iadd 907 X dL_law_906 rfl ?_
  refine l_sld 908 X (vjk 1 rfl (by decide) hj X.2.2.2.2.2.2.2.2.2.2) dL_law_907 rfl ?_
  refine l_aload_n 909 X 0 dL_law_908 rfl rfl ?_
  refine l_iload_n 910 X 3 dL_law_909 rfl rfl ?_
  refine l_iconst 911 X dL_law_910 ic2 rfl ?_
  refine l_iadd 912 X dL_law_911 rfl ?_
  refine l_sld 913 X (vjk 2 rfl (by decide) hj X.2.2.2.2.2.2.2.2.2.2) dL_law_912 rfl ?_
  refine l_aload_n 914 X 0 dL_law_913 rfl rfl ?_
  refine l_iload_n 915 X 3 dL_law_914 rfl rfl ?_
  refine l_iconst 916 X dL_law_915 ic3 rfl ?_
  refine l_iadd 917 X dL_law_916 rfl ?_
  refine l_sld 918 X (vjk 3 rfl (by decide) hj X.2.2.2.2.2.2.2.2.2.2) dL_law_917 rfl ?_
  refine l_Ri 921 X cd_L_108_X12_known_X12 ⟨rfl, rfl⟩ ⟨Nat.le_of_ble_eq_true rfl, Nat.le_of_ble_eq_true rfl⟩ (c_X12_known X.2.2.2.2.1 e2) rfl rfl (Nat.le_of_ble_eq_true rfl) dL_law_918 rfl ?_
  refine l_eq 1413 X dL_law_921 (by decide) ?_
  exact K μ2 ρ2 hR2
set_option maxRecDepth 100000 in
set_option maxHeartbeats 4000000 in
theorem law_c22 {p : Program} {l : Launch} {e : Env} {s : State} {m : MethodId} {args : Array Value} {below : List Frame} {meth : Method} {c : Code} {D : va_G} {ks : Nat → ClassId} {A1 A2 : Nat → Prop} {ad1 ad2 : Nat → Nat} {b L : Nat} {xs : Nat → Int32} {Q : State → Prop} {ce sl : Nat} (X : XL p room_1 s m args meth c D ks A1 A2 ad1 ad2 b L xs ce sl) {F : Nat} {Rel : Mem → Mem → Prop} (S : Sim F Rel) {μ ρ : Mem} {j : Nat} (hj : j + 6 ≤ L) (hR : Rel μ ρ) (K : ∀ μ ρ : Mem, Rel μ ρ → GL p l e room_1 s m args below meth c D ks ad1 ad2 Q ce sl μ ρ 1413 [(0, .ref b), (1, .ref (ad1 0)), (2, .ref (ad2 0)), (3, .int (nI j))] []) : GL p l e room_1 s m args below meth c D ks ad1 ad2 Q ce sl μ ρ 926 [(0, .ref b), (1, .ref (ad1 0)), (2, .ref (ad2 0)), (3, .int (nI j))] [] := by
  obtain ⟨r, μ2, ρ2, e1, e2, hR2⟩ := S.2.2.2.2.2.2.2.2.2.2.2.2.2.2.2.2.2.2.2.2.2.2.1 μ ρ (xs (nI j + 1).toNatClampNeg) (xs (nI j + 2).toNatClampNeg) (xs (nI j + 3).toNatClampNeg) (xs (nI j + 4).toNatClampNeg) hR
  refine l_aload_n 927 X 1 dL_law_926 rfl rfl ?_
  refine l_aload_n 928 X 0 dL_law_927 rfl rfl ?_
  refine l_iload_n 929 X 3 dL_law_928 rfl rfl ?_
  refine l_iconst 930 X dL_law_929 ic1 rfl ?_
  refine l_iadd 931 X dL_law_930 rfl ?_
  refine l_sld 932 X (vjk 1 rfl (by decide) hj X.2.2.2.2.2.2.2.2.2.2) dL_law_931 rfl ?_
  refine l_aload_n 933 X 0 dL_law_932 rfl rfl ?_
  refine l_iload_n 934 X 3 dL_law_933 rfl rfl ?_
  refine l_iconst 935 X dL_law_934 ic2 rfl ?_
  refine l_iadd 936 X dL_law_935 rfl ?_
  refine l_sld 937 X (vjk 2 rfl (by decide) hj X.2.2.2.2.2.2.2.2.2.2) dL_law_936 rfl ?_
  refine l_aload_n 938 X 0 dL_law_937 rfl rfl ?_
  refine l_iload_n 939 X 3 dL_law_938 rfl rfl ?_
  refine l_iconst 940 X dL_law_939 ic3 rfl ?_
  refine l_iadd 941 X dL_law_940 rfl ?_
  refine l_sld 942 X (vjk 3 rfl (by decide) hj X.2.2.2.2.2.2.2.2.2.2) dL_law_941 rfl ?_
  refine l_aload_n 943 X 0 dL_law_942 rfl rfl ?_
  refine l_iload_n 944 X 3 dL_law_943 rfl rfl ?_
  refine l_iconst 945 X dL_law_944 ic4 rfl ?_
  refine l_iadd 946 X dL_law_945 rfl ?_
  refine l_sld 947 X (vjk 4 rfl (by decide) hj X.2.2.2.2.2.2.2.2.2.2) dL_law_946 rfl ?_
  refine l_Ci 950 X cd_L_109_X11_weight_X11 ⟨rfl, rfl⟩ ⟨Nat.le_of_ble_eq_true rfl, Nat.le_of_ble_eq_true rfl⟩ (c_X11_weight X.2.2.2.1 e1) rfl rfl (Nat.le_of_ble_eq_true rfl) dL_law_947 rfl ?_
  refine l_aload_n 951 X 2 dL_law_950 rfl rfl ?_
  refine l_aload_n 952 X 0 dL_law_951 rfl rfl ?_
  refine l_iload_n 953 X 3 dL_law_952 rfl rfl ?_
  refine l_iconst 954 X dL_law_953 ic1 rfl ?_
  refine l_iadd 955 X dL_law_954 rfl ?_
  refine l_sld 956 X (vjk 1 rfl (by decide) hj X.2.2.2.2.2.2.2.2.2.2) dL_law_955 rfl ?_
  refine l_aload_n 957 X 0 dL_law_956 rfl rfl ?_
  refine l_iload_n 958 X 3 dL_law_957 rfl rfl ?_
  refine l_iconst 959 X dL_law_958 ic2 rfl ?_
  refine l_iadd 960 X dL_law_959 rfl ?_
  refine l_sld 961 X (vjk 2 rfl (by decide) hj X.2.2.2.2.2.2.2.2.2.2) dL_law_960 rfl ?_
  refine l_aload_n 962 X 0 dL_law_961 rfl rfl ?_
  refine l_iload_n 963 X 3 dL_law_962 rfl rfl ?_
  refine l_iconst 964 X dL_law_963 ic3 rfl ?_
  refine l_iadd 965 X dL_law_964 rfl ?_
  refine l_sld 966 X (vjk 3 rfl (by decide) hj X.2.2.2.2.2.2.2.2.2.2) dL_law_965 rfl ?_
  refine l_aload_n 967 X 0 dL_law_966 rfl rfl ?_
  refine l_iload_n 968 X 3 dL_law_967 rfl rfl ?_
  refine l_iconst 969 X dL_law_968 ic4 rfl ?_
  refine l_iadd 970 X dL_law_969 rfl ?_
  refine l_sld 971 X (vjk 4 rfl (by decide) hj X.2.2.2.2.2.2.2.2.2.2) dL_law_970 rfl ?_
  refine l_Ri 974 X cd_L_112_X12_weight_X12 ⟨rfl, rfl⟩ ⟨Nat.le_of_ble_eq_true rfl, Nat.le_of_ble_eq_true rfl⟩ (c_X12_weight X.2.2.2.2.1 e2) rfl rfl (Nat.le_of_ble_eq_true rfl) dL_law_971 rfl ?_
  refine l_eq 1413 X dL_law_974 (by decide) ?_
  exact K μ2 ρ2 hR2
set_option maxRecDepth 100000 in
set_option maxHeartbeats 4000000 in
theorem law_c23 {p : Program} {l : Launch} {e : Env} {s : State} {m : MethodId} {args : Array Value} {below : List Frame} {meth : Method} {c : Code} {D : va_G} {ks : Nat → ClassId} {A1 A2 : Nat → Prop} {ad1 ad2 : Nat → Nat} {b L : Nat} {xs : Nat → Int32} {Q : State → Prop} {ce sl : Nat} (X : XL p room_1 s m args meth c D ks A1 A2 ad1 ad2 b L xs ce sl) {F : Nat} {Rel : Mem → Mem → Prop} (S : Sim F Rel) {μ ρ : Mem} {j : Nat} (hj : j + 6 ≤ L) (hR : Rel μ ρ) (K : ∀ μ ρ : Mem, Rel μ ρ → GL p l e room_1 s m args below meth c D ks ad1 ad2 Q ce sl μ ρ 1413 [(0, .ref b), (1, .ref (ad1 0)), (2, .ref (ad2 0)), (3, .int (nI j))] []) : GL p l e room_1 s m args below meth c D ks ad1 ad2 Q ce sl μ ρ 979 [(0, .ref b), (1, .ref (ad1 0)), (2, .ref (ad2 0)), (3, .int (nI j))] [] := by
  obtain ⟨r, μ2, ρ2, e1, e2, hR2⟩ := S.2.2.2.2.2.2.2.2.2.2.2.2.2.2.2.2.2.2.2.2.2.2.2.1 μ ρ (xs (nI j + 1).toNatClampNeg) (xs (nI j + 2).toNatClampNeg) (xs (nI j + 3).toNatClampNeg) (xs (nI j + 4).toNatClampNeg) hR
  refine l_aload_n 980 X 1 dL_law_979 rfl rfl ?_
  refine l_aload_n 981 X 0 dL_law_980 rfl rfl ?_
  refine l_iload_n 982 X 3 dL_law_981 rfl rfl ?_
  refine l_iconst 983 X dL_law_982 ic1 rfl ?_
  refine l_iadd 984 X dL_law_983 rfl ?_
  refine l_sld 985 X (vjk 1 rfl (by decide) hj X.2.2.2.2.2.2.2.2.2.2) dL_law_984 rfl ?_
  refine l_aload_n 986 X 0 dL_law_985 rfl rfl ?_
  refine l_iload_n 987 X 3 dL_law_986 rfl rfl ?_
  refine l_iconst 988 X dL_law_987 ic2 rfl ?_
  refine l_iadd 989 X dL_law_988 rfl ?_
  refine l_sld 990 X (vjk 2 rfl (by decide) hj X.2.2.2.2.2.2.2.2.2.2) dL_law_989 rfl ?_
  refine l_aload_n 991 X 0 dL_law_990 rfl rfl ?_
  refine l_iload_n 992 X 3 dL_law_991 rfl rfl ?_
  refine l_iconst 993 X dL_law_992 ic3 rfl ?_
  refine l_iadd 994 X dL_law_993 rfl ?_
  refine l_sld 995 X (vjk 3 rfl (by decide) hj X.2.2.2.2.2.2.2.2.2.2) dL_law_994 rfl ?_
  refine l_aload_n 996 X 0 dL_law_995 rfl rfl ?_
  refine l_iload_n 997 X 3 dL_law_996 rfl rfl ?_
  refine l_iconst 998 X dL_law_997 ic4 rfl ?_
  refine l_iadd 999 X dL_law_998 rfl ?_
  refine l_sld 1000 X (vjk 4 rfl (by decide) hj X.2.2.2.2.2.2.2.2.2.2) dL_law_999 rfl ?_
  refine l_Ci 1003 X cd_L_113_X11_led_X11 ⟨rfl, rfl⟩ ⟨Nat.le_of_ble_eq_true rfl, Nat.le_of_ble_eq_true rfl⟩ (c_X11_led X.2.2.2.1 e1) rfl rfl (Nat.le_of_ble_eq_true rfl) dL_law_1000 rfl ?_
  refine l_aload_n 1004 X 2 dL_law_1003 rfl rfl ?_
  refine l_aload_n 1005 X 0 dL_law_1004 rfl rfl ?_
  refine l_iload_n 1006 X 3 dL_law_1005 rfl rfl ?_
  refine l_iconst 1007 X dL_law_1006 ic1 rfl ?_
  refine l_iadd 1008 X dL_law_1007 rfl ?_
  refine l_sld 1009 X (vjk 1 rfl (by decide) hj X.2.2.2.2.2.2.2.2.2.2) dL_law_1008 rfl ?_
  refine l_aload_n 1010 X 0 dL_law_1009 rfl rfl ?_
  refine l_iload_n 1011 X 3 dL_law_1010 rfl rfl ?_
  refine l_iconst 1012 X dL_law_1011 ic2 rfl ?_
  refine l_iadd 1013 X dL_law_1012 rfl ?_
  refine l_sld 1014 X (vjk 2 rfl (by decide) hj X.2.2.2.2.2.2.2.2.2.2) dL_law_1013 rfl ?_
  refine l_aload_n 1015 X 0 dL_law_1014 rfl rfl ?_
  refine l_iload_n 1016 X 3 dL_law_1015 rfl rfl ?_
  refine l_iconst 1017 X dL_law_1016 ic3 rfl ?_
  refine l_iadd 1018 X dL_law_1017 rfl ?_
  refine l_sld 1019 X (vjk 3 rfl (by decide) hj X.2.2.2.2.2.2.2.2.2.2) dL_law_1018 rfl ?_
  refine l_aload_n 1020 X 0 dL_law_1019 rfl rfl ?_
  refine l_iload_n 1021 X 3 dL_law_1020 rfl rfl ?_
  refine l_iconst 1022 X dL_law_1021 ic4 rfl ?_
  refine l_iadd 1023 X dL_law_1022 rfl ?_
  refine l_sld 1024 X (vjk 4 rfl (by decide) hj X.2.2.2.2.2.2.2.2.2.2) dL_law_1023 rfl ?_
  refine l_Ri 1027 X cd_L_116_X12_led_X12 ⟨rfl, rfl⟩ ⟨Nat.le_of_ble_eq_true rfl, Nat.le_of_ble_eq_true rfl⟩ (c_X12_led X.2.2.2.2.1 e2) rfl rfl (Nat.le_of_ble_eq_true rfl) dL_law_1024 rfl ?_
  refine l_eq 1413 X dL_law_1027 (by decide) ?_
  exact K μ2 ρ2 hR2
set_option maxRecDepth 100000 in
set_option maxHeartbeats 4000000 in
theorem law_c24 {p : Program} {l : Launch} {e : Env} {s : State} {m : MethodId} {args : Array Value} {below : List Frame} {meth : Method} {c : Code} {D : va_G} {ks : Nat → ClassId} {A1 A2 : Nat → Prop} {ad1 ad2 : Nat → Nat} {b L : Nat} {xs : Nat → Int32} {Q : State → Prop} {ce sl : Nat} (X : XL p room_1 s m args meth c D ks A1 A2 ad1 ad2 b L xs ce sl) {F : Nat} {Rel : Mem → Mem → Prop} (S : Sim F Rel) {μ ρ : Mem} {j : Nat} (hj : j + 6 ≤ L) (hR : Rel μ ρ) (K : ∀ μ ρ : Mem, Rel μ ρ → GL p l e room_1 s m args below meth c D ks ad1 ad2 Q ce sl μ ρ 1413 [(0, .ref b), (1, .ref (ad1 0)), (2, .ref (ad2 0)), (3, .int (nI j))] []) : GL p l e room_1 s m args below meth c D ks ad1 ad2 Q ce sl μ ρ 1032 [(0, .ref b), (1, .ref (ad1 0)), (2, .ref (ad2 0)), (3, .int (nI j))] [] := by
  obtain ⟨r, μ2, ρ2, e1, e2, hR2⟩ := S.2.2.2.2.2.2.2.2.2.2.2.2.2.2.2.2.2.2.2.2.2.2.2.2.1 μ ρ (xs (nI j + 1).toNatClampNeg) (xs (nI j + 2).toNatClampNeg) hR
  refine l_aload_n 1033 X 1 dL_law_1032 rfl rfl ?_
  refine l_aload_n 1034 X 0 dL_law_1033 rfl rfl ?_
  refine l_iload_n 1035 X 3 dL_law_1034 rfl rfl ?_
  refine l_iconst 1036 X dL_law_1035 ic1 rfl ?_
  refine l_iadd 1037 X dL_law_1036 rfl ?_
  refine l_sld 1038 X (vjk 1 rfl (by decide) hj X.2.2.2.2.2.2.2.2.2.2) dL_law_1037 rfl ?_
  refine l_aload_n 1039 X 0 dL_law_1038 rfl rfl ?_
  refine l_iload_n 1040 X 3 dL_law_1039 rfl rfl ?_
  refine l_iconst 1041 X dL_law_1040 ic2 rfl ?_
  refine l_iadd 1042 X dL_law_1041 rfl ?_
  refine l_sld 1043 X (vjk 2 rfl (by decide) hj X.2.2.2.2.2.2.2.2.2.2) dL_law_1042 rfl ?_
  refine l_Ci 1046 X cd_L_117_X11_cost_X11 ⟨rfl, rfl⟩ ⟨Nat.le_of_ble_eq_true rfl, Nat.le_of_ble_eq_true rfl⟩ (c_X11_cost X.2.2.2.1 e1) rfl rfl (Nat.le_of_ble_eq_true rfl) dL_law_1043 rfl ?_
  refine l_aload_n 1047 X 2 dL_law_1046 rfl rfl ?_
  refine l_aload_n 1048 X 0 dL_law_1047 rfl rfl ?_
  refine l_iload_n 1049 X 3 dL_law_1048 rfl rfl ?_
  refine l_iconst 1050 X dL_law_1049 ic1 rfl ?_
  refine l_iadd 1051 X dL_law_1050 rfl ?_
  refine l_sld 1052 X (vjk 1 rfl (by decide) hj X.2.2.2.2.2.2.2.2.2.2) dL_law_1051 rfl ?_
  refine l_aload_n 1053 X 0 dL_law_1052 rfl rfl ?_
  refine l_iload_n 1054 X 3 dL_law_1053 rfl rfl ?_
  refine l_iconst 1055 X dL_law_1054 ic2 rfl ?_
  refine l_iadd 1056 X dL_law_1055 rfl ?_
  refine l_sld 1057 X (vjk 2 rfl (by decide) hj X.2.2.2.2.2.2.2.2.2.2) dL_law_1056 rfl ?_
  refine l_Ri 1060 X cd_L_120_X12_cost_X12 ⟨rfl, rfl⟩ ⟨Nat.le_of_ble_eq_true rfl, Nat.le_of_ble_eq_true rfl⟩ (c_X12_cost X.2.2.2.2.1 e2) rfl rfl (Nat.le_of_ble_eq_true rfl) dL_law_1057 rfl ?_
  refine l_eq 1413 X dL_law_1060 (by decide) ?_
  exact K μ2 ρ2 hR2
set_option maxRecDepth 100000 in
set_option maxHeartbeats 4000000 in
theorem law_c25 {p : Program} {l : Launch} {e : Env} {s : State} {m : MethodId} {args : Array Value} {below : List Frame} {meth : Method} {c : Code} {D : va_G} {ks : Nat → ClassId} {A1 A2 : Nat → Prop} {ad1 ad2 : Nat → Nat} {b L : Nat} {xs : Nat → Int32} {Q : State → Prop} {ce sl : Nat} (X : XL p room_1 s m args meth c D ks A1 A2 ad1 ad2 b L xs ce sl) {F : Nat} {Rel : Mem → Mem → Prop} (S : Sim F Rel) {μ ρ : Mem} {j : Nat} (hj : j + 6 ≤ L) (hR : Rel μ ρ) (K : ∀ μ ρ : Mem, Rel μ ρ → GL p l e room_1 s m args below meth c D ks ad1 ad2 Q ce sl μ ρ 1413 [(0, .ref b), (1, .ref (ad1 0)), (2, .ref (ad2 0)), (3, .int (nI j))] []) : GL p l e room_1 s m args below meth c D ks ad1 ad2 Q ce sl μ ρ 1065 [(0, .ref b), (1, .ref (ad1 0)), (2, .ref (ad2 0)), (3, .int (nI j))] [] := by
  obtain ⟨r, μ2, ρ2, e1, e2, hR2⟩ := S.2.2.2.2.2.2.2.2.2.2.2.2.2.2.2.2.2.2.2.2.2.2.2.2.2.1 μ ρ (xs (nI j + 1).toNatClampNeg) (xs (nI j + 2).toNatClampNeg) (xs (nI j + 3).toNatClampNeg) (xs (nI j + 4).toNatClampNeg) hR
  refine l_aload_n 1066 X 1 dL_law_1065 rfl rfl ?_
  refine l_aload_n 1067 X 0 dL_law_1066 rfl rfl ?_
  refine l_iload_n 1068 X 3 dL_law_1067 rfl rfl ?_
  refine l_iconst 1069 X dL_law_1068 ic1 rfl ?_
  refine l_iadd 1070 X dL_law_1069 rfl ?_
  refine l_sld 1071 X (vjk 1 rfl (by decide) hj X.2.2.2.2.2.2.2.2.2.2) dL_law_1070 rfl ?_
  refine l_aload_n 1072 X 0 dL_law_1071 rfl rfl ?_
  refine l_iload_n 1073 X 3 dL_law_1072 rfl rfl ?_
  refine l_iconst 1074 X dL_law_1073 ic2 rfl ?_
  refine l_iadd 1075 X dL_law_1074 rfl ?_
  refine l_sld 1076 X (vjk 2 rfl (by decide) hj X.2.2.2.2.2.2.2.2.2.2) dL_law_1075 rfl ?_
  refine l_aload_n 1077 X 0 dL_law_1076 rfl rfl ?_
  refine l_iload_n 1078 X 3 dL_law_1077 rfl rfl ?_
  refine l_iconst 1079 X dL_law_1078 ic3 rfl ?_
  refine l_iadd 1080 X dL_law_1079 rfl ?_
  refine l_sld 1081 X (vjk 3 rfl (by decide) hj X.2.2.2.2.2.2.2.2.2.2) dL_law_1080 rfl ?_
  refine l_aload_n 1082 X 0 dL_law_1081 rfl rfl ?_
  refine l_iload_n 1083 X 3 dL_law_1082 rfl rfl ?_
  refine l_iconst 1084 X dL_law_1083 ic4 rfl ?_
  refine l_iadd 1085 X dL_law_1084 rfl ?_
  refine l_sld 1086 X (vjk 4 rfl (by decide) hj X.2.2.2.2.2.2.2.2.2.2) dL_law_1085 rfl ?_
  refine l_Ci 1089 X cd_L_121_X11_again_X11 ⟨rfl, rfl⟩ ⟨Nat.le_of_ble_eq_true rfl, Nat.le_of_ble_eq_true rfl⟩ (c_X11_again X.2.2.2.1 e1) rfl rfl (Nat.le_of_ble_eq_true rfl) dL_law_1086 rfl ?_
  refine l_aload_n 1090 X 2 dL_law_1089 rfl rfl ?_
  refine l_aload_n 1091 X 0 dL_law_1090 rfl rfl ?_
  refine l_iload_n 1092 X 3 dL_law_1091 rfl rfl ?_
  refine l_iconst 1093 X dL_law_1092 ic1 rfl ?_
  refine l_iadd 1094 X dL_law_1093 rfl ?_
  refine l_sld 1095 X (vjk 1 rfl (by decide) hj X.2.2.2.2.2.2.2.2.2.2) dL_law_1094 rfl ?_
  refine l_aload_n 1096 X 0 dL_law_1095 rfl rfl ?_
  refine l_iload_n 1097 X 3 dL_law_1096 rfl rfl ?_
  refine l_iconst 1098 X dL_law_1097 ic2 rfl ?_
  refine l_iadd 1099 X dL_law_1098 rfl ?_
  refine l_sld 1100 X (vjk 2 rfl (by decide) hj X.2.2.2.2.2.2.2.2.2.2) dL_law_1099 rfl ?_
  refine l_aload_n 1101 X 0 dL_law_1100 rfl rfl ?_
  refine l_iload_n 1102 X 3 dL_law_1101 rfl rfl ?_
  refine l_iconst 1103 X dL_law_1102 ic3 rfl ?_
  refine l_iadd 1104 X dL_law_1103 rfl ?_
  refine l_sld 1105 X (vjk 3 rfl (by decide) hj X.2.2.2.2.2.2.2.2.2.2) dL_law_1104 rfl ?_
  refine l_aload_n 1106 X 0 dL_law_1105 rfl rfl ?_
  refine l_iload_n 1107 X 3 dL_law_1106 rfl rfl ?_
  refine l_iconst 1108 X dL_law_1107 ic4 rfl ?_
  refine l_iadd 1109 X dL_law_1108 rfl ?_
  refine l_sld 1110 X (vjk 4 rfl (by decide) hj X.2.2.2.2.2.2.2.2.2.2) dL_law_1109 rfl ?_
  refine l_Ri 1113 X cd_L_124_X12_again_X12 ⟨rfl, rfl⟩ ⟨Nat.le_of_ble_eq_true rfl, Nat.le_of_ble_eq_true rfl⟩ (c_X12_again X.2.2.2.2.1 e2) rfl rfl (Nat.le_of_ble_eq_true rfl) dL_law_1110 rfl ?_
  refine l_eq 1413 X dL_law_1113 (by decide) ?_
  exact K μ2 ρ2 hR2
set_option maxRecDepth 100000 in
set_option maxHeartbeats 4000000 in
theorem law_c26 {p : Program} {l : Launch} {e : Env} {s : State} {m : MethodId} {args : Array Value} {below : List Frame} {meth : Method} {c : Code} {D : va_G} {ks : Nat → ClassId} {A1 A2 : Nat → Prop} {ad1 ad2 : Nat → Nat} {b L : Nat} {xs : Nat → Int32} {Q : State → Prop} {ce sl : Nat} (X : XL p room_1 s m args meth c D ks A1 A2 ad1 ad2 b L xs ce sl) {F : Nat} {Rel : Mem → Mem → Prop} (S : Sim F Rel) {μ ρ : Mem} {j : Nat} (hj : j + 6 ≤ L) (hR : Rel μ ρ) (K : ∀ μ ρ : Mem, Rel μ ρ → GL p l e room_1 s m args below meth c D ks ad1 ad2 Q ce sl μ ρ 1413 [(0, .ref b), (1, .ref (ad1 0)), (2, .ref (ad2 0)), (3, .int (nI j))] []) : GL p l e room_1 s m args below meth c D ks ad1 ad2 Q ce sl μ ρ 1118 [(0, .ref b), (1, .ref (ad1 0)), (2, .ref (ad2 0)), (3, .int (nI j))] [] := by
  obtain ⟨r, μ2, ρ2, e1, e2, hR2⟩ := S.2.2.2.2.2.2.2.2.2.2.2.2.2.2.2.2.2.2.2.2.2.2.2.2.2.2.1 μ ρ (xs (nI j + 1).toNatClampNeg) (xs (nI j + 2).toNatClampNeg) (xs (nI j + 3).toNatClampNeg) hR
  refine l_aload_n 1119 X 1 dL_law_1118 rfl rfl ?_
  refine l_aload_n 1120 X 0 dL_law_1119 rfl rfl ?_
  refine l_iload_n 1121 X 3 dL_law_1120 rfl rfl ?_
  refine l_iconst 1122 X dL_law_1121 ic1 rfl ?_
  refine l_iadd 1123 X dL_law_1122 rfl ?_
  refine l_sld 1124 X (vjk 1 rfl (by decide) hj X.2.2.2.2.2.2.2.2.2.2) dL_law_1123 rfl ?_
  refine l_aload_n 1125 X 0 dL_law_1124 rfl rfl ?_
  refine l_iload_n 1126 X 3 dL_law_1125 rfl rfl ?_
  refine l_iconst 1127 X dL_law_1126 ic2 rfl ?_
  refine l_iadd 1128 X dL_law_1127 rfl ?_
  refine l_sld 1129 X (vjk 2 rfl (by decide) hj X.2.2.2.2.2.2.2.2.2.2) dL_law_1128 rfl ?_
  refine l_aload_n 1130 X 0 dL_law_1129 rfl rfl ?_
  refine l_iload_n 1131 X 3 dL_law_1130 rfl rfl ?_
  refine l_iconst 1132 X dL_law_1131 ic3 rfl ?_
  refine l_iadd 1133 X dL_law_1132 rfl ?_
  refine l_sld 1134 X (vjk 3 rfl (by decide) hj X.2.2.2.2.2.2.2.2.2.2) dL_law_1133 rfl ?_
  refine l_Ci 1137 X cd_L_125_X11_sheet_X11 ⟨rfl, rfl⟩ ⟨Nat.le_of_ble_eq_true rfl, Nat.le_of_ble_eq_true rfl⟩ (c_X11_sheet X.2.2.2.1 e1) rfl rfl (Nat.le_of_ble_eq_true rfl) dL_law_1134 rfl ?_
  refine l_aload_n 1138 X 2 dL_law_1137 rfl rfl ?_
  refine l_aload_n 1139 X 0 dL_law_1138 rfl rfl ?_
  refine l_iload_n 1140 X 3 dL_law_1139 rfl rfl ?_
  refine l_iconst 1141 X dL_law_1140 ic1 rfl ?_
  refine l_iadd 1142 X dL_law_1141 rfl ?_
  refine l_sld 1143 X (vjk 1 rfl (by decide) hj X.2.2.2.2.2.2.2.2.2.2) dL_law_1142 rfl ?_
  refine l_aload_n 1144 X 0 dL_law_1143 rfl rfl ?_
  refine l_iload_n 1145 X 3 dL_law_1144 rfl rfl ?_
  refine l_iconst 1146 X dL_law_1145 ic2 rfl ?_
  refine l_iadd 1147 X dL_law_1146 rfl ?_
  refine l_sld 1148 X (vjk 2 rfl (by decide) hj X.2.2.2.2.2.2.2.2.2.2) dL_law_1147 rfl ?_
  refine l_aload_n 1149 X 0 dL_law_1148 rfl rfl ?_
  refine l_iload_n 1150 X 3 dL_law_1149 rfl rfl ?_
  refine l_iconst 1151 X dL_law_1150 ic3 rfl ?_
  refine l_iadd 1152 X dL_law_1151 rfl ?_
  refine l_sld 1153 X (vjk 3 rfl (by decide) hj X.2.2.2.2.2.2.2.2.2.2) dL_law_1152 rfl ?_
  refine l_Ri 1156 X cd_L_128_X12_sheet_X12 ⟨rfl, rfl⟩ ⟨Nat.le_of_ble_eq_true rfl, Nat.le_of_ble_eq_true rfl⟩ (c_X12_sheet X.2.2.2.2.1 e2) rfl rfl (Nat.le_of_ble_eq_true rfl) dL_law_1153 rfl ?_
  refine l_eq 1413 X dL_law_1156 (by decide) ?_
  exact K μ2 ρ2 hR2
set_option maxRecDepth 100000 in
set_option maxHeartbeats 4000000 in
theorem law_c27 {p : Program} {l : Launch} {e : Env} {s : State} {m : MethodId} {args : Array Value} {below : List Frame} {meth : Method} {c : Code} {D : va_G} {ks : Nat → ClassId} {A1 A2 : Nat → Prop} {ad1 ad2 : Nat → Nat} {b L : Nat} {xs : Nat → Int32} {Q : State → Prop} {ce sl : Nat} (X : XL p room_1 s m args meth c D ks A1 A2 ad1 ad2 b L xs ce sl) {F : Nat} {Rel : Mem → Mem → Prop} (S : Sim F Rel) {μ ρ : Mem} {j : Nat} (hj : j + 6 ≤ L) (hR : Rel μ ρ) (K : ∀ μ ρ : Mem, Rel μ ρ → GL p l e room_1 s m args below meth c D ks ad1 ad2 Q ce sl μ ρ 1413 [(0, .ref b), (1, .ref (ad1 0)), (2, .ref (ad2 0)), (3, .int (nI j))] []) : GL p l e room_1 s m args below meth c D ks ad1 ad2 Q ce sl μ ρ 1161 [(0, .ref b), (1, .ref (ad1 0)), (2, .ref (ad2 0)), (3, .int (nI j))] [] := by
  obtain ⟨r, μ2, ρ2, e1, e2, hR2⟩ := S.2.2.2.2.2.2.2.2.2.2.2.2.2.2.2.2.2.2.2.2.2.2.2.2.2.2.2.1 μ ρ (xs (nI j + 1).toNatClampNeg) hR
  refine l_aload_n 1162 X 1 dL_law_1161 rfl rfl ?_
  refine l_aload_n 1163 X 0 dL_law_1162 rfl rfl ?_
  refine l_iload_n 1164 X 3 dL_law_1163 rfl rfl ?_
  refine l_iconst 1165 X dL_law_1164 ic1 rfl ?_
  refine l_iadd 1166 X dL_law_1165 rfl ?_
  refine l_sld 1167 X (vjk 1 rfl (by decide) hj X.2.2.2.2.2.2.2.2.2.2) dL_law_1166 rfl ?_
  refine l_Ci 1170 X cd_L_129_X11_lose_X11 ⟨rfl, rfl⟩ ⟨Nat.le_of_ble_eq_true rfl, Nat.le_of_ble_eq_true rfl⟩ (c_X11_lose X.2.2.2.1 e1) rfl rfl (Nat.le_of_ble_eq_true rfl) dL_law_1167 rfl ?_
  refine l_aload_n 1171 X 2 dL_law_1170 rfl rfl ?_
  refine l_aload_n 1172 X 0 dL_law_1171 rfl rfl ?_
  refine l_iload_n 1173 X 3 dL_law_1172 rfl rfl ?_
  refine l_iconst 1174 X dL_law_1173 ic1 rfl ?_
  refine l_iadd 1175 X dL_law_1174 rfl ?_
  refine l_sld 1176 X (vjk 1 rfl (by decide) hj X.2.2.2.2.2.2.2.2.2.2) dL_law_1175 rfl ?_
  refine l_Ri 1179 X cd_L_132_X12_lose_X12 ⟨rfl, rfl⟩ ⟨Nat.le_of_ble_eq_true rfl, Nat.le_of_ble_eq_true rfl⟩ (c_X12_lose X.2.2.2.2.1 e2) rfl rfl (Nat.le_of_ble_eq_true rfl) dL_law_1176 rfl ?_
  refine l_eq 1413 X dL_law_1179 (by decide) ?_
  exact K μ2 ρ2 hR2
set_option maxRecDepth 100000 in
set_option maxHeartbeats 4000000 in
theorem law_c28 {p : Program} {l : Launch} {e : Env} {s : State} {m : MethodId} {args : Array Value} {below : List Frame} {meth : Method} {c : Code} {D : va_G} {ks : Nat → ClassId} {A1 A2 : Nat → Prop} {ad1 ad2 : Nat → Nat} {b L : Nat} {xs : Nat → Int32} {Q : State → Prop} {ce sl : Nat} (X : XL p room_1 s m args meth c D ks A1 A2 ad1 ad2 b L xs ce sl) {F : Nat} {Rel : Mem → Mem → Prop} (S : Sim F Rel) {μ ρ : Mem} {j : Nat} (hj : j + 6 ≤ L) (hR : Rel μ ρ) (K : ∀ μ ρ : Mem, Rel μ ρ → GL p l e room_1 s m args below meth c D ks ad1 ad2 Q ce sl μ ρ 1413 [(0, .ref b), (1, .ref (ad1 0)), (2, .ref (ad2 0)), (3, .int (nI j))] []) : GL p l e room_1 s m args below meth c D ks ad1 ad2 Q ce sl μ ρ 1184 [(0, .ref b), (1, .ref (ad1 0)), (2, .ref (ad2 0)), (3, .int (nI j))] [] := by
  obtain ⟨r, μ2, ρ2, e1, e2, hR2⟩ := S.2.2.2.2.2.2.2.2.2.2.2.2.2.2.2.2.2.2.2.2.2.2.2.2.2.2.2.2.1 μ ρ (xs (nI j + 1).toNatClampNeg) (xs (nI j + 2).toNatClampNeg) (xs (nI j + 3).toNatClampNeg) (xs (nI j + 4).toNatClampNeg) hR
  refine l_aload_n 1185 X 1 dL_law_1184 rfl rfl ?_
  refine l_aload_n 1186 X 0 dL_law_1185 rfl rfl ?_
  refine l_iload_n 1187 X 3 dL_law_1186 rfl rfl ?_
  refine l_iconst 1188 X dL_law_1187 ic1 rfl ?_
  refine l_iadd 1189 X dL_law_1188 rfl ?_
  refine l_sld 1190 X (vjk 1 rfl (by decide) hj X.2.2.2.2.2.2.2.2.2.2) dL_law_1189 rfl ?_
  refine l_aload_n 1191 X 0 dL_law_1190 rfl rfl ?_
  refine l_iload_n 1192 X 3 dL_law_1191 rfl rfl ?_
  refine l_iconst 1193 X dL_law_1192 ic2 rfl ?_
  refine l_iadd 1194 X dL_law_1193 rfl ?_
  refine l_sld 1195 X (vjk 2 rfl (by decide) hj X.2.2.2.2.2.2.2.2.2.2) dL_law_1194 rfl ?_
  refine l_aload_n 1196 X 0 dL_law_1195 rfl rfl ?_
  refine l_iload_n 1197 X 3 dL_law_1196 rfl rfl ?_
  refine l_iconst 1198 X dL_law_1197 ic3 rfl ?_
  refine l_iadd 1199 X dL_law_1198 rfl ?_
  refine l_sld 1200 X (vjk 3 rfl (by decide) hj X.2.2.2.2.2.2.2.2.2.2) dL_law_1199 rfl ?_
  refine l_aload_n 1201 X 0 dL_law_1200 rfl rfl ?_
  refine l_iload_n 1202 X 3 dL_law_1201 rfl rfl ?_
  refine l_iconst 1203 X dL_law_1202 ic4 rfl ?_
  refine l_iadd 1204 X dL_law_1203 rfl ?_
  refine l_sld 1205 X (vjk 4 rfl (by decide) hj X.2.2.2.2.2.2.2.2.2.2) dL_law_1204 rfl ?_
  refine l_Ci 1208 X cd_L_133_X11_put_X11 ⟨rfl, rfl⟩ ⟨Nat.le_of_ble_eq_true rfl, Nat.le_of_ble_eq_true rfl⟩ (c_X11_put X.2.2.2.1 e1) rfl rfl (Nat.le_of_ble_eq_true rfl) dL_law_1205 rfl ?_
  refine l_aload_n 1209 X 2 dL_law_1208 rfl rfl ?_
  refine l_aload_n 1210 X 0 dL_law_1209 rfl rfl ?_
  refine l_iload_n 1211 X 3 dL_law_1210 rfl rfl ?_
  refine l_iconst 1212 X dL_law_1211 ic1 rfl ?_
  refine l_iadd 1213 X dL_law_1212 rfl ?_
  refine l_sld 1214 X (vjk 1 rfl (by decide) hj X.2.2.2.2.2.2.2.2.2.2) dL_law_1213 rfl ?_
  refine l_aload_n 1215 X 0 dL_law_1214 rfl rfl ?_
  refine l_iload_n 1216 X 3 dL_law_1215 rfl rfl ?_
  refine l_iconst 1217 X dL_law_1216 ic2 rfl ?_
  refine l_iadd 1218 X dL_law_1217 rfl ?_
  refine l_sld 1219 X (vjk 2 rfl (by decide) hj X.2.2.2.2.2.2.2.2.2.2) dL_law_1218 rfl ?_
  refine l_aload_n 1220 X 0 dL_law_1219 rfl rfl ?_
  refine l_iload_n 1221 X 3 dL_law_1220 rfl rfl ?_
  refine l_iconst 1222 X dL_law_1221 ic3 rfl ?_
  refine l_iadd 1223 X dL_law_1222 rfl ?_
  refine l_sld 1224 X (vjk 3 rfl (by decide) hj X.2.2.2.2.2.2.2.2.2.2) dL_law_1223 rfl ?_
  refine l_aload_n 1225 X 0 dL_law_1224 rfl rfl ?_
  refine l_iload_n 1226 X 3 dL_law_1225 rfl rfl ?_
  refine l_iconst 1227 X dL_law_1226 ic4 rfl ?_
  refine l_iadd 1228 X dL_law_1227 rfl ?_
  refine l_sld 1229 X (vjk 4 rfl (by decide) hj X.2.2.2.2.2.2.2.2.2.2) dL_law_1228 rfl ?_
  refine l_Ri 1232 X cd_L_136_X12_put_X12 ⟨rfl, rfl⟩ ⟨Nat.le_of_ble_eq_true rfl, Nat.le_of_ble_eq_true rfl⟩ (c_X12_put X.2.2.2.2.1 e2) rfl rfl (Nat.le_of_ble_eq_true rfl) dL_law_1229 rfl ?_
  refine l_eq 1413 X dL_law_1232 (by decide) ?_
  exact K μ2 ρ2 hR2
set_option maxRecDepth 100000 in
set_option maxHeartbeats 4000000 in
theorem law_c29 {p : Program} {l : Launch} {e : Env} {s : State} {m : MethodId} {args : Array Value} {below : List Frame} {meth : Method} {c : Code} {D : va_G} {ks : Nat → ClassId} {A1 A2 : Nat → Prop} {ad1 ad2 : Nat → Nat} {b L : Nat} {xs : Nat → Int32} {Q : State → Prop} {ce sl : Nat} (X : XL p room_1 s m args meth c D ks A1 A2 ad1 ad2 b L xs ce sl) {F : Nat} {Rel : Mem → Mem → Prop} (S : Sim F Rel) {μ ρ : Mem} {j : Nat} (hj : j + 6 ≤ L) (hR : Rel μ ρ) (K : ∀ μ ρ : Mem, Rel μ ρ → GL p l e room_1 s m args below meth c D ks ad1 ad2 Q ce sl μ ρ 1413 [(0, .ref b), (1, .ref (ad1 0)), (2, .ref (ad2 0)), (3, .int (nI j))] []) : GL p l e room_1 s m args below meth c D ks ad1 ad2 Q ce sl μ ρ 1237 [(0, .ref b), (1, .ref (ad1 0)), (2, .ref (ad2 0)), (3, .int (nI j))] [] := by
  obtain ⟨r, μ2, ρ2, e1, e2, hR2⟩ := S.2.2.2.2.2.2.2.2.2.2.2.2.2.2.2.2.2.2.2.2.2.2.2.2.2.2.2.2.2.1 μ ρ (xs (nI j + 1).toNatClampNeg) (xs (nI j + 2).toNatClampNeg) (xs (nI j + 3).toNatClampNeg) hR
  refine l_aload_n 1238 X 1 dL_law_1237 rfl rfl ?_
  refine l_aload_n 1239 X 0 dL_law_1238 rfl rfl ?_
  refine l_iload_n 1240 X 3 dL_law_1239 rfl rfl ?_
  refine l_iconst 1241 X dL_law_1240 ic1 rfl ?_
  refine l_iadd 1242 X dL_law_1241 rfl ?_
  refine l_sld 1243 X (vjk 1 rfl (by decide) hj X.2.2.2.2.2.2.2.2.2.2) dL_law_1242 rfl ?_
  refine l_aload_n 1244 X 0 dL_law_1243 rfl rfl ?_
  refine l_iload_n 1245 X 3 dL_law_1244 rfl rfl ?_
  refine l_iconst 1246 X dL_law_1245 ic2 rfl ?_
  refine l_iadd 1247 X dL_law_1246 rfl ?_
  refine l_sld 1248 X (vjk 2 rfl (by decide) hj X.2.2.2.2.2.2.2.2.2.2) dL_law_1247 rfl ?_
  refine l_aload_n 1249 X 0 dL_law_1248 rfl rfl ?_
  refine l_iload_n 1250 X 3 dL_law_1249 rfl rfl ?_
  refine l_iconst 1251 X dL_law_1250 ic3 rfl ?_
  refine l_iadd 1252 X dL_law_1251 rfl ?_
  refine l_sld 1253 X (vjk 3 rfl (by decide) hj X.2.2.2.2.2.2.2.2.2.2) dL_law_1252 rfl ?_
  refine l_Ci 1256 X cd_L_137_X11_get_X11 ⟨rfl, rfl⟩ ⟨Nat.le_of_ble_eq_true rfl, Nat.le_of_ble_eq_true rfl⟩ (c_X11_get X.2.2.2.1 e1) rfl rfl (Nat.le_of_ble_eq_true rfl) dL_law_1253 rfl ?_
  refine l_aload_n 1257 X 2 dL_law_1256 rfl rfl ?_
  refine l_aload_n 1258 X 0 dL_law_1257 rfl rfl ?_
  refine l_iload_n 1259 X 3 dL_law_1258 rfl rfl ?_
  refine l_iconst 1260 X dL_law_1259 ic1 rfl ?_
  refine l_iadd 1261 X dL_law_1260 rfl ?_
  refine l_sld 1262 X (vjk 1 rfl (by decide) hj X.2.2.2.2.2.2.2.2.2.2) dL_law_1261 rfl ?_
  refine l_aload_n 1263 X 0 dL_law_1262 rfl rfl ?_
  refine l_iload_n 1264 X 3 dL_law_1263 rfl rfl ?_
  refine l_iconst 1265 X dL_law_1264 ic2 rfl ?_
  refine l_iadd 1266 X dL_law_1265 rfl ?_
  refine l_sld 1267 X (vjk 2 rfl (by decide) hj X.2.2.2.2.2.2.2.2.2.2) dL_law_1266 rfl ?_
  refine l_aload_n 1268 X 0 dL_law_1267 rfl rfl ?_
  refine l_iload_n 1269 X 3 dL_law_1268 rfl rfl ?_
  refine l_iconst 1270 X dL_law_1269 ic3 rfl ?_
  refine l_iadd 1271 X dL_law_1270 rfl ?_
  refine l_sld 1272 X (vjk 3 rfl (by decide) hj X.2.2.2.2.2.2.2.2.2.2) dL_law_1271 rfl ?_
  refine l_Ri 1275 X cd_L_140_X12_get_X12 ⟨rfl, rfl⟩ ⟨Nat.le_of_ble_eq_true rfl, Nat.le_of_ble_eq_true rfl⟩ (c_X12_get X.2.2.2.2.1 e2) rfl rfl (Nat.le_of_ble_eq_true rfl) dL_law_1272 rfl ?_
  refine l_eq 1413 X dL_law_1275 (by decide) ?_
  exact K μ2 ρ2 hR2
set_option maxRecDepth 100000 in
set_option maxHeartbeats 4000000 in
theorem law_c30 {p : Program} {l : Launch} {e : Env} {s : State} {m : MethodId} {args : Array Value} {below : List Frame} {meth : Method} {c : Code} {D : va_G} {ks : Nat → ClassId} {A1 A2 : Nat → Prop} {ad1 ad2 : Nat → Nat} {b L : Nat} {xs : Nat → Int32} {Q : State → Prop} {ce sl : Nat} (X : XL p room_1 s m args meth c D ks A1 A2 ad1 ad2 b L xs ce sl) {F : Nat} {Rel : Mem → Mem → Prop} (S : Sim F Rel) {μ ρ : Mem} {j : Nat} (hj : j + 6 ≤ L) (hR : Rel μ ρ) (K : ∀ μ ρ : Mem, Rel μ ρ → GL p l e room_1 s m args below meth c D ks ad1 ad2 Q ce sl μ ρ 1413 [(0, .ref b), (1, .ref (ad1 0)), (2, .ref (ad2 0)), (3, .int (nI j))] []) : GL p l e room_1 s m args below meth c D ks ad1 ad2 Q ce sl μ ρ 1280 [(0, .ref b), (1, .ref (ad1 0)), (2, .ref (ad2 0)), (3, .int (nI j))] [] := by
  obtain ⟨r, μ2, ρ2, e1, e2, hR2⟩ := S.2.2.2.2.2.2.2.2.2.2.2.2.2.2.2.2.2.2.2.2.2.2.2.2.2.2.2.2.2.2.1 μ ρ (xs (nI j + 1).toNatClampNeg) (xs (nI j + 2).toNatClampNeg) (xs (nI j + 3).toNatClampNeg) (xs (nI j + 4).toNatClampNeg) (xs (nI j + 5).toNatClampNeg) hR
  refine l_aload_n 1281 X 1 dL_law_1280 rfl rfl ?_
  refine l_aload_n 1282 X 0 dL_law_1281 rfl rfl ?_
  refine l_iload_n 1283 X 3 dL_law_1282 rfl rfl ?_
  refine l_iconst 1284 X dL_law_1283 ic1 rfl ?_
  refine l_iadd 1285 X dL_law_1284 rfl ?_
  refine l_sld 1286 X (vjk 1 rfl (by decide) hj X.2.2.2.2.2.2.2.2.2.2) dL_law_1285 rfl ?_
  refine l_aload_n 1287 X 0 dL_law_1286 rfl rfl ?_
  refine l_iload_n 1288 X 3 dL_law_1287 rfl rfl ?_
  refine l_iconst 1289 X dL_law_1288 ic2 rfl ?_
  refine l_iadd 1290 X dL_law_1289 rfl ?_
  refine l_sld 1291 X (vjk 2 rfl (by decide) hj X.2.2.2.2.2.2.2.2.2.2) dL_law_1290 rfl ?_
  refine l_aload_n 1292 X 0 dL_law_1291 rfl rfl ?_
  refine l_iload_n 1293 X 3 dL_law_1292 rfl rfl ?_
  refine l_iconst 1294 X dL_law_1293 ic3 rfl ?_
  refine l_iadd 1295 X dL_law_1294 rfl ?_
  refine l_sld 1296 X (vjk 3 rfl (by decide) hj X.2.2.2.2.2.2.2.2.2.2) dL_law_1295 rfl ?_
  refine l_aload_n 1297 X 0 dL_law_1296 rfl rfl ?_
  refine l_iload_n 1298 X 3 dL_law_1297 rfl rfl ?_
  refine l_iconst 1299 X dL_law_1298 ic4 rfl ?_
  refine l_iadd 1300 X dL_law_1299 rfl ?_
  refine l_sld 1301 X (vjk 4 rfl (by decide) hj X.2.2.2.2.2.2.2.2.2.2) dL_law_1300 rfl ?_
  refine l_aload_n 1302 X 0 dL_law_1301 rfl rfl ?_
  refine l_iload_n 1303 X 3 dL_law_1302 rfl rfl ?_
  refine l_iconst 1304 X dL_law_1303 ic5 rfl ?_
  refine l_iadd 1305 X dL_law_1304 rfl ?_
  refine l_sld 1306 X (vjk 5 rfl (by decide) hj X.2.2.2.2.2.2.2.2.2.2) dL_law_1305 rfl ?_
  refine l_Ci 1309 X cd_L_141_X11_copy_X11 ⟨rfl, rfl⟩ ⟨Nat.le_of_ble_eq_true rfl, Nat.le_of_ble_eq_true rfl⟩ (c_X11_copy X.2.2.2.1 e1) rfl rfl (Nat.le_of_ble_eq_true rfl) dL_law_1306 rfl ?_
  refine l_aload_n 1310 X 2 dL_law_1309 rfl rfl ?_
  refine l_aload_n 1311 X 0 dL_law_1310 rfl rfl ?_
  refine l_iload_n 1312 X 3 dL_law_1311 rfl rfl ?_
  refine l_iconst 1313 X dL_law_1312 ic1 rfl ?_
  refine l_iadd 1314 X dL_law_1313 rfl ?_
  refine l_sld 1315 X (vjk 1 rfl (by decide) hj X.2.2.2.2.2.2.2.2.2.2) dL_law_1314 rfl ?_
  refine l_aload_n 1316 X 0 dL_law_1315 rfl rfl ?_
  refine l_iload_n 1317 X 3 dL_law_1316 rfl rfl ?_
  refine l_iconst 1318 X dL_law_1317 ic2 rfl ?_
  refine l_iadd 1319 X dL_law_1318 rfl ?_
  refine l_sld 1320 X (vjk 2 rfl (by decide) hj X.2.2.2.2.2.2.2.2.2.2) dL_law_1319 rfl ?_
  refine l_aload_n 1321 X 0 dL_law_1320 rfl rfl ?_
  refine l_iload_n 1322 X 3 dL_law_1321 rfl rfl ?_
  refine l_iconst 1323 X dL_law_1322 ic3 rfl ?_
  refine l_iadd 1324 X dL_law_1323 rfl ?_
  refine l_sld 1325 X (vjk 3 rfl (by decide) hj X.2.2.2.2.2.2.2.2.2.2) dL_law_1324 rfl ?_
  refine l_aload_n 1326 X 0 dL_law_1325 rfl rfl ?_
  refine l_iload_n 1327 X 3 dL_law_1326 rfl rfl ?_
  refine l_iconst 1328 X dL_law_1327 ic4 rfl ?_
  refine l_iadd 1329 X dL_law_1328 rfl ?_
  refine l_sld 1330 X (vjk 4 rfl (by decide) hj X.2.2.2.2.2.2.2.2.2.2) dL_law_1329 rfl ?_
  refine l_aload_n 1331 X 0 dL_law_1330 rfl rfl ?_
  refine l_iload_n 1332 X 3 dL_law_1331 rfl rfl ?_
  refine l_iconst 1333 X dL_law_1332 ic5 rfl ?_
  refine l_iadd 1334 X dL_law_1333 rfl ?_
  refine l_sld 1335 X (vjk 5 rfl (by decide) hj X.2.2.2.2.2.2.2.2.2.2) dL_law_1334 rfl ?_
  refine l_Ri 1338 X cd_L_145_X12_copy_X12 ⟨rfl, rfl⟩ ⟨Nat.le_of_ble_eq_true rfl, Nat.le_of_ble_eq_true rfl⟩ (c_X12_copy X.2.2.2.2.1 e2) rfl rfl (Nat.le_of_ble_eq_true rfl) dL_law_1335 rfl ?_
  refine l_eq 1413 X dL_law_1338 (by decide) ?_
  exact K μ2 ρ2 hR2
set_option maxRecDepth 100000 in
set_option maxHeartbeats 4000000 in
theorem law_c31 {p : Program} {l : Launch} {e : Env} {s : State} {m : MethodId} {args : Array Value} {below : List Frame} {meth : Method} {c : Code} {D : va_G} {ks : Nat → ClassId} {A1 A2 : Nat → Prop} {ad1 ad2 : Nat → Nat} {b L : Nat} {xs : Nat → Int32} {Q : State → Prop} {ce sl : Nat} (X : XL p room_1 s m args meth c D ks A1 A2 ad1 ad2 b L xs ce sl) {F : Nat} {Rel : Mem → Mem → Prop} (S : Sim F Rel) {μ ρ : Mem} {j : Nat} (hj : j + 6 ≤ L) (hR : Rel μ ρ) (K : ∀ μ ρ : Mem, Rel μ ρ → GL p l e room_1 s m args below meth c D ks ad1 ad2 Q ce sl μ ρ 1413 [(0, .ref b), (1, .ref (ad1 0)), (2, .ref (ad2 0)), (3, .int (nI j))] []) : GL p l e room_1 s m args below meth c D ks ad1 ad2 Q ce sl μ ρ 1343 [(0, .ref b), (1, .ref (ad1 0)), (2, .ref (ad2 0)), (3, .int (nI j))] [] := by
  obtain ⟨r, μ2, ρ2, e1, e2, hR2⟩ := S.2.2.2.2.2.2.2.2.2.2.2.2.2.2.2.2.2.2.2.2.2.2.2.2.2.2.2.2.2.2.2.1 μ ρ (xs (nI j + 1).toNatClampNeg) (xs (nI j + 2).toNatClampNeg) hR
  refine l_aload_n 1344 X 1 dL_law_1343 rfl rfl ?_
  refine l_aload_n 1345 X 0 dL_law_1344 rfl rfl ?_
  refine l_iload_n 1346 X 3 dL_law_1345 rfl rfl ?_
  refine l_iconst 1347 X dL_law_1346 ic1 rfl ?_
  refine l_iadd 1348 X dL_law_1347 rfl ?_
  refine l_sld 1349 X (vjk 1 rfl (by decide) hj X.2.2.2.2.2.2.2.2.2.2) dL_law_1348 rfl ?_
  refine l_aload_n 1350 X 0 dL_law_1349 rfl rfl ?_
  refine l_iload_n 1351 X 3 dL_law_1350 rfl rfl ?_
  refine l_iconst 1352 X dL_law_1351 ic2 rfl ?_
  refine l_iadd 1353 X dL_law_1352 rfl ?_
  refine l_sld 1354 X (vjk 2 rfl (by decide) hj X.2.2.2.2.2.2.2.2.2.2) dL_law_1353 rfl ?_
  refine l_Ci 1357 X cd_L_146_X11_write_X11 ⟨rfl, rfl⟩ ⟨Nat.le_of_ble_eq_true rfl, Nat.le_of_ble_eq_true rfl⟩ (c_X11_write X.2.2.2.1 e1) rfl rfl (Nat.le_of_ble_eq_true rfl) dL_law_1354 rfl ?_
  refine l_aload_n 1358 X 2 dL_law_1357 rfl rfl ?_
  refine l_aload_n 1359 X 0 dL_law_1358 rfl rfl ?_
  refine l_iload_n 1360 X 3 dL_law_1359 rfl rfl ?_
  refine l_iconst 1361 X dL_law_1360 ic1 rfl ?_
  refine l_iadd 1362 X dL_law_1361 rfl ?_
  refine l_sld 1363 X (vjk 1 rfl (by decide) hj X.2.2.2.2.2.2.2.2.2.2) dL_law_1362 rfl ?_
  refine l_aload_n 1364 X 0 dL_law_1363 rfl rfl ?_
  refine l_iload_n 1365 X 3 dL_law_1364 rfl rfl ?_
  refine l_iconst 1366 X dL_law_1365 ic2 rfl ?_
  refine l_iadd 1367 X dL_law_1366 rfl ?_
  refine l_sld 1368 X (vjk 2 rfl (by decide) hj X.2.2.2.2.2.2.2.2.2.2) dL_law_1367 rfl ?_
  refine l_Ri 1371 X cd_L_149_X12_write_X12 ⟨rfl, rfl⟩ ⟨Nat.le_of_ble_eq_true rfl, Nat.le_of_ble_eq_true rfl⟩ (c_X12_write X.2.2.2.2.1 e2) rfl rfl (Nat.le_of_ble_eq_true rfl) dL_law_1368 rfl ?_
  refine l_eq 1413 X dL_law_1371 (by decide) ?_
  exact K μ2 ρ2 hR2
set_option maxRecDepth 100000 in
set_option maxHeartbeats 4000000 in
theorem law_c32 {p : Program} {l : Launch} {e : Env} {s : State} {m : MethodId} {args : Array Value} {below : List Frame} {meth : Method} {c : Code} {D : va_G} {ks : Nat → ClassId} {A1 A2 : Nat → Prop} {ad1 ad2 : Nat → Nat} {b L : Nat} {xs : Nat → Int32} {Q : State → Prop} {ce sl : Nat} (X : XL p room_1 s m args meth c D ks A1 A2 ad1 ad2 b L xs ce sl) {F : Nat} {Rel : Mem → Mem → Prop} (S : Sim F Rel) {μ ρ : Mem} {j : Nat} (hj : j + 6 ≤ L) (hR : Rel μ ρ) (K : ∀ μ ρ : Mem, Rel μ ρ → GL p l e room_1 s m args below meth c D ks ad1 ad2 Q ce sl μ ρ 1413 [(0, .ref b), (1, .ref (ad1 0)), (2, .ref (ad2 0)), (3, .int (nI j))] []) : GL p l e room_1 s m args below meth c D ks ad1 ad2 Q ce sl μ ρ 1376 [(0, .ref b), (1, .ref (ad1 0)), (2, .ref (ad2 0)), (3, .int (nI j))] [] := by
  obtain ⟨r, μ2, ρ2, e1, e2, hR2⟩ := S.2.2.2.2.2.2.2.2.2.2.2.2.2.2.2.2.2.2.2.2.2.2.2.2.2.2.2.2.2.2.2.2.1 μ ρ (xs (nI j + 1).toNatClampNeg) hR
  refine l_aload_n 1377 X 1 dL_law_1376 rfl rfl ?_
  refine l_aload_n 1378 X 0 dL_law_1377 rfl rfl ?_
  refine l_iload_n 1379 X 3 dL_law_1378 rfl rfl ?_
  refine l_iconst 1380 X dL_law_1379 ic1 rfl ?_
  refine l_iadd 1381 X dL_law_1380 rfl ?_
  refine l_sld 1382 X (vjk 1 rfl (by decide) hj X.2.2.2.2.2.2.2.2.2.2) dL_law_1381 rfl ?_
  refine l_Ci 1385 X cd_L_150_X11_count_X11 ⟨rfl, rfl⟩ ⟨Nat.le_of_ble_eq_true rfl, Nat.le_of_ble_eq_true rfl⟩ (c_X11_count X.2.2.2.1 e1) rfl rfl (Nat.le_of_ble_eq_true rfl) dL_law_1382 rfl ?_
  refine l_aload_n 1386 X 2 dL_law_1385 rfl rfl ?_
  refine l_aload_n 1387 X 0 dL_law_1386 rfl rfl ?_
  refine l_iload_n 1388 X 3 dL_law_1387 rfl rfl ?_
  refine l_iconst 1389 X dL_law_1388 ic1 rfl ?_
  refine l_iadd 1390 X dL_law_1389 rfl ?_
  refine l_sld 1391 X (vjk 1 rfl (by decide) hj X.2.2.2.2.2.2.2.2.2.2) dL_law_1390 rfl ?_
  refine l_Ri 1394 X cd_L_153_X12_count_X12 ⟨rfl, rfl⟩ ⟨Nat.le_of_ble_eq_true rfl, Nat.le_of_ble_eq_true rfl⟩ (c_X12_count X.2.2.2.2.1 e2) rfl rfl (Nat.le_of_ble_eq_true rfl) dL_law_1391 rfl ?_
  refine l_eq 1413 X dL_law_1394 (by decide) ?_
  exact K μ2 ρ2 hR2
set_option maxRecDepth 100000 in
set_option maxHeartbeats 4000000 in
theorem law_c33 {p : Program} {l : Launch} {e : Env} {s : State} {m : MethodId} {args : Array Value} {below : List Frame} {meth : Method} {c : Code} {D : va_G} {ks : Nat → ClassId} {A1 A2 : Nat → Prop} {ad1 ad2 : Nat → Nat} {b L : Nat} {xs : Nat → Int32} {Q : State → Prop} {ce sl : Nat} (X : XL p room_1 s m args meth c D ks A1 A2 ad1 ad2 b L xs ce sl) {F : Nat} {Rel : Mem → Mem → Prop} (S : Sim F Rel) {μ ρ : Mem} {j : Nat} (hj : j + 6 ≤ L) (hR : Rel μ ρ) (K : ∀ μ ρ : Mem, Rel μ ρ → GL p l e room_1 s m args below meth c D ks ad1 ad2 Q ce sl μ ρ 1413 [(0, .ref b), (1, .ref (ad1 0)), (2, .ref (ad2 0)), (3, .int (nI j))] []) : GL p l e room_1 s m args below meth c D ks ad1 ad2 Q ce sl μ ρ 1399 [(0, .ref b), (1, .ref (ad1 0)), (2, .ref (ad2 0)), (3, .int (nI j))] [] := by
  obtain ⟨r, μ2, ρ2, e1, e2, hR2⟩ := S.2.2.2.2.2.2.2.2.2.2.2.2.2.2.2.2.2.2.2.2.2.2.2.2.2.2.2.2.2.2.2.2.2 μ ρ  hR
  refine l_aload_n 1400 X 1 dL_law_1399 rfl rfl ?_
  refine l_Cl 1403 X cd_L_154_X11_digest_X11 ⟨rfl, rfl⟩ ⟨Nat.le_of_ble_eq_true rfl, Nat.le_of_ble_eq_true rfl⟩ (c_X11_digest X.2.2.2.1 e1) rfl rfl (Nat.le_of_ble_eq_true rfl) dL_law_1400 rfl ?_
  refine l_aload_n 1404 X 2 dL_law_1403 rfl rfl ?_
  refine l_Rl 1407 X cd_L_158_X12_digest_X12 ⟨rfl, rfl⟩ ⟨Nat.le_of_ble_eq_true rfl, Nat.le_of_ble_eq_true rfl⟩ (c_X12_digest X.2.2.2.2.1 e2) rfl rfl (Nat.le_of_ble_eq_true rfl) dL_law_1404 rfl ?_
  refine l_lcmp 1408 X dL_law_1407 rfl ?_
  refine l_eqL 1413 X dL_law_1408 (by decide) ?_
  exact K μ2 ρ2 hR2
