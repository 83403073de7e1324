theorem lg_cmp_self (x : Int64) : lg_cmp x x = 0 := by
  have h1 := lg_cmp_lt0 x x
  have h2 := lg_cmp_0lt x x
  generalize lg_cmp x x = g at h1 h2
  have n1 : ¬ g < 0 := by rw [h1]; exact Int64.lt_irrefl
  have n2 : ¬ 0 < g := by rw [h2]; exact Int64.lt_irrefl
  exact Int32.le_antisymm (Int32.not_lt.mp n2) (Int32.not_lt.mp n1)
theorem zk_Law_15 : zCV "HandToHandLaw" 15 "HandToHand" ⟨"HandToHand", "feed", "(J)I"⟩ prog_1_method_2_code 4 (Option.some .int) 1 := ⟨zgoodV zu_510 zu_511 zu_512 zu_1 zu_513, by decide +kernel⟩
theorem zk_Law_19 : zCV "HandToHandLaw" 19 "HandToHandModel" ⟨"HandToHandModel", "feed", "(J)I"⟩ prog_13_method_4_code 4 (Option.some .int) 1 := ⟨zgoodV zu_1141 zu_1142 zu_1143 zu_12 zu_1144, by decide +kernel⟩
theorem zk_Law_20 : zCV "HandToHandLaw" 20 "HandToHand" ⟨"HandToHand", "end", "(I)I"⟩ prog_1_method_3_code 3 (Option.some .int) 1 := ⟨zgoodV zu_514 zu_515 zu_516 zu_1 zu_517, by decide +kernel⟩
theorem zk_Law_24 : zCV "HandToHandLaw" 24 "HandToHandModel" ⟨"HandToHandModel", "end", "(I)I"⟩ prog_13_method_5_code 3 (Option.some .int) 1 := ⟨zgoodV zu_1145 zu_1146 zu_1147 zu_12 zu_1148, by decide +kernel⟩
theorem zk_Law_25 : zCV "HandToHandLaw" 25 "HandToHand" ⟨"HandToHand", "text", "()I"⟩ prog_1_method_4_code 3 (Option.some .int) 0 := ⟨zgoodV zu_518 zu_519 zu_520 zu_1 zu_521, by decide +kernel⟩
theorem zk_Law_29 : zCV "HandToHandLaw" 29 "HandToHandModel" ⟨"HandToHandModel", "text", "()I"⟩ prog_13_method_20_code 3 (Option.some .int) 0 := ⟨zgoodV zu_1152 zu_1153 zu_1154 zu_12 zu_1155, by decide +kernel⟩
theorem zk_Law_30 : zCV "HandToHandLaw" 30 "HandToHand" ⟨"HandToHand", "fault", "()I"⟩ prog_1_method_5_code 1 (Option.some .int) 0 := ⟨zgoodV zu_691 zu_692 zu_693 zu_1 zu_694, by decide +kernel⟩
theorem zk_Law_33 : zCV "HandToHandLaw" 33 "HandToHandModel" ⟨"HandToHandModel", "fault", "()I"⟩ prog_13_method_21_code 1 (Option.some .int) 0 := ⟨zgoodV zu_1302 zu_1303 zu_1304 zu_12 zu_1305, by decide +kernel⟩
theorem zk_Law_34 : zCV "HandToHandLaw" 34 "HandToHand" ⟨"HandToHand", "rule", "(I)I"⟩ prog_1_method_6_code 2 (Option.some .int) 1 := ⟨zgoodV zu_695 zu_696 zu_697 zu_1 zu_698, by decide +kernel⟩
theorem zk_Law_37 : zCV "HandToHandLaw" 37 "HandToHandModel" ⟨"HandToHandModel", "rule", "(I)I"⟩ prog_13_method_25_code 2 (Option.some .int) 1 := ⟨zgoodV zu_1306 zu_1307 zu_1308 zu_12 zu_1309, by decide +kernel⟩
theorem zk_Law_38 : zCV "HandToHandLaw" 38 "HandToHand" ⟨"HandToHand", "units", "(II)I"⟩ prog_1_method_7_code 3 (Option.some .int) 2 := ⟨zgoodV zu_699 zu_700 zu_701 zu_1 zu_702, by decide +kernel⟩
theorem zk_Law_42 : zCV "HandToHandLaw" 42 "HandToHandModel" ⟨"HandToHandModel", "units", "(II)I"⟩ prog_13_method_26_code 3 (Option.some .int) 2 := ⟨zgoodV zu_1316 zu_1317 zu_1318 zu_12 zu_1319, by decide +kernel⟩
theorem zk_Law_43 : zCV "HandToHandLaw" 43 "HandToHand" ⟨"HandToHand", "pace", "(II)I"⟩ prog_1_method_8_code 3 (Option.some .int) 2 := ⟨zgoodV zu_708 zu_709 zu_710 zu_1 zu_711, by decide +kernel⟩
theorem zk_Law_46 : zCV "HandToHandLaw" 46 "HandToHandModel" ⟨"HandToHandModel", "pace", "(II)I"⟩ prog_13_method_27_code 3 (Option.some .int) 2 := ⟨zgoodV zu_1324 zu_1325 zu_1326 zu_12 zu_1327, by decide +kernel⟩
theorem zk_Law_47 : zCV "HandToHandLaw" 47 "HandToHand" ⟨"HandToHand", "setPace", "(III)I"⟩ prog_1_method_9_code 5 (Option.some .int) 3 := ⟨zgoodV zu_720 zu_721 zu_722 zu_1 zu_723, by decide +kernel⟩
theorem zk_Law_51 : zCV "HandToHandLaw" 51 "HandToHandModel" ⟨"HandToHandModel", "setPace", "(III)I"⟩ prog_13_method_28_code 5 (Option.some .int) 3 := ⟨zgoodV zu_1328 zu_1329 zu_1330 zu_12 zu_1331, by decide +kernel⟩
theorem zk_Law_52 : zCV "HandToHandLaw" 52 "HandToHand" ⟨"HandToHand", "begin", "()I"⟩ prog_1_method_10_code 2 (Option.some .int) 0 := ⟨zgoodV zu_727 zu_728 zu_729 zu_1 zu_730, by decide +kernel⟩
theorem zk_Law_55 : zCV "HandToHandLaw" 55 "HandToHandModel" ⟨"HandToHandModel", "begin", "()I"⟩ prog_13_method_50_code 2 (Option.some .int) 0 := ⟨zgoodV zu_1333 zu_1334 zu_1335 zu_12 zu_1336, by decide +kernel⟩
theorem zk_Law_56 : zCV "HandToHandLaw" 56 "HandToHand" ⟨"HandToHand", "go", "(I)I"⟩ prog_1_method_11_code 7 (Option.some .int) 1 := ⟨zgoodV zu_731 zu_732 zu_733 zu_1 zu_734, by decide +kernel⟩
theorem zk_Law_59 : zCV "HandToHandLaw" 59 "HandToHandModel" ⟨"HandToHandModel", "go", "(I)I"⟩ prog_13_method_51_code 5 (Option.some .int) 1 := ⟨zgoodV zu_1337 zu_1338 zu_1339 zu_12 zu_1340, by decide +kernel⟩
theorem zk_Law_60 : zCV "HandToHandLaw" 60 "HandToHand" ⟨"HandToHand", "night", "()I"⟩ prog_1_method_12_code 2 (Option.some .int) 0 := ⟨zgoodV zu_743 zu_744 zu_745 zu_1 zu_746, by decide +kernel⟩
theorem zk_Law_63 : zCV "HandToHandLaw" 63 "HandToHandModel" ⟨"HandToHandModel", "night", "()I"⟩ prog_13_method_52_code 3 (Option.some .int) 0 := ⟨zgoodV zu_1346 zu_1347 zu_1348 zu_12 zu_1349, by decide +kernel⟩
theorem zk_Law_64 : zCV "HandToHandLaw" 64 "HandToHand" ⟨"HandToHand", "now", "(I)I"⟩ prog_1_method_13_code 2 (Option.some .int) 1 := ⟨zgoodV zu_752 zu_753 zu_754 zu_1 zu_755, by decide +kernel⟩
theorem zk_Law_67 : zCV "HandToHandLaw" 67 "HandToHandModel" ⟨"HandToHandModel", "now", "(I)I"⟩ prog_13_method_53_code 2 (Option.some .int) 1 := ⟨zgoodV zu_1350 zu_1351 zu_1352 zu_12 zu_1353, by decide +kernel⟩
theorem zk_Law_68 : zCV "HandToHandLaw" 68 "HandToHand" ⟨"HandToHand", "hand", "(II)I"⟩ prog_1_method_14_code 4 (Option.some .int) 2 := ⟨zgoodV zu_756 zu_757 zu_758 zu_1 zu_759, by decide +kernel⟩
theorem zk_Law_71 : zCV "HandToHandLaw" 71 "HandToHandModel" ⟨"HandToHandModel", "hand", "(II)I"⟩ prog_13_method_54_code 3 (Option.some .int) 2 := ⟨zgoodV zu_1354 zu_1355 zu_1356 zu_12 zu_1357, by decide +kernel⟩
theorem zk_Law_72 : zCV "HandToHandLaw" 72 "HandToHand" ⟨"HandToHand", "learnt", "(II)I"⟩ prog_1_method_15_code 3 (Option.some .int) 2 := ⟨zgoodV zu_760 zu_761 zu_762 zu_1 zu_763, by decide +kernel⟩
theorem zk_Law_75 : zCV "HandToHandLaw" 75 "HandToHandModel" ⟨"HandToHandModel", "learnt", "(II)I"⟩ prog_13_method_55_code 3 (Option.some .int) 2 := ⟨zgoodV zu_1359 zu_1360 zu_1361 zu_12 zu_1362, by decide +kernel⟩
theorem zk_Law_76 : zCV "HandToHandLaw" 76 "HandToHand" ⟨"HandToHand", "takes", "(II)I"⟩ prog_1_method_16_code 3 (Option.some .int) 2 := ⟨zgoodV zu_764 zu_765 zu_766 zu_1 zu_767, by decide +kernel⟩
theorem zk_Law_79 : zCV "HandToHandLaw" 79 "HandToHandModel" ⟨"HandToHandModel", "takes", "(II)I"⟩ prog_13_method_56_code 3 (Option.some .int) 2 := ⟨zgoodV zu_1363 zu_1364 zu_1365 zu_12 zu_1366, by decide +kernel⟩
theorem zk_Law_80 : zCV "HandToHandLaw" 80 "HandToHand" ⟨"HandToHand", "keep", "(I)I"⟩ prog_1_method_17_code 3 (Option.some .int) 1 := ⟨zgoodV zu_769 zu_770 zu_771 zu_1 zu_772, by decide +kernel⟩
theorem zk_Law_83 : zCV "HandToHandLaw" 83 "HandToHandModel" ⟨"HandToHandModel", "keep", "(I)I"⟩ prog_13_method_57_code 3 (Option.some .int) 1 := ⟨zgoodV zu_1367 zu_1368 zu_1369 zu_12 zu_1370, by decide +kernel⟩
theorem zk_Law_84 : zCV "HandToHandLaw" 84 "HandToHand" ⟨"HandToHand", "back", "(I)I"⟩ prog_1_method_18_code 2 (Option.some .int) 1 := ⟨zgoodV zu_778 zu_779 zu_780 zu_1 zu_781, by decide +kernel⟩
theorem zk_Law_87 : zCV "HandToHandLaw" 87 "HandToHandModel" ⟨"HandToHandModel", "back", "(I)I"⟩ prog_13_method_58_code 3 (Option.some .int) 1 := ⟨zgoodV zu_1371 zu_1372 zu_1373 zu_12 zu_1374, by decide +kernel⟩
theorem zk_Law_88 : zCV "HandToHandLaw" 88 "HandToHand" ⟨"HandToHand", "run", "(II)I"⟩ prog_1_method_19_code 3 (Option.some .int) 2 := ⟨zgoodV zu_782 zu_783 zu_784 zu_1 zu_785, by decide +kernel⟩
theorem zk_Law_91 : zCV "HandToHandLaw" 91 "HandToHandModel" ⟨"HandToHandModel", "run", "(II)I"⟩ prog_13_method_64_code 7 (Option.some .int) 2 := ⟨zgoodV zu_1375 zu_1376 zu_1377 zu_12 zu_1378, by decide +kernel⟩
theorem zk_Law_92 : zCV "HandToHandLaw" 92 "HandToHand" ⟨"HandToHand", "waits", "(II)I"⟩ prog_1_method_20_code 3 (Option.some .int) 2 := ⟨zgoodV zu_806 zu_807 zu_808 zu_1 zu_809, by decide +kernel⟩
theorem zk_Law_95 : zCV "HandToHandLaw" 95 "HandToHandModel" ⟨"HandToHandModel", "waits", "(II)I"⟩ prog_13_method_65_code 3 (Option.some .int) 2 := ⟨zgoodV zu_1399 zu_1400 zu_1401 zu_12 zu_1402, by decide +kernel⟩
theorem zk_Law_96 : zCV "HandToHandLaw" 96 "HandToHand" ⟨"HandToHand", "over", "(III)I"⟩ prog_1_method_21_code 4 (Option.some .int) 3 := ⟨zgoodV zu_810 zu_811 zu_812 zu_1 zu_813, by decide +kernel⟩
theorem zk_Law_99 : zCV "HandToHandLaw" 99 "HandToHandModel" ⟨"HandToHandModel", "over", "(III)I"⟩ prog_13_method_67_code 4 (Option.some .int) 3 := ⟨zgoodV zu_1403 zu_1404 zu_1405 zu_12 zu_1406, by decide +kernel⟩
theorem zk_Law_100 : zCV "HandToHandLaw" 100 "HandToHand" ⟨"HandToHand", "judge", "(IIIII)I"⟩ prog_1_method_22_code 7 (Option.some .int) 5 := ⟨zgoodV zu_818 zu_819 zu_820 zu_1 zu_821, by decide +kernel⟩
theorem zk_Law_104 : zCV "HandToHandLaw" 104 "HandToHandModel" ⟨"HandToHandModel", "judge", "(IIIII)I"⟩ prog_13_method_68_code 6 (Option.some .int) 5 := ⟨zgoodV zu_1411 zu_1412 zu_1413 zu_12 zu_1414, by decide +kernel⟩
theorem zk_Law_105 : zCV "HandToHandLaw" 105 "HandToHand" ⟨"HandToHand", "settles", "(I)I"⟩ prog_1_method_23_code 2 (Option.some .int) 1 := ⟨zgoodV zu_822 zu_823 zu_824 zu_1 zu_825, by decide +kernel⟩
theorem zk_Law_108 : zCV "HandToHandLaw" 108 "HandToHandModel" ⟨"HandToHandModel", "settles", "(I)I"⟩ prog_13_method_70_code 2 (Option.some .int) 1 := ⟨zgoodV zu_1415 zu_1416 zu_1417 zu_12 zu_1418, by decide +kernel⟩
theorem zk_Law_109 : zCV "HandToHandLaw" 109 "HandToHand" ⟨"HandToHand", "where", "(II)I"⟩ prog_1_method_24_code 3 (Option.some .int) 2 := ⟨zgoodV zu_872 zu_873 zu_874 zu_1 zu_875, by decide +kernel⟩
theorem zk_Law_112 : zCV "HandToHandLaw" 112 "HandToHandModel" ⟨"HandToHandModel", "where", "(II)I"⟩ prog_13_method_71_code 7 (Option.some .int) 2 := ⟨zgoodV zu_1423 zu_1424 zu_1425 zu_12 zu_1426, by decide +kernel⟩
theorem zk_Law_113 : zCV "HandToHandLaw" 113 "HandToHand" ⟨"HandToHand", "makes", "(I)I"⟩ prog_1_method_25_code 2 (Option.some .int) 1 := ⟨zgoodV zu_881 zu_882 zu_883 zu_1 zu_884, by decide +kernel⟩
theorem zk_Law_116 : zCV "HandToHandLaw" 116 "HandToHandModel" ⟨"HandToHandModel", "makes", "(I)I"⟩ prog_13_method_74_code 2 (Option.some .int) 1 := ⟨zgoodV zu_1428 zu_1429 zu_1430 zu_12 zu_1431, by decide +kernel⟩
theorem zk_Law_117 : zCV "HandToHandLaw" 117 "HandToHand" ⟨"HandToHand", "could", "(I)J"⟩ prog_1_method_26_code 11 (Option.some .long) 1 := ⟨zgoodV zu_888 zu_889 zu_890 zu_1 zu_891, by decide +kernel⟩
theorem zk_Law_121 : zCV "HandToHandLaw" 121 "HandToHandModel" ⟨"HandToHandModel", "could", "(I)J"⟩ prog_13_method_75_code 13 (Option.some .long) 1 := ⟨zgoodV zu_1439 zu_1440 zu_1441 zu_12 zu_1442, by decide +kernel⟩
theorem zk_Law_122 : zCV "HandToHandLaw" 122 "HandToHand" ⟨"HandToHand", "order", "(II)I"⟩ prog_1_method_27_code 3 (Option.some .int) 2 := ⟨zgoodV zu_899 zu_900 zu_901 zu_1 zu_902, by decide +kernel⟩
theorem zk_Law_125 : zCV "HandToHandLaw" 125 "HandToHandModel" ⟨"HandToHandModel", "order", "(II)I"⟩ prog_13_method_79_code 3 (Option.some .int) 2 := ⟨zgoodV zu_1444 zu_1445 zu_1446 zu_12 zu_1447, by decide +kernel⟩
theorem zk_Law_126 : zCV "HandToHandLaw" 126 "HandToHand" ⟨"HandToHand", "best", "(I)I"⟩ prog_1_method_28_code 6 (Option.some .int) 1 := ⟨zgoodV zu_927 zu_928 zu_929 zu_1 zu_930, by decide +kernel⟩
theorem zk_Law_129 : zCV "HandToHandLaw" 129 "HandToHandModel" ⟨"HandToHandModel", "best", "(I)I"⟩ prog_13_method_82_code 5 (Option.some .int) 1 := ⟨zgoodV zu_1460 zu_1461 zu_1462 zu_12 zu_1463, by decide +kernel⟩
theorem zk_Law_130 : zCV "HandToHandLaw" 130 "HandToHand" ⟨"HandToHand", "stands", "(II)I"⟩ prog_1_method_29_code 3 (Option.some .int) 2 := ⟨zgoodV zu_934 zu_935 zu_936 zu_1 zu_937, by decide +kernel⟩
theorem zk_Law_133 : zCV "HandToHandLaw" 133 "HandToHandModel" ⟨"HandToHandModel", "stands", "(II)I"⟩ prog_13_method_83_code 3 (Option.some .int) 2 := ⟨zgoodV zu_1472 zu_1473 zu_1474 zu_12 zu_1475, by decide +kernel⟩
theorem zk_Law_134 : zCV "HandToHandLaw" 134 "HandToHand" ⟨"HandToHand", "parts", "(I)I"⟩ prog_1_method_30_code 3 (Option.some .int) 1 := ⟨zgoodV zu_938 zu_939 zu_940 zu_1 zu_941, by decide +kernel⟩
theorem zk_Law_137 : zCV "HandToHandLaw" 137 "HandToHandModel" ⟨"HandToHandModel", "parts", "(I)I"⟩ prog_13_method_84_code 6 (Option.some .int) 1 := ⟨zgoodV zu_1476 zu_1477 zu_1478 zu_12 zu_1479, by decide +kernel⟩
theorem zk_Law_138 : zCV "HandToHandLaw" 138 "HandToHand" ⟨"HandToHand", "less", "(II)I"⟩ prog_1_method_31_code 3 (Option.some .int) 2 := ⟨zgoodV zu_955 zu_956 zu_957 zu_1 zu_958, by decide +kernel⟩
theorem zk_Law_141 : zCV "HandToHandLaw" 141 "HandToHandModel" ⟨"HandToHandModel", "less", "(II)I"⟩ prog_13_method_87_code 4 (Option.some .int) 2 := ⟨zgoodV zu_1488 zu_1489 zu_1490 zu_12 zu_1491, by decide +kernel⟩
theorem zk_Law_142 : zCV "HandToHandLaw" 142 "HandToHand" ⟨"HandToHand", "sheet", "(III)I"⟩ prog_1_method_32_code 4 (Option.some .int) 3 := ⟨zgoodV zu_964 zu_965 zu_966 zu_1 zu_967, by decide +kernel⟩
theorem zk_Law_145 : zCV "HandToHandLaw" 145 "HandToHandModel" ⟨"HandToHandModel", "sheet", "(III)I"⟩ prog_13_method_88_code 5 (Option.some .int) 3 := ⟨zgoodV zu_1492 zu_1493 zu_1494 zu_12 zu_1495, by decide +kernel⟩
theorem zk_Law_146 : zCV "HandToHandLaw" 146 "HandToHand" ⟨"HandToHand", "lay", "(III)I"⟩ prog_1_method_33_code 5 (Option.some .int) 3 := ⟨zgoodV zu_978 zu_979 zu_980 zu_1 zu_981, by decide +kernel⟩
theorem zk_Law_149 : zCV "HandToHandLaw" 149 "HandToHandModel" ⟨"HandToHandModel", "lay", "(III)I"⟩ prog_13_method_89_code 4 (Option.some .int) 3 := ⟨zgoodV zu_1496 zu_1497 zu_1498 zu_12 zu_1499, by decide +kernel⟩
theorem zk_Law_150 : zCV "HandToHandLaw" 150 "HandToHand" ⟨"HandToHand", "read", "(IIIII)I"⟩ prog_1_method_34_code 10 (Option.some .int) 5 := ⟨zgoodV zu_986 zu_987 zu_988 zu_1 zu_989, by decide +kernel⟩
theorem zk_Law_153 : zCV "HandToHandLaw" 153 "HandToHandModel" ⟨"HandToHandModel", "read", "(IIIII)I"⟩ prog_13_method_90_code 10 (Option.some .int) 5 := ⟨zgoodV zu_1500 zu_1501 zu_1502 zu_12 zu_1503, by decide +kernel⟩
theorem zk_Law_154 : zCV "HandToHandLaw" 154 "HandToHand" ⟨"HandToHand", "torn", "()I"⟩ prog_1_method_35_code 1 (Option.some .int) 0 := ⟨zgoodV zu_1006 zu_1007 zu_1008 zu_1 zu_1009, by decide +kernel⟩
theorem zk_Law_157 : zCV "HandToHandLaw" 157 "HandToHandModel" ⟨"HandToHandModel", "torn", "()I"⟩ prog_13_method_91_code 1 (Option.some .int) 0 := ⟨zgoodV zu_1504 zu_1505 zu_1506 zu_12 zu_1507, by decide +kernel⟩
theorem zk_Law_158 : zCV "HandToHandLaw" 158 "HandToHand" ⟨"HandToHand", "count", "(I)I"⟩ prog_1_method_36_code 2 (Option.some .int) 1 := ⟨zgoodV zu_1010 zu_1011 zu_1012 zu_1 zu_1013, by decide +kernel⟩
theorem zk_Law_161 : zCV "HandToHandLaw" 161 "HandToHandModel" ⟨"HandToHandModel", "count", "(I)I"⟩ prog_13_method_92_code 2 (Option.some .int) 1 := ⟨zgoodV zu_1508 zu_1509 zu_1510 zu_12 zu_1511, by decide +kernel⟩
/-- what a call of the script asks of both memories -/
def zLaw (op : Int32) (a : Nat → Int32) (M W' : zMem) (K : zMem → zMem → Prop) : Prop :=
  (op = 0 → wp_Main_feed ((((a (1)).toInt64) <<< ((32 : Int32).toInt64 &&& 63)) ||| (((a (2)).toInt64) &&& (4294967295))) M (fun x1 M1 => wp_Model_feed ((((a (1)).toInt64) <<< ((32 : Int32).toInt64 &&& 63)) ||| (((a (2)).toInt64) &&& (4294967295))) W' (fun x2 W2 => x1 = x2 ∧ K M1 W2))) ∧
  (op = 1 → wp_Main_end (a (1)) M (fun x1 M1 => wp_Model_end (a (1)) W' (fun x2 W2 => x1 = x2 ∧ K M1 W2))) ∧
  (op = 2 → wp_Main_text  M (fun x1 M1 => wp_Model_text  W' (fun x2 W2 => x1 = x2 ∧ K M1 W2))) ∧
  (op = 3 → wp_Main_fault  M (fun x1 M1 => wp_Model_fault  W' (fun x2 W2 => x1 = x2 ∧ K M1 W2))) ∧
  (op = 4 → wp_Main_rule (a (1)) M (fun x1 M1 => wp_Model_rule (a (1)) W' (fun x2 W2 => x1 = x2 ∧ K M1 W2))) ∧
  (op = 5 → wp_Main_units (a (1)) (a (2)) M (fun x1 M1 => wp_Model_units (a (1)) (a (2)) W' (fun x2 W2 => x1 = x2 ∧ K M1 W2))) ∧
  (op = 6 → wp_Main_pace (a (1)) (a (2)) M (fun x1 M1 => wp_Model_pace (a (1)) (a (2)) W' (fun x2 W2 => x1 = x2 ∧ K M1 W2))) ∧
  (op = 7 → wp_Main_setPace (a (1)) (a (2)) (a (3)) M (fun x1 M1 => wp_Model_setPace (a (1)) (a (2)) (a (3)) W' (fun x2 W2 => x1 = x2 ∧ K M1 W2))) ∧
  (op = 8 → wp_Main_begin  M (fun x1 M1 => wp_Model_begin  W' (fun x2 W2 => x1 = x2 ∧ K M1 W2))) ∧
  (op = 9 → wp_Main_go (a (1)) M (fun x1 M1 => wp_Model_go (a (1)) W' (fun x2 W2 => x1 = x2 ∧ K M1 W2))) ∧
  (op = 10 → wp_Main_night  M (fun x1 M1 => wp_Model_night  W' (fun x2 W2 => x1 = x2 ∧ K M1 W2))) ∧
  (op = 11 → wp_Main_now (a (1)) M (fun x1 M1 => wp_Model_now (a (1)) W' (fun x2 W2 => x1 = x2 ∧ K M1 W2))) ∧
  (op = 12 → wp_Main_hand (a (1)) (a (2)) M (fun x1 M1 => wp_Model_hand (a (1)) (a (2)) W' (fun x2 W2 => x1 = x2 ∧ K M1 W2))) ∧
  (op = 13 → wp_Main_learnt (a (1)) (a (2)) M (fun x1 M1 => wp_Model_learnt (a (1)) (a (2)) W' (fun x2 W2 => x1 = x2 ∧ K M1 W2))) ∧
  (op = 14 → wp_Main_takes (a (1)) (a (2)) M (fun x1 M1 => wp_Model_takes (a (1)) (a (2)) W' (fun x2 W2 => x1 = x2 ∧ K M1 W2))) ∧
  (op = 15 → wp_Main_keep (a (1)) M (fun x1 M1 => wp_Model_keep (a (1)) W' (fun x2 W2 => x1 = x2 ∧ K M1 W2))) ∧
  (op = 16 → wp_Main_back (a (1)) M (fun x1 M1 => wp_Model_back (a (1)) W' (fun x2 W2 => x1 = x2 ∧ K M1 W2))) ∧
  (op = 17 → wp_Main_run (a (1)) (a (2)) M (fun x1 M1 => wp_Model_run (a (1)) (a (2)) W' (fun x2 W2 => x1 = x2 ∧ K M1 W2))) ∧
  (op = 18 → wp_Main_waits (a (1)) (a (2)) M (fun x1 M1 => wp_Model_waits (a (1)) (a (2)) W' (fun x2 W2 => x1 = x2 ∧ K M1 W2))) ∧
  (op = 19 → wp_Main_over (a (1)) (a (2)) (a (3)) M (fun x1 M1 => wp_Model_over (a (1)) (a (2)) (a (3)) W' (fun x2 W2 => x1 = x2 ∧ K M1 W2))) ∧
  (op = 20 → wp_Main_judge (a (1)) (a (2)) (a (3)) (a (4)) (a (5)) M (fun x1 M1 => wp_Model_judge (a (1)) (a (2)) (a (3)) (a (4)) (a (5)) W' (fun x2 W2 => x1 = x2 ∧ K M1 W2))) ∧
  (op = 21 → wp_Main_settles (a (1)) M (fun x1 M1 => wp_Model_settles (a (1)) W' (fun x2 W2 => x1 = x2 ∧ K M1 W2))) ∧
  (op = 22 → wp_Main_where (a (1)) (a (2)) M (fun x1 M1 => wp_Model_where (a (1)) (a (2)) W' (fun x2 W2 => (x1 = x2 ∨ a (2) = 1) ∧ K M1 W2))) ∧
  (op = 23 → wp_Main_makes (a (1)) M (fun x1 M1 => wp_Model_makes (a (1)) W' (fun x2 W2 => x1 = x2 ∧ K M1 W2))) ∧
  (op = 24 → wp_Main_could (a (1)) M (fun x1 M1 => wp_Model_could (a (1)) W' (fun x2 W2 => x1 = x2 ∧ K M1 W2))) ∧
  (op = 25 → wp_Main_order (a (1)) (a (2)) M (fun x1 M1 => wp_Model_order (a (1)) (a (2)) W' (fun x2 W2 => x1 = x2 ∧ K M1 W2))) ∧
  (op = 26 → wp_Main_best (a (1)) M (fun x1 M1 => wp_Model_best (a (1)) W' (fun x2 W2 => x1 = x2 ∧ K M1 W2))) ∧
  (op = 27 → wp_Main_stands (a (1)) (a (2)) M (fun x1 M1 => wp_Model_stands (a (1)) (a (2)) W' (fun x2 W2 => x1 = x2 ∧ K M1 W2))) ∧
  (op = 28 → wp_Main_parts (a (1)) M (fun x1 M1 => wp_Model_parts (a (1)) W' (fun x2 W2 => x1 = x2 ∧ K M1 W2))) ∧
  (op = 29 → wp_Main_less (a (1)) (a (2)) M (fun x1 M1 => wp_Model_less (a (1)) (a (2)) W' (fun x2 W2 => x1 = x2 ∧ K M1 W2))) ∧
  (op = 30 → wp_Main_sheet (a (1)) (a (2)) (a (3)) M (fun x1 M1 => wp_Model_sheet (a (1)) (a (2)) (a (3)) W' (fun x2 W2 => x1 = x2 ∧ K M1 W2))) ∧
  (op = 31 → wp_Main_lay (a (1)) (a (2)) (a (3)) M (fun x1 M1 => wp_Model_lay (a (1)) (a (2)) (a (3)) W' (fun x2 W2 => x1 = x2 ∧ K M1 W2))) ∧
  (op = 32 → wp_Main_read (a (1)) (a (2)) (a (3)) (a (4)) (a (5)) M (fun x1 M1 => wp_Model_read (a (1)) (a (2)) (a (3)) (a (4)) (a (5)) W' (fun x2 W2 => x1 = x2 ∧ K M1 W2))) ∧
  (op = 33 → wp_Main_torn  M (fun x1 M1 => wp_Model_torn  W' (fun x2 W2 => x1 = x2 ∧ K M1 W2))) ∧
  (op = 34 → wp_Main_count (a (1)) M (fun x1 M1 => wp_Model_count (a (1)) W' (fun x2 W2 => x1 = x2 ∧ K M1 W2))) ∧
  ((∀ j, j ≤ 34 → op ≠ nI j) → K M W')
set_option maxHeartbeats 4000000 in
theorem lw_c0 {p : Program} {l : Launch} {e : Env} {s : State} {m : MethodId} {below : List Frame} {meth : Method} {c : Code} {H : Heap} {locs : List Loc} {ls : Array Slot} {w1 w2 : zWd} {M W' : zMem} {b L i : Nat} {xs : Nat → Int32} {K : zMem → zMem → Prop} (C0 : lw_At p s m meth c b L xs) (hLs : L < 2147483648) (X1 : zX w1 p s m #[Value.ref b] c code "HandToHandLaw") (X2 : zX w2 p s m #[Value.ref b] c code "HandToHandLaw") (h1 : zI_Main w1) (h2 : zI_Model w2) (hA : zLa w1 w2 s) (hi : i + 6 ≤ L) (hL : zLw w1 w2 s M W' H locs) (hl : lv_has ls 4 [(0, .ref b), (1, .ref (zad w1 0)), (2, .ref (zad w2 0)), (3, .int (nI i))]) (h : wp_Main_feed ((((xs (i + 1)).toInt64) <<< ((32 : Int32).toInt64 &&& 63)) ||| (((xs (i + 2)).toInt64) &&& (4294967295))) M (fun x1 M1 => wp_Model_feed ((((xs (i + 1)).toInt64) <<< ((32 : Int32).toInt64 &&& 63)) ||| (((xs (i + 2)).toInt64) &&& (4294967295))) W' (fun x2 W2 => x1 = x2 ∧ K M1 W2))) (kk : ∀ (M W' : zMem) (H : Heap) (locs : List Loc), K M W' → zLw w1 w2 s M W' H locs → W p l e room_1 s m #[Value.ref b] below meth c H locs 108 24481 (lw_Z below #[Value.ref b] s) (F0 m 1243 ls [])) : W p l e room_1 s m #[Value.ref b] below meth c H locs 108 24481 (lw_Z below #[Value.ref b] s) (F0 m 188 ls []) := by
  obtain ⟨hx, hb, hr, hml, hown, hts, hX, hbl, hlocks, hgv⟩ := id C0
  refine lv_aload_n hx hb dL_law_188 rfl (lv_at hl 1 rfl) ?_
  refine lv_aload_n hx hb dL_law_189 rfl (lv_at hl 0 rfl) ?_
  refine lv_iload_n hx hb dL_law_190 rfl (lv_at hl 3 rfl) ?_
  refine lv_iconst (v := 1) hx hb dL_law_191 (by decide) ?_
  refine lv_iadd hx hb dL_law_192 ?_
  refine zl_ld (k := 1) hx hb hX hbl hL (by omega) hLs dL_law_193 ?_
  refine lv_i2l hx hb dL_law_194 rfl ?_
  refine lv_bipush (v := 32) hx hb dL_law_195 (by decide) ?_
  refine lv_lshl hx hb dL_law_197 rfl ?_
  refine lv_aload_n hx hb dL_law_198 rfl (lv_at hl 0 rfl) ?_
  refine lv_iload_n hx hb dL_law_199 rfl (lv_at hl 3 rfl) ?_
  refine lv_iconst (v := 2) hx hb dL_law_200 (by decide) ?_
  refine lv_iadd hx hb dL_law_201 ?_
  refine zl_ld (k := 2) hx hb hX hbl hL (by omega) hLs dL_law_202 ?_
  refine lv_i2l hx hb dL_law_203 rfl ?_
  refine lv_ldc2 hx hb X1.2.2.1 (X1.2.2.2.1 _ zu_1512) dL_law_204 ?_
  refine lv_land hx hb dL_law_207 ?_
  refine lv_lor hx hb dL_law_208 ?_
  refine zl_1i hA hL (zl_run (w := w1) (As := [.long ((((xs (i + 1)).toInt64) <<< ((32 : Int32).toInt64 &&& 63)) ||| (((xs (i + 2)).toInt64) &&& (4294967295)))]) (rest := []) X1 hml hl hL.1 hL.2.2 h1.1 rfl zk_Law_15 (c_Main_feed h1 h) rfl ⟨Nat.le_of_ble_eq_true rfl, Nat.le_of_ble_eq_true rfl⟩ ⟨Nat.le_of_ble_eq_true rfl, Nat.le_of_ble_eq_true rfl⟩ rfl (Nat.le_of_ble_eq_true rfl) dL_law_209) (fun x1 M1 H locs h hL => ?_)
  refine lv_pop hx hb dL_law_212 rfl ?_
  refine lv_aload_n hx hb dL_law_213 rfl (lv_at hl 2 rfl) ?_
  refine lv_aload_n hx hb dL_law_214 rfl (lv_at hl 0 rfl) ?_
  refine lv_iload_n hx hb dL_law_215 rfl (lv_at hl 3 rfl) ?_
  refine lv_iconst (v := 1) hx hb dL_law_216 (by decide) ?_
  refine lv_iadd hx hb dL_law_217 ?_
  refine zl_ld (k := 1) hx hb hX hbl hL (by omega) hLs dL_law_218 ?_
  refine lv_i2l hx hb dL_law_219 rfl ?_
  refine lv_bipush (v := 32) hx hb dL_law_220 (by decide) ?_
  refine lv_lshl hx hb dL_law_222 rfl ?_
  refine lv_aload_n hx hb dL_law_223 rfl (lv_at hl 0 rfl) ?_
  refine lv_iload_n hx hb dL_law_224 rfl (lv_at hl 3 rfl) ?_
  refine lv_iconst (v := 2) hx hb dL_law_225 (by decide) ?_
  refine lv_iadd hx hb dL_law_226 ?_
  refine zl_ld (k := 2) hx hb hX hbl hL (by omega) hLs dL_law_227 ?_
  refine lv_i2l hx hb dL_law_228 rfl ?_
  refine lv_ldc2 hx hb X1.2.2.1 (X1.2.2.2.1 _ zu_1512) dL_law_229 ?_
  refine lv_land hx hb dL_law_232 ?_
  refine lv_lor hx hb dL_law_233 ?_
  refine zl_2i hA hL (zl_run (w := w2) (As := [.long ((((xs (i + 1)).toInt64) <<< ((32 : Int32).toInt64 &&& 63)) ||| (((xs (i + 2)).toInt64) &&& (4294967295)))]) (rest := []) X2 hml hl hL.2.1 hL.2.2 h2.1 rfl zk_Law_19 (c_Model_feed h2 h) rfl ⟨Nat.le_of_ble_eq_true rfl, Nat.le_of_ble_eq_true rfl⟩ ⟨Nat.le_of_ble_eq_true rfl, Nat.le_of_ble_eq_true rfl⟩ rfl (Nat.le_of_ble_eq_true rfl) dL_law_234) (fun x2 W2 H locs h hL => ?_)
  refine lv_pop hx hb dL_law_237 rfl ?_
  refine lv_goto (tgt := 1243) hx hb dL_law_238 rfl ?_
  exact kk M1 W2 H locs h.2 hL
set_option maxHeartbeats 4000000 in
theorem lw_c1 {p : Program} {l : Launch} {e : Env} {s : State} {m : MethodId} {below : List Frame} {meth : Method} {c : Code} {H : Heap} {locs : List Loc} {ls : Array Slot} {w1 w2 : zWd} {M W' : zMem} {b L i : Nat} {xs : Nat → Int32} {K : zMem → zMem → Prop} (C0 : lw_At p s m meth c b L xs) (hLs : L < 2147483648) (X1 : zX w1 p s m #[Value.ref b] c code "HandToHandLaw") (X2 : zX w2 p s m #[Value.ref b] c code "HandToHandLaw") (h1 : zI_Main w1) (h2 : zI_Model w2) (hA : zLa w1 w2 s) (hi : i + 6 ≤ L) (hL : zLw w1 w2 s M W' H locs) (hl : lv_has ls 4 [(0, .ref b), (1, .ref (zad w1 0)), (2, .ref (zad w2 0)), (3, .int (nI i))]) (h : wp_Main_end (xs (i + 1)) M (fun x1 M1 => wp_Model_end (xs (i + 1)) W' (fun x2 W2 => x1 = x2 ∧ K M1 W2))) (kk : ∀ (M W' : zMem) (H : Heap) (locs : List Loc), K M W' → zLw w1 w2 s M W' H locs → W p l e room_1 s m #[Value.ref b] below meth c H locs 108 24481 (lw_Z below #[Value.ref b] s) (F0 m 1243 ls [])) : W p l e room_1 s m #[Value.ref b] below meth c H locs 108 24481 (lw_Z below #[Value.ref b] s) (F0 m 241 ls []) := by
  obtain ⟨hx, hb, hr, hml, hown, hts, hX, hbl, hlocks, hgv⟩ := id C0
  refine lv_aload_n hx hb dL_law_241 rfl (lv_at hl 1 rfl) ?_
  refine lv_aload_n hx hb dL_law_242 rfl (lv_at hl 0 rfl) ?_
  refine lv_iload_n hx hb dL_law_243 rfl (lv_at hl 3 rfl) ?_
  refine lv_iconst (v := 1) hx hb dL_law_244 (by decide) ?_
  refine lv_iadd hx hb dL_law_245 ?_
  refine zl_ld (k := 1) hx hb hX hbl hL (by omega) hLs dL_law_246 ?_
  refine zl_1i hA hL (zl_run (w := w1) (As := [.int (xs (i + 1))]) (rest := []) X1 hml hl hL.1 hL.2.2 h1.1 rfl zk_Law_20 (c_Main_end h1 h) rfl ⟨Nat.le_of_ble_eq_true rfl, Nat.le_of_ble_eq_true rfl⟩ ⟨Nat.le_of_ble_eq_true rfl, Nat.le_of_ble_eq_true rfl⟩ rfl (Nat.le_of_ble_eq_true rfl) dL_law_247) (fun x1 M1 H locs h hL => ?_)
  refine lv_pop hx hb dL_law_250 rfl ?_
  refine lv_aload_n hx hb dL_law_251 rfl (lv_at hl 2 rfl) ?_
  refine lv_aload_n hx hb dL_law_252 rfl (lv_at hl 0 rfl) ?_
  refine lv_iload_n hx hb dL_law_253 rfl (lv_at hl 3 rfl) ?_
  refine lv_iconst (v := 1) hx hb dL_law_254 (by decide) ?_
  refine lv_iadd hx hb dL_law_255 ?_
  refine zl_ld (k := 1) hx hb hX hbl hL (by omega) hLs dL_law_256 ?_
  refine zl_2i hA hL (zl_run (w := w2) (As := [.int (xs (i + 1))]) (rest := []) X2 hml hl hL.2.1 hL.2.2 h2.1 rfl zk_Law_24 (c_Model_end h2 h) rfl ⟨Nat.le_of_ble_eq_true rfl, Nat.le_of_ble_eq_true rfl⟩ ⟨Nat.le_of_ble_eq_true rfl, Nat.le_of_ble_eq_true rfl⟩ rfl (Nat.le_of_ble_eq_true rfl) dL_law_257) (fun x2 W2 H locs h hL => ?_)
  refine lv_pop hx hb dL_law_260 rfl ?_
  refine lv_goto (tgt := 1243) hx hb dL_law_261 rfl ?_
  exact kk M1 W2 H locs h.2 hL
set_option maxHeartbeats 4000000 in
theorem lw_c2 {p : Program} {l : Launch} {e : Env} {s : State} {m : MethodId} {below : List Frame} {meth : Method} {c : Code} {H : Heap} {locs : List Loc} {ls : Array Slot} {w1 w2 : zWd} {M W' : zMem} {b L i : Nat} {xs : Nat → Int32} {K : zMem → zMem → Prop} (C0 : lw_At p s m meth c b L xs) (hLs : L < 2147483648) (X1 : zX w1 p s m #[Value.ref b] c code "HandToHandLaw") (X2 : zX w2 p s m #[Value.ref b] c code "HandToHandLaw") (h1 : zI_Main w1) (h2 : zI_Model w2) (hA : zLa w1 w2 s) (hi : i + 6 ≤ L) (hL : zLw w1 w2 s M W' H locs) (hl : lv_has ls 4 [(0, .ref b), (1, .ref (zad w1 0)), (2, .ref (zad w2 0)), (3, .int (nI i))]) (h : wp_Main_text  M (fun x1 M1 => wp_Model_text  W' (fun x2 W2 => x1 = x2 ∧ K M1 W2))) (kk : ∀ (M W' : zMem) (H : Heap) (locs : List Loc), K M W' → zLw w1 w2 s M W' H locs → W p l e room_1 s m #[Value.ref b] below meth c H locs 108 24481 (lw_Z below #[Value.ref b] s) (F0 m 1243 ls [])) : W p l e room_1 s m #[Value.ref b] below meth c H locs 108 24481 (lw_Z below #[Value.ref b] s) (F0 m 264 ls []) := by
  obtain ⟨hx, hb, hr, hml, hown, hts, hX, hbl, hlocks, hgv⟩ := id C0
  refine lv_aload_n hx hb dL_law_264 rfl (lv_at hl 1 rfl) ?_
  refine zl_1i hA hL (zl_run (w := w1) (As := []) (rest := []) X1 hml hl hL.1 hL.2.2 h1.1 rfl zk_Law_25 (c_Main_text h1 h) rfl ⟨Nat.le_of_ble_eq_true rfl, Nat.le_of_ble_eq_true rfl⟩ ⟨Nat.le_of_ble_eq_true rfl, Nat.le_of_ble_eq_true rfl⟩ rfl (Nat.le_of_ble_eq_true rfl) dL_law_265) (fun x1 M1 H locs h hL => ?_)
  refine lv_pop hx hb dL_law_268 rfl ?_
  refine lv_aload_n hx hb dL_law_269 rfl (lv_at hl 2 rfl) ?_
  refine zl_2i hA hL (zl_run (w := w2) (As := []) (rest := []) X2 hml hl hL.2.1 hL.2.2 h2.1 rfl zk_Law_29 (c_Model_text h2 h) rfl ⟨Nat.le_of_ble_eq_true rfl, Nat.le_of_ble_eq_true rfl⟩ ⟨Nat.le_of_ble_eq_true rfl, Nat.le_of_ble_eq_true rfl⟩ rfl (Nat.le_of_ble_eq_true rfl) dL_law_270) (fun x2 W2 H locs h hL => ?_)
  refine lv_pop hx hb dL_law_273 rfl ?_
  refine lv_goto (tgt := 1243) hx hb dL_law_274 rfl ?_
  exact kk M1 W2 H locs h.2 hL
set_option maxHeartbeats 4000000 in
theorem lw_c3 {p : Program} {l : Launch} {e : Env} {s : State} {m : MethodId} {below : List Frame} {meth : Method} {c : Code} {H : Heap} {locs : List Loc} {ls : Array Slot} {w1 w2 : zWd} {M W' : zMem} {b L i : Nat} {xs : Nat → Int32} {K : zMem → zMem → Prop} (C0 : lw_At p s m meth c b L xs) (hLs : L < 2147483648) (X1 : zX w1 p s m #[Value.ref b] c code "HandToHandLaw") (X2 : zX w2 p s m #[Value.ref b] c code "HandToHandLaw") (h1 : zI_Main w1) (h2 : zI_Model w2) (hA : zLa w1 w2 s) (hi : i + 6 ≤ L) (hL : zLw w1 w2 s M W' H locs) (hl : lv_has ls 4 [(0, .ref b), (1, .ref (zad w1 0)), (2, .ref (zad w2 0)), (3, .int (nI i))]) (h : wp_Main_fault  M (fun x1 M1 => wp_Model_fault  W' (fun x2 W2 => x1 = x2 ∧ K M1 W2))) (kk : ∀ (M W' : zMem) (H : Heap) (locs : List Loc), K M W' → zLw w1 w2 s M W' H locs → W p l e room_1 s m #[Value.ref b] below meth c H locs 108 24481 (lw_Z below #[Value.ref b] s) (F0 m 1243 ls [])) : W p l e room_1 s m #[Value.ref b] below meth c H locs 108 24481 (lw_Z below #[Value.ref b] s) (F0 m 277 ls []) := by
  obtain ⟨hx, hb, hr, hml, hown, hts, hX, hbl, hlocks, hgv⟩ := id C0
  refine lv_aload_n hx hb dL_law_277 rfl (lv_at hl 1 rfl) ?_
  refine zl_1i hA hL (zl_run (w := w1) (As := []) (rest := []) X1 hml hl hL.1 hL.2.2 h1.1 rfl zk_Law_30 (c_Main_fault h1 h) rfl ⟨Nat.le_of_ble_eq_true rfl, Nat.le_of_ble_eq_true rfl⟩ ⟨Nat.le_of_ble_eq_true rfl, Nat.le_of_ble_eq_true rfl⟩ rfl (Nat.le_of_ble_eq_true rfl) dL_law_278) (fun x1 M1 H locs h hL => ?_)
  refine lv_pop hx hb dL_law_281 rfl ?_
  refine lv_aload_n hx hb dL_law_282 rfl (lv_at hl 2 rfl) ?_
  refine zl_2i hA hL (zl_run (w := w2) (As := []) (rest := []) X2 hml hl hL.2.1 hL.2.2 h2.1 rfl zk_Law_33 (c_Model_fault h2 h) rfl ⟨Nat.le_of_ble_eq_true rfl, Nat.le_of_ble_eq_true rfl⟩ ⟨Nat.le_of_ble_eq_true rfl, Nat.le_of_ble_eq_true rfl⟩ rfl (Nat.le_of_ble_eq_true rfl) dL_law_283) (fun x2 W2 H locs h hL => ?_)
  refine lv_pop hx hb dL_law_286 rfl ?_
  refine lv_goto (tgt := 1243) hx hb dL_law_287 rfl ?_
  exact kk M1 W2 H locs h.2 hL
set_option maxHeartbeats 4000000 in
theorem lw_c4 {p : Program} {l : Launch} {e : Env} {s : State} {m : MethodId} {below : List Frame} {meth : Method} {c : Code} {H : Heap} {locs : List Loc} {ls : Array Slot} {w1 w2 : zWd} {M W' : zMem} {b L i : Nat} {xs : Nat → Int32} {K : zMem → zMem → Prop} (C0 : lw_At p s m meth c b L xs) (hLs : L < 2147483648) (X1 : zX w1 p s m #[Value.ref b] c code "HandToHandLaw") (X2 : zX w2 p s m #[Value.ref b] c code "HandToHandLaw") (h1 : zI_Main w1) (h2 : zI_Model w2) (hA : zLa w1 w2 s) (hi : i + 6 ≤ L) (hL : zLw w1 w2 s M W' H locs) (hl : lv_has ls 4 [(0, .ref b), (1, .ref (zad w1 0)), (2, .ref (zad w2 0)), (3, .int (nI i))]) (h : wp_Main_rule (xs (i + 1)) M (fun x1 M1 => wp_Model_rule (xs (i + 1)) W' (fun x2 W2 => x1 = x2 ∧ K M1 W2))) (kk : ∀ (M W' : zMem) (H : Heap) (locs : List Loc), K M W' → zLw w1 w2 s M W' H locs → W p l e room_1 s m #[Value.ref b] below meth c H locs 108 24481 (lw_Z below #[Value.ref b] s) (F0 m 1243 ls [])) : W p l e room_1 s m #[Value.ref b] below meth c H locs 108 24481 (lw_Z below #[Value.ref b] s) (F0 m 290 ls []) := by
  obtain ⟨hx, hb, hr, hml, hown, hts, hX, hbl, hlocks, hgv⟩ := id C0
  refine lv_aload_n hx hb dL_law_290 rfl (lv_at hl 1 rfl) ?_
  refine lv_aload_n hx hb dL_law_291 rfl (lv_at hl 0 rfl) ?_
  refine lv_iload_n hx hb dL_law_292 rfl (lv_at hl 3 rfl) ?_
  refine lv_iconst (v := 1) hx hb dL_law_293 (by decide) ?_
  refine lv_iadd hx hb dL_law_294 ?_
  refine zl_ld (k := 1) hx hb hX hbl hL (by omega) hLs dL_law_295 ?_
  refine zl_1i hA hL (zl_run (w := w1) (As := [.int (xs (i + 1))]) (rest := []) X1 hml hl hL.1 hL.2.2 h1.1 rfl zk_Law_34 (c_Main_rule h1 h) rfl ⟨Nat.le_of_ble_eq_true rfl, Nat.le_of_ble_eq_true rfl⟩ ⟨Nat.le_of_ble_eq_true rfl, Nat.le_of_ble_eq_true rfl⟩ rfl (Nat.le_of_ble_eq_true rfl) dL_law_296) (fun x1 M1 H locs h hL => ?_)
  refine lv_pop hx hb dL_law_299 rfl ?_
  refine lv_aload_n hx hb dL_law_300 rfl (lv_at hl 2 rfl) ?_
  refine lv_aload_n hx hb dL_law_301 rfl (lv_at hl 0 rfl) ?_
  refine lv_iload_n hx hb dL_law_302 rfl (lv_at hl 3 rfl) ?_
  refine lv_iconst (v := 1) hx hb dL_law_303 (by decide) ?_
  refine lv_iadd hx hb dL_law_304 ?_
  refine zl_ld (k := 1) hx hb hX hbl hL (by omega) hLs dL_law_305 ?_
  refine zl_2i hA hL (zl_run (w := w2) (As := [.int (xs (i + 1))]) (rest := []) X2 hml hl hL.2.1 hL.2.2 h2.1 rfl zk_Law_37 (c_Model_rule h2 h) rfl ⟨Nat.le_of_ble_eq_true rfl, Nat.le_of_ble_eq_true rfl⟩ ⟨Nat.le_of_ble_eq_true rfl, Nat.le_of_ble_eq_true rfl⟩ rfl (Nat.le_of_ble_eq_true rfl) dL_law_306) (fun x2 W2 H locs h hL => ?_)
  refine lv_pop hx hb dL_law_309 rfl ?_
  refine lv_goto (tgt := 1243) hx hb dL_law_310 rfl ?_
  exact kk M1 W2 H locs h.2 hL
set_option maxHeartbeats 4000000 in
theorem lw_c5 {p : Program} {l : Launch} {e : Env} {s : State} {m : MethodId} {below : List Frame} {meth : Method} {c : Code} {H : Heap} {locs : List Loc} {ls : Array Slot} {w1 w2 : zWd} {M W' : zMem} {b L i : Nat} {xs : Nat → Int32} {K : zMem → zMem → Prop} (C0 : lw_At p s m meth c b L xs) (hLs : L < 2147483648) (X1 : zX w1 p s m #[Value.ref b] c code "HandToHandLaw") (X2 : zX w2 p s m #[Value.ref b] c code "HandToHandLaw") (h1 : zI_Main w1) (h2 : zI_Model w2) (hA : zLa w1 w2 s) (hi : i + 6 ≤ L) (hL : zLw w1 w2 s M W' H locs) (hl : lv_has ls 4 [(0, .ref b), (1, .ref (zad w1 0)), (2, .ref (zad w2 0)), (3, .int (nI i))]) (h : wp_Main_units (xs (i + 1)) (xs (i + 2)) M (fun x1 M1 => wp_Model_units (xs (i + 1)) (xs (i + 2)) W' (fun x2 W2 => x1 = x2 ∧ K M1 W2))) (kk : ∀ (M W' : zMem) (H : Heap) (locs : List Loc), K M W' → zLw w1 w2 s M W' H locs → W p l e room_1 s m #[Value.ref b] below meth c H locs 108 24481 (lw_Z below #[Value.ref b] s) (F0 m 1243 ls [])) : W p l e room_1 s m #[Value.ref b] below meth c H locs 108 24481 (lw_Z below #[Value.ref b] s) (F0 m 313 ls []) := by
  obtain ⟨hx, hb, hr, hml, hown, hts, hX, hbl, hlocks, hgv⟩ := id C0
  refine lv_aload_n hx hb dL_law_313 rfl (lv_at hl 1 rfl) ?_
  refine lv_aload_n hx hb dL_law_314 rfl (lv_at hl 0 rfl) ?_
  refine lv_iload_n hx hb dL_law_315 rfl (lv_at hl 3 rfl) ?_
  refine lv_iconst (v := 1) hx hb dL_law_316 (by decide) ?_
  refine lv_iadd hx hb dL_law_317 ?_
  refine zl_ld (k := 1) hx hb hX hbl hL (by omega) hLs dL_law_318 ?_
  refine lv_aload_n hx hb dL_law_319 rfl (lv_at hl 0 rfl) ?_
  refine lv_iload_n hx hb dL_law_320 rfl (lv_at hl 3 rfl) ?_
  refine lv_iconst (v := 2) hx hb dL_law_321 (by decide) ?_
  refine lv_iadd hx hb dL_law_322 ?_
  refine zl_ld (k := 2) hx hb hX hbl hL (by omega) hLs dL_law_323 ?_
  refine zl_1i hA hL (zl_run (w := w1) (As := [.int (xs (i + 1)), .int (xs (i + 2))]) (rest := []) X1 hml hl hL.1 hL.2.2 h1.1 rfl zk_Law_38 (c_Main_units h1 h) rfl ⟨Nat.le_of_ble_eq_true rfl, Nat.le_of_ble_eq_true rfl⟩ ⟨Nat.le_of_ble_eq_true rfl, Nat.le_of_ble_eq_true rfl⟩ rfl (Nat.le_of_ble_eq_true rfl) dL_law_324) (fun x1 M1 H locs h hL => ?_)
  refine lv_pop hx hb dL_law_327 rfl ?_
  refine lv_aload_n hx hb dL_law_328 rfl (lv_at hl 2 rfl) ?_
  refine lv_aload_n hx hb dL_law_329 rfl (lv_at hl 0 rfl) ?_
  refine lv_iload_n hx hb dL_law_330 rfl (lv_at hl 3 rfl) ?_
  refine lv_iconst (v := 1) hx hb dL_law_331 (by decide) ?_
  refine lv_iadd hx hb dL_law_332 ?_
  refine zl_ld (k := 1) hx hb hX hbl hL (by omega) hLs dL_law_333 ?_
  refine lv_aload_n hx hb dL_law_334 rfl (lv_at hl 0 rfl) ?_
  refine lv_iload_n hx hb dL_law_335 rfl (lv_at hl 3 rfl) ?_
  refine lv_iconst (v := 2) hx hb dL_law_336 (by decide) ?_
  refine lv_iadd hx hb dL_law_337 ?_
  refine zl_ld (k := 2) hx hb hX hbl hL (by omega) hLs dL_law_338 ?_
  refine zl_2i hA hL (zl_run (w := w2) (As := [.int (xs (i + 1)), .int (xs (i + 2))]) (rest := []) X2 hml hl hL.2.1 hL.2.2 h2.1 rfl zk_Law_42 (c_Model_units h2 h) rfl ⟨Nat.le_of_ble_eq_true rfl, Nat.le_of_ble_eq_true rfl⟩ ⟨Nat.le_of_ble_eq_true rfl, Nat.le_of_ble_eq_true rfl⟩ rfl (Nat.le_of_ble_eq_true rfl) dL_law_339) (fun x2 W2 H locs h hL => ?_)
  refine lv_pop hx hb dL_law_342 rfl ?_
  refine lv_goto (tgt := 1243) hx hb dL_law_343 rfl ?_
  exact kk M1 W2 H locs h.2 hL
set_option maxHeartbeats 4000000 in
theorem lw_c6 {p : Program} {l : Launch} {e : Env} {s : State} {m : MethodId} {below : List Frame} {meth : Method} {c : Code} {H : Heap} {locs : List Loc} {ls : Array Slot} {w1 w2 : zWd} {M W' : zMem} {b L i : Nat} {xs : Nat → Int32} {K : zMem → zMem → Prop} (C0 : lw_At p s m meth c b L xs) (hLs : L < 2147483648) (X1 : zX w1 p s m #[Value.ref b] c code "HandToHandLaw") (X2 : zX w2 p s m #[Value.ref b] c code "HandToHandLaw") (h1 : zI_Main w1) (h2 : zI_Model w2) (hA : zLa w1 w2 s) (hi : i + 6 ≤ L) (hL : zLw w1 w2 s M W' H locs) (hl : lv_has ls 4 [(0, .ref b), (1, .ref (zad w1 0)), (2, .ref (zad w2 0)), (3, .int (nI i))]) (h : wp_Main_pace (xs (i + 1)) (xs (i + 2)) M (fun x1 M1 => wp_Model_pace (xs (i + 1)) (xs (i + 2)) W' (fun x2 W2 => x1 = x2 ∧ K M1 W2))) (kk : ∀ (M W' : zMem) (H : Heap) (locs : List Loc), K M W' → zLw w1 w2 s M W' H locs → W p l e room_1 s m #[Value.ref b] below meth c H locs 108 24481 (lw_Z below #[Value.ref b] s) (F0 m 1243 ls [])) : W p l e room_1 s m #[Value.ref b] below meth c H locs 108 24481 (lw_Z below #[Value.ref b] s) (F0 m 346 ls []) := by
  obtain ⟨hx, hb, hr, hml, hown, hts, hX, hbl, hlocks, hgv⟩ := id C0
  refine lv_aload_n hx hb dL_law_346 rfl (lv_at hl 1 rfl) ?_
  refine lv_aload_n hx hb dL_law_347 rfl (lv_at hl 0 rfl) ?_
  refine lv_iload_n hx hb dL_law_348 rfl (lv_at hl 3 rfl) ?_
  refine lv_iconst (v := 1) hx hb dL_law_349 (by decide) ?_
  refine lv_iadd hx hb dL_law_350 ?_
  refine zl_ld (k := 1) hx hb hX hbl hL (by omega) hLs dL_law_351 ?_
  refine lv_aload_n hx hb dL_law_352 rfl (lv_at hl 0 rfl) ?_
  refine lv_iload_n hx hb dL_law_353 rfl (lv_at hl 3 rfl) ?_
  refine lv_iconst (v := 2) hx hb dL_law_354 (by decide) ?_
  refine lv_iadd hx hb dL_law_355 ?_
  refine zl_ld (k := 2) hx hb hX hbl hL (by omega) hLs dL_law_356 ?_
  refine zl_1i hA hL (zl_run (w := w1) (As := [.int (xs (i + 1)), .int (xs (i + 2))]) (rest := []) X1 hml hl hL.1 hL.2.2 h1.1 rfl zk_Law_43 (c_Main_pace h1 h) rfl ⟨Nat.le_of_ble_eq_true rfl, Nat.le_of_ble_eq_true rfl⟩ ⟨Nat.le_of_ble_eq_true rfl, Nat.le_of_ble_eq_true rfl⟩ rfl (Nat.le_of_ble_eq_true rfl) dL_law_357) (fun x1 M1 H locs h hL => ?_)
  refine lv_pop hx hb dL_law_360 rfl ?_
  refine lv_aload_n hx hb dL_law_361 rfl (lv_at hl 2 rfl) ?_
  refine lv_aload_n hx hb dL_law_362 rfl (lv_at hl 0 rfl) ?_
  refine lv_iload_n hx hb dL_law_363 rfl (lv_at hl 3 rfl) ?_
  refine lv_iconst (v := 1) hx hb dL_law_364 (by decide) ?_
  refine lv_iadd hx hb dL_law_365 ?_
  refine zl_ld (k := 1) hx hb hX hbl hL (by omega) hLs dL_law_366 ?_
  refine lv_aload_n hx hb dL_law_367 rfl (lv_at hl 0 rfl) ?_
  refine lv_iload_n hx hb dL_law_368 rfl (lv_at hl 3 rfl) ?_
  refine lv_iconst (v := 2) hx hb dL_law_369 (by decide) ?_
  refine lv_iadd hx hb dL_law_370 ?_
  refine zl_ld (k := 2) hx hb hX hbl hL (by omega) hLs dL_law_371 ?_
  refine zl_2i hA hL (zl_run (w := w2) (As := [.int (xs (i + 1)), .int (xs (i + 2))]) (rest := []) X2 hml hl hL.2.1 hL.2.2 h2.1 rfl zk_Law_46 (c_Model_pace h2 h) rfl ⟨Nat.le_of_ble_eq_true rfl, Nat.le_of_ble_eq_true rfl⟩ ⟨Nat.le_of_ble_eq_true rfl, Nat.le_of_ble_eq_true rfl⟩ rfl (Nat.le_of_ble_eq_true rfl) dL_law_372) (fun x2 W2 H locs h hL => ?_)
  refine lv_pop hx hb dL_law_375 rfl ?_
  refine lv_goto (tgt := 1243) hx hb dL_law_376 rfl ?_
  exact kk M1 W2 H locs h.2 hL
set_option maxHeartbeats 4000000 in
theorem lw_c7 {p : Program} {l : Launch} {e : Env} {s : State} {m : MethodId} {below : List Frame} {meth : Method} {c : Code} {H : Heap} {locs : List Loc} {ls : Array Slot} {w1 w2 : zWd} {M W' : zMem} {b L i : Nat} {xs : Nat → Int32} {K : zMem → zMem → Prop} (C0 : lw_At p s m meth c b L xs) (hLs : L < 2147483648) (X1 : zX w1 p s m #[Value.ref b] c code "HandToHandLaw") (X2 : zX w2 p s m #[Value.ref b] c code "HandToHandLaw") (h1 : zI_Main w1) (h2 : zI_Model w2) (hA : zLa w1 w2 s) (hi : i + 6 ≤ L) (hL : zLw w1 w2 s M W' H locs) (hl : lv_has ls 4 [(0, .ref b), (1, .ref (zad w1 0)), (2, .ref (zad w2 0)), (3, .int (nI i))]) (h : wp_Main_setPace (xs (i + 1)) (xs (i + 2)) (xs (i + 3)) M (fun x1 M1 => wp_Model_setPace (xs (i + 1)) (xs (i + 2)) (xs (i + 3)) W' (fun x2 W2 => x1 = x2 ∧ K M1 W2))) (kk : ∀ (M W' : zMem) (H : Heap) (locs : List Loc), K M W' → zLw w1 w2 s M W' H locs → W p l e room_1 s m #[Value.ref b] below meth c H locs 108 24481 (lw_Z below #[Value.ref b] s) (F0 m 1243 ls [])) : W p l e room_1 s m #[Value.ref b] below meth c H locs 108 24481 (lw_Z below #[Value.ref b] s) (F0 m 379 ls []) := by
  obtain ⟨hx, hb, hr, hml, hown, hts, hX, hbl, hlocks, hgv⟩ := id C0
  refine lv_aload_n hx hb dL_law_379 rfl (lv_at hl 1 rfl) ?_
  refine lv_aload_n hx hb dL_law_380 rfl (lv_at hl 0 rfl) ?_
  refine lv_iload_n hx hb dL_law_381 rfl (lv_at hl 3 rfl) ?_
  refine lv_iconst (v := 1) hx hb dL_law_382 (by decide) ?_
  refine lv_iadd hx hb dL_law_383 ?_
  refine zl_ld (k := 1) hx hb hX hbl hL (by omega) hLs dL_law_384 ?_
  refine lv_aload_n hx hb dL_law_385 rfl (lv_at hl 0 rfl) ?_
  refine lv_iload_n hx hb dL_law_386 rfl (lv_at hl 3 rfl) ?_
  refine lv_iconst (v := 2) hx hb dL_law_387 (by decide) ?_
  refine lv_iadd hx hb dL_law_388 ?_
  refine zl_ld (k := 2) hx hb hX hbl hL (by omega) hLs dL_law_389 ?_
  refine lv_aload_n hx hb dL_law_390 rfl (lv_at hl 0 rfl) ?_
  refine lv_iload_n hx hb dL_law_391 rfl (lv_at hl 3 rfl) ?_
  refine lv_iconst (v := 3) hx hb dL_law_392 (by decide) ?_
  refine lv_iadd hx hb dL_law_393 ?_
  refine zl_ld (k := 3) hx hb hX hbl hL (by omega) hLs dL_law_394 ?_
  refine zl_1i hA hL (zl_run (w := w1) (As := [.int (xs (i + 1)), .int (xs (i + 2)), .int (xs (i + 3))]) (rest := []) X1 hml hl hL.1 hL.2.2 h1.1 rfl zk_Law_47 (c_Main_setPace h1 h) rfl ⟨Nat.le_of_ble_eq_true rfl, Nat.le_of_ble_eq_true rfl⟩ ⟨Nat.le_of_ble_eq_true rfl, Nat.le_of_ble_eq_true rfl⟩ rfl (Nat.le_of_ble_eq_true rfl) dL_law_395) (fun x1 M1 H locs h hL => ?_)
  refine lv_pop hx hb dL_law_398 rfl ?_
  refine lv_aload_n hx hb dL_law_399 rfl (lv_at hl 2 rfl) ?_
  refine lv_aload_n hx hb dL_law_400 rfl (lv_at hl 0 rfl) ?_
  refine lv_iload_n hx hb dL_law_401 rfl (lv_at hl 3 rfl) ?_
  refine lv_iconst (v := 1) hx hb dL_law_402 (by decide) ?_
  refine lv_iadd hx hb dL_law_403 ?_
  refine zl_ld (k := 1) hx hb hX hbl hL (by omega) hLs dL_law_404 ?_
  refine lv_aload_n hx hb dL_law_405 rfl (lv_at hl 0 rfl) ?_
  refine lv_iload_n hx hb dL_law_406 rfl (lv_at hl 3 rfl) ?_
  refine lv_iconst (v := 2) hx hb dL_law_407 (by decide) ?_
  refine lv_iadd hx hb dL_law_408 ?_
  refine zl_ld (k := 2) hx hb hX hbl hL (by omega) hLs dL_law_409 ?_
  refine lv_aload_n hx hb dL_law_410 rfl (lv_at hl 0 rfl) ?_
  refine lv_iload_n hx hb dL_law_411 rfl (lv_at hl 3 rfl) ?_
  refine lv_iconst (v := 3) hx hb dL_law_412 (by decide) ?_
  refine lv_iadd hx hb dL_law_413 ?_
  refine zl_ld (k := 3) hx hb hX hbl hL (by omega) hLs dL_law_414 ?_
  refine zl_2i hA hL (zl_run (w := w2) (As := [.int (xs (i + 1)), .int (xs (i + 2)), .int (xs (i + 3))]) (rest := []) X2 hml hl hL.2.1 hL.2.2 h2.1 rfl zk_Law_51 (c_Model_setPace h2 h) rfl ⟨Nat.le_of_ble_eq_true rfl, Nat.le_of_ble_eq_true rfl⟩ ⟨Nat.le_of_ble_eq_true rfl, Nat.le_of_ble_eq_true rfl⟩ rfl (Nat.le_of_ble_eq_true rfl) dL_law_415) (fun x2 W2 H locs h hL => ?_)
  refine lv_pop hx hb dL_law_418 rfl ?_
  refine lv_goto (tgt := 1243) hx hb dL_law_419 rfl ?_
  exact kk M1 W2 H locs h.2 hL
set_option maxHeartbeats 4000000 in
theorem lw_c8 {p : Program} {l : Launch} {e : Env} {s : State} {m : MethodId} {below : List Frame} {meth : Method} {c : Code} {H : Heap} {locs : List Loc} {ls : Array Slot} {w1 w2 : zWd} {M W' : zMem} {b L i : Nat} {xs : Nat → Int32} {K : zMem → zMem → Prop} (C0 : lw_At p s m meth c b L xs) (hLs : L < 2147483648) (X1 : zX w1 p s m #[Value.ref b] c code "HandToHandLaw") (X2 : zX w2 p s m #[Value.ref b] c code "HandToHandLaw") (h1 : zI_Main w1) (h2 : zI_Model w2) (hA : zLa w1 w2 s) (hi : i + 6 ≤ L) (hL : zLw w1 w2 s M W' H locs) (hl : lv_has ls 4 [(0, .ref b), (1, .ref (zad w1 0)), (2, .ref (zad w2 0)), (3, .int (nI i))]) (h : wp_Main_begin  M (fun x1 M1 => wp_Model_begin  W' (fun x2 W2 => x1 = x2 ∧ K M1 W2))) (kk : ∀ (M W' : zMem) (H : Heap) (locs : List Loc), K M W' → zLw w1 w2 s M W' H locs → W p l e room_1 s m #[Value.ref b] below meth c H locs 108 24481 (lw_Z below #[Value.ref b] s) (F0 m 1243 ls [])) : W p l e room_1 s m #[Value.ref b] below meth c H locs 108 24481 (lw_Z below #[Value.ref b] s) (F0 m 422 ls []) := by
  obtain ⟨hx, hb, hr, hml, hown, hts, hX, hbl, hlocks, hgv⟩ := id C0
  refine lv_aload_n hx hb dL_law_422 rfl (lv_at hl 1 rfl) ?_
  refine zl_1i hA hL (zl_run (w := w1) (As := []) (rest := []) X1 hml hl hL.1 hL.2.2 h1.1 rfl zk_Law_52 (c_Main_begin h1 h) rfl ⟨Nat.le_of_ble_eq_true rfl, Nat.le_of_ble_eq_true rfl⟩ ⟨Nat.le_of_ble_eq_true rfl, Nat.le_of_ble_eq_true rfl⟩ rfl (Nat.le_of_ble_eq_true rfl) dL_law_423) (fun x1 M1 H locs h hL => ?_)
  refine lv_pop hx hb dL_law_426 rfl ?_
  refine lv_aload_n hx hb dL_law_427 rfl (lv_at hl 2 rfl) ?_
  refine zl_2i hA hL (zl_run (w := w2) (As := []) (rest := []) X2 hml hl hL.2.1 hL.2.2 h2.1 rfl zk_Law_55 (c_Model_begin h2 h) rfl ⟨Nat.le_of_ble_eq_true rfl, Nat.le_of_ble_eq_true rfl⟩ ⟨Nat.le_of_ble_eq_true rfl, Nat.le_of_ble_eq_true rfl⟩ rfl (Nat.le_of_ble_eq_true rfl) dL_law_428) (fun x2 W2 H locs h hL => ?_)
  refine lv_pop hx hb dL_law_431 rfl ?_
  refine lv_goto (tgt := 1243) hx hb dL_law_432 rfl ?_
  exact kk M1 W2 H locs h.2 hL
set_option maxHeartbeats 4000000 in
theorem lw_c9 {p : Program} {l : Launch} {e : Env} {s : State} {m : MethodId} {below : List Frame} {meth : Method} {c : Code} {H : Heap} {locs : List Loc} {ls : Array Slot} {w1 w2 : zWd} {M W' : zMem} {b L i : Nat} {xs : Nat → Int32} {K : zMem → zMem → Prop} (C0 : lw_At p s m meth c b L xs) (hLs : L < 2147483648) (X1 : zX w1 p s m #[Value.ref b] c code "HandToHandLaw") (X2 : zX w2 p s m #[Value.ref b] c code "HandToHandLaw") (h1 : zI_Main w1) (h2 : zI_Model w2) (hA : zLa w1 w2 s) (hi : i + 6 ≤ L) (hL : zLw w1 w2 s M W' H locs) (hl : lv_has ls 4 [(0, .ref b), (1, .ref (zad w1 0)), (2, .ref (zad w2 0)), (3, .int (nI i))]) (h : wp_Main_go (xs (i + 1)) M (fun x1 M1 => wp_Model_go (xs (i + 1)) W' (fun x2 W2 => x1 = x2 ∧ K M1 W2))) (kk : ∀ (M W' : zMem) (H : Heap) (locs : List Loc), K M W' → zLw w1 w2 s M W' H locs → W p l e room_1 s m #[Value.ref b] below meth c H locs 108 24481 (lw_Z below #[Value.ref b] s) (F0 m 1243 ls [])) : W p l e room_1 s m #[Value.ref b] below meth c H locs 108 24481 (lw_Z below #[Value.ref b] s) (F0 m 435 ls []) := by
  obtain ⟨hx, hb, hr, hml, hown, hts, hX, hbl, hlocks, hgv⟩ := id C0
  refine lv_aload_n hx hb dL_law_435 rfl (lv_at hl 1 rfl) ?_
  refine lv_aload_n hx hb dL_law_436 rfl (lv_at hl 0 rfl) ?_
  refine lv_iload_n hx hb dL_law_437 rfl (lv_at hl 3 rfl) ?_
  refine lv_iconst (v := 1) hx hb dL_law_438 (by decide) ?_
  refine lv_iadd hx hb dL_law_439 ?_
  refine zl_ld (k := 1) hx hb hX hbl hL (by omega) hLs dL_law_440 ?_
  refine zl_1i hA hL (zl_run (w := w1) (As := [.int (xs (i + 1))]) (rest := []) X1 hml hl hL.1 hL.2.2 h1.1 rfl zk_Law_56 (c_Main_go h1 h) rfl ⟨Nat.le_of_ble_eq_true rfl, Nat.le_of_ble_eq_true rfl⟩ ⟨Nat.le_of_ble_eq_true rfl, Nat.le_of_ble_eq_true rfl⟩ rfl (Nat.le_of_ble_eq_true rfl) dL_law_441) (fun x1 M1 H locs h hL => ?_)
  refine lv_pop hx hb dL_law_444 rfl ?_
  refine lv_aload_n hx hb dL_law_445 rfl (lv_at hl 2 rfl) ?_
  refine lv_aload_n hx hb dL_law_446 rfl (lv_at hl 0 rfl) ?_
  refine lv_iload_n hx hb dL_law_447 rfl (lv_at hl 3 rfl) ?_
  refine lv_iconst (v := 1) hx hb dL_law_448 (by decide) ?_
  refine lv_iadd hx hb dL_law_449 ?_
  refine zl_ld (k := 1) hx hb hX hbl hL (by omega) hLs dL_law_450 ?_
  refine zl_2i hA hL (zl_run (w := w2) (As := [.int (xs (i + 1))]) (rest := []) X2 hml hl hL.2.1 hL.2.2 h2.1 rfl zk_Law_59 (c_Model_go h2 h) rfl ⟨Nat.le_of_ble_eq_true rfl, Nat.le_of_ble_eq_true rfl⟩ ⟨Nat.le_of_ble_eq_true rfl, Nat.le_of_ble_eq_true rfl⟩ rfl (Nat.le_of_ble_eq_true rfl) dL_law_451) (fun x2 W2 H locs h hL => ?_)
  refine lv_pop hx hb dL_law_454 rfl ?_
  refine lv_goto (tgt := 1243) hx hb dL_law_455 rfl ?_
  exact kk M1 W2 H locs h.2 hL
set_option maxHeartbeats 4000000 in
theorem lw_c10 {p : Program} {l : Launch} {e : Env} {s : State} {m : MethodId} {below : List Frame} {meth : Method} {c : Code} {H : Heap} {locs : List Loc} {ls : Array Slot} {w1 w2 : zWd} {M W' : zMem} {b L i : Nat} {xs : Nat → Int32} {K : zMem → zMem → Prop} (C0 : lw_At p s m meth c b L xs) (hLs : L < 2147483648) (X1 : zX w1 p s m #[Value.ref b] c code "HandToHandLaw") (X2 : zX w2 p s m #[Value.ref b] c code "HandToHandLaw") (h1 : zI_Main w1) (h2 : zI_Model w2) (hA : zLa w1 w2 s) (hi : i + 6 ≤ L) (hL : zLw w1 w2 s M W' H locs) (hl : lv_has ls 4 [(0, .ref b), (1, .ref (zad w1 0)), (2, .ref (zad w2 0)), (3, .int (nI i))]) (h : wp_Main_night  M (fun x1 M1 => wp_Model_night  W' (fun x2 W2 => x1 = x2 ∧ K M1 W2))) (kk : ∀ (M W' : zMem) (H : Heap) (locs : List Loc), K M W' → zLw w1 w2 s M W' H locs → W p l e room_1 s m #[Value.ref b] below meth c H locs 108 24481 (lw_Z below #[Value.ref b] s) (F0 m 1243 ls [])) : W p l e room_1 s m #[Value.ref b] below meth c H locs 108 24481 (lw_Z below #[Value.ref b] s) (F0 m 458 ls []) := by
  obtain ⟨hx, hb, hr, hml, hown, hts, hX, hbl, hlocks, hgv⟩ := id C0
  refine lv_aload_n hx hb dL_law_458 rfl (lv_at hl 1 rfl) ?_
  refine zl_1i hA hL (zl_run (w := w1) (As := []) (rest := []) X1 hml hl hL.1 hL.2.2 h1.1 rfl zk_Law_60 (c_Main_night h1 h) rfl ⟨Nat.le_of_ble_eq_true rfl, Nat.le_of_ble_eq_true rfl⟩ ⟨Nat.le_of_ble_eq_true rfl, Nat.le_of_ble_eq_true rfl⟩ rfl (Nat.le_of_ble_eq_true rfl) dL_law_459) (fun x1 M1 H locs h hL => ?_)
  refine lv_pop hx hb dL_law_462 rfl ?_
  refine lv_aload_n hx hb dL_law_463 rfl (lv_at hl 2 rfl) ?_
  refine zl_2i hA hL (zl_run (w := w2) (As := []) (rest := []) X2 hml hl hL.2.1 hL.2.2 h2.1 rfl zk_Law_63 (c_Model_night h2 h) rfl ⟨Nat.le_of_ble_eq_true rfl, Nat.le_of_ble_eq_true rfl⟩ ⟨Nat.le_of_ble_eq_true rfl, Nat.le_of_ble_eq_true rfl⟩ rfl (Nat.le_of_ble_eq_true rfl) dL_law_464) (fun x2 W2 H locs h hL => ?_)
  refine lv_pop hx hb dL_law_467 rfl ?_
  refine lv_goto (tgt := 1243) hx hb dL_law_468 rfl ?_
  exact kk M1 W2 H locs h.2 hL
set_option maxHeartbeats 4000000 in
theorem lw_c11 {p : Program} {l : Launch} {e : Env} {s : State} {m : MethodId} {below : List Frame} {meth : Method} {c : Code} {H : Heap} {locs : List Loc} {ls : Array Slot} {w1 w2 : zWd} {M W' : zMem} {b L i : Nat} {xs : Nat → Int32} {K : zMem → zMem → Prop} (C0 : lw_At p s m meth c b L xs) (hLs : L < 2147483648) (X1 : zX w1 p s m #[Value.ref b] c code "HandToHandLaw") (X2 : zX w2 p s m #[Value.ref b] c code "HandToHandLaw") (h1 : zI_Main w1) (h2 : zI_Model w2) (hA : zLa w1 w2 s) (hi : i + 6 ≤ L) (hL : zLw w1 w2 s M W' H locs) (hl : lv_has ls 4 [(0, .ref b), (1, .ref (zad w1 0)), (2, .ref (zad w2 0)), (3, .int (nI i))]) (h : wp_Main_now (xs (i + 1)) M (fun x1 M1 => wp_Model_now (xs (i + 1)) W' (fun x2 W2 => x1 = x2 ∧ K M1 W2))) (kk : ∀ (M W' : zMem) (H : Heap) (locs : List Loc), K M W' → zLw w1 w2 s M W' H locs → W p l e room_1 s m #[Value.ref b] below meth c H locs 108 24481 (lw_Z below #[Value.ref b] s) (F0 m 1243 ls [])) : W p l e room_1 s m #[Value.ref b] below meth c H locs 108 24481 (lw_Z below #[Value.ref b] s) (F0 m 471 ls []) := by
  obtain ⟨hx, hb, hr, hml, hown, hts, hX, hbl, hlocks, hgv⟩ := id C0
  refine lv_aload_n hx hb dL_law_471 rfl (lv_at hl 1 rfl) ?_
  refine lv_aload_n hx hb dL_law_472 rfl (lv_at hl 0 rfl) ?_
  refine lv_iload_n hx hb dL_law_473 rfl (lv_at hl 3 rfl) ?_
  refine lv_iconst (v := 1) hx hb dL_law_474 (by decide) ?_
  refine lv_iadd hx hb dL_law_475 ?_
  refine zl_ld (k := 1) hx hb hX hbl hL (by omega) hLs dL_law_476 ?_
  refine zl_1i hA hL (zl_run (w := w1) (As := [.int (xs (i + 1))]) (rest := []) X1 hml hl hL.1 hL.2.2 h1.1 rfl zk_Law_64 (c_Main_now h1 h) rfl ⟨Nat.le_of_ble_eq_true rfl, Nat.le_of_ble_eq_true rfl⟩ ⟨Nat.le_of_ble_eq_true rfl, Nat.le_of_ble_eq_true rfl⟩ rfl (Nat.le_of_ble_eq_true rfl) dL_law_477) (fun x1 M1 H locs h hL => ?_)
  refine lv_pop hx hb dL_law_480 rfl ?_
  refine lv_aload_n hx hb dL_law_481 rfl (lv_at hl 2 rfl) ?_
  refine lv_aload_n hx hb dL_law_482 rfl (lv_at hl 0 rfl) ?_
  refine lv_iload_n hx hb dL_law_483 rfl (lv_at hl 3 rfl) ?_
  refine lv_iconst (v := 1) hx hb dL_law_484 (by decide) ?_
  refine lv_iadd hx hb dL_law_485 ?_
  refine zl_ld (k := 1) hx hb hX hbl hL (by omega) hLs dL_law_486 ?_
  refine zl_2i hA hL (zl_run (w := w2) (As := [.int (xs (i + 1))]) (rest := []) X2 hml hl hL.2.1 hL.2.2 h2.1 rfl zk_Law_67 (c_Model_now h2 h) rfl ⟨Nat.le_of_ble_eq_true rfl, Nat.le_of_ble_eq_true rfl⟩ ⟨Nat.le_of_ble_eq_true rfl, Nat.le_of_ble_eq_true rfl⟩ rfl (Nat.le_of_ble_eq_true rfl) dL_law_487) (fun x2 W2 H locs h hL => ?_)
  refine lv_pop hx hb dL_law_490 rfl ?_
  refine lv_goto (tgt := 1243) hx hb dL_law_491 rfl ?_
  exact kk M1 W2 H locs h.2 hL
set_option maxHeartbeats 4000000 in
theorem lw_c12 {p : Program} {l : Launch} {e : Env} {s : State} {m : MethodId} {below : List Frame} {meth : Method} {c : Code} {H : Heap} {locs : List Loc} {ls : Array Slot} {w1 w2 : zWd} {M W' : zMem} {b L i : Nat} {xs : Nat → Int32} {K : zMem → zMem → Prop} (C0 : lw_At p s m meth c b L xs) (hLs : L < 2147483648) (X1 : zX w1 p s m #[Value.ref b] c code "HandToHandLaw") (X2 : zX w2 p s m #[Value.ref b] c code "HandToHandLaw") (h1 : zI_Main w1) (h2 : zI_Model w2) (hA : zLa w1 w2 s) (hi : i + 6 ≤ L) (hL : zLw w1 w2 s M W' H locs) (hl : lv_has ls 4 [(0, .ref b), (1, .ref (zad w1 0)), (2, .ref (zad w2 0)), (3, .int (nI i))]) (h : wp_Main_hand (xs (i + 1)) (xs (i + 2)) M (fun x1 M1 => wp_Model_hand (xs (i + 1)) (xs (i + 2)) W' (fun x2 W2 => x1 = x2 ∧ K M1 W2))) (kk : ∀ (M W' : zMem) (H : Heap) (locs : List Loc), K M W' → zLw w1 w2 s M W' H locs → W p l e room_1 s m #[Value.ref b] below meth c H locs 108 24481 (lw_Z below #[Value.ref b] s) (F0 m 1243 ls [])) : W p l e room_1 s m #[Value.ref b] below meth c H locs 108 24481 (lw_Z below #[Value.ref b] s) (F0 m 494 ls []) := by
  obtain ⟨hx, hb, hr, hml, hown, hts, hX, hbl, hlocks, hgv⟩ := id C0
  refine lv_aload_n hx hb dL_law_494 rfl (lv_at hl 1 rfl) ?_
  refine lv_aload_n hx hb dL_law_495 rfl (lv_at hl 0 rfl) ?_
  refine lv_iload_n hx hb dL_law_496 rfl (lv_at hl 3 rfl) ?_
  refine lv_iconst (v := 1) hx hb dL_law_497 (by decide) ?_
  refine lv_iadd hx hb dL_law_498 ?_
  refine zl_ld (k := 1) hx hb hX hbl hL (by omega) hLs dL_law_499 ?_
  refine lv_aload_n hx hb dL_law_500 rfl (lv_at hl 0 rfl) ?_
  refine lv_iload_n hx hb dL_law_501 rfl (lv_at hl 3 rfl) ?_
  refine lv_iconst (v := 2) hx hb dL_law_502 (by decide) ?_
  refine lv_iadd hx hb dL_law_503 ?_
  refine zl_ld (k := 2) hx hb hX hbl hL (by omega) hLs dL_law_504 ?_
  refine zl_1i hA hL (zl_run (w := w1) (As := [.int (xs (i + 1)), .int (xs (i + 2))]) (rest := []) X1 hml hl hL.1 hL.2.2 h1.1 rfl zk_Law_68 (c_Main_hand h1 h) rfl ⟨Nat.le_of_ble_eq_true rfl, Nat.le_of_ble_eq_true rfl⟩ ⟨Nat.le_of_ble_eq_true rfl, Nat.le_of_ble_eq_true rfl⟩ rfl (Nat.le_of_ble_eq_true rfl) dL_law_505) (fun x1 M1 H locs h hL => ?_)
  refine lv_aload_n hx hb dL_law_508 rfl (lv_at hl 2 rfl) ?_
  refine lv_aload_n hx hb dL_law_509 rfl (lv_at hl 0 rfl) ?_
  refine lv_iload_n hx hb dL_law_510 rfl (lv_at hl 3 rfl) ?_
  refine lv_iconst (v := 1) hx hb dL_law_511 (by decide) ?_
  refine lv_iadd hx hb dL_law_512 ?_
  refine zl_ld (k := 1) hx hb hX hbl hL (by omega) hLs dL_law_513 ?_
  refine lv_aload_n hx hb dL_law_514 rfl (lv_at hl 0 rfl) ?_
  refine lv_iload_n hx hb dL_law_515 rfl (lv_at hl 3 rfl) ?_
  refine lv_iconst (v := 2) hx hb dL_law_516 (by decide) ?_
  refine lv_iadd hx hb dL_law_517 ?_
  refine zl_ld (k := 2) hx hb hX hbl hL (by omega) hLs dL_law_518 ?_
  refine zl_2i hA hL (zl_run (w := w2) (As := [.int (xs (i + 1)), .int (xs (i + 2))]) (rest := [.int (x1)]) X2 hml hl hL.2.1 hL.2.2 h2.1 rfl zk_Law_71 (c_Model_hand h2 h) rfl ⟨Nat.le_of_ble_eq_true rfl, Nat.le_of_ble_eq_true rfl⟩ ⟨Nat.le_of_ble_eq_true rfl, Nat.le_of_ble_eq_true rfl⟩ rfl (Nat.le_of_ble_eq_true rfl) dL_law_519) (fun x2 W2 H locs h hL => ?_)
  refine lv_icmp_eq (tgt := 1243) hx hb dL_law_522 rfl (fun _ => kk M1 W2 H locs h.2 hL) (fun c => absurd h.1 c)
set_option maxHeartbeats 4000000 in
theorem lw_c13 {p : Program} {l : Launch} {e : Env} {s : State} {m : MethodId} {below : List Frame} {meth : Method} {c : Code} {H : Heap} {locs : List Loc} {ls : Array Slot} {w1 w2 : zWd} {M W' : zMem} {b L i : Nat} {xs : Nat → Int32} {K : zMem → zMem → Prop} (C0 : lw_At p s m meth c b L xs) (hLs : L < 2147483648) (X1 : zX w1 p s m #[Value.ref b] c code "HandToHandLaw") (X2 : zX w2 p s m #[Value.ref b] c code "HandToHandLaw") (h1 : zI_Main w1) (h2 : zI_Model w2) (hA : zLa w1 w2 s) (hi : i + 6 ≤ L) (hL : zLw w1 w2 s M W' H locs) (hl : lv_has ls 4 [(0, .ref b), (1, .ref (zad w1 0)), (2, .ref (zad w2 0)), (3, .int (nI i))]) (h : wp_Main_learnt (xs (i + 1)) (xs (i + 2)) M (fun x1 M1 => wp_Model_learnt (xs (i + 1)) (xs (i + 2)) W' (fun x2 W2 => x1 = x2 ∧ K M1 W2))) (kk : ∀ (M W' : zMem) (H : Heap) (locs : List Loc), K M W' → zLw w1 w2 s M W' H locs → W p l e room_1 s m #[Value.ref b] below meth c H locs 108 24481 (lw_Z below #[Value.ref b] s) (F0 m 1243 ls [])) : W p l e room_1 s m #[Value.ref b] below meth c H locs 108 24481 (lw_Z below #[Value.ref b] s) (F0 m 527 ls []) := by
  obtain ⟨hx, hb, hr, hml, hown, hts, hX, hbl, hlocks, hgv⟩ := id C0
  refine lv_aload_n hx hb dL_law_527 rfl (lv_at hl 1 rfl) ?_
  refine lv_aload_n hx hb dL_law_528 rfl (lv_at hl 0 rfl) ?_
  refine lv_iload_n hx hb dL_law_529 rfl (lv_at hl 3 rfl) ?_
  refine lv_iconst (v := 1) hx hb dL_law_530 (by decide) ?_
  refine lv_iadd hx hb dL_law_531 ?_
  refine zl_ld (k := 1) hx hb hX hbl hL (by omega) hLs dL_law_532 ?_
  refine lv_aload_n hx hb dL_law_533 rfl (lv_at hl 0 rfl) ?_
  refine lv_iload_n hx hb dL_law_534 rfl (lv_at hl 3 rfl) ?_
  refine lv_iconst (v := 2) hx hb dL_law_535 (by decide) ?_
  refine lv_iadd hx hb dL_law_536 ?_
  refine zl_ld (k := 2) hx hb hX hbl hL (by omega) hLs dL_law_537 ?_
  refine zl_1i hA hL (zl_run (w := w1) (As := [.int (xs (i + 1)), .int (xs (i + 2))]) (rest := []) X1 hml hl hL.1 hL.2.2 h1.1 rfl zk_Law_72 (c_Main_learnt h1 h) rfl ⟨Nat.le_of_ble_eq_true rfl, Nat.le_of_ble_eq_true rfl⟩ ⟨Nat.le_of_ble_eq_true rfl, Nat.le_of_ble_eq_true rfl⟩ rfl (Nat.le_of_ble_eq_true rfl) dL_law_538) (fun x1 M1 H locs h hL => ?_)
  refine lv_pop hx hb dL_law_541 rfl ?_
  refine lv_aload_n hx hb dL_law_542 rfl (lv_at hl 2 rfl) ?_
  refine lv_aload_n hx hb dL_law_543 rfl (lv_at hl 0 rfl) ?_
  refine lv_iload_n hx hb dL_law_544 rfl (lv_at hl 3 rfl) ?_
  refine lv_iconst (v := 1) hx hb dL_law_545 (by decide) ?_
  refine lv_iadd hx hb dL_law_546 ?_
  refine zl_ld (k := 1) hx hb hX hbl hL (by omega) hLs dL_law_547 ?_
  refine lv_aload_n hx hb dL_law_548 rfl (lv_at hl 0 rfl) ?_
  refine lv_iload_n hx hb dL_law_549 rfl (lv_at hl 3 rfl) ?_
  refine lv_iconst (v := 2) hx hb dL_law_550 (by decide) ?_
  refine lv_iadd hx hb dL_law_551 ?_
  refine zl_ld (k := 2) hx hb hX hbl hL (by omega) hLs dL_law_552 ?_
  refine zl_2i hA hL (zl_run (w := w2) (As := [.int (xs (i + 1)), .int (xs (i + 2))]) (rest := []) X2 hml hl hL.2.1 hL.2.2 h2.1 rfl zk_Law_75 (c_Model_learnt h2 h) rfl ⟨Nat.le_of_ble_eq_true rfl, Nat.le_of_ble_eq_true rfl⟩ ⟨Nat.le_of_ble_eq_true rfl, Nat.le_of_ble_eq_true rfl⟩ rfl (Nat.le_of_ble_eq_true rfl) dL_law_553) (fun x2 W2 H locs h hL => ?_)
  refine lv_pop hx hb dL_law_556 rfl ?_
  refine lv_goto (tgt := 1243) hx hb dL_law_557 rfl ?_
  exact kk M1 W2 H locs h.2 hL
set_option maxHeartbeats 4000000 in
theorem lw_c14 {p : Program} {l : Launch} {e : Env} {s : State} {m : MethodId} {below : List Frame} {meth : Method} {c : Code} {H : Heap} {locs : List Loc} {ls : Array Slot} {w1 w2 : zWd} {M W' : zMem} {b L i : Nat} {xs : Nat → Int32} {K : zMem → zMem → Prop} (C0 : lw_At p s m meth c b L xs) (hLs : L < 2147483648) (X1 : zX w1 p s m #[Value.ref b] c code "HandToHandLaw") (X2 : zX w2 p s m #[Value.ref b] c code "HandToHandLaw") (h1 : zI_Main w1) (h2 : zI_Model w2) (hA : zLa w1 w2 s) (hi : i + 6 ≤ L) (hL : zLw w1 w2 s M W' H locs) (hl : lv_has ls 4 [(0, .ref b), (1, .ref (zad w1 0)), (2, .ref (zad w2 0)), (3, .int (nI i))]) (h : wp_Main_takes (xs (i + 1)) (xs (i + 2)) M (fun x1 M1 => wp_Model_takes (xs (i + 1)) (xs (i + 2)) W' (fun x2 W2 => x1 = x2 ∧ K M1 W2))) (kk : ∀ (M W' : zMem) (H : Heap) (locs : List Loc), K M W' → zLw w1 w2 s M W' H locs → W p l e room_1 s m #[Value.ref b] below meth c H locs 108 24481 (lw_Z below #[Value.ref b] s) (F0 m 1243 ls [])) : W p l e room_1 s m #[Value.ref b] below meth c H locs 108 24481 (lw_Z below #[Value.ref b] s) (F0 m 560 ls []) := by
  obtain ⟨hx, hb, hr, hml, hown, hts, hX, hbl, hlocks, hgv⟩ := id C0
  refine lv_aload_n hx hb dL_law_560 rfl (lv_at hl 1 rfl) ?_
  refine lv_aload_n hx hb dL_law_561 rfl (lv_at hl 0 rfl) ?_
  refine lv_iload_n hx hb dL_law_562 rfl (lv_at hl 3 rfl) ?_
  refine lv_iconst (v := 1) hx hb dL_law_563 (by decide) ?_
  refine lv_iadd hx hb dL_law_564 ?_
  refine zl_ld (k := 1) hx hb hX hbl hL (by omega) hLs dL_law_565 ?_
  refine lv_aload_n hx hb dL_law_566 rfl (lv_at hl 0 rfl) ?_
  refine lv_iload_n hx hb dL_law_567 rfl (lv_at hl 3 rfl) ?_
  refine lv_iconst (v := 2) hx hb dL_law_568 (by decide) ?_
  refine lv_iadd hx hb dL_law_569 ?_
  refine zl_ld (k := 2) hx hb hX hbl hL (by omega) hLs dL_law_570 ?_
  refine zl_1i hA hL (zl_run (w := w1) (As := [.int (xs (i + 1)), .int (xs (i + 2))]) (rest := []) X1 hml hl hL.1 hL.2.2 h1.1 rfl zk_Law_76 (c_Main_takes h1 h) rfl ⟨Nat.le_of_ble_eq_true rfl, Nat.le_of_ble_eq_true rfl⟩ ⟨Nat.le_of_ble_eq_true rfl, Nat.le_of_ble_eq_true rfl⟩ rfl (Nat.le_of_ble_eq_true rfl) dL_law_571) (fun x1 M1 H locs h hL => ?_)
  refine lv_pop hx hb dL_law_574 rfl ?_
  refine lv_aload_n hx hb dL_law_575 rfl (lv_at hl 2 rfl) ?_
  refine lv_aload_n hx hb dL_law_576 rfl (lv_at hl 0 rfl) ?_
  refine lv_iload_n hx hb dL_law_577 rfl (lv_at hl 3 rfl) ?_
  refine lv_iconst (v := 1) hx hb dL_law_578 (by decide) ?_
  refine lv_iadd hx hb dL_law_579 ?_
  refine zl_ld (k := 1) hx hb hX hbl hL (by omega) hLs dL_law_580 ?_
  refine lv_aload_n hx hb dL_law_581 rfl (lv_at hl 0 rfl) ?_
  refine lv_iload_n hx hb dL_law_582 rfl (lv_at hl 3 rfl) ?_
  refine lv_iconst (v := 2) hx hb dL_law_583 (by decide) ?_
  refine lv_iadd hx hb dL_law_584 ?_
  refine zl_ld (k := 2) hx hb hX hbl hL (by omega) hLs dL_law_585 ?_
  refine zl_2i hA hL (zl_run (w := w2) (As := [.int (xs (i + 1)), .int (xs (i + 2))]) (rest := []) X2 hml hl hL.2.1 hL.2.2 h2.1 rfl zk_Law_79 (c_Model_takes h2 h) rfl ⟨Nat.le_of_ble_eq_true rfl, Nat.le_of_ble_eq_true rfl⟩ ⟨Nat.le_of_ble_eq_true rfl, Nat.le_of_ble_eq_true rfl⟩ rfl (Nat.le_of_ble_eq_true rfl) dL_law_586) (fun x2 W2 H locs h hL => ?_)
  refine lv_pop hx hb dL_law_589 rfl ?_
  refine lv_goto (tgt := 1243) hx hb dL_law_590 rfl ?_
  exact kk M1 W2 H locs h.2 hL
set_option maxHeartbeats 4000000 in
theorem lw_c15 {p : Program} {l : Launch} {e : Env} {s : State} {m : MethodId} {below : List Frame} {meth : Method} {c : Code} {H : Heap} {locs : List Loc} {ls : Array Slot} {w1 w2 : zWd} {M W' : zMem} {b L i : Nat} {xs : Nat → Int32} {K : zMem → zMem → Prop} (C0 : lw_At p s m meth c b L xs) (hLs : L < 2147483648) (X1 : zX w1 p s m #[Value.ref b] c code "HandToHandLaw") (X2 : zX w2 p s m #[Value.ref b] c code "HandToHandLaw") (h1 : zI_Main w1) (h2 : zI_Model w2) (hA : zLa w1 w2 s) (hi : i + 6 ≤ L) (hL : zLw w1 w2 s M W' H locs) (hl : lv_has ls 4 [(0, .ref b), (1, .ref (zad w1 0)), (2, .ref (zad w2 0)), (3, .int (nI i))]) (h : wp_Main_keep (xs (i + 1)) M (fun x1 M1 => wp_Model_keep (xs (i + 1)) W' (fun x2 W2 => x1 = x2 ∧ K M1 W2))) (kk : ∀ (M W' : zMem) (H : Heap) (locs : List Loc), K M W' → zLw w1 w2 s M W' H locs → W p l e room_1 s m #[Value.ref b] below meth c H locs 108 24481 (lw_Z below #[Value.ref b] s) (F0 m 1243 ls [])) : W p l e room_1 s m #[Value.ref b] below meth c H locs 108 24481 (lw_Z below #[Value.ref b] s) (F0 m 593 ls []) := by
  obtain ⟨hx, hb, hr, hml, hown, hts, hX, hbl, hlocks, hgv⟩ := id C0
  refine lv_aload_n hx hb dL_law_593 rfl (lv_at hl 1 rfl) ?_
  refine lv_aload_n hx hb dL_law_594 rfl (lv_at hl 0 rfl) ?_
  refine lv_iload_n hx hb dL_law_595 rfl (lv_at hl 3 rfl) ?_
  refine lv_iconst (v := 1) hx hb dL_law_596 (by decide) ?_
  refine lv_iadd hx hb dL_law_597 ?_
  refine zl_ld (k := 1) hx hb hX hbl hL (by omega) hLs dL_law_598 ?_
  refine zl_1i hA hL (zl_run (w := w1) (As := [.int (xs (i + 1))]) (rest := []) X1 hml hl hL.1 hL.2.2 h1.1 rfl zk_Law_80 (c_Main_keep h1 h) rfl ⟨Nat.le_of_ble_eq_true rfl, Nat.le_of_ble_eq_true rfl⟩ ⟨Nat.le_of_ble_eq_true rfl, Nat.le_of_ble_eq_true rfl⟩ rfl (Nat.le_of_ble_eq_true rfl) dL_law_599) (fun x1 M1 H locs h hL => ?_)
  refine lv_pop hx hb dL_law_602 rfl ?_
  refine lv_aload_n hx hb dL_law_603 rfl (lv_at hl 2 rfl) ?_
  refine lv_aload_n hx hb dL_law_604 rfl (lv_at hl 0 rfl) ?_
  refine lv_iload_n hx hb dL_law_605 rfl (lv_at hl 3 rfl) ?_
  refine lv_iconst (v := 1) hx hb dL_law_606 (by decide) ?_
  refine lv_iadd hx hb dL_law_607 ?_
  refine zl_ld (k := 1) hx hb hX hbl hL (by omega) hLs dL_law_608 ?_
  refine zl_2i hA hL (zl_run (w := w2) (As := [.int (xs (i + 1))]) (rest := []) X2 hml hl hL.2.1 hL.2.2 h2.1 rfl zk_Law_83 (c_Model_keep h2 h) rfl ⟨Nat.le_of_ble_eq_true rfl, Nat.le_of_ble_eq_true rfl⟩ ⟨Nat.le_of_ble_eq_true rfl, Nat.le_of_ble_eq_true rfl⟩ rfl (Nat.le_of_ble_eq_true rfl) dL_law_609) (fun x2 W2 H locs h hL => ?_)
  refine lv_pop hx hb dL_law_612 rfl ?_
  refine lv_goto (tgt := 1243) hx hb dL_law_613 rfl ?_
  exact kk M1 W2 H locs h.2 hL
set_option maxHeartbeats 4000000 in
theorem lw_c16 {p : Program} {l : Launch} {e : Env} {s : State} {m : MethodId} {below : List Frame} {meth : Method} {c : Code} {H : Heap} {locs : List Loc} {ls : Array Slot} {w1 w2 : zWd} {M W' : zMem} {b L i : Nat} {xs : Nat → Int32} {K : zMem → zMem → Prop} (C0 : lw_At p s m meth c b L xs) (hLs : L < 2147483648) (X1 : zX w1 p s m #[Value.ref b] c code "HandToHandLaw") (X2 : zX w2 p s m #[Value.ref b] c code "HandToHandLaw") (h1 : zI_Main w1) (h2 : zI_Model w2) (hA : zLa w1 w2 s) (hi : i + 6 ≤ L) (hL : zLw w1 w2 s M W' H locs) (hl : lv_has ls 4 [(0, .ref b), (1, .ref (zad w1 0)), (2, .ref (zad w2 0)), (3, .int (nI i))]) (h : wp_Main_back (xs (i + 1)) M (fun x1 M1 => wp_Model_back (xs (i + 1)) W' (fun x2 W2 => x1 = x2 ∧ K M1 W2))) (kk : ∀ (M W' : zMem) (H : Heap) (locs : List Loc), K M W' → zLw w1 w2 s M W' H locs → W p l e room_1 s m #[Value.ref b] below meth c H locs 108 24481 (lw_Z below #[Value.ref b] s) (F0 m 1243 ls [])) : W p l e room_1 s m #[Value.ref b] below meth c H locs 108 24481 (lw_Z below #[Value.ref b] s) (F0 m 616 ls []) := by
  obtain ⟨hx, hb, hr, hml, hown, hts, hX, hbl, hlocks, hgv⟩ := id C0
  refine lv_aload_n hx hb dL_law_616 rfl (lv_at hl 1 rfl) ?_
  refine lv_aload_n hx hb dL_law_617 rfl (lv_at hl 0 rfl) ?_
  refine lv_iload_n hx hb dL_law_618 rfl (lv_at hl 3 rfl) ?_
  refine lv_iconst (v := 1) hx hb dL_law_619 (by decide) ?_
  refine lv_iadd hx hb dL_law_620 ?_
  refine zl_ld (k := 1) hx hb hX hbl hL (by omega) hLs dL_law_621 ?_
  refine zl_1i hA hL (zl_run (w := w1) (As := [.int (xs (i + 1))]) (rest := []) X1 hml hl hL.1 hL.2.2 h1.1 rfl zk_Law_84 (c_Main_back h1 h) rfl ⟨Nat.le_of_ble_eq_true rfl, Nat.le_of_ble_eq_true rfl⟩ ⟨Nat.le_of_ble_eq_true rfl, Nat.le_of_ble_eq_true rfl⟩ rfl (Nat.le_of_ble_eq_true rfl) dL_law_622) (fun x1 M1 H locs h hL => ?_)
  refine lv_pop hx hb dL_law_625 rfl ?_
  refine lv_aload_n hx hb dL_law_626 rfl (lv_at hl 2 rfl) ?_
  refine lv_aload_n hx hb dL_law_627 rfl (lv_at hl 0 rfl) ?_
  refine lv_iload_n hx hb dL_law_628 rfl (lv_at hl 3 rfl) ?_
  refine lv_iconst (v := 1) hx hb dL_law_629 (by decide) ?_
  refine lv_iadd hx hb dL_law_630 ?_
  refine zl_ld (k := 1) hx hb hX hbl hL (by omega) hLs dL_law_631 ?_
  refine zl_2i hA hL (zl_run (w := w2) (As := [.int (xs (i + 1))]) (rest := []) X2 hml hl hL.2.1 hL.2.2 h2.1 rfl zk_Law_87 (c_Model_back h2 h) rfl ⟨Nat.le_of_ble_eq_true rfl, Nat.le_of_ble_eq_true rfl⟩ ⟨Nat.le_of_ble_eq_true rfl, Nat.le_of_ble_eq_true rfl⟩ rfl (Nat.le_of_ble_eq_true rfl) dL_law_632) (fun x2 W2 H locs h hL => ?_)
  refine lv_pop hx hb dL_law_635 rfl ?_
  refine lv_goto (tgt := 1243) hx hb dL_law_636 rfl ?_
  exact kk M1 W2 H locs h.2 hL
set_option maxHeartbeats 4000000 in
theorem lw_c17 {p : Program} {l : Launch} {e : Env} {s : State} {m : MethodId} {below : List Frame} {meth : Method} {c : Code} {H : Heap} {locs : List Loc} {ls : Array Slot} {w1 w2 : zWd} {M W' : zMem} {b L i : Nat} {xs : Nat → Int32} {K : zMem → zMem → Prop} (C0 : lw_At p s m meth c b L xs) (hLs : L < 2147483648) (X1 : zX w1 p s m #[Value.ref b] c code "HandToHandLaw") (X2 : zX w2 p s m #[Value.ref b] c code "HandToHandLaw") (h1 : zI_Main w1) (h2 : zI_Model w2) (hA : zLa w1 w2 s) (hi : i + 6 ≤ L) (hL : zLw w1 w2 s M W' H locs) (hl : lv_has ls 4 [(0, .ref b), (1, .ref (zad w1 0)), (2, .ref (zad w2 0)), (3, .int (nI i))]) (h : wp_Main_run (xs (i + 1)) (xs (i + 2)) M (fun x1 M1 => wp_Model_run (xs (i + 1)) (xs (i + 2)) W' (fun x2 W2 => x1 = x2 ∧ K M1 W2))) (kk : ∀ (M W' : zMem) (H : Heap) (locs : List Loc), K M W' → zLw w1 w2 s M W' H locs → W p l e room_1 s m #[Value.ref b] below meth c H locs 108 24481 (lw_Z below #[Value.ref b] s) (F0 m 1243 ls [])) : W p l e room_1 s m #[Value.ref b] below meth c H locs 108 24481 (lw_Z below #[Value.ref b] s) (F0 m 639 ls []) := by
  obtain ⟨hx, hb, hr, hml, hown, hts, hX, hbl, hlocks, hgv⟩ := id C0
  refine lv_aload_n hx hb dL_law_639 rfl (lv_at hl 1 rfl) ?_
  refine lv_aload_n hx hb dL_law_640 rfl (lv_at hl 0 rfl) ?_
  refine lv_iload_n hx hb dL_law_641 rfl (lv_at hl 3 rfl) ?_
  refine lv_iconst (v := 1) hx hb dL_law_642 (by decide) ?_
  refine lv_iadd hx hb dL_law_643 ?_
  refine zl_ld (k := 1) hx hb hX hbl hL (by omega) hLs dL_law_644 ?_
  refine lv_aload_n hx hb dL_law_645 rfl (lv_at hl 0 rfl) ?_
  refine lv_iload_n hx hb dL_law_646 rfl (lv_at hl 3 rfl) ?_
  refine lv_iconst (v := 2) hx hb dL_law_647 (by decide) ?_
  refine lv_iadd hx hb dL_law_648 ?_
  refine zl_ld (k := 2) hx hb hX hbl hL (by omega) hLs dL_law_649 ?_
  refine zl_1i hA hL (zl_run (w := w1) (As := [.int (xs (i + 1)), .int (xs (i + 2))]) (rest := []) X1 hml hl hL.1 hL.2.2 h1.1 rfl zk_Law_88 (c_Main_run h1 h) rfl ⟨Nat.le_of_ble_eq_true rfl, Nat.le_of_ble_eq_true rfl⟩ ⟨Nat.le_of_ble_eq_true rfl, Nat.le_of_ble_eq_true rfl⟩ rfl (Nat.le_of_ble_eq_true rfl) dL_law_650) (fun x1 M1 H locs h hL => ?_)
  refine lv_pop hx hb dL_law_653 rfl ?_
  refine lv_aload_n hx hb dL_law_654 rfl (lv_at hl 2 rfl) ?_
  refine lv_aload_n hx hb dL_law_655 rfl (lv_at hl 0 rfl) ?_
  refine lv_iload_n hx hb dL_law_656 rfl (lv_at hl 3 rfl) ?_
  refine lv_iconst (v := 1) hx hb dL_law_657 (by decide) ?_
  refine lv_iadd hx hb dL_law_658 ?_
  refine zl_ld (k := 1) hx hb hX hbl hL (by omega) hLs dL_law_659 ?_
  refine lv_aload_n hx hb dL_law_660 rfl (lv_at hl 0 rfl) ?_
  refine lv_iload_n hx hb dL_law_661 rfl (lv_at hl 3 rfl) ?_
  refine lv_iconst (v := 2) hx hb dL_law_662 (by decide) ?_
  refine lv_iadd hx hb dL_law_663 ?_
  refine zl_ld (k := 2) hx hb hX hbl hL (by omega) hLs dL_law_664 ?_
  refine zl_2i hA hL (zl_run (w := w2) (As := [.int (xs (i + 1)), .int (xs (i + 2))]) (rest := []) X2 hml hl hL.2.1 hL.2.2 h2.1 rfl zk_Law_91 (c_Model_run h2 h) rfl ⟨Nat.le_of_ble_eq_true rfl, Nat.le_of_ble_eq_true rfl⟩ ⟨Nat.le_of_ble_eq_true rfl, Nat.le_of_ble_eq_true rfl⟩ rfl (Nat.le_of_ble_eq_true rfl) dL_law_665) (fun x2 W2 H locs h hL => ?_)
  refine lv_pop hx hb dL_law_668 rfl ?_
  refine lv_goto (tgt := 1243) hx hb dL_law_669 rfl ?_
  exact kk M1 W2 H locs h.2 hL
set_option maxHeartbeats 4000000 in
theorem lw_c18 {p : Program} {l : Launch} {e : Env} {s : State} {m : MethodId} {below : List Frame} {meth : Method} {c : Code} {H : Heap} {locs : List Loc} {ls : Array Slot} {w1 w2 : zWd} {M W' : zMem} {b L i : Nat} {xs : Nat → Int32} {K : zMem → zMem → Prop} (C0 : lw_At p s m meth c b L xs) (hLs : L < 2147483648) (X1 : zX w1 p s m #[Value.ref b] c code "HandToHandLaw") (X2 : zX w2 p s m #[Value.ref b] c code "HandToHandLaw") (h1 : zI_Main w1) (h2 : zI_Model w2) (hA : zLa w1 w2 s) (hi : i + 6 ≤ L) (hL : zLw w1 w2 s M W' H locs) (hl : lv_has ls 4 [(0, .ref b), (1, .ref (zad w1 0)), (2, .ref (zad w2 0)), (3, .int (nI i))]) (h : wp_Main_waits (xs (i + 1)) (xs (i + 2)) M (fun x1 M1 => wp_Model_waits (xs (i + 1)) (xs (i + 2)) W' (fun x2 W2 => x1 = x2 ∧ K M1 W2))) (kk : ∀ (M W' : zMem) (H : Heap) (locs : List Loc), K M W' → zLw w1 w2 s M W' H locs → W p l e room_1 s m #[Value.ref b] below meth c H locs 108 24481 (lw_Z below #[Value.ref b] s) (F0 m 1243 ls [])) : W p l e room_1 s m #[Value.ref b] below meth c H locs 108 24481 (lw_Z below #[Value.ref b] s) (F0 m 672 ls []) := by
  obtain ⟨hx, hb, hr, hml, hown, hts, hX, hbl, hlocks, hgv⟩ := id C0
  refine lv_aload_n hx hb dL_law_672 rfl (lv_at hl 1 rfl) ?_
  refine lv_aload_n hx hb dL_law_673 rfl (lv_at hl 0 rfl) ?_
  refine lv_iload_n hx hb dL_law_674 rfl (lv_at hl 3 rfl) ?_
  refine lv_iconst (v := 1) hx hb dL_law_675 (by decide) ?_
  refine lv_iadd hx hb dL_law_676 ?_
  refine zl_ld (k := 1) hx hb hX hbl hL (by omega) hLs dL_law_677 ?_
  refine lv_aload_n hx hb dL_law_678 rfl (lv_at hl 0 rfl) ?_
  refine lv_iload_n hx hb dL_law_679 rfl (lv_at hl 3 rfl) ?_
  refine lv_iconst (v := 2) hx hb dL_law_680 (by decide) ?_
  refine lv_iadd hx hb dL_law_681 ?_
  refine zl_ld (k := 2) hx hb hX hbl hL (by omega) hLs dL_law_682 ?_
  refine zl_1i hA hL (zl_run (w := w1) (As := [.int (xs (i + 1)), .int (xs (i + 2))]) (rest := []) X1 hml hl hL.1 hL.2.2 h1.1 rfl zk_Law_92 (c_Main_waits h1 h) rfl ⟨Nat.le_of_ble_eq_true rfl, Nat.le_of_ble_eq_true rfl⟩ ⟨Nat.le_of_ble_eq_true rfl, Nat.le_of_ble_eq_true rfl⟩ rfl (Nat.le_of_ble_eq_true rfl) dL_law_683) (fun x1 M1 H locs h hL => ?_)
  refine lv_pop hx hb dL_law_686 rfl ?_
  refine lv_aload_n hx hb dL_law_687 rfl (lv_at hl 2 rfl) ?_
  refine lv_aload_n hx hb dL_law_688 rfl (lv_at hl 0 rfl) ?_
  refine lv_iload_n hx hb dL_law_689 rfl (lv_at hl 3 rfl) ?_
  refine lv_iconst (v := 1) hx hb dL_law_690 (by decide) ?_
  refine lv_iadd hx hb dL_law_691 ?_
  refine zl_ld (k := 1) hx hb hX hbl hL (by omega) hLs dL_law_692 ?_
  refine lv_aload_n hx hb dL_law_693 rfl (lv_at hl 0 rfl) ?_
  refine lv_iload_n hx hb dL_law_694 rfl (lv_at hl 3 rfl) ?_
  refine lv_iconst (v := 2) hx hb dL_law_695 (by decide) ?_
  refine lv_iadd hx hb dL_law_696 ?_
  refine zl_ld (k := 2) hx hb hX hbl hL (by omega) hLs dL_law_697 ?_
  refine zl_2i hA hL (zl_run (w := w2) (As := [.int (xs (i + 1)), .int (xs (i + 2))]) (rest := []) X2 hml hl hL.2.1 hL.2.2 h2.1 rfl zk_Law_95 (c_Model_waits h2 h) rfl ⟨Nat.le_of_ble_eq_true rfl, Nat.le_of_ble_eq_true rfl⟩ ⟨Nat.le_of_ble_eq_true rfl, Nat.le_of_ble_eq_true rfl⟩ rfl (Nat.le_of_ble_eq_true rfl) dL_law_698) (fun x2 W2 H locs h hL => ?_)
  refine lv_pop hx hb dL_law_701 rfl ?_
  refine lv_goto (tgt := 1243) hx hb dL_law_702 rfl ?_
  exact kk M1 W2 H locs h.2 hL
set_option maxHeartbeats 4000000 in
theorem lw_c19 {p : Program} {l : Launch} {e : Env} {s : State} {m : MethodId} {below : List Frame} {meth : Method} {c : Code} {H : Heap} {locs : List Loc} {ls : Array Slot} {w1 w2 : zWd} {M W' : zMem} {b L i : Nat} {xs : Nat → Int32} {K : zMem → zMem → Prop} (C0 : lw_At p s m meth c b L xs) (hLs : L < 2147483648) (X1 : zX w1 p s m #[Value.ref b] c code "HandToHandLaw") (X2 : zX w2 p s m #[Value.ref b] c code "HandToHandLaw") (h1 : zI_Main w1) (h2 : zI_Model w2) (hA : zLa w1 w2 s) (hi : i + 6 ≤ L) (hL : zLw w1 w2 s M W' H locs) (hl : lv_has ls 4 [(0, .ref b), (1, .ref (zad w1 0)), (2, .ref (zad w2 0)), (3, .int (nI i))]) (h : wp_Main_over (xs (i + 1)) (xs (i + 2)) (xs (i + 3)) M (fun x1 M1 => wp_Model_over (xs (i + 1)) (xs (i + 2)) (xs (i + 3)) W' (fun x2 W2 => x1 = x2 ∧ K M1 W2))) (kk : ∀ (M W' : zMem) (H : Heap) (locs : List Loc), K M W' → zLw w1 w2 s M W' H locs → W p l e room_1 s m #[Value.ref b] below meth c H locs 108 24481 (lw_Z below #[Value.ref b] s) (F0 m 1243 ls [])) : W p l e room_1 s m #[Value.ref b] below meth c H locs 108 24481 (lw_Z below #[Value.ref b] s) (F0 m 705 ls []) := by
  obtain ⟨hx, hb, hr, hml, hown, hts, hX, hbl, hlocks, hgv⟩ := id C0
  refine lv_aload_n hx hb dL_law_705 rfl (lv_at hl 1 rfl) ?_
  refine lv_aload_n hx hb dL_law_706 rfl (lv_at hl 0 rfl) ?_
  refine lv_iload_n hx hb dL_law_707 rfl (lv_at hl 3 rfl) ?_
  refine lv_iconst (v := 1) hx hb dL_law_708 (by decide) ?_
  refine lv_iadd hx hb dL_law_709 ?_
  refine zl_ld (k := 1) hx hb hX hbl hL (by omega) hLs dL_law_710 ?_
  refine lv_aload_n hx hb dL_law_711 rfl (lv_at hl 0 rfl) ?_
  refine lv_iload_n hx hb dL_law_712 rfl (lv_at hl 3 rfl) ?_
  refine lv_iconst (v := 2) hx hb dL_law_713 (by decide) ?_
  refine lv_iadd hx hb dL_law_714 ?_
  refine zl_ld (k := 2) hx hb hX hbl hL (by omega) hLs dL_law_715 ?_
  refine lv_aload_n hx hb dL_law_716 rfl (lv_at hl 0 rfl) ?_
  refine lv_iload_n hx hb dL_law_717 rfl (lv_at hl 3 rfl) ?_
  refine lv_iconst (v := 3) hx hb dL_law_718 (by decide) ?_
  refine lv_iadd hx hb dL_law_719 ?_
  refine zl_ld (k := 3) hx hb hX hbl hL (by omega) hLs dL_law_720 ?_
  refine zl_1i hA hL (zl_run (w := w1) (As := [.int (xs (i + 1)), .int (xs (i + 2)), .int (xs (i + 3))]) (rest := []) X1 hml hl hL.1 hL.2.2 h1.1 rfl zk_Law_96 (c_Main_over h1 h) rfl ⟨Nat.le_of_ble_eq_true rfl, Nat.le_of_ble_eq_true rfl⟩ ⟨Nat.le_of_ble_eq_true rfl, Nat.le_of_ble_eq_true rfl⟩ rfl (Nat.le_of_ble_eq_true rfl) dL_law_721) (fun x1 M1 H locs h hL => ?_)
  refine lv_pop hx hb dL_law_724 rfl ?_
  refine lv_aload_n hx hb dL_law_725 rfl (lv_at hl 2 rfl) ?_
  refine lv_aload_n hx hb dL_law_726 rfl (lv_at hl 0 rfl) ?_
  refine lv_iload_n hx hb dL_law_727 rfl (lv_at hl 3 rfl) ?_
  refine lv_iconst (v := 1) hx hb dL_law_728 (by decide) ?_
  refine lv_iadd hx hb dL_law_729 ?_
  refine zl_ld (k := 1) hx hb hX hbl hL (by omega) hLs dL_law_730 ?_
  refine lv_aload_n hx hb dL_law_731 rfl (lv_at hl 0 rfl) ?_
  refine lv_iload_n hx hb dL_law_732 rfl (lv_at hl 3 rfl) ?_
  refine lv_iconst (v := 2) hx hb dL_law_733 (by decide) ?_
  refine lv_iadd hx hb dL_law_734 ?_
  refine zl_ld (k := 2) hx hb hX hbl hL (by omega) hLs dL_law_735 ?_
  refine lv_aload_n hx hb dL_law_736 rfl (lv_at hl 0 rfl) ?_
  refine lv_iload_n hx hb dL_law_737 rfl (lv_at hl 3 rfl) ?_
  refine lv_iconst (v := 3) hx hb dL_law_738 (by decide) ?_
  refine lv_iadd hx hb dL_law_739 ?_
  refine zl_ld (k := 3) hx hb hX hbl hL (by omega) hLs dL_law_740 ?_
  refine zl_2i hA hL (zl_run (w := w2) (As := [.int (xs (i + 1)), .int (xs (i + 2)), .int (xs (i + 3))]) (rest := []) X2 hml hl hL.2.1 hL.2.2 h2.1 rfl zk_Law_99 (c_Model_over h2 h) rfl ⟨Nat.le_of_ble_eq_true rfl, Nat.le_of_ble_eq_true rfl⟩ ⟨Nat.le_of_ble_eq_true rfl, Nat.le_of_ble_eq_true rfl⟩ rfl (Nat.le_of_ble_eq_true rfl) dL_law_741) (fun x2 W2 H locs h hL => ?_)
  refine lv_pop hx hb dL_law_744 rfl ?_
  refine lv_goto (tgt := 1243) hx hb dL_law_745 rfl ?_
  exact kk M1 W2 H locs h.2 hL
set_option maxHeartbeats 4000000 in
theorem lw_c20 {p : Program} {l : Launch} {e : Env} {s : State} {m : MethodId} {below : List Frame} {meth : Method} {c : Code} {H : Heap} {locs : List Loc} {ls : Array Slot} {w1 w2 : zWd} {M W' : zMem} {b L i : Nat} {xs : Nat → Int32} {K : zMem → zMem → Prop} (C0 : lw_At p s m meth c b L xs) (hLs : L < 2147483648) (X1 : zX w1 p s m #[Value.ref b] c code "HandToHandLaw") (X2 : zX w2 p s m #[Value.ref b] c code "HandToHandLaw") (h1 : zI_Main w1) (h2 : zI_Model w2) (hA : zLa w1 w2 s) (hi : i + 6 ≤ L) (hL : zLw w1 w2 s M W' H locs) (hl : lv_has ls 4 [(0, .ref b), (1, .ref (zad w1 0)), (2, .ref (zad w2 0)), (3, .int (nI i))]) (h : wp_Main_judge (xs (i + 1)) (xs (i + 2)) (xs (i + 3)) (xs (i + 4)) (xs (i + 5)) M (fun x1 M1 => wp_Model_judge (xs (i + 1)) (xs (i + 2)) (xs (i + 3)) (xs (i + 4)) (xs (i + 5)) W' (fun x2 W2 => x1 = x2 ∧ K M1 W2))) (kk : ∀ (M W' : zMem) (H : Heap) (locs : List Loc), K M W' → zLw w1 w2 s M W' H locs → W p l e room_1 s m #[Value.ref b] below meth c H locs 108 24481 (lw_Z below #[Value.ref b] s) (F0 m 1243 ls [])) : W p l e room_1 s m #[Value.ref b] below meth c H locs 108 24481 (lw_Z below #[Value.ref b] s) (F0 m 748 ls []) := by
  obtain ⟨hx, hb, hr, hml, hown, hts, hX, hbl, hlocks, hgv⟩ := id C0
  refine lv_aload_n hx hb dL_law_748 rfl (lv_at hl 1 rfl) ?_
  refine lv_aload_n hx hb dL_law_749 rfl (lv_at hl 0 rfl) ?_
  refine lv_iload_n hx hb dL_law_750 rfl (lv_at hl 3 rfl) ?_
  refine lv_iconst (v := 1) hx hb dL_law_751 (by decide) ?_
  refine lv_iadd hx hb dL_law_752 ?_
  refine zl_ld (k := 1) hx hb hX hbl hL (by omega) hLs dL_law_753 ?_
  refine lv_aload_n hx hb dL_law_754 rfl (lv_at hl 0 rfl) ?_
  refine lv_iload_n hx hb dL_law_755 rfl (lv_at hl 3 rfl) ?_
  refine lv_iconst (v := 2) hx hb dL_law_756 (by decide) ?_
  refine lv_iadd hx hb dL_law_757 ?_
  refine zl_ld (k := 2) hx hb hX hbl hL (by omega) hLs dL_law_758 ?_
  refine lv_aload_n hx hb dL_law_759 rfl (lv_at hl 0 rfl) ?_
  refine lv_iload_n hx hb dL_law_760 rfl (lv_at hl 3 rfl) ?_
  refine lv_iconst (v := 3) hx hb dL_law_761 (by decide) ?_
  refine lv_iadd hx hb dL_law_762 ?_
  refine zl_ld (k := 3) hx hb hX hbl hL (by omega) hLs dL_law_763 ?_
  refine lv_aload_n hx hb dL_law_764 rfl (lv_at hl 0 rfl) ?_
  refine lv_iload_n hx hb dL_law_765 rfl (lv_at hl 3 rfl) ?_
  refine lv_iconst (v := 4) hx hb dL_law_766 (by decide) ?_
  refine lv_iadd hx hb dL_law_767 ?_
  refine zl_ld (k := 4) hx hb hX hbl hL (by omega) hLs dL_law_768 ?_
  refine lv_aload_n hx hb dL_law_769 rfl (lv_at hl 0 rfl) ?_
  refine lv_iload_n hx hb dL_law_770 rfl (lv_at hl 3 rfl) ?_
  refine lv_iconst (v := 5) hx hb dL_law_771 (by decide) ?_
  refine lv_iadd hx hb dL_law_772 ?_
  refine zl_ld (k := 5) hx hb hX hbl hL (by omega) hLs dL_law_773 ?_
  refine zl_1i hA hL (zl_run (w := w1) (As := [.int (xs (i + 1)), .int (xs (i + 2)), .int (xs (i + 3)), .int (xs (i + 4)), .int (xs (i + 5))]) (rest := []) X1 hml hl hL.1 hL.2.2 h1.1 rfl zk_Law_100 (c_Main_judge h1 h) rfl ⟨Nat.le_of_ble_eq_true rfl, Nat.le_of_ble_eq_true rfl⟩ ⟨Nat.le_of_ble_eq_true rfl, Nat.le_of_ble_eq_true rfl⟩ rfl (Nat.le_of_ble_eq_true rfl) dL_law_774) (fun x1 M1 H locs h hL => ?_)
  refine lv_pop hx hb dL_law_777 rfl ?_
  refine lv_aload_n hx hb dL_law_778 rfl (lv_at hl 2 rfl) ?_
  refine lv_aload_n hx hb dL_law_779 rfl (lv_at hl 0 rfl) ?_
  refine lv_iload_n hx hb dL_law_780 rfl (lv_at hl 3 rfl) ?_
  refine lv_iconst (v := 1) hx hb dL_law_781 (by decide) ?_
  refine lv_iadd hx hb dL_law_782 ?_
  refine zl_ld (k := 1) hx hb hX hbl hL (by omega) hLs dL_law_783 ?_
  refine lv_aload_n hx hb dL_law_784 rfl (lv_at hl 0 rfl) ?_
  refine lv_iload_n hx hb dL_law_785 rfl (lv_at hl 3 rfl) ?_
  refine lv_iconst (v := 2) hx hb dL_law_786 (by decide) ?_
  refine lv_iadd hx hb dL_law_787 ?_
  refine zl_ld (k := 2) hx hb hX hbl hL (by omega) hLs dL_law_788 ?_
  refine lv_aload_n hx hb dL_law_789 rfl (lv_at hl 0 rfl) ?_
  refine lv_iload_n hx hb dL_law_790 rfl (lv_at hl 3 rfl) ?_
  refine lv_iconst (v := 3) hx hb dL_law_791 (by decide) ?_
  refine lv_iadd hx hb dL_law_792 ?_
  refine zl_ld (k := 3) hx hb hX hbl hL (by omega) hLs dL_law_793 ?_
  refine lv_aload_n hx hb dL_law_794 rfl (lv_at hl 0 rfl) ?_
  refine lv_iload_n hx hb dL_law_795 rfl (lv_at hl 3 rfl) ?_
  refine lv_iconst (v := 4) hx hb dL_law_796 (by decide) ?_
  refine lv_iadd hx hb dL_law_797 ?_
  refine zl_ld (k := 4) hx hb hX hbl hL (by omega) hLs dL_law_798 ?_
  refine lv_aload_n hx hb dL_law_799 rfl (lv_at hl 0 rfl) ?_
  refine lv_iload_n hx hb dL_law_800 rfl (lv_at hl 3 rfl) ?_
  refine lv_iconst (v := 5) hx hb dL_law_801 (by decide) ?_
  refine lv_iadd hx hb dL_law_802 ?_
  refine zl_ld (k := 5) hx hb hX hbl hL (by omega) hLs dL_law_803 ?_
  refine zl_2i hA hL (zl_run (w := w2) (As := [.int (xs (i + 1)), .int (xs (i + 2)), .int (xs (i + 3)), .int (xs (i + 4)), .int (xs (i + 5))]) (rest := []) X2 hml hl hL.2.1 hL.2.2 h2.1 rfl zk_Law_104 (c_Model_judge h2 h) rfl ⟨Nat.le_of_ble_eq_true rfl, Nat.le_of_ble_eq_true rfl⟩ ⟨Nat.le_of_ble_eq_true rfl, Nat.le_of_ble_eq_true rfl⟩ rfl (Nat.le_of_ble_eq_true rfl) dL_law_804) (fun x2 W2 H locs h hL => ?_)
  refine lv_pop hx hb dL_law_807 rfl ?_
  refine lv_goto (tgt := 1243) hx hb dL_law_808 rfl ?_
  exact kk M1 W2 H locs h.2 hL
set_option maxHeartbeats 4000000 in
theorem lw_c21 {p : Program} {l : Launch} {e : Env} {s : State} {m : MethodId} {below : List Frame} {meth : Method} {c : Code} {H : Heap} {locs : List Loc} {ls : Array Slot} {w1 w2 : zWd} {M W' : zMem} {b L i : Nat} {xs : Nat → Int32} {K : zMem → zMem → Prop} (C0 : lw_At p s m meth c b L xs) (hLs : L < 2147483648) (X1 : zX w1 p s m #[Value.ref b] c code "HandToHandLaw") (X2 : zX w2 p s m #[Value.ref b] c code "HandToHandLaw") (h1 : zI_Main w1) (h2 : zI_Model w2) (hA : zLa w1 w2 s) (hi : i + 6 ≤ L) (hL : zLw w1 w2 s M W' H locs) (hl : lv_has ls 4 [(0, .ref b), (1, .ref (zad w1 0)), (2, .ref (zad w2 0)), (3, .int (nI i))]) (h : wp_Main_settles (xs (i + 1)) M (fun x1 M1 => wp_Model_settles (xs (i + 1)) W' (fun x2 W2 => x1 = x2 ∧ K M1 W2))) (kk : ∀ (M W' : zMem) (H : Heap) (locs : List Loc), K M W' → zLw w1 w2 s M W' H locs → W p l e room_1 s m #[Value.ref b] below meth c H locs 108 24481 (lw_Z below #[Value.ref b] s) (F0 m 1243 ls [])) : W p l e room_1 s m #[Value.ref b] below meth c H locs 108 24481 (lw_Z below #[Value.ref b] s) (F0 m 811 ls []) := by
  obtain ⟨hx, hb, hr, hml, hown, hts, hX, hbl, hlocks, hgv⟩ := id C0
  refine lv_aload_n hx hb dL_law_811 rfl (lv_at hl 1 rfl) ?_
  refine lv_aload_n hx hb dL_law_812 rfl (lv_at hl 0 rfl) ?_
  refine lv_iload_n hx hb dL_law_813 rfl (lv_at hl 3 rfl) ?_
  refine lv_iconst (v := 1) hx hb dL_law_814 (by decide) ?_
  refine lv_iadd hx hb dL_law_815 ?_
  refine zl_ld (k := 1) hx hb hX hbl hL (by omega) hLs dL_law_816 ?_
  refine zl_1i hA hL (zl_run (w := w1) (As := [.int (xs (i + 1))]) (rest := []) X1 hml hl hL.1 hL.2.2 h1.1 rfl zk_Law_105 (c_Main_settles h1 h) rfl ⟨Nat.le_of_ble_eq_true rfl, Nat.le_of_ble_eq_true rfl⟩ ⟨Nat.le_of_ble_eq_true rfl, Nat.le_of_ble_eq_true rfl⟩ rfl (Nat.le_of_ble_eq_true rfl) dL_law_817) (fun x1 M1 H locs h hL => ?_)
  refine lv_pop hx hb dL_law_820 rfl ?_
  refine lv_aload_n hx hb dL_law_821 rfl (lv_at hl 2 rfl) ?_
  refine lv_aload_n hx hb dL_law_822 rfl (lv_at hl 0 rfl) ?_
  refine lv_iload_n hx hb dL_law_823 rfl (lv_at hl 3 rfl) ?_
  refine lv_iconst (v := 1) hx hb dL_law_824 (by decide) ?_
  refine lv_iadd hx hb dL_law_825 ?_
  refine zl_ld (k := 1) hx hb hX hbl hL (by omega) hLs dL_law_826 ?_
  refine zl_2i hA hL (zl_run (w := w2) (As := [.int (xs (i + 1))]) (rest := []) X2 hml hl hL.2.1 hL.2.2 h2.1 rfl zk_Law_108 (c_Model_settles h2 h) rfl ⟨Nat.le_of_ble_eq_true rfl, Nat.le_of_ble_eq_true rfl⟩ ⟨Nat.le_of_ble_eq_true rfl, Nat.le_of_ble_eq_true rfl⟩ rfl (Nat.le_of_ble_eq_true rfl) dL_law_827) (fun x2 W2 H locs h hL => ?_)
  refine lv_pop hx hb dL_law_830 rfl ?_
  refine lv_goto (tgt := 1243) hx hb dL_law_831 rfl ?_
  exact kk M1 W2 H locs h.2 hL
set_option maxHeartbeats 4000000 in
theorem lw_c22 {p : Program} {l : Launch} {e : Env} {s : State} {m : MethodId} {below : List Frame} {meth : Method} {c : Code} {H : Heap} {locs : List Loc} {ls : Array Slot} {w1 w2 : zWd} {M W' : zMem} {b L i : Nat} {xs : Nat → Int32} {K : zMem → zMem → Prop} (C0 : lw_At p s m meth c b L xs) (hLs : L < 2147483648) (X1 : zX w1 p s m #[Value.ref b] c code "HandToHandLaw") (X2 : zX w2 p s m #[Value.ref b] c code "HandToHandLaw") (h1 : zI_Main w1) (h2 : zI_Model w2) (hA : zLa w1 w2 s) (hi : i + 6 ≤ L) (hL : zLw w1 w2 s M W' H locs) (hl : lv_has ls 4 [(0, .ref b), (1, .ref (zad w1 0)), (2, .ref (zad w2 0)), (3, .int (nI i))]) (h : wp_Main_where (xs (i + 1)) (xs (i + 2)) M (fun x1 M1 => wp_Model_where (xs (i + 1)) (xs (i + 2)) W' (fun x2 W2 => (x1 = x2 ∨ xs (i + 2) = 1) ∧ K M1 W2))) (kk : ∀ (M W' : zMem) (H : Heap) (locs : List Loc), K M W' → zLw w1 w2 s M W' H locs → W p l e room_1 s m #[Value.ref b] below meth c H locs 108 24481 (lw_Z below #[Value.ref b] s) (F0 m 1243 ls [])) : W p l e room_1 s m #[Value.ref b] below meth c H locs 108 24481 (lw_Z below #[Value.ref b] s) (F0 m 834 ls []) := by
  obtain ⟨hx, hb, hr, hml, hown, hts, hX, hbl, hlocks, hgv⟩ := id C0
  refine lv_aload_n hx hb dL_law_834 rfl (lv_at hl 1 rfl) ?_
  refine lv_aload_n hx hb dL_law_835 rfl (lv_at hl 0 rfl) ?_
  refine lv_iload_n hx hb dL_law_836 rfl (lv_at hl 3 rfl) ?_
  refine lv_iconst (v := 1) hx hb dL_law_837 (by decide) ?_
  refine lv_iadd hx hb dL_law_838 ?_
  refine zl_ld (k := 1) hx hb hX hbl hL (by omega) hLs dL_law_839 ?_
  refine lv_aload_n hx hb dL_law_840 rfl (lv_at hl 0 rfl) ?_
  refine lv_iload_n hx hb dL_law_841 rfl (lv_at hl 3 rfl) ?_
  refine lv_iconst (v := 2) hx hb dL_law_842 (by decide) ?_
  refine lv_iadd hx hb dL_law_843 ?_
  refine zl_ld (k := 2) hx hb hX hbl hL (by omega) hLs dL_law_844 ?_
  refine zl_1i hA hL (zl_run (w := w1) (As := [.int (xs (i + 1)), .int (xs (i + 2))]) (rest := []) X1 hml hl hL.1 hL.2.2 h1.1 rfl zk_Law_109 (c_Main_where h1 h) rfl ⟨Nat.le_of_ble_eq_true rfl, Nat.le_of_ble_eq_true rfl⟩ ⟨Nat.le_of_ble_eq_true rfl, Nat.le_of_ble_eq_true rfl⟩ rfl (Nat.le_of_ble_eq_true rfl) dL_law_845) (fun x1 M1 H locs h hL => ?_)
  refine lv_pop hx hb dL_law_848 rfl ?_
  refine lv_aload_n hx hb dL_law_849 rfl (lv_at hl 2 rfl) ?_
  refine lv_aload_n hx hb dL_law_850 rfl (lv_at hl 0 rfl) ?_
  refine lv_iload_n hx hb dL_law_851 rfl (lv_at hl 3 rfl) ?_
  refine lv_iconst (v := 1) hx hb dL_law_852 (by decide) ?_
  refine lv_iadd hx hb dL_law_853 ?_
  refine zl_ld (k := 1) hx hb hX hbl hL (by omega) hLs dL_law_854 ?_
  refine lv_aload_n hx hb dL_law_855 rfl (lv_at hl 0 rfl) ?_
  refine lv_iload_n hx hb dL_law_856 rfl (lv_at hl 3 rfl) ?_
  refine lv_iconst (v := 2) hx hb dL_law_857 (by decide) ?_
  refine lv_iadd hx hb dL_law_858 ?_
  refine zl_ld (k := 2) hx hb hX hbl hL (by omega) hLs dL_law_859 ?_
  refine zl_2i hA hL (zl_run (w := w2) (As := [.int (xs (i + 1)), .int (xs (i + 2))]) (rest := []) X2 hml hl hL.2.1 hL.2.2 h2.1 rfl zk_Law_112 (c_Model_where h2 h) rfl ⟨Nat.le_of_ble_eq_true rfl, Nat.le_of_ble_eq_true rfl⟩ ⟨Nat.le_of_ble_eq_true rfl, Nat.le_of_ble_eq_true rfl⟩ rfl (Nat.le_of_ble_eq_true rfl) dL_law_860) (fun x2 W2 H locs h hL => ?_)
  refine lv_pop hx hb dL_law_863 rfl ?_
  refine lv_goto (tgt := 1243) hx hb dL_law_864 rfl ?_
  exact kk M1 W2 H locs h.2 hL
set_option maxHeartbeats 4000000 in
theorem lw_c23 {p : Program} {l : Launch} {e : Env} {s : State} {m : MethodId} {below : List Frame} {meth : Method} {c : Code} {H : Heap} {locs : List Loc} {ls : Array Slot} {w1 w2 : zWd} {M W' : zMem} {b L i : Nat} {xs : Nat → Int32} {K : zMem → zMem → Prop} (C0 : lw_At p s m meth c b L xs) (hLs : L < 2147483648) (X1 : zX w1 p s m #[Value.ref b] c code "HandToHandLaw") (X2 : zX w2 p s m #[Value.ref b] c code "HandToHandLaw") (h1 : zI_Main w1) (h2 : zI_Model w2) (hA : zLa w1 w2 s) (hi : i + 6 ≤ L) (hL : zLw w1 w2 s M W' H locs) (hl : lv_has ls 4 [(0, .ref b), (1, .ref (zad w1 0)), (2, .ref (zad w2 0)), (3, .int (nI i))]) (h : wp_Main_makes (xs (i + 1)) M (fun x1 M1 => wp_Model_makes (xs (i + 1)) W' (fun x2 W2 => x1 = x2 ∧ K M1 W2))) (kk : ∀ (M W' : zMem) (H : Heap) (locs : List Loc), K M W' → zLw w1 w2 s M W' H locs → W p l e room_1 s m #[Value.ref b] below meth c H locs 108 24481 (lw_Z below #[Value.ref b] s) (F0 m 1243 ls [])) : W p l e room_1 s m #[Value.ref b] below meth c H locs 108 24481 (lw_Z below #[Value.ref b] s) (F0 m 867 ls []) := by
  obtain ⟨hx, hb, hr, hml, hown, hts, hX, hbl, hlocks, hgv⟩ := id C0
  refine lv_aload_n hx hb dL_law_867 rfl (lv_at hl 1 rfl) ?_
  refine lv_aload_n hx hb dL_law_868 rfl (lv_at hl 0 rfl) ?_
  refine lv_iload_n hx hb dL_law_869 rfl (lv_at hl 3 rfl) ?_
  refine lv_iconst (v := 1) hx hb dL_law_870 (by decide) ?_
  refine lv_iadd hx hb dL_law_871 ?_
  refine zl_ld (k := 1) hx hb hX hbl hL (by omega) hLs dL_law_872 ?_
  refine zl_1i hA hL (zl_run (w := w1) (As := [.int (xs (i + 1))]) (rest := []) X1 hml hl hL.1 hL.2.2 h1.1 rfl zk_Law_113 (c_Main_makes h1 h) rfl ⟨Nat.le_of_ble_eq_true rfl, Nat.le_of_ble_eq_true rfl⟩ ⟨Nat.le_of_ble_eq_true rfl, Nat.le_of_ble_eq_true rfl⟩ rfl (Nat.le_of_ble_eq_true rfl) dL_law_873) (fun x1 M1 H locs h hL => ?_)
  refine lv_pop hx hb dL_law_876 rfl ?_
  refine lv_aload_n hx hb dL_law_877 rfl (lv_at hl 2 rfl) ?_
  refine lv_aload_n hx hb dL_law_878 rfl (lv_at hl 0 rfl) ?_
  refine lv_iload_n hx hb dL_law_879 rfl (lv_at hl 3 rfl) ?_
  refine lv_iconst (v := 1) hx hb dL_law_880 (by decide) ?_
  refine lv_iadd hx hb dL_law_881 ?_
  refine zl_ld (k := 1) hx hb hX hbl hL (by omega) hLs dL_law_882 ?_
  refine zl_2i hA hL (zl_run (w := w2) (As := [.int (xs (i + 1))]) (rest := []) X2 hml hl hL.2.1 hL.2.2 h2.1 rfl zk_Law_116 (c_Model_makes h2 h) rfl ⟨Nat.le_of_ble_eq_true rfl, Nat.le_of_ble_eq_true rfl⟩ ⟨Nat.le_of_ble_eq_true rfl, Nat.le_of_ble_eq_true rfl⟩ rfl (Nat.le_of_ble_eq_true rfl) dL_law_883) (fun x2 W2 H locs h hL => ?_)
  refine lv_pop hx hb dL_law_886 rfl ?_
  refine lv_goto (tgt := 1243) hx hb dL_law_887 rfl ?_
  exact kk M1 W2 H locs h.2 hL
set_option maxHeartbeats 4000000 in
theorem lw_c24 {p : Program} {l : Launch} {e : Env} {s : State} {m : MethodId} {below : List Frame} {meth : Method} {c : Code} {H : Heap} {locs : List Loc} {ls : Array Slot} {w1 w2 : zWd} {M W' : zMem} {b L i : Nat} {xs : Nat → Int32} {K : zMem → zMem → Prop} (C0 : lw_At p s m meth c b L xs) (hLs : L < 2147483648) (X1 : zX w1 p s m #[Value.ref b] c code "HandToHandLaw") (X2 : zX w2 p s m #[Value.ref b] c code "HandToHandLaw") (h1 : zI_Main w1) (h2 : zI_Model w2) (hA : zLa w1 w2 s) (hi : i + 6 ≤ L) (hL : zLw w1 w2 s M W' H locs) (hl : lv_has ls 4 [(0, .ref b), (1, .ref (zad w1 0)), (2, .ref (zad w2 0)), (3, .int (nI i))]) (h : wp_Main_could (xs (i + 1)) M (fun x1 M1 => wp_Model_could (xs (i + 1)) W' (fun x2 W2 => x1 = x2 ∧ K M1 W2))) (kk : ∀ (M W' : zMem) (H : Heap) (locs : List Loc), K M W' → zLw w1 w2 s M W' H locs → W p l e room_1 s m #[Value.ref b] below meth c H locs 108 24481 (lw_Z below #[Value.ref b] s) (F0 m 1243 ls [])) : W p l e room_1 s m #[Value.ref b] below meth c H locs 108 24481 (lw_Z below #[Value.ref b] s) (F0 m 890 ls []) := by
  obtain ⟨hx, hb, hr, hml, hown, hts, hX, hbl, hlocks, hgv⟩ := id C0
  refine lv_aload_n hx hb dL_law_890 rfl (lv_at hl 1 rfl) ?_
  refine lv_aload_n hx hb dL_law_891 rfl (lv_at hl 0 rfl) ?_
  refine lv_iload_n hx hb dL_law_892 rfl (lv_at hl 3 rfl) ?_
  refine lv_iconst (v := 1) hx hb dL_law_893 (by decide) ?_
  refine lv_iadd hx hb dL_law_894 ?_
  refine zl_ld (k := 1) hx hb hX hbl hL (by omega) hLs dL_law_895 ?_
  refine zl_1l hA hL (zl_run (w := w1) (As := [.int (xs (i + 1))]) (rest := []) X1 hml hl hL.1 hL.2.2 h1.1 rfl zk_Law_117 (c_Main_could h1 h) rfl ⟨Nat.le_of_ble_eq_true rfl, Nat.le_of_ble_eq_true rfl⟩ ⟨Nat.le_of_ble_eq_true rfl, Nat.le_of_ble_eq_true rfl⟩ rfl (Nat.le_of_ble_eq_true rfl) dL_law_896) (fun x1 M1 H locs h hL => ?_)
  refine lv_pop2_2 hx hb dL_law_899 rfl ?_
  refine lv_aload_n hx hb dL_law_900 rfl (lv_at hl 2 rfl) ?_
  refine lv_aload_n hx hb dL_law_901 rfl (lv_at hl 0 rfl) ?_
  refine lv_iload_n hx hb dL_law_902 rfl (lv_at hl 3 rfl) ?_
  refine lv_iconst (v := 1) hx hb dL_law_903 (by decide) ?_
  refine lv_iadd hx hb dL_law_904 ?_
  refine zl_ld (k := 1) hx hb hX hbl hL (by omega) hLs dL_law_905 ?_
  refine zl_2l hA hL (zl_run (w := w2) (As := [.int (xs (i + 1))]) (rest := []) X2 hml hl hL.2.1 hL.2.2 h2.1 rfl zk_Law_121 (c_Model_could h2 h) rfl ⟨Nat.le_of_ble_eq_true rfl, Nat.le_of_ble_eq_true rfl⟩ ⟨Nat.le_of_ble_eq_true rfl, Nat.le_of_ble_eq_true rfl⟩ rfl (Nat.le_of_ble_eq_true rfl) dL_law_906) (fun x2 W2 H locs h hL => ?_)
  refine lv_pop2_2 hx hb dL_law_909 rfl ?_
  refine lv_goto (tgt := 1243) hx hb dL_law_910 rfl ?_
  exact kk M1 W2 H locs h.2 hL
set_option maxHeartbeats 4000000 in
theorem lw_c25 {p : Program} {l : Launch} {e : Env} {s : State} {m : MethodId} {below : List Frame} {meth : Method} {c : Code} {H : Heap} {locs : List Loc} {ls : Array Slot} {w1 w2 : zWd} {M W' : zMem} {b L i : Nat} {xs : Nat → Int32} {K : zMem → zMem → Prop} (C0 : lw_At p s m meth c b L xs) (hLs : L < 2147483648) (X1 : zX w1 p s m #[Value.ref b] c code "HandToHandLaw") (X2 : zX w2 p s m #[Value.ref b] c code "HandToHandLaw") (h1 : zI_Main w1) (h2 : zI_Model w2) (hA : zLa w1 w2 s) (hi : i + 6 ≤ L) (hL : zLw w1 w2 s M W' H locs) (hl : lv_has ls 4 [(0, .ref b), (1, .ref (zad w1 0)), (2, .ref (zad w2 0)), (3, .int (nI i))]) (h : wp_Main_order (xs (i + 1)) (xs (i + 2)) M (fun x1 M1 => wp_Model_order (xs (i + 1)) (xs (i + 2)) W' (fun x2 W2 => x1 = x2 ∧ K M1 W2))) (kk : ∀ (M W' : zMem) (H : Heap) (locs : List Loc), K M W' → zLw w1 w2 s M W' H locs → W p l e room_1 s m #[Value.ref b] below meth c H locs 108 24481 (lw_Z below #[Value.ref b] s) (F0 m 1243 ls [])) : W p l e room_1 s m #[Value.ref b] below meth c H locs 108 24481 (lw_Z below #[Value.ref b] s) (F0 m 913 ls []) := by
  obtain ⟨hx, hb, hr, hml, hown, hts, hX, hbl, hlocks, hgv⟩ := id C0
  refine lv_aload_n hx hb dL_law_913 rfl (lv_at hl 1 rfl) ?_
  refine lv_aload_n hx hb dL_law_914 rfl (lv_at hl 0 rfl) ?_
  refine lv_iload_n hx hb dL_law_915 rfl (lv_at hl 3 rfl) ?_
  refine lv_iconst (v := 1) hx hb dL_law_916 (by decide) ?_
  refine lv_iadd hx hb dL_law_917 ?_
  refine zl_ld (k := 1) hx hb hX hbl hL (by omega) hLs dL_law_918 ?_
  refine lv_aload_n hx hb dL_law_919 rfl (lv_at hl 0 rfl) ?_
  refine lv_iload_n hx hb dL_law_920 rfl (lv_at hl 3 rfl) ?_
  refine lv_iconst (v := 2) hx hb dL_law_921 (by decide) ?_
  refine lv_iadd hx hb dL_law_922 ?_
  refine zl_ld (k := 2) hx hb hX hbl hL (by omega) hLs dL_law_923 ?_
  refine zl_1i hA hL (zl_run (w := w1) (As := [.int (xs (i + 1)), .int (xs (i + 2))]) (rest := []) X1 hml hl hL.1 hL.2.2 h1.1 rfl zk_Law_122 (c_Main_order h1 h) rfl ⟨Nat.le_of_ble_eq_true rfl, Nat.le_of_ble_eq_true rfl⟩ ⟨Nat.le_of_ble_eq_true rfl, Nat.le_of_ble_eq_true rfl⟩ rfl (Nat.le_of_ble_eq_true rfl) dL_law_924) (fun x1 M1 H locs h hL => ?_)
  refine lv_pop hx hb dL_law_927 rfl ?_
  refine lv_aload_n hx hb dL_law_928 rfl (lv_at hl 2 rfl) ?_
  refine lv_aload_n hx hb dL_law_929 rfl (lv_at hl 0 rfl) ?_
  refine lv_iload_n hx hb dL_law_930 rfl (lv_at hl 3 rfl) ?_
  refine lv_iconst (v := 1) hx hb dL_law_931 (by decide) ?_
  refine lv_iadd hx hb dL_law_932 ?_
  refine zl_ld (k := 1) hx hb hX hbl hL (by omega) hLs dL_law_933 ?_
  refine lv_aload_n hx hb dL_law_934 rfl (lv_at hl 0 rfl) ?_
  refine lv_iload_n hx hb dL_law_935 rfl (lv_at hl 3 rfl) ?_
  refine lv_iconst (v := 2) hx hb dL_law_936 (by decide) ?_
  refine lv_iadd hx hb dL_law_937 ?_
  refine zl_ld (k := 2) hx hb hX hbl hL (by omega) hLs dL_law_938 ?_
  refine zl_2i hA hL (zl_run (w := w2) (As := [.int (xs (i + 1)), .int (xs (i + 2))]) (rest := []) X2 hml hl hL.2.1 hL.2.2 h2.1 rfl zk_Law_125 (c_Model_order h2 h) rfl ⟨Nat.le_of_ble_eq_true rfl, Nat.le_of_ble_eq_true rfl⟩ ⟨Nat.le_of_ble_eq_true rfl, Nat.le_of_ble_eq_true rfl⟩ rfl (Nat.le_of_ble_eq_true rfl) dL_law_939) (fun x2 W2 H locs h hL => ?_)
  refine lv_pop hx hb dL_law_942 rfl ?_
  refine lv_goto (tgt := 1243) hx hb dL_law_943 rfl ?_
  exact kk M1 W2 H locs h.2 hL
set_option maxHeartbeats 4000000 in
theorem lw_c26 {p : Program} {l : Launch} {e : Env} {s : State} {m : MethodId} {below : List Frame} {meth : Method} {c : Code} {H : Heap} {locs : List Loc} {ls : Array Slot} {w1 w2 : zWd} {M W' : zMem} {b L i : Nat} {xs : Nat → Int32} {K : zMem → zMem → Prop} (C0 : lw_At p s m meth c b L xs) (hLs : L < 2147483648) (X1 : zX w1 p s m #[Value.ref b] c code "HandToHandLaw") (X2 : zX w2 p s m #[Value.ref b] c code "HandToHandLaw") (h1 : zI_Main w1) (h2 : zI_Model w2) (hA : zLa w1 w2 s) (hi : i + 6 ≤ L) (hL : zLw w1 w2 s M W' H locs) (hl : lv_has ls 4 [(0, .ref b), (1, .ref (zad w1 0)), (2, .ref (zad w2 0)), (3, .int (nI i))]) (h : wp_Main_best (xs (i + 1)) M (fun x1 M1 => wp_Model_best (xs (i + 1)) W' (fun x2 W2 => x1 = x2 ∧ K M1 W2))) (kk : ∀ (M W' : zMem) (H : Heap) (locs : List Loc), K M W' → zLw w1 w2 s M W' H locs → W p l e room_1 s m #[Value.ref b] below meth c H locs 108 24481 (lw_Z below #[Value.ref b] s) (F0 m 1243 ls [])) : W p l e room_1 s m #[Value.ref b] below meth c H locs 108 24481 (lw_Z below #[Value.ref b] s) (F0 m 946 ls []) := by
  obtain ⟨hx, hb, hr, hml, hown, hts, hX, hbl, hlocks, hgv⟩ := id C0
  refine lv_aload_n hx hb dL_law_946 rfl (lv_at hl 1 rfl) ?_
  refine lv_aload_n hx hb dL_law_947 rfl (lv_at hl 0 rfl) ?_
  refine lv_iload_n hx hb dL_law_948 rfl (lv_at hl 3 rfl) ?_
  refine lv_iconst (v := 1) hx hb dL_law_949 (by decide) ?_
  refine lv_iadd hx hb dL_law_950 ?_
  refine zl_ld (k := 1) hx hb hX hbl hL (by omega) hLs dL_law_951 ?_
  refine zl_1i hA hL (zl_run (w := w1) (As := [.int (xs (i + 1))]) (rest := []) X1 hml hl hL.1 hL.2.2 h1.1 rfl zk_Law_126 (c_Main_best h1 h) rfl ⟨Nat.le_of_ble_eq_true rfl, Nat.le_of_ble_eq_true rfl⟩ ⟨Nat.le_of_ble_eq_true rfl, Nat.le_of_ble_eq_true rfl⟩ rfl (Nat.le_of_ble_eq_true rfl) dL_law_952) (fun x1 M1 H locs h hL => ?_)
  refine lv_pop hx hb dL_law_955 rfl ?_
  refine lv_aload_n hx hb dL_law_956 rfl (lv_at hl 2 rfl) ?_
  refine lv_aload_n hx hb dL_law_957 rfl (lv_at hl 0 rfl) ?_
  refine lv_iload_n hx hb dL_law_958 rfl (lv_at hl 3 rfl) ?_
  refine lv_iconst (v := 1) hx hb dL_law_959 (by decide) ?_
  refine lv_iadd hx hb dL_law_960 ?_
  refine zl_ld (k := 1) hx hb hX hbl hL (by omega) hLs dL_law_961 ?_
  refine zl_2i hA hL (zl_run (w := w2) (As := [.int (xs (i + 1))]) (rest := []) X2 hml hl hL.2.1 hL.2.2 h2.1 rfl zk_Law_129 (c_Model_best h2 h) rfl ⟨Nat.le_of_ble_eq_true rfl, Nat.le_of_ble_eq_true rfl⟩ ⟨Nat.le_of_ble_eq_true rfl, Nat.le_of_ble_eq_true rfl⟩ rfl (Nat.le_of_ble_eq_true rfl) dL_law_962) (fun x2 W2 H locs h hL => ?_)
  refine lv_pop hx hb dL_law_965 rfl ?_
  refine lv_goto (tgt := 1243) hx hb dL_law_966 rfl ?_
  exact kk M1 W2 H locs h.2 hL
set_option maxHeartbeats 4000000 in
theorem lw_c27 {p : Program} {l : Launch} {e : Env} {s : State} {m : MethodId} {below : List Frame} {meth : Method} {c : Code} {H : Heap} {locs : List Loc} {ls : Array Slot} {w1 w2 : zWd} {M W' : zMem} {b L i : Nat} {xs : Nat → Int32} {K : zMem → zMem → Prop} (C0 : lw_At p s m meth c b L xs) (hLs : L < 2147483648) (X1 : zX w1 p s m #[Value.ref b] c code "HandToHandLaw") (X2 : zX w2 p s m #[Value.ref b] c code "HandToHandLaw") (h1 : zI_Main w1) (h2 : zI_Model w2) (hA : zLa w1 w2 s) (hi : i + 6 ≤ L) (hL : zLw w1 w2 s M W' H locs) (hl : lv_has ls 4 [(0, .ref b), (1, .ref (zad w1 0)), (2, .ref (zad w2 0)), (3, .int (nI i))]) (h : wp_Main_stands (xs (i + 1)) (xs (i + 2)) M (fun x1 M1 => wp_Model_stands (xs (i + 1)) (xs (i + 2)) W' (fun x2 W2 => x1 = x2 ∧ K M1 W2))) (kk : ∀ (M W' : zMem) (H : Heap) (locs : List Loc), K M W' → zLw w1 w2 s M W' H locs → W p l e room_1 s m #[Value.ref b] below meth c H locs 108 24481 (lw_Z below #[Value.ref b] s) (F0 m 1243 ls [])) : W p l e room_1 s m #[Value.ref b] below meth c H locs 108 24481 (lw_Z below #[Value.ref b] s) (F0 m 969 ls []) := by
  obtain ⟨hx, hb, hr, hml, hown, hts, hX, hbl, hlocks, hgv⟩ := id C0
  refine lv_aload_n hx hb dL_law_969 rfl (lv_at hl 1 rfl) ?_
  refine lv_aload_n hx hb dL_law_970 rfl (lv_at hl 0 rfl) ?_
  refine lv_iload_n hx hb dL_law_971 rfl (lv_at hl 3 rfl) ?_
  refine lv_iconst (v := 1) hx hb dL_law_972 (by decide) ?_
  refine lv_iadd hx hb dL_law_973 ?_
  refine zl_ld (k := 1) hx hb hX hbl hL (by omega) hLs dL_law_974 ?_
  refine lv_aload_n hx hb dL_law_975 rfl (lv_at hl 0 rfl) ?_
  refine lv_iload_n hx hb dL_law_976 rfl (lv_at hl 3 rfl) ?_
  refine lv_iconst (v := 2) hx hb dL_law_977 (by decide) ?_
  refine lv_iadd hx hb dL_law_978 ?_
  refine zl_ld (k := 2) hx hb hX hbl hL (by omega) hLs dL_law_979 ?_
  refine zl_1i hA hL (zl_run (w := w1) (As := [.int (xs (i + 1)), .int (xs (i + 2))]) (rest := []) X1 hml hl hL.1 hL.2.2 h1.1 rfl zk_Law_130 (c_Main_stands h1 h) rfl ⟨Nat.le_of_ble_eq_true rfl, Nat.le_of_ble_eq_true rfl⟩ ⟨Nat.le_of_ble_eq_true rfl, Nat.le_of_ble_eq_true rfl⟩ rfl (Nat.le_of_ble_eq_true rfl) dL_law_980) (fun x1 M1 H locs h hL => ?_)
  refine lv_pop hx hb dL_law_983 rfl ?_
  refine lv_aload_n hx hb dL_law_984 rfl (lv_at hl 2 rfl) ?_
  refine lv_aload_n hx hb dL_law_985 rfl (lv_at hl 0 rfl) ?_
  refine lv_iload_n hx hb dL_law_986 rfl (lv_at hl 3 rfl) ?_
  refine lv_iconst (v := 1) hx hb dL_law_987 (by decide) ?_
  refine lv_iadd hx hb dL_law_988 ?_
  refine zl_ld (k := 1) hx hb hX hbl hL (by omega) hLs dL_law_989 ?_
  refine lv_aload_n hx hb dL_law_990 rfl (lv_at hl 0 rfl) ?_
  refine lv_iload_n hx hb dL_law_991 rfl (lv_at hl 3 rfl) ?_
  refine lv_iconst (v := 2) hx hb dL_law_992 (by decide) ?_
  refine lv_iadd hx hb dL_law_993 ?_
  refine zl_ld (k := 2) hx hb hX hbl hL (by omega) hLs dL_law_994 ?_
  refine zl_2i hA hL (zl_run (w := w2) (As := [.int (xs (i + 1)), .int (xs (i + 2))]) (rest := []) X2 hml hl hL.2.1 hL.2.2 h2.1 rfl zk_Law_133 (c_Model_stands h2 h) rfl ⟨Nat.le_of_ble_eq_true rfl, Nat.le_of_ble_eq_true rfl⟩ ⟨Nat.le_of_ble_eq_true rfl, Nat.le_of_ble_eq_true rfl⟩ rfl (Nat.le_of_ble_eq_true rfl) dL_law_995) (fun x2 W2 H locs h hL => ?_)
  refine lv_pop hx hb dL_law_998 rfl ?_
  refine lv_goto (tgt := 1243) hx hb dL_law_999 rfl ?_
  exact kk M1 W2 H locs h.2 hL
set_option maxHeartbeats 4000000 in
theorem lw_c28 {p : Program} {l : Launch} {e : Env} {s : State} {m : MethodId} {below : List Frame} {meth : Method} {c : Code} {H : Heap} {locs : List Loc} {ls : Array Slot} {w1 w2 : zWd} {M W' : zMem} {b L i : Nat} {xs : Nat → Int32} {K : zMem → zMem → Prop} (C0 : lw_At p s m meth c b L xs) (hLs : L < 2147483648) (X1 : zX w1 p s m #[Value.ref b] c code "HandToHandLaw") (X2 : zX w2 p s m #[Value.ref b] c code "HandToHandLaw") (h1 : zI_Main w1) (h2 : zI_Model w2) (hA : zLa w1 w2 s) (hi : i + 6 ≤ L) (hL : zLw w1 w2 s M W' H locs) (hl : lv_has ls 4 [(0, .ref b), (1, .ref (zad w1 0)), (2, .ref (zad w2 0)), (3, .int (nI i))]) (h : wp_Main_parts (xs (i + 1)) M (fun x1 M1 => wp_Model_parts (xs (i + 1)) W' (fun x2 W2 => x1 = x2 ∧ K M1 W2))) (kk : ∀ (M W' : zMem) (H : Heap) (locs : List Loc), K M W' → zLw w1 w2 s M W' H locs → W p l e room_1 s m #[Value.ref b] below meth c H locs 108 24481 (lw_Z below #[Value.ref b] s) (F0 m 1243 ls [])) : W p l e room_1 s m #[Value.ref b] below meth c H locs 108 24481 (lw_Z below #[Value.ref b] s) (F0 m 1002 ls []) := by
  obtain ⟨hx, hb, hr, hml, hown, hts, hX, hbl, hlocks, hgv⟩ := id C0
  refine lv_aload_n hx hb dL_law_1002 rfl (lv_at hl 1 rfl) ?_
  refine lv_aload_n hx hb dL_law_1003 rfl (lv_at hl 0 rfl) ?_
  refine lv_iload_n hx hb dL_law_1004 rfl (lv_at hl 3 rfl) ?_
  refine lv_iconst (v := 1) hx hb dL_law_1005 (by decide) ?_
  refine lv_iadd hx hb dL_law_1006 ?_
  refine zl_ld (k := 1) hx hb hX hbl hL (by omega) hLs dL_law_1007 ?_
  refine zl_1i hA hL (zl_run (w := w1) (As := [.int (xs (i + 1))]) (rest := []) X1 hml hl hL.1 hL.2.2 h1.1 rfl zk_Law_134 (c_Main_parts h1 h) rfl ⟨Nat.le_of_ble_eq_true rfl, Nat.le_of_ble_eq_true rfl⟩ ⟨Nat.le_of_ble_eq_true rfl, Nat.le_of_ble_eq_true rfl⟩ rfl (Nat.le_of_ble_eq_true rfl) dL_law_1008) (fun x1 M1 H locs h hL => ?_)
  refine lv_pop hx hb dL_law_1011 rfl ?_
  refine lv_aload_n hx hb dL_law_1012 rfl (lv_at hl 2 rfl) ?_
  refine lv_aload_n hx hb dL_law_1013 rfl (lv_at hl 0 rfl) ?_
  refine lv_iload_n hx hb dL_law_1014 rfl (lv_at hl 3 rfl) ?_
  refine lv_iconst (v := 1) hx hb dL_law_1015 (by decide) ?_
  refine lv_iadd hx hb dL_law_1016 ?_
  refine zl_ld (k := 1) hx hb hX hbl hL (by omega) hLs dL_law_1017 ?_
  refine zl_2i hA hL (zl_run (w := w2) (As := [.int (xs (i + 1))]) (rest := []) X2 hml hl hL.2.1 hL.2.2 h2.1 rfl zk_Law_137 (c_Model_parts h2 h) rfl ⟨Nat.le_of_ble_eq_true rfl, Nat.le_of_ble_eq_true rfl⟩ ⟨Nat.le_of_ble_eq_true rfl, Nat.le_of_ble_eq_true rfl⟩ rfl (Nat.le_of_ble_eq_true rfl) dL_law_1018) (fun x2 W2 H locs h hL => ?_)
  refine lv_pop hx hb dL_law_1021 rfl ?_
  refine lv_goto (tgt := 1243) hx hb dL_law_1022 rfl ?_
  exact kk M1 W2 H locs h.2 hL
set_option maxHeartbeats 4000000 in
theorem lw_c29 {p : Program} {l : Launch} {e : Env} {s : State} {m : MethodId} {below : List Frame} {meth : Method} {c : Code} {H : Heap} {locs : List Loc} {ls : Array Slot} {w1 w2 : zWd} {M W' : zMem} {b L i : Nat} {xs : Nat → Int32} {K : zMem → zMem → Prop} (C0 : lw_At p s m meth c b L xs) (hLs : L < 2147483648) (X1 : zX w1 p s m #[Value.ref b] c code "HandToHandLaw") (X2 : zX w2 p s m #[Value.ref b] c code "HandToHandLaw") (h1 : zI_Main w1) (h2 : zI_Model w2) (hA : zLa w1 w2 s) (hi : i + 6 ≤ L) (hL : zLw w1 w2 s M W' H locs) (hl : lv_has ls 4 [(0, .ref b), (1, .ref (zad w1 0)), (2, .ref (zad w2 0)), (3, .int (nI i))]) (h : wp_Main_less (xs (i + 1)) (xs (i + 2)) M (fun x1 M1 => wp_Model_less (xs (i + 1)) (xs (i + 2)) W' (fun x2 W2 => x1 = x2 ∧ K M1 W2))) (kk : ∀ (M W' : zMem) (H : Heap) (locs : List Loc), K M W' → zLw w1 w2 s M W' H locs → W p l e room_1 s m #[Value.ref b] below meth c H locs 108 24481 (lw_Z below #[Value.ref b] s) (F0 m 1243 ls [])) : W p l e room_1 s m #[Value.ref b] below meth c H locs 108 24481 (lw_Z below #[Value.ref b] s) (F0 m 1025 ls []) := by
  obtain ⟨hx, hb, hr, hml, hown, hts, hX, hbl, hlocks, hgv⟩ := id C0
  refine lv_aload_n hx hb dL_law_1025 rfl (lv_at hl 1 rfl) ?_
  refine lv_aload_n hx hb dL_law_1026 rfl (lv_at hl 0 rfl) ?_
  refine lv_iload_n hx hb dL_law_1027 rfl (lv_at hl 3 rfl) ?_
  refine lv_iconst (v := 1) hx hb dL_law_1028 (by decide) ?_
  refine lv_iadd hx hb dL_law_1029 ?_
  refine zl_ld (k := 1) hx hb hX hbl hL (by omega) hLs dL_law_1030 ?_
  refine lv_aload_n hx hb dL_law_1031 rfl (lv_at hl 0 rfl) ?_
  refine lv_iload_n hx hb dL_law_1032 rfl (lv_at hl 3 rfl) ?_
  refine lv_iconst (v := 2) hx hb dL_law_1033 (by decide) ?_
  refine lv_iadd hx hb dL_law_1034 ?_
  refine zl_ld (k := 2) hx hb hX hbl hL (by omega) hLs dL_law_1035 ?_
  refine zl_1i hA hL (zl_run (w := w1) (As := [.int (xs (i + 1)), .int (xs (i + 2))]) (rest := []) X1 hml hl hL.1 hL.2.2 h1.1 rfl zk_Law_138 (c_Main_less h1 h) rfl ⟨Nat.le_of_ble_eq_true rfl, Nat.le_of_ble_eq_true rfl⟩ ⟨Nat.le_of_ble_eq_true rfl, Nat.le_of_ble_eq_true rfl⟩ rfl (Nat.le_of_ble_eq_true rfl) dL_law_1036) (fun x1 M1 H locs h hL => ?_)
  refine lv_pop hx hb dL_law_1039 rfl ?_
  refine lv_aload_n hx hb dL_law_1040 rfl (lv_at hl 2 rfl) ?_
  refine lv_aload_n hx hb dL_law_1041 rfl (lv_at hl 0 rfl) ?_
  refine lv_iload_n hx hb dL_law_1042 rfl (lv_at hl 3 rfl) ?_
  refine lv_iconst (v := 1) hx hb dL_law_1043 (by decide) ?_
  refine lv_iadd hx hb dL_law_1044 ?_
  refine zl_ld (k := 1) hx hb hX hbl hL (by omega) hLs dL_law_1045 ?_
  refine lv_aload_n hx hb dL_law_1046 rfl (lv_at hl 0 rfl) ?_
  refine lv_iload_n hx hb dL_law_1047 rfl (lv_at hl 3 rfl) ?_
  refine lv_iconst (v := 2) hx hb dL_law_1048 (by decide) ?_
  refine lv_iadd hx hb dL_law_1049 ?_
  refine zl_ld (k := 2) hx hb hX hbl hL (by omega) hLs dL_law_1050 ?_
  refine zl_2i hA hL (zl_run (w := w2) (As := [.int (xs (i + 1)), .int (xs (i + 2))]) (rest := []) X2 hml hl hL.2.1 hL.2.2 h2.1 rfl zk_Law_141 (c_Model_less h2 h) rfl ⟨Nat.le_of_ble_eq_true rfl, Nat.le_of_ble_eq_true rfl⟩ ⟨Nat.le_of_ble_eq_true rfl, Nat.le_of_ble_eq_true rfl⟩ rfl (Nat.le_of_ble_eq_true rfl) dL_law_1051) (fun x2 W2 H locs h hL => ?_)
  refine lv_pop hx hb dL_law_1054 rfl ?_
  refine lv_goto (tgt := 1243) hx hb dL_law_1055 rfl ?_
  exact kk M1 W2 H locs h.2 hL
set_option maxHeartbeats 4000000 in
theorem lw_c30 {p : Program} {l : Launch} {e : Env} {s : State} {m : MethodId} {below : List Frame} {meth : Method} {c : Code} {H : Heap} {locs : List Loc} {ls : Array Slot} {w1 w2 : zWd} {M W' : zMem} {b L i : Nat} {xs : Nat → Int32} {K : zMem → zMem → Prop} (C0 : lw_At p s m meth c b L xs) (hLs : L < 2147483648) (X1 : zX w1 p s m #[Value.ref b] c code "HandToHandLaw") (X2 : zX w2 p s m #[Value.ref b] c code "HandToHandLaw") (h1 : zI_Main w1) (h2 : zI_Model w2) (hA : zLa w1 w2 s) (hi : i + 6 ≤ L) (hL : zLw w1 w2 s M W' H locs) (hl : lv_has ls 4 [(0, .ref b), (1, .ref (zad w1 0)), (2, .ref (zad w2 0)), (3, .int (nI i))]) (h : wp_Main_sheet (xs (i + 1)) (xs (i + 2)) (xs (i + 3)) M (fun x1 M1 => wp_Model_sheet (xs (i + 1)) (xs (i + 2)) (xs (i + 3)) W' (fun x2 W2 => x1 = x2 ∧ K M1 W2))) (kk : ∀ (M W' : zMem) (H : Heap) (locs : List Loc), K M W' → zLw w1 w2 s M W' H locs → W p l e room_1 s m #[Value.ref b] below meth c H locs 108 24481 (lw_Z below #[Value.ref b] s) (F0 m 1243 ls [])) : W p l e room_1 s m #[Value.ref b] below meth c H locs 108 24481 (lw_Z below #[Value.ref b] s) (F0 m 1058 ls []) := by
  obtain ⟨hx, hb, hr, hml, hown, hts, hX, hbl, hlocks, hgv⟩ := id C0
  refine lv_aload_n hx hb dL_law_1058 rfl (lv_at hl 1 rfl) ?_
  refine lv_aload_n hx hb dL_law_1059 rfl (lv_at hl 0 rfl) ?_
  refine lv_iload_n hx hb dL_law_1060 rfl (lv_at hl 3 rfl) ?_
  refine lv_iconst (v := 1) hx hb dL_law_1061 (by decide) ?_
  refine lv_iadd hx hb dL_law_1062 ?_
  refine zl_ld (k := 1) hx hb hX hbl hL (by omega) hLs dL_law_1063 ?_
  refine lv_aload_n hx hb dL_law_1064 rfl (lv_at hl 0 rfl) ?_
  refine lv_iload_n hx hb dL_law_1065 rfl (lv_at hl 3 rfl) ?_
  refine lv_iconst (v := 2) hx hb dL_law_1066 (by decide) ?_
  refine lv_iadd hx hb dL_law_1067 ?_
  refine zl_ld (k := 2) hx hb hX hbl hL (by omega) hLs dL_law_1068 ?_
  refine lv_aload_n hx hb dL_law_1069 rfl (lv_at hl 0 rfl) ?_
  refine lv_iload_n hx hb dL_law_1070 rfl (lv_at hl 3 rfl) ?_
  refine lv_iconst (v := 3) hx hb dL_law_1071 (by decide) ?_
  refine lv_iadd hx hb dL_law_1072 ?_
  refine zl_ld (k := 3) hx hb hX hbl hL (by omega) hLs dL_law_1073 ?_
  refine zl_1i hA hL (zl_run (w := w1) (As := [.int (xs (i + 1)), .int (xs (i + 2)), .int (xs (i + 3))]) (rest := []) X1 hml hl hL.1 hL.2.2 h1.1 rfl zk_Law_142 (c_Main_sheet h1 h) rfl ⟨Nat.le_of_ble_eq_true rfl, Nat.le_of_ble_eq_true rfl⟩ ⟨Nat.le_of_ble_eq_true rfl, Nat.le_of_ble_eq_true rfl⟩ rfl (Nat.le_of_ble_eq_true rfl) dL_law_1074) (fun x1 M1 H locs h hL => ?_)
  refine lv_pop hx hb dL_law_1077 rfl ?_
  refine lv_aload_n hx hb dL_law_1078 rfl (lv_at hl 2 rfl) ?_
  refine lv_aload_n hx hb dL_law_1079 rfl (lv_at hl 0 rfl) ?_
  refine lv_iload_n hx hb dL_law_1080 rfl (lv_at hl 3 rfl) ?_
  refine lv_iconst (v := 1) hx hb dL_law_1081 (by decide) ?_
  refine lv_iadd hx hb dL_law_1082 ?_
  refine zl_ld (k := 1) hx hb hX hbl hL (by omega) hLs dL_law_1083 ?_
  refine lv_aload_n hx hb dL_law_1084 rfl (lv_at hl 0 rfl) ?_
  refine lv_iload_n hx hb dL_law_1085 rfl (lv_at hl 3 rfl) ?_
  refine lv_iconst (v := 2) hx hb dL_law_1086 (by decide) ?_
  refine lv_iadd hx hb dL_law_1087 ?_
  refine zl_ld (k := 2) hx hb hX hbl hL (by omega) hLs dL_law_1088 ?_
  refine lv_aload_n hx hb dL_law_1089 rfl (lv_at hl 0 rfl) ?_
  refine lv_iload_n hx hb dL_law_1090 rfl (lv_at hl 3 rfl) ?_
  refine lv_iconst (v := 3) hx hb dL_law_1091 (by decide) ?_
  refine lv_iadd hx hb dL_law_1092 ?_
  refine zl_ld (k := 3) hx hb hX hbl hL (by omega) hLs dL_law_1093 ?_
  refine zl_2i hA hL (zl_run (w := w2) (As := [.int (xs (i + 1)), .int (xs (i + 2)), .int (xs (i + 3))]) (rest := []) X2 hml hl hL.2.1 hL.2.2 h2.1 rfl zk_Law_145 (c_Model_sheet h2 h) rfl ⟨Nat.le_of_ble_eq_true rfl, Nat.le_of_ble_eq_true rfl⟩ ⟨Nat.le_of_ble_eq_true rfl, Nat.le_of_ble_eq_true rfl⟩ rfl (Nat.le_of_ble_eq_true rfl) dL_law_1094) (fun x2 W2 H locs h hL => ?_)
  refine lv_pop hx hb dL_law_1097 rfl ?_
  refine lv_goto (tgt := 1243) hx hb dL_law_1098 rfl ?_
  exact kk M1 W2 H locs h.2 hL
set_option maxHeartbeats 4000000 in
theorem lw_c31 {p : Program} {l : Launch} {e : Env} {s : State} {m : MethodId} {below : List Frame} {meth : Method} {c : Code} {H : Heap} {locs : List Loc} {ls : Array Slot} {w1 w2 : zWd} {M W' : zMem} {b L i : Nat} {xs : Nat → Int32} {K : zMem → zMem → Prop} (C0 : lw_At p s m meth c b L xs) (hLs : L < 2147483648) (X1 : zX w1 p s m #[Value.ref b] c code "HandToHandLaw") (X2 : zX w2 p s m #[Value.ref b] c code "HandToHandLaw") (h1 : zI_Main w1) (h2 : zI_Model w2) (hA : zLa w1 w2 s) (hi : i + 6 ≤ L) (hL : zLw w1 w2 s M W' H locs) (hl : lv_has ls 4 [(0, .ref b), (1, .ref (zad w1 0)), (2, .ref (zad w2 0)), (3, .int (nI i))]) (h : wp_Main_lay (xs (i + 1)) (xs (i + 2)) (xs (i + 3)) M (fun x1 M1 => wp_Model_lay (xs (i + 1)) (xs (i + 2)) (xs (i + 3)) W' (fun x2 W2 => x1 = x2 ∧ K M1 W2))) (kk : ∀ (M W' : zMem) (H : Heap) (locs : List Loc), K M W' → zLw w1 w2 s M W' H locs → W p l e room_1 s m #[Value.ref b] below meth c H locs 108 24481 (lw_Z below #[Value.ref b] s) (F0 m 1243 ls [])) : W p l e room_1 s m #[Value.ref b] below meth c H locs 108 24481 (lw_Z below #[Value.ref b] s) (F0 m 1101 ls []) := by
  obtain ⟨hx, hb, hr, hml, hown, hts, hX, hbl, hlocks, hgv⟩ := id C0
  refine lv_aload_n hx hb dL_law_1101 rfl (lv_at hl 1 rfl) ?_
  refine lv_aload_n hx hb dL_law_1102 rfl (lv_at hl 0 rfl) ?_
  refine lv_iload_n hx hb dL_law_1103 rfl (lv_at hl 3 rfl) ?_
  refine lv_iconst (v := 1) hx hb dL_law_1104 (by decide) ?_
  refine lv_iadd hx hb dL_law_1105 ?_
  refine zl_ld (k := 1) hx hb hX hbl hL (by omega) hLs dL_law_1106 ?_
  refine lv_aload_n hx hb dL_law_1107 rfl (lv_at hl 0 rfl) ?_
  refine lv_iload_n hx hb dL_law_1108 rfl (lv_at hl 3 rfl) ?_
  refine lv_iconst (v := 2) hx hb dL_law_1109 (by decide) ?_
  refine lv_iadd hx hb dL_law_1110 ?_
  refine zl_ld (k := 2) hx hb hX hbl hL (by omega) hLs dL_law_1111 ?_
  refine lv_aload_n hx hb dL_law_1112 rfl (lv_at hl 0 rfl) ?_
  refine lv_iload_n hx hb dL_law_1113 rfl (lv_at hl 3 rfl) ?_
  refine lv_iconst (v := 3) hx hb dL_law_1114 (by decide) ?_
  refine lv_iadd hx hb dL_law_1115 ?_
  refine zl_ld (k := 3) hx hb hX hbl hL (by omega) hLs dL_law_1116 ?_
  refine zl_1i hA hL (zl_run (w := w1) (As := [.int (xs (i + 1)), .int (xs (i + 2)), .int (xs (i + 3))]) (rest := []) X1 hml hl hL.1 hL.2.2 h1.1 rfl zk_Law_146 (c_Main_lay h1 h) rfl ⟨Nat.le_of_ble_eq_true rfl, Nat.le_of_ble_eq_true rfl⟩ ⟨Nat.le_of_ble_eq_true rfl, Nat.le_of_ble_eq_true rfl⟩ rfl (Nat.le_of_ble_eq_true rfl) dL_law_1117) (fun x1 M1 H locs h hL => ?_)
  refine lv_pop hx hb dL_law_1120 rfl ?_
  refine lv_aload_n hx hb dL_law_1121 rfl (lv_at hl 2 rfl) ?_
  refine lv_aload_n hx hb dL_law_1122 rfl (lv_at hl 0 rfl) ?_
  refine lv_iload_n hx hb dL_law_1123 rfl (lv_at hl 3 rfl) ?_
  refine lv_iconst (v := 1) hx hb dL_law_1124 (by decide) ?_
  refine lv_iadd hx hb dL_law_1125 ?_
  refine zl_ld (k := 1) hx hb hX hbl hL (by omega) hLs dL_law_1126 ?_
  refine lv_aload_n hx hb dL_law_1127 rfl (lv_at hl 0 rfl) ?_
  refine lv_iload_n hx hb dL_law_1128 rfl (lv_at hl 3 rfl) ?_
  refine lv_iconst (v := 2) hx hb dL_law_1129 (by decide) ?_
  refine lv_iadd hx hb dL_law_1130 ?_
  refine zl_ld (k := 2) hx hb hX hbl hL (by omega) hLs dL_law_1131 ?_
  refine lv_aload_n hx hb dL_law_1132 rfl (lv_at hl 0 rfl) ?_
  refine lv_iload_n hx hb dL_law_1133 rfl (lv_at hl 3 rfl) ?_
  refine lv_iconst (v := 3) hx hb dL_law_1134 (by decide) ?_
  refine lv_iadd hx hb dL_law_1135 ?_
  refine zl_ld (k := 3) hx hb hX hbl hL (by omega) hLs dL_law_1136 ?_
  refine zl_2i hA hL (zl_run (w := w2) (As := [.int (xs (i + 1)), .int (xs (i + 2)), .int (xs (i + 3))]) (rest := []) X2 hml hl hL.2.1 hL.2.2 h2.1 rfl zk_Law_149 (c_Model_lay h2 h) rfl ⟨Nat.le_of_ble_eq_true rfl, Nat.le_of_ble_eq_true rfl⟩ ⟨Nat.le_of_ble_eq_true rfl, Nat.le_of_ble_eq_true rfl⟩ rfl (Nat.le_of_ble_eq_true rfl) dL_law_1137) (fun x2 W2 H locs h hL => ?_)
  refine lv_pop hx hb dL_law_1140 rfl ?_
  refine lv_goto (tgt := 1243) hx hb dL_law_1141 rfl ?_
  exact kk M1 W2 H locs h.2 hL
set_option maxHeartbeats 4000000 in
theorem lw_c32 {p : Program} {l : Launch} {e : Env} {s : State} {m : MethodId} {below : List Frame} {meth : Method} {c : Code} {H : Heap} {locs : List Loc} {ls : Array Slot} {w1 w2 : zWd} {M W' : zMem} {b L i : Nat} {xs : Nat → Int32} {K : zMem → zMem → Prop} (C0 : lw_At p s m meth c b L xs) (hLs : L < 2147483648) (X1 : zX w1 p s m #[Value.ref b] c code "HandToHandLaw") (X2 : zX w2 p s m #[Value.ref b] c code "HandToHandLaw") (h1 : zI_Main w1) (h2 : zI_Model w2) (hA : zLa w1 w2 s) (hi : i + 6 ≤ L) (hL : zLw w1 w2 s M W' H locs) (hl : lv_has ls 4 [(0, .ref b), (1, .ref (zad w1 0)), (2, .ref (zad w2 0)), (3, .int (nI i))]) (h : wp_Main_read (xs (i + 1)) (xs (i + 2)) (xs (i + 3)) (xs (i + 4)) (xs (i + 5)) M (fun x1 M1 => wp_Model_read (xs (i + 1)) (xs (i + 2)) (xs (i + 3)) (xs (i + 4)) (xs (i + 5)) W' (fun x2 W2 => x1 = x2 ∧ K M1 W2))) (kk : ∀ (M W' : zMem) (H : Heap) (locs : List Loc), K M W' → zLw w1 w2 s M W' H locs → W p l e room_1 s m #[Value.ref b] below meth c H locs 108 24481 (lw_Z below #[Value.ref b] s) (F0 m 1243 ls [])) : W p l e room_1 s m #[Value.ref b] below meth c H locs 108 24481 (lw_Z below #[Value.ref b] s) (F0 m 1144 ls []) := by
  obtain ⟨hx, hb, hr, hml, hown, hts, hX, hbl, hlocks, hgv⟩ := id C0
  refine lv_aload_n hx hb dL_law_1144 rfl (lv_at hl 1 rfl) ?_
  refine lv_aload_n hx hb dL_law_1145 rfl (lv_at hl 0 rfl) ?_
  refine lv_iload_n hx hb dL_law_1146 rfl (lv_at hl 3 rfl) ?_
  refine lv_iconst (v := 1) hx hb dL_law_1147 (by decide) ?_
  refine lv_iadd hx hb dL_law_1148 ?_
  refine zl_ld (k := 1) hx hb hX hbl hL (by omega) hLs dL_law_1149 ?_
  refine lv_aload_n hx hb dL_law_1150 rfl (lv_at hl 0 rfl) ?_
  refine lv_iload_n hx hb dL_law_1151 rfl (lv_at hl 3 rfl) ?_
  refine lv_iconst (v := 2) hx hb dL_law_1152 (by decide) ?_
  refine lv_iadd hx hb dL_law_1153 ?_
  refine zl_ld (k := 2) hx hb hX hbl hL (by omega) hLs dL_law_1154 ?_
  refine lv_aload_n hx hb dL_law_1155 rfl (lv_at hl 0 rfl) ?_
  refine lv_iload_n hx hb dL_law_1156 rfl (lv_at hl 3 rfl) ?_
  refine lv_iconst (v := 3) hx hb dL_law_1157 (by decide) ?_
  refine lv_iadd hx hb dL_law_1158 ?_
  refine zl_ld (k := 3) hx hb hX hbl hL (by omega) hLs dL_law_1159 ?_
  refine lv_aload_n hx hb dL_law_1160 rfl (lv_at hl 0 rfl) ?_
  refine lv_iload_n hx hb dL_law_1161 rfl (lv_at hl 3 rfl) ?_
  refine lv_iconst (v := 4) hx hb dL_law_1162 (by decide) ?_
  refine lv_iadd hx hb dL_law_1163 ?_
  refine zl_ld (k := 4) hx hb hX hbl hL (by omega) hLs dL_law_1164 ?_
  refine lv_aload_n hx hb dL_law_1165 rfl (lv_at hl 0 rfl) ?_
  refine lv_iload_n hx hb dL_law_1166 rfl (lv_at hl 3 rfl) ?_
  refine lv_iconst (v := 5) hx hb dL_law_1167 (by decide) ?_
  refine lv_iadd hx hb dL_law_1168 ?_
  refine zl_ld (k := 5) hx hb hX hbl hL (by omega) hLs dL_law_1169 ?_
  refine zl_1i hA hL (zl_run (w := w1) (As := [.int (xs (i + 1)), .int (xs (i + 2)), .int (xs (i + 3)), .int (xs (i + 4)), .int (xs (i + 5))]) (rest := []) X1 hml hl hL.1 hL.2.2 h1.1 rfl zk_Law_150 (c_Main_read h1 h) rfl ⟨Nat.le_of_ble_eq_true rfl, Nat.le_of_ble_eq_true rfl⟩ ⟨Nat.le_of_ble_eq_true rfl, Nat.le_of_ble_eq_true rfl⟩ rfl (Nat.le_of_ble_eq_true rfl) dL_law_1170) (fun x1 M1 H locs h hL => ?_)
  refine lv_pop hx hb dL_law_1173 rfl ?_
  refine lv_aload_n hx hb dL_law_1174 rfl (lv_at hl 2 rfl) ?_
  refine lv_aload_n hx hb dL_law_1175 rfl (lv_at hl 0 rfl) ?_
  refine lv_iload_n hx hb dL_law_1176 rfl (lv_at hl 3 rfl) ?_
  refine lv_iconst (v := 1) hx hb dL_law_1177 (by decide) ?_
  refine lv_iadd hx hb dL_law_1178 ?_
  refine zl_ld (k := 1) hx hb hX hbl hL (by omega) hLs dL_law_1179 ?_
  refine lv_aload_n hx hb dL_law_1180 rfl (lv_at hl 0 rfl) ?_
  refine lv_iload_n hx hb dL_law_1181 rfl (lv_at hl 3 rfl) ?_
  refine lv_iconst (v := 2) hx hb dL_law_1182 (by decide) ?_
  refine lv_iadd hx hb dL_law_1183 ?_
  refine zl_ld (k := 2) hx hb hX hbl hL (by omega) hLs dL_law_1184 ?_
  refine lv_aload_n hx hb dL_law_1185 rfl (lv_at hl 0 rfl) ?_
  refine lv_iload_n hx hb dL_law_1186 rfl (lv_at hl 3 rfl) ?_
  refine lv_iconst (v := 3) hx hb dL_law_1187 (by decide) ?_
  refine lv_iadd hx hb dL_law_1188 ?_
  refine zl_ld (k := 3) hx hb hX hbl hL (by omega) hLs dL_law_1189 ?_
  refine lv_aload_n hx hb dL_law_1190 rfl (lv_at hl 0 rfl) ?_
  refine lv_iload_n hx hb dL_law_1191 rfl (lv_at hl 3 rfl) ?_
  refine lv_iconst (v := 4) hx hb dL_law_1192 (by decide) ?_
  refine lv_iadd hx hb dL_law_1193 ?_
  refine zl_ld (k := 4) hx hb hX hbl hL (by omega) hLs dL_law_1194 ?_
  refine lv_aload_n hx hb dL_law_1195 rfl (lv_at hl 0 rfl) ?_
  refine lv_iload_n hx hb dL_law_1196 rfl (lv_at hl 3 rfl) ?_
  refine lv_iconst (v := 5) hx hb dL_law_1197 (by decide) ?_
  refine lv_iadd hx hb dL_law_1198 ?_
  refine zl_ld (k := 5) hx hb hX hbl hL (by omega) hLs dL_law_1199 ?_
  refine zl_2i hA hL (zl_run (w := w2) (As := [.int (xs (i + 1)), .int (xs (i + 2)), .int (xs (i + 3)), .int (xs (i + 4)), .int (xs (i + 5))]) (rest := []) X2 hml hl hL.2.1 hL.2.2 h2.1 rfl zk_Law_153 (c_Model_read h2 h) rfl ⟨Nat.le_of_ble_eq_true rfl, Nat.le_of_ble_eq_true rfl⟩ ⟨Nat.le_of_ble_eq_true rfl, Nat.le_of_ble_eq_true rfl⟩ rfl (Nat.le_of_ble_eq_true rfl) dL_law_1200) (fun x2 W2 H locs h hL => ?_)
  refine lv_pop hx hb dL_law_1203 rfl ?_
  refine lv_goto (tgt := 1243) hx hb dL_law_1204 rfl ?_
  exact kk M1 W2 H locs h.2 hL
set_option maxHeartbeats 4000000 in
theorem lw_c33 {p : Program} {l : Launch} {e : Env} {s : State} {m : MethodId} {below : List Frame} {meth : Method} {c : Code} {H : Heap} {locs : List Loc} {ls : Array Slot} {w1 w2 : zWd} {M W' : zMem} {b L i : Nat} {xs : Nat → Int32} {K : zMem → zMem → Prop} (C0 : lw_At p s m meth c b L xs) (hLs : L < 2147483648) (X1 : zX w1 p s m #[Value.ref b] c code "HandToHandLaw") (X2 : zX w2 p s m #[Value.ref b] c code "HandToHandLaw") (h1 : zI_Main w1) (h2 : zI_Model w2) (hA : zLa w1 w2 s) (hi : i + 6 ≤ L) (hL : zLw w1 w2 s M W' H locs) (hl : lv_has ls 4 [(0, .ref b), (1, .ref (zad w1 0)), (2, .ref (zad w2 0)), (3, .int (nI i))]) (h : wp_Main_torn  M (fun x1 M1 => wp_Model_torn  W' (fun x2 W2 => x1 = x2 ∧ K M1 W2))) (kk : ∀ (M W' : zMem) (H : Heap) (locs : List Loc), K M W' → zLw w1 w2 s M W' H locs → W p l e room_1 s m #[Value.ref b] below meth c H locs 108 24481 (lw_Z below #[Value.ref b] s) (F0 m 1243 ls [])) : W p l e room_1 s m #[Value.ref b] below meth c H locs 108 24481 (lw_Z below #[Value.ref b] s) (F0 m 1207 ls []) := by
  obtain ⟨hx, hb, hr, hml, hown, hts, hX, hbl, hlocks, hgv⟩ := id C0
  refine lv_aload_n hx hb dL_law_1207 rfl (lv_at hl 1 rfl) ?_
  refine zl_1i hA hL (zl_run (w := w1) (As := []) (rest := []) X1 hml hl hL.1 hL.2.2 h1.1 rfl zk_Law_154 (c_Main_torn h1 h) rfl ⟨Nat.le_of_ble_eq_true rfl, Nat.le_of_ble_eq_true rfl⟩ ⟨Nat.le_of_ble_eq_true rfl, Nat.le_of_ble_eq_true rfl⟩ rfl (Nat.le_of_ble_eq_true rfl) dL_law_1208) (fun x1 M1 H locs h hL => ?_)
  refine lv_pop hx hb dL_law_1211 rfl ?_
  refine lv_aload_n hx hb dL_law_1212 rfl (lv_at hl 2 rfl) ?_
  refine zl_2i hA hL (zl_run (w := w2) (As := []) (rest := []) X2 hml hl hL.2.1 hL.2.2 h2.1 rfl zk_Law_157 (c_Model_torn h2 h) rfl ⟨Nat.le_of_ble_eq_true rfl, Nat.le_of_ble_eq_true rfl⟩ ⟨Nat.le_of_ble_eq_true rfl, Nat.le_of_ble_eq_true rfl⟩ rfl (Nat.le_of_ble_eq_true rfl) dL_law_1213) (fun x2 W2 H locs h hL => ?_)
  refine lv_pop hx hb dL_law_1216 rfl ?_
  refine lv_goto (tgt := 1243) hx hb dL_law_1217 rfl ?_
  exact kk M1 W2 H locs h.2 hL
set_option maxHeartbeats 4000000 in
theorem lw_c34 {p : Program} {l : Launch} {e : Env} {s : State} {m : MethodId} {below : List Frame} {meth : Method} {c : Code} {H : Heap} {locs : List Loc} {ls : Array Slot} {w1 w2 : zWd} {M W' : zMem} {b L i : Nat} {xs : Nat → Int32} {K : zMem → zMem → Prop} (C0 : lw_At p s m meth c b L xs) (hLs : L < 2147483648) (X1 : zX w1 p s m #[Value.ref b] c code "HandToHandLaw") (X2 : zX w2 p s m #[Value.ref b] c code "HandToHandLaw") (h1 : zI_Main w1) (h2 : zI_Model w2) (hA : zLa w1 w2 s) (hi : i + 6 ≤ L) (hL : zLw w1 w2 s M W' H locs) (hl : lv_has ls 4 [(0, .ref b), (1, .ref (zad w1 0)), (2, .ref (zad w2 0)), (3, .int (nI i))]) (h : wp_Main_count (xs (i + 1)) M (fun x1 M1 => wp_Model_count (xs (i + 1)) W' (fun x2 W2 => x1 = x2 ∧ K M1 W2))) (kk : ∀ (M W' : zMem) (H : Heap) (locs : List Loc), K M W' → zLw w1 w2 s M W' H locs → W p l e room_1 s m #[Value.ref b] below meth c H locs 108 24481 (lw_Z below #[Value.ref b] s) (F0 m 1243 ls [])) : W p l e room_1 s m #[Value.ref b] below meth c H locs 108 24481 (lw_Z below #[Value.ref b] s) (F0 m 1220 ls []) := by
  obtain ⟨hx, hb, hr, hml, hown, hts, hX, hbl, hlocks, hgv⟩ := id C0
  refine lv_aload_n hx hb dL_law_1220 rfl (lv_at hl 1 rfl) ?_
  refine lv_aload_n hx hb dL_law_1221 rfl (lv_at hl 0 rfl) ?_
  refine lv_iload_n hx hb dL_law_1222 rfl (lv_at hl 3 rfl) ?_
  refine lv_iconst (v := 1) hx hb dL_law_1223 (by decide) ?_
  refine lv_iadd hx hb dL_law_1224 ?_
  refine zl_ld (k := 1) hx hb hX hbl hL (by omega) hLs dL_law_1225 ?_
  refine zl_1i hA hL (zl_run (w := w1) (As := [.int (xs (i + 1))]) (rest := []) X1 hml hl hL.1 hL.2.2 h1.1 rfl zk_Law_158 (c_Main_count h1 h) rfl ⟨Nat.le_of_ble_eq_true rfl, Nat.le_of_ble_eq_true rfl⟩ ⟨Nat.le_of_ble_eq_true rfl, Nat.le_of_ble_eq_true rfl⟩ rfl (Nat.le_of_ble_eq_true rfl) dL_law_1226) (fun x1 M1 H locs h hL => ?_)
  refine lv_pop hx hb dL_law_1229 rfl ?_
  refine lv_aload_n hx hb dL_law_1230 rfl (lv_at hl 2 rfl) ?_
  refine lv_aload_n hx hb dL_law_1231 rfl (lv_at hl 0 rfl) ?_
  refine lv_iload_n hx hb dL_law_1232 rfl (lv_at hl 3 rfl) ?_
  refine lv_iconst (v := 1) hx hb dL_law_1233 (by decide) ?_
  refine lv_iadd hx hb dL_law_1234 ?_
  refine zl_ld (k := 1) hx hb hX hbl hL (by omega) hLs dL_law_1235 ?_
  refine zl_2i hA hL (zl_run (w := w2) (As := [.int (xs (i + 1))]) (rest := []) X2 hml hl hL.2.1 hL.2.2 h2.1 rfl zk_Law_161 (c_Model_count h2 h) rfl ⟨Nat.le_of_ble_eq_true rfl, Nat.le_of_ble_eq_true rfl⟩ ⟨Nat.le_of_ble_eq_true rfl, Nat.le_of_ble_eq_true rfl⟩ rfl (Nat.le_of_ble_eq_true rfl) dL_law_1236) (fun x2 W2 H locs h hL => ?_)
  refine lv_pop hx hb dL_law_1239 rfl ?_
  refine lv_goto (tgt := 1243) hx hb dL_law_1240 rfl ?_
  exact kk M1 W2 H locs h.2 hL
theorem zl_len {L i : Nat} (hL : L < 1000) (hi : i < 2000) (h : ¬ nI L - 6 < nI i) : i + 6 ≤ L := by
  rcases Nat.lt_or_ge L 6 with q | q
  · refine absurd (Int32.lt_of_lt_of_le (b := 0) ?_ (nI_pos' (by omega))) h
    rcases (show L = 0 ∨ L = 1 ∨ L = 2 ∨ L = 3 ∨ L = 4 ∨ L = 5 by omega) with rfl | rfl | rfl | rfl | rfl | rfl <;> decide
  · have e : nI L - 6 = nI (L - 6) := q_sub q
    rw [e, nI_ltI (by omega) (by omega)] at h
    omega
set_option maxHeartbeats 4000000 in
theorem law_loop {p : Program} {l : Launch} {e : Env} {s : State} {m : MethodId} {below : List Frame} {meth : Method} {c : Code} {w1 w2 : zWd} {b L : Nat} {xs : Nat → Int32} (I : Nat → zMem → zMem → Prop) (hLN : L ≤ 384) (C0 : lw_At p s m meth c b L xs) (X1 : zX w1 p s m #[Value.ref b] c code "HandToHandLaw") (X2 : zX w2 p s m #[Value.ref b] c code "HandToHandLaw") (h1 : zI_Main w1) (h2 : zI_Model w2) (hA : zLa w1 w2 s)
    (hI : ∀ i M W', i + 6 ≤ L → I i M W' → zLaw (xs i &&& 63) (fun k => xs (i + k)) M W' (fun M' W'' => I (i + 6) M' W'')) :
    ∀ (n i : Nat) (M W' : zMem) (H : Heap) (locs : List Loc) (ls : Array Slot), L + 1 ≤ i + n → i ≤ L + 6 → I i M W' → zLw w1 w2 s M W' H locs → lv_has ls 4 [(0, .ref b), (1, .ref (zad w1 0)), (2, .ref (zad w2 0)), (3, .int (nI i))] → W p l e room_1 s m #[Value.ref b] below meth c H locs 108 24481 (lw_Z below #[Value.ref b] s) (F0 m 18 ls []) := by
  intro n
  induction n with
  | zero =>
    intro i M W' H locs ls hn hiL hin hL hl
    obtain ⟨hx, hb, hr, hml, hown, hts, hX, hbl, hlocks, hgv⟩ := id C0
    refine lv_iload_n hx hb dL_law_18 rfl (lv_at hl 3 rfl) ?_
    refine lv_aload_n hx hb dL_law_19 rfl (lv_at hl 0 rfl) ?_
    refine va_slen hx hb hX hbl (A := fun q => s.heap.size ≤ q) (Nat.not_le.mpr hbl) hL.2.2 dL_law_20 ?_
    refine lv_bipush (v := 6) hx hb dL_law_21 (by decide) ?_
    refine lv_isub hx hb dL_law_23 ?_
    refine lv_icmp_gt (tgt := 1249) hx hb dL_law_24 rfl (fun _ => ?_) (fun c0 => ?_)
    · refine lv_iconst (v := 1) hx hb dL_law_1249 (by decide) ?_
      refine va_forget (fun q hq => hL.2.2.2.2 q hq) ?_
      refine W.widen (k := 600000) (n := 7302250) (Nat.le_of_ble_eq_true rfl) (Nat.le_of_ble_eq_true rfl) ?_
      exact lw_ret hx hb hr hlocks dL_law_1250
    have hi : i + 6 ≤ L := zl_len (by omega) (by omega) c0
    omega
  | succ n ih =>
    intro i M W' H locs ls hn hiL hin hL hl
    obtain ⟨hx, hb, hr, hml, hown, hts, hX, hbl, hlocks, hgv⟩ := id C0
    refine lv_iload_n hx hb dL_law_18 rfl (lv_at hl 3 rfl) ?_
    refine lv_aload_n hx hb dL_law_19 rfl (lv_at hl 0 rfl) ?_
    refine va_slen hx hb hX hbl (A := fun q => s.heap.size ≤ q) (Nat.not_le.mpr hbl) hL.2.2 dL_law_20 ?_
    refine lv_bipush (v := 6) hx hb dL_law_21 (by decide) ?_
    refine lv_isub hx hb dL_law_23 ?_
    refine lv_icmp_gt (tgt := 1249) hx hb dL_law_24 rfl (fun _ => ?_) (fun c0 => ?_)
    · refine lv_iconst (v := 1) hx hb dL_law_1249 (by decide) ?_
      refine va_forget (fun q hq => hL.2.2.2.2 q hq) ?_
      refine W.widen (k := 600000) (n := 7302250) (Nat.le_of_ble_eq_true rfl) (Nat.le_of_ble_eq_true rfl) ?_
      exact lw_ret hx hb hr hlocks dL_law_1250
    have hi : i + 6 ≤ L := zl_len (by omega) (by omega) c0
    refine lv_aload_n hx hb dL_law_27 rfl (lv_at hl 0 rfl) ?_
    refine lv_iload_n hx hb dL_law_28 rfl (lv_at hl 3 rfl) ?_
    refine zl_ld0 hx hb hX hbl hL (by omega) (by omega) dL_law_29 ?_
    refine lv_bipush (v := 63) hx hb dL_law_30 (by decide) ?_
    refine lv_iand hx hb dL_law_32 ?_
    refine lv_topi (fun xn exn => ?_)
    have h := hI i M W' hi hin
    rw [← exn] at h
    have next : ∀ (M W' : zMem) (H : Heap) (locs : List Loc), I (i + 6) M W' → zLw w1 w2 s M W' H locs → W p l e room_1 s m #[Value.ref b] below meth c H locs 108 24481 (lw_Z below #[Value.ref b] s) (F0 m 1243 ls []) := fun M W' H locs h hL => by
      refine lv_iinc (v := nI (i + 6)) (lv' := [(3, .int (nI (i + 6))), (0, .ref b), (1, .ref (zad w1 0)), (2, .ref (zad w2 0))]) hx hb dL_law_1243 hl (k := 3) rfl (by rw [show Int32.ofInt 6 = nI 6 from by decide]; exact q_add i 6) (Nat.le_of_ble_eq_true rfl) rfl (fun ls hl => ?_)
      refine lv_goto (tgt := 18) hx hb dL_law_1246 rfl ?_
      exact ih (i + 6) M W' H locs ls (by omega) (by omega) h hL (lv_sub hl [1, 2, 3, 0] rfl)
    by_cases c0 : xn = 0
    · refine lv_tableIn (off := 155) (tgt := 188) hx hb dL_law_33 (by rw [c0]; decide) (by rw [c0]; decide) (by rw [c0]; rfl) rfl ?_
      exact lw_c0 C0 (by omega) X1 X2 h1 h2 hA hi hL hl (h.1 c0) next
    replace h := h.2
    by_cases c1 : xn = 1
    · refine lv_tableIn (off := 208) (tgt := 241) hx hb dL_law_33 (by rw [c1]; decide) (by rw [c1]; decide) (by rw [c1]; rfl) rfl ?_
      exact lw_c1 C0 (by omega) X1 X2 h1 h2 hA hi hL hl (h.1 c1) next
    replace h := h.2
    by_cases c2 : xn = 2
    · refine lv_tableIn (off := 231) (tgt := 264) hx hb dL_law_33 (by rw [c2]; decide) (by rw [c2]; decide) (by rw [c2]; rfl) rfl ?_
      exact lw_c2 C0 (by omega) X1 X2 h1 h2 hA hi hL hl (h.1 c2) next
    replace h := h.2
    by_cases c3 : xn = 3
    · refine lv_tableIn (off := 244) (tgt := 277) hx hb dL_law_33 (by rw [c3]; decide) (by rw [c3]; decide) (by rw [c3]; rfl) rfl ?_
      exact lw_c3 C0 (by omega) X1 X2 h1 h2 hA hi hL hl (h.1 c3) next
    replace h := h.2
    by_cases c4 : xn = 4
    · refine lv_tableIn (off := 257) (tgt := 290) hx hb dL_law_33 (by rw [c4]; decide) (by rw [c4]; decide) (by rw [c4]; rfl) rfl ?_
      exact lw_c4 C0 (by omega) X1 X2 h1 h2 hA hi hL hl (h.1 c4) next
    replace h := h.2
    by_cases c5 : xn = 5
    · refine lv_tableIn (off := 280) (tgt := 313) hx hb dL_law_33 (by rw [c5]; decide) (by rw [c5]; decide) (by rw [c5]; rfl) rfl ?_
      exact lw_c5 C0 (by omega) X1 X2 h1 h2 hA hi hL hl (h.1 c5) next
    replace h := h.2
    by_cases c6 : xn = 6
    · refine lv_tableIn (off := 313) (tgt := 346) hx hb dL_law_33 (by rw [c6]; decide) (by rw [c6]; decide) (by rw [c6]; rfl) rfl ?_
      exact lw_c6 C0 (by omega) X1 X2 h1 h2 hA hi hL hl (h.1 c6) next
    replace h := h.2
    by_cases c7 : xn = 7
    · refine lv_tableIn (off := 346) (tgt := 379) hx hb dL_law_33 (by rw [c7]; decide) (by rw [c7]; decide) (by rw [c7]; rfl) rfl ?_
      exact lw_c7 C0 (by omega) X1 X2 h1 h2 hA hi hL hl (h.1 c7) next
    replace h := h.2
    by_cases c8 : xn = 8
    · refine lv_tableIn (off := 389) (tgt := 422) hx hb dL_law_33 (by rw [c8]; decide) (by rw [c8]; decide) (by rw [c8]; rfl) rfl ?_
      exact lw_c8 C0 (by omega) X1 X2 h1 h2 hA hi hL hl (h.1 c8) next
    replace h := h.2
    by_cases c9 : xn = 9
    · refine lv_tableIn (off := 402) (tgt := 435) hx hb dL_law_33 (by rw [c9]; decide) (by rw [c9]; decide) (by rw [c9]; rfl) rfl ?_
      exact lw_c9 C0 (by omega) X1 X2 h1 h2 hA hi hL hl (h.1 c9) next
    replace h := h.2
    by_cases c10 : xn = 10
    · refine lv_tableIn (off := 425) (tgt := 458) hx hb dL_law_33 (by rw [c10]; decide) (by rw [c10]; decide) (by rw [c10]; rfl) rfl ?_
      exact lw_c10 C0 (by omega) X1 X2 h1 h2 hA hi hL hl (h.1 c10) next
    replace h := h.2
    by_cases c11 : xn = 11
    · refine lv_tableIn (off := 438) (tgt := 471) hx hb dL_law_33 (by rw [c11]; decide) (by rw [c11]; decide) (by rw [c11]; rfl) rfl ?_
      exact lw_c11 C0 (by omega) X1 X2 h1 h2 hA hi hL hl (h.1 c11) next
    replace h := h.2
    by_cases c12 : xn = 12
    · refine lv_tableIn (off := 461) (tgt := 494) hx hb dL_law_33 (by rw [c12]; decide) (by rw [c12]; decide) (by rw [c12]; rfl) rfl ?_
      exact lw_c12 C0 (by omega) X1 X2 h1 h2 hA hi hL hl (h.1 c12) next
    replace h := h.2
    by_cases c13 : xn = 13
    · refine lv_tableIn (off := 494) (tgt := 527) hx hb dL_law_33 (by rw [c13]; decide) (by rw [c13]; decide) (by rw [c13]; rfl) rfl ?_
      exact lw_c13 C0 (by omega) X1 X2 h1 h2 hA hi hL hl (h.1 c13) next
    replace h := h.2
    by_cases c14 : xn = 14
    · refine lv_tableIn (off := 527) (tgt := 560) hx hb dL_law_33 (by rw [c14]; decide) (by rw [c14]; decide) (by rw [c14]; rfl) rfl ?_
      exact lw_c14 C0 (by omega) X1 X2 h1 h2 hA hi hL hl (h.1 c14) next
    replace h := h.2
    by_cases c15 : xn = 15
    · refine lv_tableIn (off := 560) (tgt := 593) hx hb dL_law_33 (by rw [c15]; decide) (by rw [c15]; decide) (by rw [c15]; rfl) rfl ?_
      exact lw_c15 C0 (by omega) X1 X2 h1 h2 hA hi hL hl (h.1 c15) next
    replace h := h.2
    by_cases c16 : xn = 16
    · refine lv_tableIn (off := 583) (tgt := 616) hx hb dL_law_33 (by rw [c16]; decide) (by rw [c16]; decide) (by rw [c16]; rfl) rfl ?_
      exact lw_c16 C0 (by omega) X1 X2 h1 h2 hA hi hL hl (h.1 c16) next
    replace h := h.2
    by_cases c17 : xn = 17
    · refine lv_tableIn (off := 606) (tgt := 639) hx hb dL_law_33 (by rw [c17]; decide) (by rw [c17]; decide) (by rw [c17]; rfl) rfl ?_
      exact lw_c17 C0 (by omega) X1 X2 h1 h2 hA hi hL hl (h.1 c17) next
    replace h := h.2
    by_cases c18 : xn = 18
    · refine lv_tableIn (off := 639) (tgt := 672) hx hb dL_law_33 (by rw [c18]; decide) (by rw [c18]; decide) (by rw [c18]; rfl) rfl ?_
      exact lw_c18 C0 (by omega) X1 X2 h1 h2 hA hi hL hl (h.1 c18) next
    replace h := h.2
    by_cases c19 : xn = 19
    · refine lv_tableIn (off := 672) (tgt := 705) hx hb dL_law_33 (by rw [c19]; decide) (by rw [c19]; decide) (by rw [c19]; rfl) rfl ?_
      exact lw_c19 C0 (by omega) X1 X2 h1 h2 hA hi hL hl (h.1 c19) next
    replace h := h.2
    by_cases c20 : xn = 20
    · refine lv_tableIn (off := 715) (tgt := 748) hx hb dL_law_33 (by rw [c20]; decide) (by rw [c20]; decide) (by rw [c20]; rfl) rfl ?_
      exact lw_c20 C0 (by omega) X1 X2 h1 h2 hA hi hL hl (h.1 c20) next
    replace h := h.2
    by_cases c21 : xn = 21
    · refine lv_tableIn (off := 778) (tgt := 811) hx hb dL_law_33 (by rw [c21]; decide) (by rw [c21]; decide) (by rw [c21]; rfl) rfl ?_
      exact lw_c21 C0 (by omega) X1 X2 h1 h2 hA hi hL hl (h.1 c21) next
    replace h := h.2
    by_cases c22 : xn = 22
    · refine lv_tableIn (off := 801) (tgt := 834) hx hb dL_law_33 (by rw [c22]; decide) (by rw [c22]; decide) (by rw [c22]; rfl) rfl ?_
      exact lw_c22 C0 (by omega) X1 X2 h1 h2 hA hi hL hl (h.1 c22) next
    replace h := h.2
    by_cases c23 : xn = 23
    · refine lv_tableIn (off := 834) (tgt := 867) hx hb dL_law_33 (by rw [c23]; decide) (by rw [c23]; decide) (by rw [c23]; rfl) rfl ?_
      exact lw_c23 C0 (by omega) X1 X2 h1 h2 hA hi hL hl (h.1 c23) next
    replace h := h.2
    by_cases c24 : xn = 24
    · refine lv_tableIn (off := 857) (tgt := 890) hx hb dL_law_33 (by rw [c24]; decide) (by rw [c24]; decide) (by rw [c24]; rfl) rfl ?_
      exact lw_c24 C0 (by omega) X1 X2 h1 h2 hA hi hL hl (h.1 c24) next
    replace h := h.2
    by_cases c25 : xn = 25
    · refine lv_tableIn (off := 880) (tgt := 913) hx hb dL_law_33 (by rw [c25]; decide) (by rw [c25]; decide) (by rw [c25]; rfl) rfl ?_
      exact lw_c25 C0 (by omega) X1 X2 h1 h2 hA hi hL hl (h.1 c25) next
    replace h := h.2
    by_cases c26 : xn = 26
    · refine lv_tableIn (off := 913) (tgt := 946) hx hb dL_law_33 (by rw [c26]; decide) (by rw [c26]; decide) (by rw [c26]; rfl) rfl ?_
      exact lw_c26 C0 (by omega) X1 X2 h1 h2 hA hi hL hl (h.1 c26) next
    replace h := h.2
    by_cases c27 : xn = 27
    · refine lv_tableIn (off := 936) (tgt := 969) hx hb dL_law_33 (by rw [c27]; decide) (by rw [c27]; decide) (by rw [c27]; rfl) rfl ?_
      exact lw_c27 C0 (by omega) X1 X2 h1 h2 hA hi hL hl (h.1 c27) next
    replace h := h.2
    by_cases c28 : xn = 28
    · refine lv_tableIn (off := 969) (tgt := 1002) hx hb dL_law_33 (by rw [c28]; decide) (by rw [c28]; decide) (by rw [c28]; rfl) rfl ?_
      exact lw_c28 C0 (by omega) X1 X2 h1 h2 hA hi hL hl (h.1 c28) next
    replace h := h.2
    by_cases c29 : xn = 29
    · refine lv_tableIn (off := 992) (tgt := 1025) hx hb dL_law_33 (by rw [c29]; decide) (by rw [c29]; decide) (by rw [c29]; rfl) rfl ?_
      exact lw_c29 C0 (by omega) X1 X2 h1 h2 hA hi hL hl (h.1 c29) next
    replace h := h.2
    by_cases c30 : xn = 30
    · refine lv_tableIn (off := 1025) (tgt := 1058) hx hb dL_law_33 (by rw [c30]; decide) (by rw [c30]; decide) (by rw [c30]; rfl) rfl ?_
      exact lw_c30 C0 (by omega) X1 X2 h1 h2 hA hi hL hl (h.1 c30) next
    replace h := h.2
    by_cases c31 : xn = 31
    · refine lv_tableIn (off := 1068) (tgt := 1101) hx hb dL_law_33 (by rw [c31]; decide) (by rw [c31]; decide) (by rw [c31]; rfl) rfl ?_
      exact lw_c31 C0 (by omega) X1 X2 h1 h2 hA hi hL hl (h.1 c31) next
    replace h := h.2
    by_cases c32 : xn = 32
    · refine lv_tableIn (off := 1111) (tgt := 1144) hx hb dL_law_33 (by rw [c32]; decide) (by rw [c32]; decide) (by rw [c32]; rfl) rfl ?_
      exact lw_c32 C0 (by omega) X1 X2 h1 h2 hA hi hL hl (h.1 c32) next
    replace h := h.2
    by_cases c33 : xn = 33
    · refine lv_tableIn (off := 1174) (tgt := 1207) hx hb dL_law_33 (by rw [c33]; decide) (by rw [c33]; decide) (by rw [c33]; rfl) rfl ?_
      exact lw_c33 C0 (by omega) X1 X2 h1 h2 hA hi hL hl (h.1 c33) next
    replace h := h.2
    by_cases c34 : xn = 34
    · refine lv_tableIn (off := 1187) (tgt := 1220) hx hb dL_law_33 (by rw [c34]; decide) (by rw [c34]; decide) (by rw [c34]; rfl) rfl ?_
      exact lw_c34 C0 (by omega) X1 X2 h1 h2 hA hi hL hl (h.1 c34) next
    replace h := h.2
    have hno : ∀ j, j ≤ 34 → xn ≠ nI j := fun j hj => by
      rcases (show j = 0 ∨ j = 1 ∨ j = 2 ∨ j = 3 ∨ j = 4 ∨ j = 5 ∨ j = 6 ∨ j = 7 ∨ j = 8 ∨ j = 9 ∨ j = 10 ∨ j = 11 ∨ j = 12 ∨ j = 13 ∨ j = 14 ∨ j = 15 ∨ j = 16 ∨ j = 17 ∨ j = 18 ∨ j = 19 ∨ j = 20 ∨ j = 21 ∨ j = 22 ∨ j = 23 ∨ j = 24 ∨ j = 25 ∨ j = 26 ∨ j = 27 ∨ j = 28 ∨ j = 29 ∨ j = 30 ∨ j = 31 ∨ j = 32 ∨ j = 33 ∨ j = 34 by omega) with rfl | rfl | rfl | rfl | rfl | rfl | rfl | rfl | rfl | rfl | rfl | rfl | rfl | rfl | rfl | rfl | rfl | rfl | rfl | rfl | rfl | rfl | rfl | rfl | rfl | rfl | rfl | rfl | rfl | rfl | rfl | rfl | rfl | rfl | rfl
      · exact c0
      · exact c1
      · exact c2
      · exact c3
      · exact c4
      · exact c5
      · exact c6
      · exact c7
      · exact c8
      · exact c9
      · exact c10
      · exact c11
      · exact c12
      · exact c13
      · exact c14
      · exact c15
      · exact c16
      · exact c17
      · exact c18
      · exact c19
      · exact c20
      · exact c21
      · exact c22
      · exact c23
      · exact c24
      · exact c25
      · exact c26
      · exact c27
      · exact c28
      · exact c29
      · exact c30
      · exact c31
      · exact c32
      · exact c33
      · exact c34
    refine lv_tableOut (tgt := 1243) hx hb dL_law_33 (zsw 34 (Nat.le_of_ble_eq_true rfl) hno) rfl ?_
    exact next M W' H locs (h hno) hL
