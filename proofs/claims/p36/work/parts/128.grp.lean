theorem lg_cmp_self (x : Int64) : lg_cmp x x = 0 := by
  have h1 := lg_cmp_lt0 x x
  have h2 := lg_cmp_0lt x x
  generalize lg_cmp x x = g at h1 h2
  have n1 : ¬ g < 0 := by rw [h1]; exact Int64.lt_irrefl
  have n2 : ¬ 0 < g := by rw [h2]; exact Int64.lt_irrefl
  exact Int32.le_antisymm (Int32.not_lt.mp n2) (Int32.not_lt.mp n1)
theorem zk_Law_15 : zCV "HandToHandLaw" 15 "HandToHand" ⟨"HandToHand", "feed", "(J)I"⟩ prog_1_method_2_code 4 (Option.some .int) 1 := ⟨zgoodV zu_510 zu_511 zu_512 zu_1 zu_513, by decide +kernel⟩
theorem zk_Law_19 : zCV "HandToHandLaw" 19 "HandToHandModel" ⟨"HandToHandModel", "feed", "(J)I"⟩ prog_13_method_4_code 4 (Option.some .int) 1 := ⟨zgoodV zu_1141 zu_1142 zu_1143 zu_12 zu_1144, by decide +kernel⟩
theorem zk_Law_20 : zCV "HandToHandLaw" 20 "HandToHand" ⟨"HandToHand", "end", "(I)I"⟩ prog_1_method_3_code 3 (Option.some .int) 1 := ⟨zgoodV zu_514 zu_515 zu_516 zu_1 zu_517, by decide +kernel⟩
theorem zk_Law_24 : zCV "HandToHandLaw" 24 "HandToHandModel" ⟨"HandToHandModel", "end", "(I)I"⟩ prog_13_method_5_code 3 (Option.some .int) 1 := ⟨zgoodV zu_1145 zu_1146 zu_1147 zu_12 zu_1148, by decide +kernel⟩
theorem zk_Law_25 : zCV "HandToHandLaw" 25 "HandToHand" ⟨"HandToHand", "text", "()I"⟩ prog_1_method_4_code 3 (Option.some .int) 0 := ⟨zgoodV zu_518 zu_519 zu_520 zu_1 zu_521, by decide +kernel⟩
theorem zk_Law_29 : zCV "HandToHandLaw" 29 "HandToHandModel" ⟨"HandToHandModel", "text", "()I"⟩ prog_13_method_20_code 3 (Option.some .int) 0 := ⟨zgoodV zu_1152 zu_1153 zu_1154 zu_12 zu_1155, by decide +kernel⟩
theorem zk_Law_30 : zCV "HandToHandLaw" 30 "HandToHand" ⟨"HandToHand", "fault", "()I"⟩ prog_1_method_5_code 1 (Option.some .int) 0 := ⟨zgoodV zu_691 zu_692 zu_693 zu_1 zu_694, by decide +kernel⟩
theorem zk_Law_33 : zCV "HandToHandLaw" 33 "HandToHandModel" ⟨"HandToHandModel", "fault", "()I"⟩ prog_13_method_21_code 1 (Option.some .int) 0 := ⟨zgoodV zu_1302 zu_1303 zu_1304 zu_12 zu_1305, by decide +kernel⟩
theorem zk_Law_34 : zCV "HandToHandLaw" 34 "HandToHand" ⟨"HandToHand", "rule", "(I)I"⟩ prog_1_method_6_code 2 (Option.some .int) 1 := ⟨zgoodV zu_695 zu_696 zu_697 zu_1 zu_698, by decide +kernel⟩
theorem zk_Law_37 : zCV "HandToHandLaw" 37 "HandToHandModel" ⟨"HandToHandModel", "rule", "(I)I"⟩ prog_13_method_25_code 2 (Option.some .int) 1 := ⟨zgoodV zu_1306 zu_1307 zu_1308 zu_12 zu_1309, by decide +kernel⟩
theorem zk_Law_38 : zCV "HandToHandLaw" 38 "HandToHand" ⟨"HandToHand", "units", "(II)I"⟩ prog_1_method_7_code 3 (Option.some .int) 2 := ⟨zgoodV zu_699 zu_700 zu_701 zu_1 zu_702, by decide +kernel⟩
theorem zk_Law_42 : zCV "HandToHandLaw" 42 "HandToHandModel" ⟨"HandToHandModel", "units", "(II)I"⟩ prog_13_method_26_code 3 (Option.some .int) 2 := ⟨zgoodV zu_1316 zu_1317 zu_1318 zu_12 zu_1319, by decide +kernel⟩
theorem zk_Law_43 : zCV "HandToHandLaw" 43 "HandToHand" ⟨"HandToHand", "pace", "(II)I"⟩ prog_1_method_8_code 3 (Option.some .int) 2 := ⟨zgoodV zu_708 zu_709 zu_710 zu_1 zu_711, by decide +kernel⟩
theorem zk_Law_46 : zCV "HandToHandLaw" 46 "HandToHandModel" ⟨"HandToHandModel", "pace", "(II)I"⟩ prog_13_method_27_code 3 (Option.some .int) 2 := ⟨zgoodV zu_1324 zu_1325 zu_1326 zu_12 zu_1327, by decide +kernel⟩
theorem zk_Law_47 : zCV "HandToHandLaw" 47 "HandToHand" ⟨"HandToHand", "setPace", "(III)I"⟩ prog_1_method_9_code 5 (Option.some .int) 3 := ⟨zgoodV zu_720 zu_721 zu_722 zu_1 zu_723, by decide +kernel⟩
theorem zk_Law_51 : zCV "HandToHandLaw" 51 "HandToHandModel" ⟨"HandToHandModel", "setPace", "(III)I"⟩ prog_13_method_28_code 5 (Option.some .int) 3 := ⟨zgoodV zu_1328 zu_1329 zu_1330 zu_12 zu_1331, by decide +kernel⟩
theorem zk_Law_52 : zCV "HandToHandLaw" 52 "HandToHand" ⟨"HandToHand", "begin", "()I"⟩ prog_1_method_10_code 2 (Option.some .int) 0 := ⟨zgoodV zu_727 zu_728 zu_729 zu_1 zu_730, by decide +kernel⟩
theorem zk_Law_55 : zCV "HandToHandLaw" 55 "HandToHandModel" ⟨"HandToHandModel", "begin", "()I"⟩ prog_13_method_50_code 2 (Option.some .int) 0 := ⟨zgoodV zu_1333 zu_1334 zu_1335 zu_12 zu_1336, by decide +kernel⟩
theorem zk_Law_56 : zCV "HandToHandLaw" 56 "HandToHand" ⟨"HandToHand", "go", "(I)I"⟩ prog_1_method_11_code 7 (Option.some .int) 1 := ⟨zgoodV zu_731 zu_732 zu_733 zu_1 zu_734, by decide +kernel⟩
theorem zk_Law_59 : zCV "HandToHandLaw" 59 "HandToHandModel" ⟨"HandToHandModel", "go", "(I)I"⟩ prog_13_method_51_code 5 (Option.some .int) 1 := ⟨zgoodV zu_1337 zu_1338 zu_1339 zu_12 zu_1340, by decide +kernel⟩
theorem zk_Law_60 : zCV "HandToHandLaw" 60 "HandToHand" ⟨"HandToHand", "night", "()I"⟩ prog_1_method_12_code 2 (Option.some .int) 0 := ⟨zgoodV zu_743 zu_744 zu_745 zu_1 zu_746, by decide +kernel⟩
theorem zk_Law_63 : zCV "HandToHandLaw" 63 "HandToHandModel" ⟨"HandToHandModel", "night", "()I"⟩ prog_13_method_52_code 3 (Option.some .int) 0 := ⟨zgoodV zu_1346 zu_1347 zu_1348 zu_12 zu_1349, by decide +kernel⟩
theorem zk_Law_64 : zCV "HandToHandLaw" 64 "HandToHand" ⟨"HandToHand", "now", "(I)I"⟩ prog_1_method_13_code 2 (Option.some .int) 1 := ⟨zgoodV zu_752 zu_753 zu_754 zu_1 zu_755, by decide +kernel⟩
theorem zk_Law_67 : zCV "HandToHandLaw" 67 "HandToHandModel" ⟨"HandToHandModel", "now", "(I)I"⟩ prog_13_method_53_code 2 (Option.some .int) 1 := ⟨zgoodV zu_1350 zu_1351 zu_1352 zu_12 zu_1353, by decide +kernel⟩
theorem zk_Law_68 : zCV "HandToHandLaw" 68 "HandToHand" ⟨"HandToHand", "hand", "(II)I"⟩ prog_1_method_14_code 4 (Option.some .int) 2 := ⟨zgoodV zu_756 zu_757 zu_758 zu_1 zu_759, by decide +kernel⟩
theorem zk_Law_71 : zCV "HandToHandLaw" 71 "HandToHandModel" ⟨"HandToHandModel", "hand", "(II)I"⟩ prog_13_method_54_code 3 (Option.some .int) 2 := ⟨zgoodV zu_1354 zu_1355 zu_1356 zu_12 zu_1357, by decide +kernel⟩
theorem zk_Law_72 : zCV "HandToHandLaw" 72 "HandToHand" ⟨"HandToHand", "learnt", "(II)I"⟩ prog_1_method_15_code 3 (Option.some .int) 2 := ⟨zgoodV zu_760 zu_761 zu_762 zu_1 zu_763, by decide +kernel⟩
theorem zk_Law_75 : zCV "HandToHandLaw" 75 "HandToHandModel" ⟨"HandToHandModel", "learnt", "(II)I"⟩ prog_13_method_55_code 3 (Option.some .int) 2 := ⟨zgoodV zu_1359 zu_1360 zu_1361 zu_12 zu_1362, by decide +kernel⟩
theorem zk_Law_76 : zCV "HandToHandLaw" 76 "HandToHand" ⟨"HandToHand", "takes", "(II)I"⟩ prog_1_method_16_code 3 (Option.some .int) 2 := ⟨zgoodV zu_764 zu_765 zu_766 zu_1 zu_767, by decide +kernel⟩
theorem zk_Law_79 : zCV "HandToHandLaw" 79 "HandToHandModel" ⟨"HandToHandModel", "takes", "(II)I"⟩ prog_13_method_56_code 3 (Option.some .int) 2 := ⟨zgoodV zu_1363 zu_1364 zu_1365 zu_12 zu_1366, by decide +kernel⟩
theorem zk_Law_80 : zCV "HandToHandLaw" 80 "HandToHand" ⟨"HandToHand", "keep", "(I)I"⟩ prog_1_method_17_code 3 (Option.some .int) 1 := ⟨zgoodV zu_769 zu_770 zu_771 zu_1 zu_772, by decide +kernel⟩
theorem zk_Law_83 : zCV "HandToHandLaw" 83 "HandToHandModel" ⟨"HandToHandModel", "keep", "(I)I"⟩ prog_13_method_57_code 3 (Option.some .int) 1 := ⟨zgoodV zu_1367 zu_1368 zu_1369 zu_12 zu_1370, by decide +kernel⟩
theorem zk_Law_84 : zCV "HandToHandLaw" 84 "HandToHand" ⟨"HandToHand", "back", "(I)I"⟩ prog_1_method_18_code 2 (Option.some .int) 1 := ⟨zgoodV zu_778 zu_779 zu_780 zu_1 zu_781, by decide +kernel⟩
theorem zk_Law_87 : zCV "HandToHandLaw" 87 "HandToHandModel" ⟨"HandToHandModel", "back", "(I)I"⟩ prog_13_method_58_code 3 (Option.some .int) 1 := ⟨zgoodV zu_1371 zu_1372 zu_1373 zu_12 zu_1374, by decide +kernel⟩
theorem zk_Law_88 : zCV "HandToHandLaw" 88 "HandToHand" ⟨"HandToHand", "run", "(II)I"⟩ prog_1_method_19_code 3 (Option.some .int) 2 := ⟨zgoodV zu_782 zu_783 zu_784 zu_1 zu_785, by decide +kernel⟩
theorem zk_Law_91 : zCV "HandToHandLaw" 91 "HandToHandModel" ⟨"HandToHandModel", "run", "(II)I"⟩ prog_13_method_64_code 7 (Option.some .int) 2 := ⟨zgoodV zu_1375 zu_1376 zu_1377 zu_12 zu_1378, by decide +kernel⟩
theorem zk_Law_92 : zCV "HandToHandLaw" 92 "HandToHand" ⟨"HandToHand", "waits", "(II)I"⟩ prog_1_method_20_code 3 (Option.some .int) 2 := ⟨zgoodV zu_806 zu_807 zu_808 zu_1 zu_809, by decide +kernel⟩
theorem zk_Law_95 : zCV "HandToHandLaw" 95 "HandToHandModel" ⟨"HandToHandModel", "waits", "(II)I"⟩ prog_13_method_65_code 3 (Option.some .int) 2 := ⟨zgoodV zu_1399 zu_1400 zu_1401 zu_12 zu_1402, by decide +kernel⟩
theorem zk_Law_96 : zCV "HandToHandLaw" 96 "HandToHand" ⟨"HandToHand", "over", "(III)I"⟩ prog_1_method_21_code 4 (Option.some .int) 3 := ⟨zgoodV zu_810 zu_811 zu_812 zu_1 zu_813, by decide +kernel⟩
theorem zk_Law_99 : zCV "HandToHandLaw" 99 "HandToHandModel" ⟨"HandToHandModel", "over", "(III)I"⟩ prog_13_method_67_code 4 (Option.some .int) 3 := ⟨zgoodV zu_1403 zu_1404 zu_1405 zu_12 zu_1406, by decide +kernel⟩
theorem zk_Law_100 : zCV "HandToHandLaw" 100 "HandToHand" ⟨"HandToHand", "judge", "(IIIII)I"⟩ prog_1_method_22_code 7 (Option.some .int) 5 := ⟨zgoodV zu_818 zu_819 zu_820 zu_1 zu_821, by decide +kernel⟩
theorem zk_Law_104 : zCV "HandToHandLaw" 104 "HandToHandModel" ⟨"HandToHandModel", "judge", "(IIIII)I"⟩ prog_13_method_68_code 6 (Option.some .int) 5 := ⟨zgoodV zu_1411 zu_1412 zu_1413 zu_12 zu_1414, by decide +kernel⟩
theorem zk_Law_105 : zCV "HandToHandLaw" 105 "HandToHand" ⟨"HandToHand", "settles", "(I)I"⟩ prog_1_method_23_code 2 (Option.some .int) 1 := ⟨zgoodV zu_822 zu_823 zu_824 zu_1 zu_825, by decide +kernel⟩
theorem zk_Law_108 : zCV "HandToHandLaw" 108 "HandToHandModel" ⟨"HandToHandModel", "settles", "(I)I"⟩ prog_13_method_70_code 2 (Option.some .int) 1 := ⟨zgoodV zu_1415 zu_1416 zu_1417 zu_12 zu_1418, by decide +kernel⟩
theorem zk_Law_109 : zCV "HandToHandLaw" 109 "HandToHand" ⟨"HandToHand", "where", "(II)I"⟩ prog_1_method_24_code 3 (Option.some .int) 2 := ⟨zgoodV zu_872 zu_873 zu_874 zu_1 zu_875, by decide +kernel⟩
theorem zk_Law_112 : zCV "HandToHandLaw" 112 "HandToHandModel" ⟨"HandToHandModel", "where", "(II)I"⟩ prog_13_method_71_code 7 (Option.some .int) 2 := ⟨zgoodV zu_1423 zu_1424 zu_1425 zu_12 zu_1426, by decide +kernel⟩
theorem zk_Law_113 : zCV "HandToHandLaw" 113 "HandToHand" ⟨"HandToHand", "makes", "(I)I"⟩ prog_1_method_25_code 2 (Option.some .int) 1 := ⟨zgoodV zu_881 zu_882 zu_883 zu_1 zu_884, by decide +kernel⟩
theorem zk_Law_116 : zCV "HandToHandLaw" 116 "HandToHandModel" ⟨"HandToHandModel", "makes", "(I)I"⟩ prog_13_method_74_code 2 (Option.some .int) 1 := ⟨zgoodV zu_1428 zu_1429 zu_1430 zu_12 zu_1431, by decide +kernel⟩
theorem zk_Law_117 : zCV "HandToHandLaw" 117 "HandToHand" ⟨"HandToHand", "could", "(I)J"⟩ prog_1_method_26_code 11 (Option.some .long) 1 := ⟨zgoodV zu_888 zu_889 zu_890 zu_1 zu_891, by decide +kernel⟩
theorem zk_Law_121 : zCV "HandToHandLaw" 121 "HandToHandModel" ⟨"HandToHandModel", "could", "(I)J"⟩ prog_13_method_75_code 13 (Option.some .long) 1 := ⟨zgoodV zu_1439 zu_1440 zu_1441 zu_12 zu_1442, by decide +kernel⟩
theorem zk_Law_122 : zCV "HandToHandLaw" 122 "HandToHand" ⟨"HandToHand", "order", "(II)I"⟩ prog_1_method_27_code 3 (Option.some .int) 2 := ⟨zgoodV zu_899 zu_900 zu_901 zu_1 zu_902, by decide +kernel⟩
theorem zk_Law_125 : zCV "HandToHandLaw" 125 "HandToHandModel" ⟨"HandToHandModel", "order", "(II)I"⟩ prog_13_method_79_code 3 (Option.some .int) 2 := ⟨zgoodV zu_1444 zu_1445 zu_1446 zu_12 zu_1447, by decide +kernel⟩
theorem zk_Law_126 : zCV "HandToHandLaw" 126 "HandToHand" ⟨"HandToHand", "best", "(I)I"⟩ prog_1_method_28_code 6 (Option.some .int) 1 := ⟨zgoodV zu_927 zu_928 zu_929 zu_1 zu_930, by decide +kernel⟩
theorem zk_Law_129 : zCV "HandToHandLaw" 129 "HandToHandModel" ⟨"HandToHandModel", "best", "(I)I"⟩ prog_13_method_82_code 5 (Option.some .int) 1 := ⟨zgoodV zu_1460 zu_1461 zu_1462 zu_12 zu_1463, by decide +kernel⟩
theorem zk_Law_130 : zCV "HandToHandLaw" 130 "HandToHand" ⟨"HandToHand", "stands", "(II)I"⟩ prog_1_method_29_code 3 (Option.some .int) 2 := ⟨zgoodV zu_934 zu_935 zu_936 zu_1 zu_937, by decide +kernel⟩
theorem zk_Law_133 : zCV "HandToHandLaw" 133 "HandToHandModel" ⟨"HandToHandModel", "stands", "(II)I"⟩ prog_13_method_83_code 3 (Option.some .int) 2 := ⟨zgoodV zu_1472 zu_1473 zu_1474 zu_12 zu_1475, by decide +kernel⟩
theorem zk_Law_134 : zCV "HandToHandLaw" 134 "HandToHand" ⟨"HandToHand", "parts", "(I)I"⟩ prog_1_method_30_code 3 (Option.some .int) 1 := ⟨zgoodV zu_938 zu_939 zu_940 zu_1 zu_941, by decide +kernel⟩
theorem zk_Law_137 : zCV "HandToHandLaw" 137 "HandToHandModel" ⟨"HandToHandModel", "parts", "(I)I"⟩ prog_13_method_84_code 6 (Option.some .int) 1 := ⟨zgoodV zu_1476 zu_1477 zu_1478 zu_12 zu_1479, by decide +kernel⟩
theorem zk_Law_138 : zCV "HandToHandLaw" 138 "HandToHand" ⟨"HandToHand", "less", "(II)I"⟩ prog_1_method_31_code 3 (Option.some .int) 2 := ⟨zgoodV zu_955 zu_956 zu_957 zu_1 zu_958, by decide +kernel⟩
theorem zk_Law_141 : zCV "HandToHandLaw" 141 "HandToHandModel" ⟨"HandToHandModel", "less", "(II)I"⟩ prog_13_method_87_code 4 (Option.some .int) 2 := ⟨zgoodV zu_1488 zu_1489 zu_1490 zu_12 zu_1491, by decide +kernel⟩
theorem zk_Law_142 : zCV "HandToHandLaw" 142 "HandToHand" ⟨"HandToHand", "sheet", "(III)I"⟩ prog_1_method_32_code 4 (Option.some .int) 3 := ⟨zgoodV zu_964 zu_965 zu_966 zu_1 zu_967, by decide +kernel⟩
theorem zk_Law_145 : zCV "HandToHandLaw" 145 "HandToHandModel" ⟨"HandToHandModel", "sheet", "(III)I"⟩ prog_13_method_88_code 5 (Option.some .int) 3 := ⟨zgoodV zu_1492 zu_1493 zu_1494 zu_12 zu_1495, by decide +kernel⟩
theorem zk_Law_146 : zCV "HandToHandLaw" 146 "HandToHand" ⟨"HandToHand", "lay", "(III)I"⟩ prog_1_method_33_code 5 (Option.some .int) 3 := ⟨zgoodV zu_978 zu_979 zu_980 zu_1 zu_981, by decide +kernel⟩
theorem zk_Law_149 : zCV "HandToHandLaw" 149 "HandToHandModel" ⟨"HandToHandModel", "lay", "(III)I"⟩ prog_13_method_89_code 4 (Option.some .int) 3 := ⟨zgoodV zu_1496 zu_1497 zu_1498 zu_12 zu_1499, by decide +kernel⟩
theorem zk_Law_150 : zCV "HandToHandLaw" 150 "HandToHand" ⟨"HandToHand", "read", "(IIIII)I"⟩ prog_1_method_34_code 10 (Option.some .int) 5 := ⟨zgoodV zu_986 zu_987 zu_988 zu_1 zu_989, by decide +kernel⟩
theorem zk_Law_153 : zCV "HandToHandLaw" 153 "HandToHandModel" ⟨"HandToHandModel", "read", "(IIIII)I"⟩ prog_13_method_90_code 10 (Option.some .int) 5 := ⟨zgoodV zu_1500 zu_1501 zu_1502 zu_12 zu_1503, by decide +kernel⟩
theorem zk_Law_154 : zCV "HandToHandLaw" 154 "HandToHand" ⟨"HandToHand", "torn", "()I"⟩ prog_1_method_35_code 1 (Option.some .int) 0 := ⟨zgoodV zu_1006 zu_1007 zu_1008 zu_1 zu_1009, by decide +kernel⟩
theorem zk_Law_157 : zCV "HandToHandLaw" 157 "HandToHandModel" ⟨"HandToHandModel", "torn", "()I"⟩ prog_13_method_91_code 1 (Option.some .int) 0 := ⟨zgoodV zu_1504 zu_1505 zu_1506 zu_12 zu_1507, by decide +kernel⟩
theorem zk_Law_158 : zCV "HandToHandLaw" 158 "HandToHand" ⟨"HandToHand", "count", "(I)I"⟩ prog_1_method_36_code 2 (Option.some .int) 1 := ⟨zgoodV zu_1010 zu_1011 zu_1012 zu_1 zu_1013, by decide +kernel⟩
theorem zk_Law_161 : zCV "HandToHandLaw" 161 "HandToHandModel" ⟨"HandToHandModel", "count", "(I)I"⟩ prog_13_method_92_code 2 (Option.some .int) 1 := ⟨zgoodV zu_1508 zu_1509 zu_1510 zu_12 zu_1511, by decide +kernel⟩
/-- what a call of the script asks of both memories -/
def zLaw (op : Int32) (a : Nat → Int32) (M W' : zMem) (K : zMem → zMem → Prop) : Prop :=
  (op = 0 → wp_Main_feed ((((a (1)).toInt64) <<< ((32 : Int32).toInt64 &&& 63)) ||| (((a (2)).toInt64) &&& (4294967295))) M (fun x1 M1 => wp_Model_feed ((((a (1)).toInt64) <<< ((32 : Int32).toInt64 &&& 63)) ||| (((a (2)).toInt64) &&& (4294967295))) W' (fun x2 W2 => x1 = x2 ∧ K M1 W2))) ∧
  (op = 1 → wp_Main_end (a (1)) M (fun x1 M1 => wp_Model_end (a (1)) W' (fun x2 W2 => x1 = x2 ∧ K M1 W2))) ∧
  (op = 2 → wp_Main_text  M (fun x1 M1 => wp_Model_text  W' (fun x2 W2 => x1 = x2 ∧ K M1 W2))) ∧
  (op = 3 → wp_Main_fault  M (fun x1 M1 => wp_Model_fault  W' (fun x2 W2 => x1 = x2 ∧ K M1 W2))) ∧
  (op = 4 → wp_Main_rule (a (1)) M (fun x1 M1 => wp_Model_rule (a (1)) W' (fun x2 W2 => x1 = x2 ∧ K M1 W2))) ∧
  (op = 5 → wp_Main_units (a (1)) (a (2)) M (fun x1 M1 => wp_Model_units (a (1)) (a (2)) W' (fun x2 W2 => x1 = x2 ∧ K M1 W2))) ∧
  (op = 6 → wp_Main_pace (a (1)) (a (2)) M (fun x1 M1 => wp_Model_pace (a (1)) (a (2)) W' (fun x2 W2 => x1 = x2 ∧ K M1 W2))) ∧
  (op = 7 → wp_Main_setPace (a (1)) (a (2)) (a (3)) M (fun x1 M1 => wp_Model_setPace (a (1)) (a (2)) (a (3)) W' (fun x2 W2 => x1 = x2 ∧ K M1 W2))) ∧
  (op = 8 → wp_Main_begin  M (fun x1 M1 => wp_Model_begin  W' (fun x2 W2 => x1 = x2 ∧ K M1 W2))) ∧
  (op = 9 → wp_Main_go (a (1)) M (fun x1 M1 => wp_Model_go (a (1)) W' (fun x2 W2 => x1 = x2 ∧ K M1 W2))) ∧
  (op = 10 → wp_Main_night  M (fun x1 M1 => wp_Model_night  W' (fun x2 W2 => x1 = x2 ∧ K M1 W2))) ∧
  (op = 11 → wp_Main_now (a (1)) M (fun x1 M1 => wp_Model_now (a (1)) W' (fun x2 W2 => x1 = x2 ∧ K M1 W2))) ∧
  (op = 12 → wp_Main_hand (a (1)) (a (2)) M (fun x1 M1 => wp_Model_hand (a (1)) (a (2)) W' (fun x2 W2 => x1 = x2 ∧ K M1 W2))) ∧
  (op = 13 → wp_Main_learnt (a (1)) (a (2)) M (fun x1 M1 => wp_Model_learnt (a (1)) (a (2)) W' (fun x2 W2 => x1 = x2 ∧ K M1 W2))) ∧
  (op = 14 → wp_Main_takes (a (1)) (a (2)) M (fun x1 M1 => wp_Model_takes (a (1)) (a (2)) W' (fun x2 W2 => x1 = x2 ∧ K M1 W2))) ∧
  (op = 15 → wp_Main_keep (a (1)) M (fun x1 M1 => wp_Model_keep (a (1)) W' (fun x2 W2 => x1 = x2 ∧ K M1 W2))) ∧
  (op = 16 → wp_Main_back (a (1)) M (fun x1 M1 => wp_Model_back (a (1)) W' (fun x2 W2 => x1 = x2 ∧ K M1 W2))) ∧
  (op = 17 → wp_Main_run (a (1)) (a (2)) M (fun x1 M1 => wp_Model_run (a (1)) (a (2)) W' (fun x2 W2 => x1 = x2 ∧ K M1 W2))) ∧
  (op = 18 → wp_Main_waits (a (1)) (a (2)) M (fun x1 M1 => wp_Model_waits (a (1)) (a (2)) W' (fun x2 W2 => x1 = x2 ∧ K M1 W2))) ∧
  (op = 19 → wp_Main_over (a (1)) (a (2)) (a (3)) M (fun x1 M1 => wp_Model_over (a (1)) (a (2)) (a (3)) W' (fun x2 W2 => x1 = x2 ∧ K M1 W2))) ∧
  (op = 20 → wp_Main_judge (a (1)) (a (2)) (a (3)) (a (4)) (a (5)) M (fun x1 M1 => wp_Model_judge (a (1)) (a (2)) (a (3)) (a (4)) (a (5)) W' (fun x2 W2 => x1 = x2 ∧ K M1 W2))) ∧
  (op = 21 → wp_Main_settles (a (1)) M (fun x1 M1 => wp_Model_settles (a (1)) W' (fun x2 W2 => x1 = x2 ∧ K M1 W2))) ∧
  (op = 22 → wp_Main_where (a (1)) (a (2)) M (fun x1 M1 => wp_Model_where (a (1)) (a (2)) W' (fun x2 W2 => (x1 = x2 ∨ a (2) = 1) ∧ K M1 W2))) ∧
  (op = 23 → wp_Main_makes (a (1)) M (fun x1 M1 => wp_Model_makes (a (1)) W' (fun x2 W2 => x1 = x2 ∧ K M1 W2))) ∧
  (op = 24 → wp_Main_could (a (1)) M (fun x1 M1 => wp_Model_could (a (1)) W' (fun x2 W2 => x1 = x2 ∧ K M1 W2))) ∧
  (op = 25 → wp_Main_order (a (1)) (a (2)) M (fun x1 M1 => wp_Model_order (a (1)) (a (2)) W' (fun x2 W2 => x1 = x2 ∧ K M1 W2))) ∧
  (op = 26 → wp_Main_best (a (1)) M (fun x1 M1 => wp_Model_best (a (1)) W' (fun x2 W2 => x1 = x2 ∧ K M1 W2))) ∧
  (op = 27 → wp_Main_stands (a (1)) (a (2)) M (fun x1 M1 => wp_Model_stands (a (1)) (a (2)) W' (fun x2 W2 => x1 = x2 ∧ K M1 W2))) ∧
  (op = 28 → wp_Main_parts (a (1)) M (fun x1 M1 => wp_Model_parts (a (1)) W' (fun x2 W2 => x1 = x2 ∧ K M1 W2))) ∧
  (op = 29 → wp_Main_less (a (1)) (a (2)) M (fun x1 M1 => wp_Model_less (a (1)) (a (2)) W' (fun x2 W2 => x1 = x2 ∧ K M1 W2))) ∧
  (op = 30 → wp_Main_sheet (a (1)) (a (2)) (a (3)) M (fun x1 M1 => wp_Model_sheet (a (1)) (a (2)) (a (3)) W' (fun x2 W2 => x1 = x2 ∧ K M1 W2))) ∧
  (op = 31 → wp_Main_lay (a (1)) (a (2)) (a (3)) M (fun x1 M1 => wp_Model_lay (a (1)) (a (2)) (a (3)) W' (fun x2 W2 => x1 = x2 ∧ K M1 W2))) ∧
  (op = 32 → wp_Main_read (a (1)) (a (2)) (a (3)) (a (4)) (a (5)) M (fun x1 M1 => wp_Model_read (a (1)) (a (2)) (a (3)) (a (4)) (a (5)) W' (fun x2 W2 => x1 = x2 ∧ K M1 W2))) ∧
  (op = 33 → wp_Main_torn  M (fun x1 M1 => wp_Model_torn  W' (fun x2 W2 => x1 = x2 ∧ K M1 W2))) ∧
  (op = 34 → wp_Main_count (a (1)) M (fun x1 M1 => wp_Model_count (a (1)) W' (fun x2 W2 => x1 = x2 ∧ K M1 W2))) ∧
  ((∀ j, j ≤ 34 → op ≠ nI j) → K M W')
set_option maxHeartbeats 4000000 in
theorem lw_c0 {p : Program} {l : Launch} {e : Env} {s : State} {m : MethodId} {below : List Frame} {meth : Method} {c : Code} {H : Heap} {locs : List Loc} {ls : Array Slot} {w1 w2 : zWd} {M W' : zMem} {b L i : Nat} {xs : Nat → Int32} {K : zMem → zMem → Prop} (C0 : lw_At p s m meth c b L xs) (hLs : L < 2147483648) (X1 : zX w1 p s m #[Value.ref b] c code "HandToHandLaw") (X2 : zX w2 p s m #[Value.ref b] c code "HandToHandLaw") (h1 : zI_Main w1) (h2 : zI_Model w2) (hA : zLa w1 w2 s) (hi : i + 6 ≤ L) (hL : zLw w1 w2 s M W' H locs) (hl : lv_has ls 4 [(0, .ref b), (1, .ref (zad w1 0)), (2, .ref (zad w2 0)), (3, .int (nI i))]) (h : wp_Main_feed ((((xs (i + 1)).toInt64) <<< ((32 : Int32).toInt64 &&& 63)) ||| (((xs (i + 2)).toInt64) &&& (4294967295))) M (fun x1 M1 => wp_Model_feed ((((xs (i + 1)).toInt64) <<< ((32 : Int32).toInt64 &&& 63)) ||| (((xs (i + 2)).toInt64) &&& (4294967295))) W' (fun x2 W2 => x1 = x2 ∧ K M1 W2))) (kk : ∀ (M W' : zMem) (H : Heap) (locs : List Loc), K M W' → zLw w1 w2 s M W' H locs → W p l e room_1 s m #[Value.ref b] below meth c H locs 108 24481 (lw_Z below #[Value.ref b] s) (F0 m 1243 ls [])) : W p l e room_1 s m #[Value.ref b] below meth c H locs 108 24481 (lw_Z below #[Value.ref b] s) (F0 m 188 ls []) := by
  obtain ⟨hx, hb, hr, hml, hown, hts, hX, hbl, hlocks, hgv⟩ := id C0
  refine lv_aload_n hx hb dL_law_188 rfl (lv_at hl 1 rfl) ?_
  refine lv_aload_n hx hb dL_law_189 rfl (lv_at hl 0 rfl) ?_
  refine lv_iload_n hx hb dL_law_190 rfl (lv_at hl 3 rfl) ?_
  refine lv_iconst (v := 1) hx hb dL_law_191 (by decide) ?_
  refine lv_iadd hx hb dL_law_192 ?_
  refine zl_ld (k := 1) hx hb hX hbl hL (by omega) hLs dL_law_193 ?_
  refine lv_i2l hx hb dL_law_194 rfl ?_
  refine lv_bipush (v := 32) hx hb dL_law_195 (by decide) ?_
  refine lv_lshl hx hb dL_law_197 rfl ?_
  refine lv_aload_n hx hb dL_law_198 rfl (lv_at hl 0 rfl) ?_
  refine lv_iload_n hx hb dL_law_199 rfl (lv_at hl 3 rfl) ?_
  refine lv_iconst (v := 2) hx hb dL_law_200 (by decide) ?_
  refine lv_iadd hx hb dL_law_201 ?_
  refine zl_ld (k := 2) hx hb hX hbl hL (by omega) hLs dL_law_202 ?_
  refine lv_i2l hx hb dL_law_203 rfl ?_
  refine lv_ldc2 hx hb X1.2.2.1 (X1.2.2.2.1 _ zu_1512) dL_law_204 ?_
  refine lv_land hx hb dL_law_207 ?_
  refine lv_lor hx hb dL_law_208 ?_
  refine zl_1i hA hL (zl_run (w := w1) (As := [.long ((((xs (i + 1)).toInt64) <<< ((32 : Int32).toInt64 &&& 63)) ||| (((xs (i + 2)).toInt64) &&& (4294967295)))]) (rest := []) X1 hml hl hL.1 hL.2.2 h1.1 rfl zk_Law_15 (c_Main_feed h1 h) rfl ⟨Nat.le_of_ble_eq_true rfl, Nat.le_of_ble_eq_true rfl⟩ ⟨Nat.le_of_ble_eq_true rfl, Nat.le_of_ble_eq_true rfl⟩ rfl (Nat.le_of_ble_eq_true rfl) dL_law_209) (fun x1 M1 H locs h hL => ?_)
  refine lv_pop hx hb dL_law_212 rfl ?_
  refine lv_aload_n hx hb dL_law_213 rfl (lv_at hl 2 rfl) ?_
  refine lv_aload_n hx hb dL_law_214 rfl (lv_at hl 0 rfl) ?_
  refine lv_iload_n hx hb dL_law_215 rfl (lv_at hl 3 rfl) ?_
  refine lv_iconst (v := 1) hx hb dL_law_216 (by decide) ?_
  refine lv_iadd hx hb dL_law_217 ?_
  refine zl_ld (k := 1) hx hb hX hbl hL (by omega) hLs dL_law_218 ?_
  refine lv_i2l hx hb dL_law_219 rfl ?_
  refine lv_bipush (v := 32) hx hb dL_law_220 (by decide) ?_
  refine lv_lshl hx hb dL_law_222 rfl ?_
  refine lv_aload_n hx hb dL_law_223 rfl (lv_at hl 0 rfl) ?_
  refine lv_iload_n hx hb dL_law_224 rfl (lv_at hl 3 rfl) ?_
  refine lv_iconst (v := 2) hx hb dL_law_225 (by decide) ?_
  refine lv_iadd hx hb dL_law_226 ?_
  refine zl_ld (k := 2) hx hb hX hbl hL (by omega) hLs dL_law_227 ?_
  refine lv_i2l hx hb dL_law_228 rfl ?_
  refine lv_ldc2 hx hb X1.2.2.1 (X1.2.2.2.1 _ zu_1512) dL_law_229 ?_
  refine lv_land hx hb dL_law_232 ?_
  refine lv_lor hx hb dL_law_233 ?_
  refine zl_2i hA hL (zl_run (w := w2) (As := [.long ((((xs (i + 1)).toInt64) <<< ((32 : Int32).toInt64 &&& 63)) ||| (((xs (i + 2)).toInt64) &&& (4294967295)))]) (rest := []) X2 hml hl hL.2.1 hL.2.2 h2.1 rfl zk_Law_19 (c_Model_feed h2 h) rfl ⟨Nat.le_of_ble_eq_true rfl, Nat.le_of_ble_eq_true rfl⟩ ⟨Nat.le_of_ble_eq_true rfl, Nat.le_of_ble_eq_true rfl⟩ rfl (Nat.le_of_ble_eq_true rfl) dL_law_234) (fun x2 W2 H locs h hL => ?_)
  refine lv_pop hx hb dL_law_237 rfl ?_
  refine lv_goto (tgt := 1243) hx hb dL_law_238 rfl ?_
  exact kk M1 W2 H locs h.2 hL
set_option maxHeartbeats 4000000 in
theorem lw_c1 {p : Program} {l : Launch} {e : Env} {s : State} {m : MethodId} {below : List Frame} {meth : Method} {c : Code} {H : Heap} {locs : List Loc} {ls : Array Slot} {w1 w2 : zWd} {M W' : zMem} {b L i : Nat} {xs : Nat → Int32} {K : zMem → zMem → Prop} (C0 : lw_At p s m meth c b L xs) (hLs : L < 2147483648) (X1 : zX w1 p s m #[Value.ref b] c code "HandToHandLaw") (X2 : zX w2 p s m #[Value.ref b] c code "HandToHandLaw") (h1 : zI_Main w1) (h2 : zI_Model w2) (hA : zLa w1 w2 s) (hi : i + 6 ≤ L) (hL : zLw w1 w2 s M W' H locs) (hl : lv_has ls 4 [(0, .ref b), (1, .ref (zad w1 0)), (2, .ref (zad w2 0)), (3, .int (nI i))]) (h : wp_Main_end (xs (i + 1)) M (fun x1 M1 => wp_Model_end (xs (i + 1)) W' (fun x2 W2 => x1 = x2 ∧ K M1 W2))) (kk : ∀ (M W' : zMem) (H : Heap) (locs : List Loc), K M W' → zLw w1 w2 s M W' H locs → W p l e room_1 s m #[Value.ref b] below meth c H locs 108 24481 (lw_Z below #[Value.ref b] s) (F0 m 1243 ls [])) : W p l e room_1 s m #[Value.ref b] below meth c H locs 108 24481 (lw_Z below #[Value.ref b] s) (F0 m 241 ls []) := by
  obtain ⟨hx, hb, hr, hml, hown, hts, hX, hbl, hlocks, hgv⟩ := id C0
  refine lv_aload_n hx hb dL_law_241 rfl (lv_at hl 1 rfl) ?_
  refine lv_aload_n hx hb dL_law_242 rfl (lv_at hl 0 rfl) ?_
  refine lv_iload_n hx hb dL_law_243 rfl (lv_at hl 3 rfl) ?_
  refine lv_iconst (v := 1) hx hb dL_law_244 (by decide) ?_
  refine lv_iadd hx hb dL_law_245 ?_
  refine zl_ld (k := 1) hx hb hX hbl hL (by omega) hLs dL_law_246 ?_
  refine zl_1i hA hL (zl_run (w := w1) (As := [.int (xs (i + 1))]) (rest := []) X1 hml hl hL.1 hL.2.2 h1.1 rfl zk_Law_20 (c_Main_end h1 h) rfl ⟨Nat.le_of_ble_eq_true rfl, Nat.le_of_ble_eq_true rfl⟩ ⟨Nat.le_of_ble_eq_true rfl, Nat.le_of_ble_eq_true rfl⟩ rfl (Nat.le_of_ble_eq_true rfl) dL_law_247) (fun x1 M1 H locs h hL => ?_)
  refine lv_pop hx hb dL_law_250 rfl ?_
  refine lv_aload_n hx hb dL_law_251 rfl (lv_at hl 2 rfl) ?_
  refine lv_aload_n hx hb dL_law_252 rfl (lv_at hl 0 rfl) ?_
  refine lv_iload_n hx hb dL_law_253 rfl (lv_at hl 3 rfl) ?_
  refine lv_iconst (v := 1) hx hb dL_law_254 (by decide) ?_
  refine lv_iadd hx hb dL_law_255 ?_
  refine zl_ld (k := 1) hx hb hX hbl hL (by omega) hLs dL_law_256 ?_
  refine zl_2i hA hL (zl_run (w := w2) (As := [.int (xs (i + 1))]) (rest := []) X2 hml hl hL.2.1 hL.2.2 h2.1 rfl zk_Law_24 (c_Model_end h2 h) rfl ⟨Nat.le_of_ble_eq_true rfl, Nat.le_of_ble_eq_true rfl⟩ ⟨Nat.le_of_ble_eq_true rfl, Nat.le_of_ble_eq_true rfl⟩ rfl (Nat.le_of_ble_eq_true rfl) dL_law_257) (fun x2 W2 H locs h hL => ?_)
  refine lv_pop hx hb dL_law_260 rfl ?_
  refine lv_goto (tgt := 1243) hx hb dL_law_261 rfl ?_
  exact kk M1 W2 H locs h.2 hL
set_option maxHeartbeats 4000000 in
theorem lw_c2 {p : Program} {l : Launch} {e : Env} {s : State} {m : MethodId} {below : List Frame} {meth : Method} {c : Code} {H : Heap} {locs : List Loc} {ls : Array Slot} {w1 w2 : zWd} {M W' : zMem} {b L i : Nat} {xs : Nat → Int32} {K : zMem → zMem → Prop} (C0 : lw_At p s m meth c b L xs) (hLs : L < 2147483648) (X1 : zX w1 p s m #[Value.ref b] c code "HandToHandLaw") (X2 : zX w2 p s m #[Value.ref b] c code "HandToHandLaw") (h1 : zI_Main w1) (h2 : zI_Model w2) (hA : zLa w1 w2 s) (hi : i + 6 ≤ L) (hL : zLw w1 w2 s M W' H locs) (hl : lv_has ls 4 [(0, .ref b), (1, .ref (zad w1 0)), (2, .ref (zad w2 0)), (3, .int (nI i))]) (h : wp_Main_text  M (fun x1 M1 => wp_Model_text  W' (fun x2 W2 => x1 = x2 ∧ K M1 W2))) (kk : ∀ (M W' : zMem) (H : Heap) (locs : List Loc), K M W' → zLw w1 w2 s M W' H locs → W p l e room_1 s m #[Value.ref b] below meth c H locs 108 24481 (lw_Z below #[Value.ref b] s) (F0 m 1243 ls [])) : W p l e room_1 s m #[Value.ref b] below meth c H locs 108 24481 (lw_Z below #[Value.ref b] s) (F0 m 264 ls []) := by
  obtain ⟨hx, hb, hr, hml, hown, hts, hX, hbl, hlocks, hgv⟩ := id C0
  refine lv_aload_n hx hb dL_law_264 rfl (lv_at hl 1 rfl) ?_
  refine zl_1i hA hL (zl_run (w := w1) (As := []) (rest := []) X1 hml hl hL.1 hL.2.2 h1.1 rfl zk_Law_25 (c_Main_text h1 h) rfl ⟨Nat.le_of_ble_eq_true rfl, Nat.le_of_ble_eq_true rfl⟩ ⟨Nat.le_of_ble_eq_true rfl, Nat.le_of_ble_eq_true rfl⟩ rfl (Nat.le_of_ble_eq_true rfl) dL_law_265) (fun x1 M1 H locs h hL => ?_)
  refine lv_pop hx hb dL_law_268 rfl ?_
  refine lv_aload_n hx hb dL_law_269 rfl (lv_at hl 2 rfl) ?_
  refine zl_2i hA hL (zl_run (w := w2) (As := []) (rest := []) X2 hml hl hL.2.1 hL.2.2 h2.1 rfl zk_Law_29 (c_Model_text h2 h) rfl ⟨Nat.le_of_ble_eq_true rfl, Nat.le_of_ble_eq_true rfl⟩ ⟨Nat.le_of_ble_eq_true rfl, Nat.le_of_ble_eq_true rfl⟩ rfl (Nat.le_of_ble_eq_true rfl) dL_law_270) (fun x2 W2 H locs h hL => ?_)
  refine lv_pop hx hb dL_law_273 rfl ?_
  refine lv_goto (tgt := 1243) hx hb dL_law_274 rfl ?_
  exact kk M1 W2 H locs h.2 hL
set_option maxHeartbeats 4000000 in
theorem lw_c3 {p : Program} {l : Launch} {e : Env} {s : State} {m : MethodId} {below : List Frame} {meth : Method} {c : Code} {H : Heap} {locs : List Loc} {ls : Array Slot} {w1 w2 : zWd} {M W' : zMem} {b L i : Nat} {xs : Nat → Int32} {K : zMem → zMem → Prop} (C0 : lw_At p s m meth c b L xs) (hLs : L < 2147483648) (X1 : zX w1 p s m #[Value.ref b] c code "HandToHandLaw") (X2 : zX w2 p s m #[Value.ref b] c code "HandToHandLaw") (h1 : zI_Main w1) (h2 : zI_Model w2) (hA : zLa w1 w2 s) (hi : i + 6 ≤ L) (hL : zLw w1 w2 s M W' H locs) (hl : lv_has ls 4 [(0, .ref b), (1, .ref (zad w1 0)), (2, .ref (zad w2 0)), (3, .int (nI i))]) (h : wp_Main_fault  M (fun x1 M1 => wp_Model_fault  W' (fun x2 W2 => x1 = x2 ∧ K M1 W2))) (kk : ∀ (M W' : zMem) (H : Heap) (locs : List Loc), K M W' → zLw w1 w2 s M W' H locs → W p l e room_1 s m #[Value.ref b] below meth c H locs 108 24481 (lw_Z below #[Value.ref b] s) (F0 m 1243 ls [])) : W p l e room_1 s m #[Value.ref b] below meth c H locs 108 24481 (lw_Z below #[Value.ref b] s) (F0 m 277 ls []) := by
  obtain ⟨hx, hb, hr, hml, hown, hts, hX, hbl, hlocks, hgv⟩ := id C0
  refine lv_aload_n hx hb dL_law_277 rfl (lv_at hl 1 rfl) ?_
  refine zl_1i hA hL (zl_run (w := w1) (As := []) (rest := []) X1 hml hl hL.1 hL.2.2 h1.1 rfl zk_Law_30 (c_Main_fault h1 h) rfl ⟨Nat.le_of_ble_eq_true rfl, Nat.le_of_ble_eq_true rfl⟩ ⟨Nat.le_of_ble_eq_true rfl, Nat.le_of_ble_eq_true rfl⟩ rfl (Nat.le_of_ble_eq_true rfl) dL_law_278) (fun x1 M1 H locs h hL => ?_)
  refine lv_pop hx hb dL_law_281 rfl ?_
  refine lv_aload_n hx hb dL_law_282 rfl (lv_at hl 2 rfl) ?_
  refine zl_2i hA hL (zl_run (w := w2) (As := []) (rest := []) X2 hml hl hL.2.1 hL.2.2 h2.1 rfl zk_Law_33 (c_Model_fault h2 h) rfl ⟨Nat.le_of_ble_eq_true rfl, Nat.le_of_ble_eq_true rfl⟩ ⟨Nat.le_of_ble_eq_true rfl, Nat.le_of_ble_eq_true rfl⟩ rfl (Nat.le_of_ble_eq_true rfl) dL_law_283) (fun x2 W2 H locs h hL => ?_)
  refine lv_pop hx hb dL_law_286 rfl ?_
  refine lv_goto (tgt := 1243) hx hb dL_law_287 rfl ?_
  exact kk M1 W2 H locs h.2 hL
set_option maxHeartbeats 4000000 in
theorem lw_c4 {p : Program} {l : Launch} {e : Env} {s : State} {m : MethodId} {below : List Frame} {meth : Method} {c : Code} {H : Heap} {locs : List Loc} {ls : Array Slot} {w1 w2 : zWd} {M W' : zMem} {b L i : Nat} {xs : Nat → Int32} {K : zMem → zMem → Prop} (C0 : lw_At p s m meth c b L xs) (hLs : L < 2147483648) (X1 : zX w1 p s m #[Value.ref b] c code "HandToHandLaw") (X2 : zX w2 p s m #[Value.ref b] c code "HandToHandLaw") (h1 : zI_Main w1) (h2 : zI_Model w2) (hA : zLa w1 w2 s) (hi : i + 6 ≤ L) (hL : zLw w1 w2 s M W' H locs) (hl : lv_has ls 4 [(0, .ref b), (1, .ref (zad w1 0)), (2, .ref (zad w2 0)), (3, .int (nI i))]) (h : wp_Main_rule (xs (i + 1)) M (fun x1 M1 => wp_Model_rule (xs (i + 1)) W' (fun x2 W2 => x1 = x2 ∧ K M1 W2))) (kk : ∀ (M W' : zMem) (H : Heap) (locs : List Loc), K M W' → zLw w1 w2 s M W' H locs → W p l e room_1 s m #[Value.ref b] below meth c H locs 108 24481 (lw_Z below #[Value.ref b] s) (F0 m 1243 ls [])) : W p l e room_1 s m #[Value.ref b] below meth c H locs 108 24481 (lw_Z below #[Value.ref b] s) (F0 m 290 ls []) := by
  obtain ⟨hx, hb, hr, hml, hown, hts, hX, hbl, hlocks, hgv⟩ := id C0
  refine lv_aload_n hx hb dL_law_290 rfl (lv_at hl 1 rfl) ?_
  refine lv_aload_n hx hb dL_law_291 rfl (lv_at hl 0 rfl) ?_
  refine lv_iload_n hx hb dL_law_292 rfl (lv_at hl 3 rfl) ?_
  refine lv_iconst (v := 1) hx hb dL_law_293 (by decide) ?_
  refine lv_iadd hx hb dL_law_294 ?_
  refine zl_ld (k := 1) hx hb hX hbl hL (by omega) hLs dL_law_295 ?_
  refine zl_1i hA hL (zl_run (w := w1) (As := [.int (xs (i + 1))]) (rest := []) X1 hml hl hL.1 hL.2.2 h1.1 rfl zk_Law_34 (c_Main_rule h1 h) rfl ⟨Nat.le_of_ble_eq_true rfl, Nat.le_of_ble_eq_true rfl⟩ ⟨Nat.le_of_ble_eq_true rfl, Nat.le_of_ble_eq_true rfl⟩ rfl (Nat.le_of_ble_eq_true rfl) dL_law_296) (fun x1 M1 H locs h hL => ?_)
  refine lv_pop hx hb dL_law_299 rfl ?_
  refine lv_aload_n hx hb dL_law_300 rfl (lv_at hl 2 rfl) ?_
  refine lv_aload_n hx hb dL_law_301 rfl (lv_at hl 0 rfl) ?_
  refine lv_iload_n hx hb dL_law_302 rfl (lv_at hl 3 rfl) ?_
  refine lv_iconst (v := 1) hx hb dL_law_303 (by decide) ?_
  refine lv_iadd hx hb dL_law_304 ?_
  refine zl_ld (k := 1) hx hb hX hbl hL (by omega) hLs dL_law_305 ?_
  refine zl_2i hA hL (zl_run (w := w2) (As := [.int (xs (i + 1))]) (rest := []) X2 hml hl hL.2.1 hL.2.2 h2.1 rfl zk_Law_37 (c_Model_rule h2 h) rfl ⟨Nat.le_of_ble_eq_true rfl, Nat.le_of_ble_eq_true rfl⟩ ⟨Nat.le_of_ble_eq_true rfl, Nat.le_of_ble_eq_true rfl⟩ rfl (Nat.le_of_ble_eq_true rfl) dL_law_306) (fun x2 W2 H locs h hL => ?_)
  refine lv_pop hx hb dL_law_309 rfl ?_
  refine lv_goto (tgt := 1243) hx hb dL_law_310 rfl ?_
  exact kk M1 W2 H locs h.2 hL
set_option maxHeartbeats 4000000 in
theorem lw_c5 {p : Program} {l : Launch} {e : Env} {s : State} {m : MethodId} {below : List Frame} {meth : Method} {c : Code} {H : Heap} {locs : List Loc} {ls : Array Slot} {w1 w2 : zWd} {M W' : zMem} {b L i : Nat} {xs : Nat → Int32} {K : zMem → zMem → Prop} (C0 : lw_At p s m meth c b L xs) (hLs : L < 2147483648) (X1 : zX w1 p s m #[Value.ref b] c code "HandToHandLaw") (X2 : zX w2 p s m #[Value.ref b] c code "HandToHandLaw") (h1 : zI_Main w1) (h2 : zI_Model w2) (hA : zLa w1 w2 s) (hi : i + 6 ≤ L) (hL : zLw w1 w2 s M W' H locs) (hl : lv_has ls 4 [(0, .ref b), (1, .ref (zad w1 0)), (2, .ref (zad w2 0)), (3, .int (nI i))]) (h : wp_Main_units (xs (i + 1)) (xs (i + 2)) M (fun x1 M1 => wp_Model_units (xs (i + 1)) (xs (i + 2)) W' (fun x2 W2 => x1 = x2 ∧ K M1 W2))) (kk : ∀ (M W' : zMem) (H : Heap) (locs : List Loc), K M W' → zLw w1 w2 s M W' H locs → W p l e room_1 s m #[Value.ref b] below meth c H locs 108 24481 (lw_Z below #[Value.ref b] s) (F0 m 1243 ls [])) : W p l e room_1 s m #[Value.ref b] below meth c H locs 108 24481 (lw_Z below #[Value.ref b] s) (F0 m 313 ls []) := by
  obtain ⟨hx, hb, hr, hml, hown, hts, hX, hbl, hlocks, hgv⟩ := id C0
  refine lv_aload_n hx hb dL_law_313 rfl (lv_at hl 1 rfl) ?_
  refine lv_aload_n hx hb dL_law_314 rfl (lv_at hl 0 rfl) ?_
  refine lv_iload_n hx hb dL_law_315 rfl (lv_at hl 3 rfl) ?_
  refine lv_iconst (v := 1) hx hb dL_law_316 (by decide) ?_
  refine lv_iadd hx hb dL_law_317 ?_
  refine zl_ld (k := 1) hx hb hX hbl hL (by omega) hLs dL_law_318 ?_
  refine lv_aload_n hx hb dL_law_319 rfl (lv_at hl 0 rfl) ?_
  refine lv_iload_n hx hb dL_law_320 rfl (lv_at hl 3 rfl) ?_
  refine lv_iconst (v := 2) hx hb dL_law_321 (by decide) ?_
  refine lv_iadd hx hb dL_law_322 ?_
  refine zl_ld (k := 2) hx hb hX hbl hL (by omega) hLs dL_law_323 ?_
  refine zl_1i hA hL (zl_run (w := w1) (As := [.int (xs (i + 1)), .int (xs (i + 2))]) (rest := []) X1 hml hl hL.1 hL.2.2 h1.1 rfl zk_Law_38 (c_Main_units h1 h) rfl ⟨Nat.le_of_ble_eq_true rfl, Nat.le_of_ble_eq_true rfl⟩ ⟨Nat.le_of_ble_eq_true rfl, Nat.le_of_ble_eq_true rfl⟩ rfl (Nat.le_of_ble_eq_true rfl) dL_law_324) (fun x1 M1 H locs h hL => ?_)
  refine lv_pop hx hb dL_law_327 rfl ?_
  refine lv_aload_n hx hb dL_law_328 rfl (lv_at hl 2 rfl) ?_
  refine lv_aload_n hx hb dL_law_329 rfl (lv_at hl 0 rfl) ?_
  refine lv_iload_n hx hb dL_law_330 rfl (lv_at hl 3 rfl) ?_
  refine lv_iconst (v := 1) hx hb dL_law_331 (by decide) ?_
  refine lv_iadd hx hb dL_law_332 ?_
  refine zl_ld (k := 1) hx hb hX hbl hL (by omega) hLs dL_law_333 ?_
  refine lv_aload_n hx hb dL_law_334 rfl (lv_at hl 0 rfl) ?_
  refine lv_iload_n hx hb dL_law_335 rfl (lv_at hl 3 rfl) ?_
  refine lv_iconst (v := 2) hx hb dL_law_336 (by decide) ?_
  refine lv_iadd hx hb dL_law_337 ?_
  refine zl_ld (k := 2) hx hb hX hbl hL (by omega) hLs dL_law_338 ?_
  refine zl_2i hA hL (zl_run (w := w2) (As := [.int (xs (i + 1)), .int (xs (i + 2))]) (rest := []) X2 hml hl hL.2.1 hL.2.2 h2.1 rfl zk_Law_42 (c_Model_units h2 h) rfl ⟨Nat.le_of_ble_eq_true rfl, Nat.le_of_ble_eq_true rfl⟩ ⟨Nat.le_of_ble_eq_true rfl, Nat.le_of_ble_eq_true rfl⟩ rfl (Nat.le_of_ble_eq_true rfl) dL_law_339) (fun x2 W2 H locs h hL => ?_)
  refine lv_pop hx hb dL_law_342 rfl ?_
  refine lv_goto (tgt := 1243) hx hb dL_law_343 rfl ?_
  exact kk M1 W2 H locs h.2 hL
set_option maxHeartbeats 4000000 in
theorem lw_c6 {p : Program} {l : Launch} {e : Env} {s : State} {m : MethodId} {below : List Frame} {meth : Method} {c : Code} {H : Heap} {locs : List Loc} {ls : Array Slot} {w1 w2 : zWd} {M W' : zMem} {b L i : Nat} {xs : Nat → Int32} {K : zMem → zMem → Prop} (C0 : lw_At p s m meth c b L xs) (hLs : L < 2147483648) (X1 : zX w1 p s m #[Value.ref b] c code "HandToHandLaw") (X2 : zX w2 p s m #[Value.ref b] c code "HandToHandLaw") (h1 : zI_Main w1) (h2 : zI_Model w2) (hA : zLa w1 w2 s) (hi : i + 6 ≤ L) (hL : zLw w1 w2 s M W' H locs) (hl : lv_has ls 4 [(0, .ref b), (1, .ref (zad w1 0)), (2, .ref (zad w2 0)), (3, .int (nI i))]) (h : wp_Main_pace (xs (i + 1)) (xs (i + 2)) M (fun x1 M1 => wp_Model_pace (xs (i + 1)) (xs (i + 2)) W' (fun x2 W2 => x1 = x2 ∧ K M1 W2))) (kk : ∀ (M W' : zMem) (H : Heap) (locs : List Loc), K M W' → zLw w1 w2 s M W' H locs → W p l e room_1 s m #[Value.ref b] below meth c H locs 108 24481 (lw_Z below #[Value.ref b] s) (F0 m 1243 ls [])) : W p l e room_1 s m #[Value.ref b] below meth c H locs 108 24481 (lw_Z below #[Value.ref b] s) (F0 m 346 ls []) := by
  obtain ⟨hx, hb, hr, hml, hown, hts, hX, hbl, hlocks, hgv⟩ := id C0
  refine lv_aload_n hx hb dL_law_346 rfl (lv_at hl 1 rfl) ?_
  refine lv_aload_n hx hb dL_law_347 rfl (lv_at hl 0 rfl) ?_
  refine lv_iload_n hx hb dL_law_348 rfl (lv_at hl 3 rfl) ?_
  refine lv_iconst (v := 1) hx hb dL_law_349 (by decide) ?_
  refine lv_iadd hx hb dL_law_350 ?_
  refine zl_ld (k := 1) hx hb hX hbl hL (by omega) hLs dL_law_351 ?_
  refine lv_aload_n hx hb dL_law_352 rfl (lv_at hl 0 rfl) ?_
  refine lv_iload_n hx hb dL_law_353 rfl (lv_at hl 3 rfl) ?_
  refine lv_iconst (v := 2) hx hb dL_law_354 (by decide) ?_
  refine lv_iadd hx hb dL_law_355 ?_
  refine zl_ld (k := 2) hx hb hX hbl hL (by omega) hLs dL_law_356 ?_
  refine zl_1i hA hL (zl_run (w := w1) (As := [.int (xs (i + 1)), .int (xs (i + 2))]) (rest := []) X1 hml hl hL.1 hL.2.2 h1.1 rfl zk_Law_43 (c_Main_pace h1 h) rfl ⟨Nat.le_of_ble_eq_true rfl, Nat.le_of_ble_eq_true rfl⟩ ⟨Nat.le_of_ble_eq_true rfl, Nat.le_of_ble_eq_true rfl⟩ rfl (Nat.le_of_ble_eq_true rfl) dL_law_357) (fun x1 M1 H locs h hL => ?_)
  refine lv_pop hx hb dL_law_360 rfl ?_
  refine lv_aload_n hx hb dL_law_361 rfl (lv_at hl 2 rfl) ?_
  refine lv_aload_n hx hb dL_law_362 rfl (lv_at hl 0 rfl) ?_
  refine lv_iload_n hx hb dL_law_363 rfl (lv_at hl 3 rfl) ?_
  refine lv_iconst (v := 1) hx hb dL_law_364 (by decide) ?_
  refine lv_iadd hx hb dL_law_365 ?_
  refine zl_ld (k := 1) hx hb hX hbl hL (by omega) hLs dL_law_366 ?_
  refine lv_aload_n hx hb dL_law_367 rfl (lv_at hl 0 rfl) ?_
  refine lv_iload_n hx hb dL_law_368 rfl (lv_at hl 3 rfl) ?_
  refine lv_iconst (v := 2) hx hb dL_law_369 (by decide) ?_
  refine lv_iadd hx hb dL_law_370 ?_
  refine zl_ld (k := 2) hx hb hX hbl hL (by omega) hLs dL_law_371 ?_
  refine zl_2i hA hL (zl_run (w := w2) (As := [.int (xs (i + 1)), .int (xs (i + 2))]) (rest := []) X2 hml hl hL.2.1 hL.2.2 h2.1 rfl zk_Law_46 (c_Model_pace h2 h) rfl ⟨Nat.le_of_ble_eq_true rfl, Nat.le_of_ble_eq_true rfl⟩ ⟨Nat.le_of_ble_eq_true rfl, Nat.le_of_ble_eq_true rfl⟩ rfl (Nat.le_of_ble_eq_true rfl) dL_law_372) (fun x2 W2 H locs h hL => ?_)
  refine lv_pop hx hb dL_law_375 rfl ?_
  refine lv_goto (tgt := 1243) hx hb dL_law_376 rfl ?_
  exact kk M1 W2 H locs h.2 hL
set_option maxHeartbeats 4000000 in
theorem lw_c7 {p : Program} {l : Launch} {e : Env} {s : State} {m : MethodId} {below : List Frame} {meth : Method} {c : Code} {H : Heap} {locs : List Loc} {ls : Array Slot} {w1 w2 : zWd} {M W' : zMem} {b L i : Nat} {xs : Nat → Int32} {K : zMem → zMem → Prop} (C0 : lw_At p s m meth c b L xs) (hLs : L < 2147483648) (X1 : zX w1 p s m #[Value.ref b] c code "HandToHandLaw") (X2 : zX w2 p s m #[Value.ref b] c code "HandToHandLaw") (h1 : zI_Main w1) (h2 : zI_Model w2) (hA : zLa w1 w2 s) (hi : i + 6 ≤ L) (hL : zLw w1 w2 s M W' H locs) (hl : lv_has ls 4 [(0, .ref b), (1, .ref (zad w1 0)), (2, .ref (zad w2 0)), (3, .int (nI i))]) (h : wp_Main_setPace (xs (i + 1)) (xs (i + 2)) (xs (i + 3)) M (fun x1 M1 => wp_Model_setPace (xs (i + 1)) (xs (i + 2)) (xs (i + 3)) W' (fun x2 W2 => x1 = x2 ∧ K M1 W2))) (kk : ∀ (M W' : zMem) (H : Heap) (locs : List Loc), K M W' → zLw w1 w2 s M W' H locs → W p l e room_1 s m #[Value.ref b] below meth c H locs 108 24481 (lw_Z below #[Value.ref b] s) (F0 m 1243 ls [])) : W p l e room_1 s m #[Value.ref b] below meth c H locs 108 24481 (lw_Z below #[Value.ref b] s) (F0 m 379 ls []) := by
  obtain ⟨hx, hb, hr, hml, hown, hts, hX, hbl, hlocks, hgv⟩ := id C0
  refine lv_aload_n hx hb dL_law_379 rfl (lv_at hl 1 rfl) ?_
  refine lv_aload_n hx hb dL_law_380 rfl (lv_at hl 0 rfl) ?_
  refine lv_iload_n hx hb dL_law_381 rfl (lv_at hl 3 rfl) ?_
  refine lv_iconst (v := 1) hx hb dL_law_382 (by decide) ?_
  refine lv_iadd hx hb dL_law_383 ?_
  refine zl_ld (k := 1) hx hb hX hbl hL (by omega) hLs dL_law_384 ?_
  refine lv_aload_n hx hb dL_law_385 rfl (lv_at hl 0 rfl) ?_
  refine lv_iload_n hx hb dL_law_386 rfl (lv_at hl 3 rfl) ?_
  refine lv_iconst (v := 2) hx hb dL_law_387 (by decide) ?_
  refine lv_iadd hx hb dL_law_388 ?_
  refine zl_ld (k := 2) hx hb hX hbl hL (by omega) hLs dL_law_389 ?_
  refine lv_aload_n hx hb dL_law_390 rfl (lv_at hl 0 rfl) ?_
  refine lv_iload_n hx hb dL_law_391 rfl (lv_at hl 3 rfl) ?_
  refine lv_iconst (v := 3) hx hb dL_law_392 (by decide) ?_
  refine lv_iadd hx hb dL_law_393 ?_
  refine zl_ld (k := 3) hx hb hX hbl hL (by omega) hLs dL_law_394 ?_
  refine zl_1i hA hL (zl_run (w := w1) (As := [.int (xs (i + 1)), .int (xs (i + 2)), .int (xs (i + 3))]) (rest := []) X1 hml hl hL.1 hL.2.2 h1.1 rfl zk_Law_47 (c_Main_setPace h1 h) rfl ⟨Nat.le_of_ble_eq_true rfl, Nat.le_of_ble_eq_true rfl⟩ ⟨Nat.le_of_ble_eq_true rfl, Nat.le_of_ble_eq_true rfl⟩ rfl (Nat.le_of_ble_eq_true rfl) dL_law_395) (fun x1 M1 H locs h hL => ?_)
  refine lv_pop hx hb dL_law_398 rfl ?_
  refine lv_aload_n hx hb dL_law_399 rfl (lv_at hl 2 rfl) ?_
  refine lv_aload_n hx hb dL_law_400 rfl (lv_at hl 0 rfl) ?_
  refine lv_iload_n hx hb dL_law_401 rfl (lv_at hl 3 rfl) ?_
  refine lv_iconst (v := 1) hx hb dL_law_402 (by decide) ?_
  refine lv_iadd hx hb dL_law_403 ?_
  refine zl_ld (k := 1) hx hb hX hbl hL (by omega) hLs dL_law_404 ?_
  refine lv_aload_n hx hb dL_law_405 rfl (lv_at hl 0 rfl) ?_
  refine lv_iload_n hx hb dL_law_406 rfl (lv_at hl 3 rfl) ?_
  refine lv_iconst (v := 2) hx hb dL_law_407 (by decide) ?_
  refine lv_iadd hx hb dL_law_408 ?_
  refine zl_ld (k := 2) hx hb hX hbl hL (by omega) hLs dL_law_409 ?_
  refine lv_aload_n hx hb dL_law_410 rfl (lv_at hl 0 rfl) ?_
  refine lv_iload_n hx hb dL_law_411 rfl (lv_at hl 3 rfl) ?_
  refine lv_iconst (v := 3) hx hb dL_law_412 (by decide) ?_
  refine lv_iadd hx hb dL_law_413 ?_
  refine zl_ld (k := 3) hx hb hX hbl hL (by omega) hLs dL_law_414 ?_
  refine zl_2i hA hL (zl_run (w := w2) (As := [.int (xs (i + 1)), .int (xs (i + 2)), .int (xs (i + 3))]) (rest := []) X2 hml hl hL.2.1 hL.2.2 h2.1 rfl zk_Law_51 (c_Model_setPace h2 h) rfl ⟨Nat.le_of_ble_eq_true rfl, Nat.le_of_ble_eq_true rfl⟩ ⟨Nat.le_of_ble_eq_true rfl, Nat.le_of_ble_eq_true rfl⟩ rfl (Nat.le_of_ble_eq_true rfl) dL_law_415) (fun x2 W2 H locs h hL => ?_)
  refine lv_pop hx hb dL_law_418 rfl ?_
  refine lv_goto (tgt := 1243) hx hb dL_law_419 rfl ?_
  exact kk M1 W2 H locs h.2 hL
set_option maxHeartbeats 4000000 in
theorem lw_c8 {p : Program} {l : Launch} {e : Env} {s : State} {m : MethodId} {below : List Frame} {meth : Method} {c : Code} {H : Heap} {locs : List Loc} {ls : Array Slot} {w1 w2 : zWd} {M W' : zMem} {b L i : Nat} {xs : Nat → Int32} {K : zMem → zMem → Prop} (C0 : lw_At p s m meth c b L xs) (hLs : L < 2147483648) (X1 : zX w1 p s m #[Value.ref b] c code "HandToHandLaw") (X2 : zX w2 p s m #[Value.ref b] c code "HandToHandLaw") (h1 : zI_Main w1) (h2 : zI_Model w2) (hA : zLa w1 w2 s) (hi : i + 6 ≤ L) (hL : zLw w1 w2 s M W' H locs) (hl : lv_has ls 4 [(0, .ref b), (1, .ref (zad w1 0)), (2, .ref (zad w2 0)), (3, .int (nI i))]) (h : wp_Main_begin  M (fun x1 M1 => wp_Model_begin  W' (fun x2 W2 => x1 = x2 ∧ K M1 W2))) (kk : ∀ (M W' : zMem) (H : Heap) (locs : List Loc), K M W' → zLw w1 w2 s M W' H locs → W p l e room_1 s m #[Value.ref b] below meth c H locs 108 24481 (lw_Z below #[Value.ref b] s) (F0 m 1243 ls [])) : W p l e room_1 s m #[Value.ref b] below meth c H locs 108 24481 (lw_Z below #[Value.ref b] s) (F0 m 422 ls []) := by
  obtain ⟨hx, hb, hr, hml, hown, hts, hX, hbl, hlocks, hgv⟩ := id C0
  refine lv_aload_n hx hb dL_law_422 rfl (lv_at hl 1 rfl) ?_
  refine zl_1i hA hL (zl_run (w := w1) (As := []) (rest := []) X1 hml hl hL.1 hL.2.2 h1.1 rfl zk_Law_52 (c_Main_begin h1 h) rfl ⟨Nat.le_of_ble_eq_true rfl, Nat.le_of_ble_eq_true rfl⟩ ⟨Nat.le_of_ble_eq_true rfl, Nat.le_of_ble_eq_true rfl⟩ rfl (Nat.le_of_ble_eq_true rfl) dL_law_423) (fun x1 M1 H locs h hL => ?_)
  refine lv_pop hx hb dL_law_426 rfl ?_
  refine lv_aload_n hx hb dL_law_427 rfl (lv_at hl 2 rfl) ?_
  refine zl_2i hA hL (zl_run (w := w2) (As := []) (rest := []) X2 hml hl hL.2.1 hL.2.2 h2.1 rfl zk_Law_55 (c_Model_begin h2 h) rfl ⟨Nat.le_of_ble_eq_true rfl, Nat.le_of_ble_eq_true rfl⟩ ⟨Nat.le_of_ble_eq_true rfl, Nat.le_of_ble_eq_true rfl⟩ rfl (Nat.le_of_ble_eq_true rfl) dL_law_428) (fun x2 W2 H locs h hL => ?_)
  refine lv_pop hx hb dL_law_431 rfl ?_
  refine lv_goto (tgt := 1243) hx hb dL_law_432 rfl ?_
  exact kk M1 W2 H locs h.2 hL
set_option maxHeartbeats 4000000 in
theorem lw_c9 {p : Program} {l : Launch} {e : Env} {s : State} {m : MethodId} {below : List Frame} {meth : Method} {c : Code} {H : Heap} {locs : List Loc} {ls : Array Slot} {w1 w2 : zWd} {M W' : zMem} {b L i : Nat} {xs : Nat → Int32} {K : zMem → zMem → Prop} (C0 : lw_At p s m meth c b L xs) (hLs : L < 2147483648) (X1 : zX w1 p s m #[Value.ref b] c code "HandToHandLaw") (X2 : zX w2 p s m #[Value.ref b] c code "HandToHandLaw") (h1 : zI_Main w1) (h2 : zI_Model w2) (hA : zLa w1 w2 s) (hi : i + 6 ≤ L) (hL : zLw w1 w2 s M W' H locs) (hl : lv_has ls 4 [(0, .ref b), (1, .ref (zad w1 0)), (2, .ref (zad w2 0)), (3, .int (nI i))]) (h : wp_Main_go (xs (i + 1)) M (fun x1 M1 => wp_Model_go (xs (i + 1)) W' (fun x2 W2 => x1 = x2 ∧ K M1 W2))) (kk : ∀ (M W' : zMem) (H : Heap) (locs : List Loc), K M W' → zLw w1 w2 s M W' H locs → W p l e room_1 s m #[Value.ref b] below meth c H locs 108 24481 (lw_Z below #[Value.ref b] s) (F0 m 1243 ls [])) : W p l e room_1 s m #[Value.ref b] below meth c H locs 108 24481 (lw_Z below #[Value.ref b] s) (F0 m 435 ls []) := by
  obtain ⟨hx, hb, hr, hml, hown, hts, hX, hbl, hlocks, hgv⟩ := id C0
  refine lv_aload_n hx hb dL_law_435 rfl (lv_at hl 1 rfl) ?_
  refine lv_aload_n hx hb dL_law_436 rfl (lv_at hl 0 rfl) ?_
  refine lv_iload_n hx hb dL_law_437 rfl (lv_at hl 3 rfl) ?_
  refine lv_iconst (v := 1) hx hb dL_law_438 (by decide) ?_
  refine lv_iadd hx hb dL_law_439 ?_
  refine zl_ld (k := 1) hx hb hX hbl hL (by omega) hLs dL_law_440 ?_
  refine zl_1i hA hL (zl_run (w := w1) (As := [.int (xs (i + 1))]) (rest := []) X1 hml hl hL.1 hL.2.2 h1.1 rfl zk_Law_56 (c_Main_go h1 h) rfl ⟨Nat.le_of_ble_eq_true rfl, Nat.le_of_ble_eq_true rfl⟩ ⟨Nat.le_of_ble_eq_true rfl, Nat.le_of_ble_eq_true rfl⟩ rfl (Nat.le_of_ble_eq_true rfl) dL_law_441) (fun x1 M1 H locs h hL => ?_)
  refine lv_pop hx hb dL_law_444 rfl ?_
  refine lv_aload_n hx hb dL_law_445 rfl (lv_at hl 2 rfl) ?_
  refine lv_aload_n hx hb dL_law_446 rfl (lv_at hl 0 rfl) ?_
  refine lv_iload_n hx hb dL_law_447 rfl (lv_at hl 3 rfl) ?_
  refine lv_iconst (v := 1) hx hb dL_law_448 (by decide) ?_
  refine lv_iadd hx hb dL_law_449 ?_
  refine zl_ld (k := 1) hx hb hX hbl hL (by omega) hLs dL_law_450 ?_
  refine zl_2i hA hL (zl_run (w := w2) (As := [.int (xs (i + 1))]) (rest := []) X2 hml hl hL.2.1 hL.2.2 h2.1 rfl zk_Law_59 (c_Model_go h2 h) rfl ⟨Nat.le_of_ble_eq_true rfl, Nat.le_of_ble_eq_true rfl⟩ ⟨Nat.le_of_ble_eq_true rfl, Nat.le_of_ble_eq_true rfl⟩ rfl (Nat.le_of_ble_eq_true rfl) dL_law_451) (fun x2 W2 H locs h hL => ?_)
  refine lv_pop hx hb dL_law_454 rfl ?_
  refine lv_goto (tgt := 1243) hx hb dL_law_455 rfl ?_
  exact kk M1 W2 H locs h.2 hL
set_option maxHeartbeats 4000000 in
theorem lw_c10 {p : Program} {l : Launch} {e : Env} {s : State} {m : MethodId} {below : List Frame} {meth : Method} {c : Code} {H : Heap} {locs : List Loc} {ls : Array Slot} {w1 w2 : zWd} {M W' : zMem} {b L i : Nat} {xs : Nat → Int32} {K : zMem → zMem → Prop} (C0 : lw_At p s m meth c b L xs) (hLs : L < 2147483648) (X1 : zX w1 p s m #[Value.ref b] c code "HandToHandLaw") (X2 : zX w2 p s m #[Value.ref b] c code "HandToHandLaw") (h1 : zI_Main w1) (h2 : zI_Model w2) (hA : zLa w1 w2 s) (hi : i + 6 ≤ L) (hL : zLw w1 w2 s M W' H locs) (hl : lv_has ls 4 [(0, .ref b), (1, .ref (zad w1 0)), (2, .ref (zad w2 0)), (3, .int (nI i))]) (h : wp_Main_night  M (fun x1 M1 => wp_Model_night  W' (fun x2 W2 => x1 = x2 ∧ K M1 W2))) (kk : ∀ (M W' : zMem) (H : Heap) (locs : List Loc), K M W' → zLw w1 w2 s M W' H locs → W p l e room_1 s m #[Value.ref b] below meth c H locs 108 24481 (lw_Z below #[Value.ref b] s) (F0 m 1243 ls [])) : W p l e room_1 s m #[Value.ref b] below meth c H locs 108 24481 (lw_Z below #[Value.ref b] s) (F0 m 458 ls []) := by
  obtain ⟨hx, hb, hr, hml, hown, hts, hX, hbl, hlocks, hgv⟩ := id C0
  refine lv_aload_n hx hb dL_law_458 rfl (lv_at hl 1 rfl) ?_
  refine zl_1i hA hL (zl_run (w := w1) (As := []) (rest := []) X1 hml hl hL.1 hL.2.2 h1.1 rfl zk_Law_60 (c_Main_night h1 h) rfl ⟨Nat.le_of_ble_eq_true rfl, Nat.le_of_ble_eq_true rfl⟩ ⟨Nat.le_of_ble_eq_true rfl, Nat.le_of_ble_eq_true rfl⟩ rfl (Nat.le_of_ble_eq_true rfl) dL_law_459) (fun x1 M1 H locs h hL => ?_)
  refine lv_pop hx hb dL_law_462 rfl ?_
  refine lv_aload_n hx hb dL_law_463 rfl (lv_at hl 2 rfl) ?_
  refine zl_2i hA hL (zl_run (w := w2) (As := []) (rest := []) X2 hml hl hL.2.1 hL.2.2 h2.1 rfl zk_Law_63 (c_Model_night h2 h) rfl ⟨Nat.le_of_ble_eq_true rfl, Nat.le_of_ble_eq_true rfl⟩ ⟨Nat.le_of_ble_eq_true rfl, Nat.le_of_ble_eq_true rfl⟩ rfl (Nat.le_of_ble_eq_true rfl) dL_law_464) (fun x2 W2 H locs h hL => ?_)
  refine lv_pop hx hb dL_law_467 rfl ?_
  refine lv_goto (tgt := 1243) hx hb dL_law_468 rfl ?_
  exact kk M1 W2 H locs h.2 hL
set_option maxHeartbeats 4000000 in
theorem lw_c11 {p : Program} {l : Launch} {e : Env} {s : State} {m : MethodId} {below : List Frame} {meth : Method} {c : Code} {H : Heap} {locs : List Loc} {ls : Array Slot} {w1 w2 : zWd} {M W' : zMem} {b L i : Nat} {xs : Nat → Int32} {K : zMem → zMem → Prop} (C0 : lw_At p s m meth c b L xs) (hLs : L < 2147483648) (X1 : zX w1 p s m #[Value.ref b] c code "HandToHandLaw") (X2 : zX w2 p s m #[Value.ref b] c code "HandToHandLaw") (h1 : zI_Main w1) (h2 : zI_Model w2) (hA : zLa w1 w2 s) (hi : i + 6 ≤ L) (hL : zLw w1 w2 s M W' H locs) (hl : lv_has ls 4 [(0, .ref b), (1, .ref (zad w1 0)), (2, .ref (zad w2 0)), (3, .int (nI i))]) (h : wp_Main_now (xs (i + 1)) M (fun x1 M1 => wp_Model_now (xs (i + 1)) W' (fun x2 W2 => x1 = x2 ∧ K M1 W2))) (kk : ∀ (M W' : zMem) (H : Heap) (locs : List Loc), K M W' → zLw w1 w2 s M W' H locs → W p l e room_1 s m #[Value.ref b] below meth c H locs 108 24481 (lw_Z below #[Value.ref b] s) (F0 m 1243 ls [])) : W p l e room_1 s m #[Value.ref b] below meth c H locs 108 24481 (lw_Z below #[Value.ref b] s) (F0 m 471 ls []) := by
  obtain ⟨hx, hb, hr, hml, hown, hts, hX, hbl, hlocks, hgv⟩ := id C0
  refine lv_aload_n hx hb dL_law_471 rfl (lv_at hl 1 rfl) ?_
  refine lv_aload_n hx hb dL_law_472 rfl (lv_at hl 0 rfl) ?_
  refine lv_iload_n hx hb dL_law_473 rfl (lv_at hl 3 rfl) ?_
  refine lv_iconst (v := 1) hx hb dL_law_474 (by decide) ?_
  refine lv_iadd hx hb dL_law_475 ?_
  refine zl_ld (k := 1) hx hb hX hbl hL (by omega) hLs dL_law_476 ?_
  refine zl_1i hA hL (zl_run (w := w1) (As := [.int (xs (i + 1))]) (rest := []) X1 hml hl hL.1 hL.2.2 h1.1 rfl zk_Law_64 (c_Main_now h1 h) rfl ⟨Nat.le_of_ble_eq_true rfl, Nat.le_of_ble_eq_true rfl⟩ ⟨Nat.le_of_ble_eq_true rfl, Nat.le_of_ble_eq_true rfl⟩ rfl (Nat.le_of_ble_eq_true rfl) dL_law_477) (fun x1 M1 H locs h hL => ?_)
  refine lv_pop hx hb dL_law_480 rfl ?_
  refine lv_aload_n hx hb dL_law_481 rfl (lv_at hl 2 rfl) ?_
  refine lv_aload_n hx hb dL_law_482 rfl (lv_at hl 0 rfl) ?_
  refine lv_iload_n hx hb dL_law_483 rfl (lv_at hl 3 rfl) ?_
  refine lv_iconst (v := 1) hx hb dL_law_484 (by decide) ?_
  refine lv_iadd hx hb dL_law_485 ?_
  refine zl_ld (k := 1) hx hb hX hbl hL (by omega) hLs dL_law_486 ?_
  refine zl_2i hA hL (zl_run (w := w2) (As := [.int (xs (i + 1))]) (rest := []) X2 hml hl hL.2.1 hL.2.2 h2.1 rfl zk_Law_67 (c_Model_now h2 h) rfl ⟨Nat.le_of_ble_eq_true rfl, Nat.le_of_ble_eq_true rfl⟩ ⟨Nat.le_of_ble_eq_true rfl, Nat.le_of_ble_eq_true rfl⟩ rfl (Nat.le_of_ble_eq_true rfl) dL_law_487) (fun x2 W2 H locs h hL => ?_)
  refine lv_pop hx hb dL_law_490 rfl ?_
  refine lv_goto (tgt := 1243) hx hb dL_law_491 rfl ?_
  exact kk M1 W2 H locs h.2 hL
set_option maxHeartbeats 4000000 in
theorem lw_c12 {p : Program} {l : Launch} {e : Env} {s : State} {m : MethodId} {below : List Frame} {meth : Method} {c : Code} {H : Heap} {locs : List Loc} {ls : Array Slot} {w1 w2 : zWd} {M W' : zMem} {b L i : Nat} {xs : Nat → Int32} {K : zMem → zMem → Prop} (C0 : lw_At p s m meth c b L xs) (hLs : L < 2147483648) (X1 : zX w1 p s m #[Value.ref b] c code "HandToHandLaw") (X2 : zX w2 p s m #[Value.ref b] c code "HandToHandLaw") (h1 : zI_Main w1) (h2 : zI_Model w2) (hA : zLa w1 w2 s) (hi : i + 6 ≤ L) (hL : zLw w1 w2 s M W' H locs) (hl : lv_has ls 4 [(0, .ref b), (1, .ref (zad w1 0)), (2, .ref (zad w2 0)), (3, .int (nI i))]) (h : wp_Main_hand (xs (i + 1)) (xs (i + 2)) M (fun x1 M1 => wp_Model_hand (xs (i + 1)) (xs (i + 2)) W' (fun x2 W2 => x1 = x2 ∧ K M1 W2))) (kk : ∀ (M W' : zMem) (H : Heap) (locs : List Loc), K M W' → zLw w1 w2 s M W' H locs → W p l e room_1 s m #[Value.ref b] below meth c H locs 108 24481 (lw_Z below #[Value.ref b] s) (F0 m 1243 ls [])) : W p l e room_1 s m #[Value.ref b] below meth c H locs 108 24481 (lw_Z below #[Value.ref b] s) (F0 m 494 ls []) := by
  obtain ⟨hx, hb, hr, hml, hown, hts, hX, hbl, hlocks, hgv⟩ := id C0
  refine lv_aload_n hx hb dL_law_494 rfl (lv_at hl 1 rfl) ?_
  refine lv_aload_n hx hb dL_law_495 rfl (lv_at hl 0 rfl) ?_
  refine lv_iload_n hx hb dL_law_496 rfl (lv_at hl 3 rfl) ?_
  refine lv_iconst (v := 1) hx hb dL_law_497 (by decide) ?_
  refine lv_iadd hx hb dL_law_498 ?_
  refine zl_ld (k := 1) hx hb hX hbl hL (by omega) hLs dL_law_499 ?_
  refine lv_aload_n hx hb dL_law_500 rfl (lv_at hl 0 rfl) ?_
  refine lv_iload_n hx hb dL_law_501 rfl (lv_at hl 3 rfl) ?_
  refine lv_iconst (v := 2) hx hb dL_law_502 (by decide) ?_
  refine lv_iadd hx hb dL_law_503 ?_
  refine zl_ld (k := 2) hx hb hX hbl hL (by omega) hLs dL_law_504 ?_
  refine zl_1i hA hL (zl_run (w := w1) (As := [.int (xs (i + 1)), .int (xs (i + 2))]) (rest := []) X1 hml hl hL.1 hL.2.2 h1.1 rfl zk_Law_68 (c_Main_hand h1 h) rfl ⟨Nat.le_of_ble_eq_true rfl, Nat.le_of_ble_eq_true rfl⟩ ⟨Nat.le_of_ble_eq_true rfl, Nat.le_of_ble_eq_true rfl⟩ rfl (Nat.le_of_ble_eq_true rfl) dL_law_505) (fun x1 M1 H locs h hL => ?_)
  refine lv_pop hx hb dL_law_508 rfl ?_
  refine lv_aload_n hx hb dL_law_509 rfl (lv_at hl 2 rfl) ?_
  refine lv_aload_n hx hb dL_law_510 rfl (lv_at hl 0 rfl) ?_
  refine lv_iload_n hx hb dL_law_511 rfl (lv_at hl 3 rfl) ?_
  refine lv_iconst (v := 1) hx hb dL_law_512 (by decide) ?_
  refine lv_iadd hx hb dL_law_513 ?_
  refine zl_ld (k := 1) hx hb hX hbl hL (by omega) hLs dL_law_514 ?_
  refine lv_aload_n hx hb dL_law_515 rfl (lv_at hl 0 rfl) ?_
  refine lv_iload_n hx hb dL_law_516 rfl (lv_at hl 3 rfl) ?_
  refine lv_iconst (v := 2) hx hb dL_law_517 (by decide) ?_
  refine lv_iadd hx hb dL_law_518 ?_
  refine zl_ld (k := 2) hx hb hX hbl hL (by omega) hLs dL_law_519 ?_
  refine zl_2i hA hL (zl_run (w := w2) (As := [.int (xs (i + 1)), .int (xs (i + 2))]) (rest := []) X2 hml hl hL.2.1 hL.2.2 h2.1 rfl zk_Law_71 (c_Model_hand h2 h) rfl ⟨Nat.le_of_ble_eq_true rfl, Nat.le_of_ble_eq_true rfl⟩ ⟨Nat.le_of_ble_eq_true rfl, Nat.le_of_ble_eq_true rfl⟩ rfl (Nat.le_of_ble_eq_true rfl) dL_law_520) (fun x2 W2 H locs h hL => ?_)
  refine lv_pop hx hb dL_law_523 rfl ?_
  refine lv_goto (tgt := 1243) hx hb dL_law_524 rfl ?_
  exact kk M1 W2 H locs h.2 hL
set_option maxHeartbeats 4000000 in
theorem lw_c13 {p : Program} {l : Launch} {e : Env} {s : State} {m : MethodId} {below : List Frame} {meth : Method} {c : Code} {H : Heap} {locs : List Loc} {ls : Array Slot} {w1 w2 : zWd} {M W' : zMem} {b L i : Nat} {xs : Nat → Int32} {K : zMem → zMem → Prop} (C0 : lw_At p s m meth c b L xs) (hLs : L < 2147483648) (X1 : zX w1 p s m #[Value.ref b] c code "HandToHandLaw") (X2 : zX w2 p s m #[Value.ref b] c code "HandToHandLaw") (h1 : zI_Main w1) (h2 : zI_Model w2) (hA : zLa w1 w2 s) (hi : i + 6 ≤ L) (hL : zLw w1 w2 s M W' H locs) (hl : lv_has ls 4 [(0, .ref b), (1, .ref (zad w1 0)), (2, .ref (zad w2 0)), (3, .int (nI i))]) (h : wp_Main_learnt (xs (i + 1)) (xs (i + 2)) M (fun x1 M1 => wp_Model_learnt (xs (i + 1)) (xs (i + 2)) W' (fun x2 W2 => x1 = x2 ∧ K M1 W2))) (kk : ∀ (M W' : zMem) (H : Heap) (locs : List Loc), K M W' → zLw w1 w2 s M W' H locs → W p l e room_1 s m #[Value.ref b] below meth c H locs 108 24481 (lw_Z below #[Value.ref b] s) (F0 m 1243 ls [])) : W p l e room_1 s m #[Value.ref b] below meth c H locs 108 24481 (lw_Z below #[Value.ref b] s) (F0 m 527 ls []) := by
  obtain ⟨hx, hb, hr, hml, hown, hts, hX, hbl, hlocks, hgv⟩ := id C0
  refine lv_aload_n hx hb dL_law_527 rfl (lv_at hl 1 rfl) ?_
  refine lv_aload_n hx hb dL_law_528 rfl (lv_at hl 0 rfl) ?_
  refine lv_iload_n hx hb dL_law_529 rfl (lv_at hl 3 rfl) ?_
  refine lv_iconst (v := 1) hx hb dL_law_530 (by decide) ?_
  refine lv_iadd hx hb dL_law_531 ?_
  refine zl_ld (k := 1) hx hb hX hbl hL (by omega) hLs dL_law_532 ?_
  refine lv_aload_n hx hb dL_law_533 rfl (lv_at hl 0 rfl) ?_
  refine lv_iload_n hx hb dL_law_534 rfl (lv_at hl 3 rfl) ?_
  refine lv_iconst (v := 2) hx hb dL_law_535 (by decide) ?_
  refine lv_iadd hx hb dL_law_536 ?_
  refine zl_ld (k := 2) hx hb hX hbl hL (by omega) hLs dL_law_537 ?_
  refine zl_1i hA hL (zl_run (w := w1) (As := [.int (xs (i + 1)), .int (xs (i + 2))]) (rest := []) X1 hml hl hL.1 hL.2.2 h1.1 rfl zk_Law_72 (c_Main_learnt h1 h) rfl ⟨Nat.le_of_ble_eq_true rfl, Nat.le_of_ble_eq_true rfl⟩ ⟨Nat.le_of_ble_eq_true rfl, Nat.le_of_ble_eq_true rfl⟩ rfl (Nat.le_of_ble_eq_true rfl) dL_law_538) (fun x1 M1 H locs h hL => ?_)
  refine lv_pop hx hb dL_law_541 rfl ?_
  refine lv_aload_n hx hb dL_law_542 rfl (lv_at hl 2 rfl) ?_
  refine lv_aload_n hx hb dL_law_543 rfl (lv_at hl 0 rfl) ?_
  refine lv_iload_n hx hb dL_law_544 rfl (lv_at hl 3 rfl) ?_
  refine lv_iconst (v := 1) hx hb dL_law_545 (by decide) ?_
  refine lv_iadd hx hb dL_law_546 ?_
  refine zl_ld (k := 1) hx hb hX hbl hL (by omega) hLs dL_law_547 ?_
  refine lv_aload_n hx hb dL_law_548 rfl (lv_at hl 0 rfl) ?_
  refine lv_iload_n hx hb dL_law_549 rfl (lv_at hl 3 rfl) ?_
  refine lv_iconst (v := 2) hx hb dL_law_550 (by decide) ?_
  refine lv_iadd hx hb dL_law_551 ?_
  refine zl_ld (k := 2) hx hb hX hbl hL (by omega) hLs dL_law_552 ?_
  refine zl_2i hA hL (zl_run (w := w2) (As := [.int (xs (i + 1)), .int (xs (i + 2))]) (rest := []) X2 hml hl hL.2.1 hL.2.2 h2.1 rfl zk_Law_75 (c_Model_learnt h2 h) rfl ⟨Nat.le_of_ble_eq_true rfl, Nat.le_of_ble_eq_true rfl⟩ ⟨Nat.le_of_ble_eq_true rfl, Nat.le_of_ble_eq_true rfl⟩ rfl (Nat.le_of_ble_eq_true rfl) dL_law_553) (fun x2 W2 H locs h hL => ?_)
  refine lv_pop hx hb dL_law_556 rfl ?_
  refine lv_goto (tgt := 1243) hx hb dL_law_557 rfl ?_
  exact kk M1 W2 H locs h.2 hL
set_option maxHeartbeats 4000000 in
theorem lw_c14 {p : Program} {l : Launch} {e : Env} {s : State} {m : MethodId} {below : List Frame} {meth : Method} {c : Code} {H : Heap} {locs : List Loc} {ls : Array Slot} {w1 w2 : zWd} {M W' : zMem} {b L i : Nat} {xs : Nat → Int32} {K : zMem → zMem → Prop} (C0 : lw_At p s m meth c b L xs) (hLs : L < 2147483648) (X1 : zX w1 p s m #[Value.ref b] c code "HandToHandLaw") (X2 : zX w2 p s m #[Value.ref b] c code "HandToHandLaw") (h1 : zI_Main w1) (h2 : zI_Model w2) (hA : zLa w1 w2 s) (hi : i + 6 ≤ L) (hL : zLw w1 w2 s M W' H locs) (hl : lv_has ls 4 [(0, .ref b), (1, .ref (zad w1 0)), (2, .ref (zad w2 0)), (3, .int (nI i))]) (h : wp_Main_takes (xs (i + 1)) (xs (i + 2)) M (fun x1 M1 => wp_Model_takes (xs (i + 1)) (xs (i + 2)) W' (fun x2 W2 => x1 = x2 ∧ K M1 W2))) (kk : ∀ (M W' : zMem) (H : Heap) (locs : List Loc), K M W' → zLw w1 w2 s M W' H locs → W p l e room_1 s m #[Value.ref b] below meth c H locs 108 24481 (lw_Z below #[Value.ref b] s) (F0 m 1243 ls [])) : W p l e room_1 s m #[Value.ref b] below meth c H locs 108 24481 (lw_Z below #[Value.ref b] s) (F0 m 560 ls []) := by
  obtain ⟨hx, hb, hr, hml, hown, hts, hX, hbl, hlocks, hgv⟩ := id C0
  refine lv_aload_n hx hb dL_law_560 rfl (lv_at hl 1 rfl) ?_
  refine lv_aload_n hx hb dL_law_561 rfl (lv_at hl 0 rfl) ?_
  refine lv_iload_n hx hb dL_law_562 rfl (lv_at hl 3 rfl) ?_
  refine lv_iconst (v := 1) hx hb dL_law_563 (by decide) ?_
  refine lv_iadd hx hb dL_law_564 ?_
  refine zl_ld (k := 1) hx hb hX hbl hL (by omega) hLs dL_law_565 ?_
  refine lv_aload_n hx hb dL_law_566 rfl (lv_at hl 0 rfl) ?_
  refine lv_iload_n hx hb dL_law_567 rfl (lv_at hl 3 rfl) ?_
  refine lv_iconst (v := 2) hx hb dL_law_568 (by decide) ?_
  refine lv_iadd hx hb dL_law_569 ?_
  refine zl_ld (k := 2) hx hb hX hbl hL (by omega) hLs dL_law_570 ?_
  refine zl_1i hA hL (zl_run (w := w1) (As := [.int (xs (i + 1)), .int (xs (i + 2))]) (rest := []) X1 hml hl hL.1 hL.2.2 h1.1 rfl zk_Law_76 (c_Main_takes h1 h) rfl ⟨Nat.le_of_ble_eq_true rfl, Nat.le_of_ble_eq_true rfl⟩ ⟨Nat.le_of_ble_eq_true rfl, Nat.le_of_ble_eq_true rfl⟩ rfl (Nat.le_of_ble_eq_true rfl) dL_law_571) (fun x1 M1 H locs h hL => ?_)
  refine lv_pop hx hb dL_law_574 rfl ?_
  refine lv_aload_n hx hb dL_law_575 rfl (lv_at hl 2 rfl) ?_
  refine lv_aload_n hx hb dL_law_576 rfl (lv_at hl 0 rfl) ?_
  refine lv_iload_n hx hb dL_law_577 rfl (lv_at hl 3 rfl) ?_
  refine lv_iconst (v := 1) hx hb dL_law_578 (by decide) ?_
  refine lv_iadd hx hb dL_law_579 ?_
  refine zl_ld (k := 1) hx hb hX hbl hL (by omega) hLs dL_law_580 ?_
  refine lv_aload_n hx hb dL_law_581 rfl (lv_at hl 0 rfl) ?_
  refine lv_iload_n hx hb dL_law_582 rfl (lv_at hl 3 rfl) ?_
  refine lv_iconst (v := 2) hx hb dL_law_583 (by decide) ?_
  refine lv_iadd hx hb dL_law_584 ?_
  refine zl_ld (k := 2) hx hb hX hbl hL (by omega) hLs dL_law_585 ?_
  refine zl_2i hA hL (zl_run (w := w2) (As := [.int (xs (i + 1)), .int (xs (i + 2))]) (rest := []) X2 hml hl hL.2.1 hL.2.2 h2.1 rfl zk_Law_79 (c_Model_takes h2 h) rfl ⟨Nat.le_of_ble_eq_true rfl, Nat.le_of_ble_eq_true rfl⟩ ⟨Nat.le_of_ble_eq_true rfl, Nat.le_of_ble_eq_true rfl⟩ rfl (Nat.le_of_ble_eq_true rfl) dL_law_586) (fun x2 W2 H locs h hL => ?_)
  refine lv_pop hx hb dL_law_589 rfl ?_
  refine lv_goto (tgt := 1243) hx hb dL_law_590 rfl ?_
  exact kk M1 W2 H locs h.2 hL
set_option maxHeartbeats 4000000 in
theorem lw_c15 {p : Program} {l : Launch} {e : Env} {s : State} {m : MethodId} {below : List Frame} {meth : Method} {c : Code} {H : Heap} {locs : List Loc} {ls : Array Slot} {w1 w2 : zWd} {M W' : zMem} {b L i : Nat} {xs : Nat → Int32} {K : zMem → zMem → Prop} (C0 : lw_At p s m meth c b L xs) (hLs : L < 2147483648) (X1 : zX w1 p s m #[Value.ref b] c code "HandToHandLaw") (X2 : zX w2 p s m #[Value.ref b] c code "HandToHandLaw") (h1 : zI_Main w1) (h2 : zI_Model w2) (hA : zLa w1 w2 s) (hi : i + 6 ≤ L) (hL : zLw w1 w2 s M W' H locs) (hl : lv_has ls 4 [(0, .ref b), (1, .ref (zad w1 0)), (2, .ref (zad w2 0)), (3, .int (nI i))]) (h : wp_Main_keep (xs (i + 1)) M (fun x1 M1 => wp_Model_keep (xs (i + 1)) W' (fun x2 W2 => x1 = x2 ∧ K M1 W2))) (kk : ∀ (M W' : zMem) (H : Heap) (locs : List Loc), K M W' → zLw w1 w2 s M W' H locs → W p l e room_1 s m #[Value.ref b] below meth c H locs 108 24481 (lw_Z below #[Value.ref b] s) (F0 m 1243 ls [])) : W p l e room_1 s m #[Value.ref b] below meth c H locs 108 24481 (lw_Z below #[Value.ref b] s) (F0 m 593 ls []) := by
  obtain ⟨hx, hb, hr, hml, hown, hts, hX, hbl, hlocks, hgv⟩ := id C0
  refine lv_aload_n hx hb dL_law_593 rfl (lv_at hl 1 rfl) ?_
  refine lv_aload_n hx hb dL_law_594 rfl (lv_at hl 0 rfl) ?_
  refine lv_iload_n hx hb dL_law_595 rfl (lv_at hl 3 rfl) ?_
  refine lv_iconst (v := 1) hx hb dL_law_596 (by decide) ?_
  refine lv_iadd hx hb dL_law_597 ?_
  refine zl_ld (k := 1) hx hb hX hbl hL (by omega) hLs dL_law_598 ?_
  refine zl_1i hA hL (zl_run (w := w1) (As := [.int (xs (i + 1))]) (rest := []) X1 hml hl hL.1 hL.2.2 h1.1 rfl zk_Law_80 (c_Main_keep h1 h) rfl ⟨Nat.le_of_ble_eq_true rfl, Nat.le_of_ble_eq_true rfl⟩ ⟨Nat.le_of_ble_eq_true rfl, Nat.le_of_ble_eq_true rfl⟩ rfl (Nat.le_of_ble_eq_true rfl) dL_law_599) (fun x1 M1 H locs h hL => ?_)
  refine lv_pop hx hb dL_law_602 rfl ?_
  refine lv_aload_n hx hb dL_law_603 rfl (lv_at hl 2 rfl) ?_
  refine lv_aload_n hx hb dL_law_604 rfl (lv_at hl 0 rfl) ?_
  refine lv_iload_n hx hb dL_law_605 rfl (lv_at hl 3 rfl) ?_
  refine lv_iconst (v := 1) hx hb dL_law_606 (by decide) ?_
  refine lv_iadd hx hb dL_law_607 ?_
  refine zl_ld (k := 1) hx hb hX hbl hL (by omega) hLs dL_law_608 ?_
  refine zl_2i hA hL (zl_run (w := w2) (As := [.int (xs (i + 1))]) (rest := []) X2 hml hl hL.2.1 hL.2.2 h2.1 rfl zk_Law_83 (c_Model_keep h2 h) rfl ⟨Nat.le_of_ble_eq_true rfl, Nat.le_of_ble_eq_true rfl⟩ ⟨Nat.le_of_ble_eq_true rfl, Nat.le_of_ble_eq_true rfl⟩ rfl (Nat.le_of_ble_eq_true rfl) dL_law_609) (fun x2 W2 H locs h hL => ?_)
  refine lv_pop hx hb dL_law_612 rfl ?_
  refine lv_goto (tgt := 1243) hx hb dL_law_613 rfl ?_
  exact kk M1 W2 H locs h.2 hL
set_option maxHeartbeats 4000000 in
theorem lw_c16 {p : Program} {l : Launch} {e : Env} {s : State} {m : MethodId} {below : List Frame} {meth : Method} {c : Code} {H : Heap} {locs : List Loc} {ls : Array Slot} {w1 w2 : zWd} {M W' : zMem} {b L i : Nat} {xs : Nat → Int32} {K : zMem → zMem → Prop} (C0 : lw_At p s m meth c b L xs) (hLs : L < 2147483648) (X1 : zX w1 p s m #[Value.ref b] c code "HandToHandLaw") (X2 : zX w2 p s m #[Value.ref b] c code "HandToHandLaw") (h1 : zI_Main w1) (h2 : zI_Model w2) (hA : zLa w1 w2 s) (hi : i + 6 ≤ L) (hL : zLw w1 w2 s M W' H locs) (hl : lv_has ls 4 [(0, .ref b), (1, .ref (zad w1 0)), (2, .ref (zad w2 0)), (3, .int (nI i))]) (h : wp_Main_back (xs (i + 1)) M (fun x1 M1 => wp_Model_back (xs (i + 1)) W' (fun x2 W2 => x1 = x2 ∧ K M1 W2))) (kk : ∀ (M W' : zMem) (H : Heap) (locs : List Loc), K M W' → zLw w1 w2 s M W' H locs → W p l e room_1 s m #[Value.ref b] below meth c H locs 108 24481 (lw_Z below #[Value.ref b] s) (F0 m 1243 ls [])) : W p l e room_1 s m #[Value.ref b] below meth c H locs 108 24481 (lw_Z below #[Value.ref b] s) (F0 m 616 ls []) := by
  obtain ⟨hx, hb, hr, hml, hown, hts, hX, hbl, hlocks, hgv⟩ := id C0
  refine lv_aload_n hx hb dL_law_616 rfl (lv_at hl 1 rfl) ?_
  refine lv_aload_n hx hb dL_law_617 rfl (lv_at hl 0 rfl) ?_
  refine lv_iload_n hx hb dL_law_618 rfl (lv_at hl 3 rfl) ?_
  refine lv_iconst (v := 1) hx hb dL_law_619 (by decide) ?_
  refine lv_iadd hx hb dL_law_620 ?_
  refine zl_ld (k := 1) hx hb hX hbl hL (by omega) hLs dL_law_621 ?_
  refine zl_1i hA hL (zl_run (w := w1) (As := [.int (xs (i + 1))]) (rest := []) X1 hml hl hL.1 hL.2.2 h1.1 rfl zk_Law_84 (c_Main_back h1 h) rfl ⟨Nat.le_of_ble_eq_true rfl, Nat.le_of_ble_eq_true rfl⟩ ⟨Nat.le_of_ble_eq_true rfl, Nat.le_of_ble_eq_true rfl⟩ rfl (Nat.le_of_ble_eq_true rfl) dL_law_622) (fun x1 M1 H locs h hL => ?_)
  refine lv_pop hx hb dL_law_625 rfl ?_
  refine lv_aload_n hx hb dL_law_626 rfl (lv_at hl 2 rfl) ?_
  refine lv_aload_n hx hb dL_law_627 rfl (lv_at hl 0 rfl) ?_
  refine lv_iload_n hx hb dL_law_628 rfl (lv_at hl 3 rfl) ?_
  refine lv_iconst (v := 1) hx hb dL_law_629 (by decide) ?_
  refine lv_iadd hx hb dL_law_630 ?_
  refine zl_ld (k := 1) hx hb hX hbl hL (by omega) hLs dL_law_631 ?_
  refine zl_2i hA hL (zl_run (w := w2) (As := [.int (xs (i + 1))]) (rest := []) X2 hml hl hL.2.1 hL.2.2 h2.1 rfl zk_Law_87 (c_Model_back h2 h) rfl ⟨Nat.le_of_ble_eq_true rfl, Nat.le_of_ble_eq_true rfl⟩ ⟨Nat.le_of_ble_eq_true rfl, Nat.le_of_ble_eq_true rfl⟩ rfl (Nat.le_of_ble_eq_true rfl) dL_law_632) (fun x2 W2 H locs h hL => ?_)
  refine lv_pop hx hb dL_law_635 rfl ?_
  refine lv_goto (tgt := 1243) hx hb dL_law_636 rfl ?_
  exact kk M1 W2 H locs h.2 hL
set_option maxHeartbeats 4000000 in
theorem lw_c17 {p : Program} {l : Launch} {e : Env} {s : State} {m : MethodId} {below : List Frame} {meth : Method} {c : Code} {H : Heap} {locs : List Loc} {ls : Array Slot} {w1 w2 : zWd} {M W' : zMem} {b L i : Nat} {xs : Nat → Int32} {K : zMem → zMem → Prop} (C0 : lw_At p s m meth c b L xs) (hLs : L < 2147483648) (X1 : zX w1 p s m #[Value.ref b] c code "HandToHandLaw") (X2 : zX w2 p s m #[Value.ref b] c code "HandToHandLaw") (h1 : zI_Main w1) (h2 : zI_Model w2) (hA : zLa w1 w2 s) (hi : i + 6 ≤ L) (hL : zLw w1 w2 s M W' H locs) (hl : lv_has ls 4 [(0, .ref b), (1, .ref (zad w1 0)), (2, .ref (zad w2 0)), (3, .int (nI i))]) (h : wp_Main_run (xs (i + 1)) (xs (i + 2)) M (fun x1 M1 => wp_Model_run (xs (i + 1)) (xs (i + 2)) W' (fun x2 W2 => x1 = x2 ∧ K M1 W2))) (kk : ∀ (M W' : zMem) (H : Heap) (locs : List Loc), K M W' → zLw w1 w2 s M W' H locs → W p l e room_1 s m #[Value.ref b] below meth c H locs 108 24481 (lw_Z below #[Value.ref b] s) (F0 m 1243 ls [])) : W p l e room_1 s m #[Value.ref b] below meth c H locs 108 24481 (lw_Z below #[Value.ref b] s) (F0 m 639 ls []) := by
  obtain ⟨hx, hb, hr, hml, hown, hts, hX, hbl, hlocks, hgv⟩ := id C0
  refine lv_aload_n hx hb dL_law_639 rfl (lv_at hl 1 rfl) ?_
  refine lv_aload_n hx hb dL_law_640 rfl (lv_at hl 0 rfl) ?_
  refine lv_iload_n hx hb dL_law_641 rfl (lv_at hl 3 rfl) ?_
  refine lv_iconst (v := 1) hx hb dL_law_642 (by decide) ?_
  refine lv_iadd hx hb dL_law_643 ?_
  refine zl_ld (k := 1) hx hb hX hbl hL (by omega) hLs dL_law_644 ?_
  refine lv_aload_n hx hb dL_law_645 rfl (lv_at hl 0 rfl) ?_
  refine lv_iload_n hx hb dL_law_646 rfl (lv_at hl 3 rfl) ?_
  refine lv_iconst (v := 2) hx hb dL_law_647 (by decide) ?_
  refine lv_iadd hx hb dL_law_648 ?_
  refine zl_ld (k := 2) hx hb hX hbl hL (by omega) hLs dL_law_649 ?_
  refine zl_1i hA hL (zl_run (w := w1) (As := [.int (xs (i + 1)), .int (xs (i + 2))]) (rest := []) X1 hml hl hL.1 hL.2.2 h1.1 rfl zk_Law_88 (c_Main_run h1 h) rfl ⟨Nat.le_of_ble_eq_true rfl, Nat.le_of_ble_eq_true rfl⟩ ⟨Nat.le_of_ble_eq_true rfl, Nat.le_of_ble_eq_true rfl⟩ rfl (Nat.le_of_ble_eq_true rfl) dL_law_650) (fun x1 M1 H locs h hL => ?_)
  refine lv_pop hx hb dL_law_653 rfl ?_
  refine lv_aload_n hx hb dL_law_654 rfl (lv_at hl 2 rfl) ?_
  refine lv_aload_n hx hb dL_law_655 rfl (lv_at hl 0 rfl) ?_
  refine lv_iload_n hx hb dL_law_656 rfl (lv_at hl 3 rfl) ?_
  refine lv_iconst (v := 1) hx hb dL_law_657 (by decide) ?_
  refine lv_iadd hx hb dL_law_658 ?_
  refine zl_ld (k := 1) hx hb hX hbl hL (by omega) hLs dL_law_659 ?_
  refine lv_aload_n hx hb dL_law_660 rfl (lv_at hl 0 rfl) ?_
  refine lv_iload_n hx hb dL_law_661 rfl (lv_at hl 3 rfl) ?_
  refine lv_iconst (v := 2) hx hb dL_law_662 (by decide) ?_
  refine lv_iadd hx hb dL_law_663 ?_
  refine zl_ld (k := 2) hx hb hX hbl hL (by omega) hLs dL_law_664 ?_
  refine zl_2i hA hL (zl_run (w := w2) (As := [.int (xs (i + 1)), .int (xs (i + 2))]) (rest := []) X2 hml hl hL.2.1 hL.2.2 h2.1 rfl zk_Law_91 (c_Model_run h2 h) rfl ⟨Nat.le_of_ble_eq_true rfl, Nat.le_of_ble_eq_true rfl⟩ ⟨Nat.le_of_ble_eq_true rfl, Nat.le_of_ble_eq_true rfl⟩ rfl (Nat.le_of_ble_eq_true rfl) dL_law_665) (fun x2 W2 H locs h hL => ?_)
  refine lv_pop hx hb dL_law_668 rfl ?_
  refine lv_goto (tgt := 1243) hx hb dL_law_669 rfl ?_
  exact kk M1 W2 H locs h.2 hL
set_option maxHeartbeats 4000000 in
theorem lw_c18 {p : Program} {l : Launch} {e : Env} {s : State} {m : MethodId} {below : List Frame} {meth : Method} {c : Code} {H : Heap} {locs : List Loc} {ls : Array Slot} {w1 w2 : zWd} {M W' : zMem} {b L i : Nat} {xs : Nat → Int32} {K : zMem → zMem → Prop} (C0 : lw_At p s m meth c b L xs) (hLs : L < 2147483648) (X1 : zX w1 p s m #[Value.ref b] c code "HandToHandLaw") (X2 : zX w2 p s m #[Value.ref b] c code "HandToHandLaw") (h1 : zI_Main w1) (h2 : zI_Model w2) (hA : zLa w1 w2 s) (hi : i + 6 ≤ L) (hL : zLw w1 w2 s M W' H locs) (hl : lv_has ls 4 [(0, .ref b), (1, .ref (zad w1 0)), (2, .ref (zad w2 0)), (3, .int (nI i))]) (h : wp_Main_waits (xs (i + 1)) (xs (i + 2)) M (fun x1 M1 => wp_Model_waits (xs (i + 1)) (xs (i + 2)) W' (fun x2 W2 => x1 = x2 ∧ K M1 W2))) (kk : ∀ (M W' : zMem) (H : Heap) (locs : List Loc), K M W' → zLw w1 w2 s M W' H locs → W p l e room_1 s m #[Value.ref b] below meth c H locs 108 24481 (lw_Z below #[Value.ref b] s) (F0 m 1243 ls [])) : W p l e room_1 s m #[Value.ref b] below meth c H locs 108 24481 (lw_Z below #[Value.ref b] s) (F0 m 672 ls []) := by
  obtain ⟨hx, hb, hr, hml, hown, hts, hX, hbl, hlocks, hgv⟩ := id C0
  refine lv_aload_n hx hb dL_law_672 rfl (lv_at hl 1 rfl) ?_
  refine lv_aload_n hx hb dL_law_673 rfl (lv_at hl 0 rfl) ?_
  refine lv_iload_n hx hb dL_law_674 rfl (lv_at hl 3 rfl) ?_
  refine lv_iconst (v := 1) hx hb dL_law_675 (by decide) ?_
  refine lv_iadd hx hb dL_law_676 ?_
  refine zl_ld (k := 1) hx hb hX hbl hL (by omega) hLs dL_law_677 ?_
  refine lv_aload_n hx hb dL_law_678 rfl (lv_at hl 0 rfl) ?_
  refine lv_iload_n hx hb dL_law_679 rfl (lv_at hl 3 rfl) ?_
  refine lv_iconst (v := 2) hx hb dL_law_680 (by decide) ?_
  refine lv_iadd hx hb dL_law_681 ?_
  refine zl_ld (k := 2) hx hb hX hbl hL (by omega) hLs dL_law_682 ?_
  refine zl_1i hA hL (zl_run (w := w1) (As := [.int (xs (i + 1)), .int (xs (i + 2))]) (rest := []) X1 hml hl hL.1 hL.2.2 h1.1 rfl zk_Law_92 (c_Main_waits h1 h) rfl ⟨Nat.le_of_ble_eq_true rfl, Nat.le_of_ble_eq_true rfl⟩ ⟨Nat.le_of_ble_eq_true rfl, Nat.le_of_ble_eq_true rfl⟩ rfl (Nat.le_of_ble_eq_true rfl) dL_law_683) (fun x1 M1 H locs h hL => ?_)
  refine lv_pop hx hb dL_law_686 rfl ?_
  refine lv_aload_n hx hb dL_law_687 rfl (lv_at hl 2 rfl) ?_
  refine lv_aload_n hx hb dL_law_688 rfl (lv_at hl 0 rfl) ?_
  refine lv_iload_n hx hb dL_law_689 rfl (lv_at hl 3 rfl) ?_
  refine lv_iconst (v := 1) hx hb dL_law_690 (by decide) ?_
  refine lv_iadd hx hb dL_law_691 ?_
  refine zl_ld (k := 1) hx hb hX hbl hL (by omega) hLs dL_law_692 ?_
  refine lv_aload_n hx hb dL_law_693 rfl (lv_at hl 0 rfl) ?_
  refine lv_iload_n hx hb dL_law_694 rfl (lv_at hl 3 rfl) ?_
  refine lv_iconst (v := 2) hx hb dL_law_695 (by decide) ?_
  refine lv_iadd hx hb dL_law_696 ?_
  refine zl_ld (k := 2) hx hb hX hbl hL (by omega) hLs dL_law_697 ?_
  refine zl_2i hA hL (zl_run (w := w2) (As := [.int (xs (i + 1)), .int (xs (i + 2))]) (rest := []) X2 hml hl hL.2.1 hL.2.2 h2.1 rfl zk_Law_95 (c_Model_waits h2 h) rfl ⟨Nat.le_of_ble_eq_true rfl, Nat.le_of_ble_eq_true rfl⟩ ⟨Nat.le_of_ble_eq_true rfl, Nat.le_of_ble_eq_true rfl⟩ rfl (Nat.le_of_ble_eq_true rfl) dL_law_698) (fun x2 W2 H locs h hL => ?_)
  refine lv_pop hx hb dL_law_701 rfl ?_
  refine lv_goto (tgt := 1243) hx hb dL_law_702 rfl ?_
  exact kk M1 W2 H locs h.2 hL
set_option maxHeartbeats 4000000 in
theorem lw_c19 {p : Program} {l : Launch} {e : Env} {s : State} {m : MethodId} {below : List Frame} {meth : Method} {c : Code} {H : Heap} {locs : List Loc} {ls : Array Slot} {w1 w2 : zWd} {M W' : zMem} {b L i : Nat} {xs : Nat → Int32} {K : zMem → zMem → Prop} (C0 : lw_At p s m meth c b L xs) (hLs : L < 2147483648) (X1 : zX w1 p s m #[Value.ref b] c code "HandToHandLaw") (X2 : zX w2 p s m #[Value.ref b] c code "HandToHandLaw") (h1 : zI_Main w1) (h2 : zI_Model w2) (hA : zLa w1 w2 s) (hi : i + 6 ≤ L) (hL : zLw w1 w2 s M W' H locs) (hl : lv_has ls 4 [(0, .ref b), (1, .ref (zad w1 0)), (2, .ref (zad w2 0)), (3, .int (nI i))]) (h : wp_Main_over (xs (i + 1)) (xs (i + 2)) (xs (i + 3)) M (fun x1 M1 => wp_Model_over (xs (i + 1)) (xs (i + 2)) (xs (i + 3)) W' (fun x2 W2 => x1 = x2 ∧ K M1 W2))) (kk : ∀ (M W' : zMem) (H : Heap) (locs : List Loc), K M W' → zLw w1 w2 s M W' H locs → W p l e room_1 s m #[Value.ref b] below meth c H locs 108 24481 (lw_Z below #[Value.ref b] s) (F0 m 1243 ls [])) : W p l e room_1 s m #[Value.ref b] below meth c H locs 108 24481 (lw_Z below #[Value.ref b] s) (F0 m 705 ls []) := by
  obtain ⟨hx, hb, hr, hml, hown, hts, hX, hbl, hlocks, hgv⟩ := id C0
  refine lv_aload_n hx hb dL_law_705 rfl (lv_at hl 1 rfl) ?_
  refine lv_aload_n hx hb dL_law_706 rfl (lv_at hl 0 rfl) ?_
  refine lv_iload_n hx hb dL_law_707 rfl (lv_at hl 3 rfl) ?_
  refine lv_iconst (v := 1) hx hb dL_law_708 (by decide) ?_
  refine lv_iadd hx hb dL_law_709 ?_
  refine zl_ld (k := 1) hx hb hX hbl hL (by omega) hLs dL_law_710 ?_
  refine lv_aload_n hx hb dL_law_711 rfl (lv_at hl 0 rfl) ?_
  refine lv_iload_n hx hb dL_law_712 rfl (lv_at hl 3 rfl) ?_
  refine lv_iconst (v := 2) hx hb dL_law_713 (by decide) ?_
  refine lv_iadd hx hb dL_law_714 ?_
  refine zl_ld (k := 2) hx hb hX hbl hL (by omega) hLs dL_law_715 ?_
  refine lv_aload_n hx hb dL_law_716 rfl (lv_at hl 0 rfl) ?_
  refine lv_iload_n hx hb dL_law_717 rfl (lv_at hl 3 rfl) ?_
  refine lv_iconst (v := 3) hx hb dL_law_718 (by decide) ?_
  refine lv_iadd hx hb dL_law_719 ?_
  refine zl_ld (k := 3) hx hb hX hbl hL (by omega) hLs dL_law_720 ?_
  refine zl_1i hA hL (zl_run (w := w1) (As := [.int (xs (i + 1)), .int (xs (i + 2)), .int (xs (i + 3))]) (rest := []) X1 hml hl hL.1 hL.2.2 h1.1 rfl zk_Law_96 (c_Main_over h1 h) rfl ⟨Nat.le_of_ble_eq_true rfl, Nat.le_of_ble_eq_true rfl⟩ ⟨Nat.le_of_ble_eq_true rfl, Nat.le_of_ble_eq_true rfl⟩ rfl (Nat.le_of_ble_eq_true rfl) dL_law_721) (fun x1 M1 H locs h hL => ?_)
  refine lv_pop hx hb dL_law_724 rfl ?_
  refine lv_aload_n hx hb dL_law_725 rfl (lv_at hl 2 rfl) ?_
  refine lv_aload_n hx hb dL_law_726 rfl (lv_at hl 0 rfl) ?_
  refine lv_iload_n hx hb dL_law_727 rfl (lv_at hl 3 rfl) ?_
  refine lv_iconst (v := 1) hx hb dL_law_728 (by decide) ?_
  refine lv_iadd hx hb dL_law_729 ?_
  refine zl_ld (k := 1) hx hb hX hbl hL (by omega) hLs dL_law_730 ?_
  refine lv_aload_n hx hb dL_law_731 rfl (lv_at hl 0 rfl) ?_
  refine lv_iload_n hx hb dL_law_732 rfl (lv_at hl 3 rfl) ?_
  refine lv_iconst (v := 2) hx hb dL_law_733 (by decide) ?_
  refine lv_iadd hx hb dL_law_734 ?_
  refine zl_ld (k := 2) hx hb hX hbl hL (by omega) hLs dL_law_735 ?_
  refine lv_aload_n hx hb dL_law_736 rfl (lv_at hl 0 rfl) ?_
  refine lv_iload_n hx hb dL_law_737 rfl (lv_at hl 3 rfl) ?_
  refine lv_iconst (v := 3) hx hb dL_law_738 (by decide) ?_
  refine lv_iadd hx hb dL_law_739 ?_
  refine zl_ld (k := 3) hx hb hX hbl hL (by omega) hLs dL_law_740 ?_
  refine zl_2i hA hL (zl_run (w := w2) (As := [.int (xs (i + 1)), .int (xs (i + 2)), .int (xs (i + 3))]) (rest := []) X2 hml hl hL.2.1 hL.2.2 h2.1 rfl zk_Law_99 (c_Model_over h2 h) rfl ⟨Nat.le_of_ble_eq_true rfl, Nat.le_of_ble_eq_true rfl⟩ ⟨Nat.le_of_ble_eq_true rfl, Nat.le_of_ble_eq_true rfl⟩ rfl (Nat.le_of_ble_eq_true rfl) dL_law_741) (fun x2 W2 H locs h hL => ?_)
  refine lv_pop hx hb dL_law_744 rfl ?_
  refine lv_goto (tgt := 1243) hx hb dL_law_745 rfl ?_
  exact kk M1 W2 H locs h.2 hL
set_option maxHeartbeats 4000000 in
theorem lw_c20 {p : Program} {l : Launch} {e : Env} {s : State} {m : MethodId} {below : List Frame} {meth : Method} {c : Code} {H : Heap} {locs : List Loc} {ls : Array Slot} {w1 w2 : zWd} {M W' : zMem} {b L i : Nat} {xs : Nat → Int32} {K : zMem → zMem → Prop} (C0 : lw_At p s m meth c b L xs) (hLs : L < 2147483648) (X1 : zX w1 p s m #[Value.ref b] c code "HandToHandLaw") (X2 : zX w2 p s m #[Value.ref b] c code "HandToHandLaw") (h1 : zI_Main w1) (h2 : zI_Model w2) (hA : zLa w1 w2 s) (hi : i + 6 ≤ L) (hL : zLw w1 w2 s M W' H locs) (hl : lv_has ls 4 [(0, .ref b), (1, .ref (zad w1 0)), (2, .ref (zad w2 0)), (3, .int (nI i))]) (h : wp_Main_judge (xs (i + 1)) (xs (i + 2)) (xs (i + 3)) (xs (i + 4)) (xs (i + 5)) M (fun x1 M1 => wp_Model_judge (xs (i + 1)) (xs (i + 2)) (xs (i + 3)) (xs (i + 4)) (xs (i + 5)) W' (fun x2 W2 => x1 = x2 ∧ K M1 W2))) (kk : ∀ (M W' : zMem) (H : Heap) (locs : List Loc), K M W' → zLw w1 w2 s M W' H locs → W p l e room_1 s m #[Value.ref b] below meth c H locs 108 24481 (lw_Z below #[Value.ref b] s) (F0 m 1243 ls [])) : W p l e room_1 s m #[Value.ref b] below meth c H locs 108 24481 (lw_Z below #[Value.ref b] s) (F0 m 748 ls []) := by
  obtain ⟨hx, hb, hr, hml, hown, hts, hX, hbl, hlocks, hgv⟩ := id C0
  refine lv_aload_n hx hb dL_law_748 rfl (lv_at hl 1 rfl) ?_
  refine lv_aload_n hx hb dL_law_749 rfl (lv_at hl 0 rfl) ?_
  refine lv_iload_n hx hb dL_law_750 rfl (lv_at hl 3 rfl) ?_
  refine lv_iconst (v := 1) hx hb dL_law_751 (by decide) ?_
  refine lv_iadd hx hb dL_law_752 ?_
  refine zl_ld (k := 1) hx hb hX hbl hL (by omega) hLs dL_law_753 ?_
  refine lv_aload_n hx hb dL_law_754 rfl (lv_at hl 0 rfl) ?_
  refine lv_iload_n hx hb dL_law_755 rfl (lv_at hl 3 rfl) ?_
  refine lv_iconst (v := 2) hx hb dL_law_756 (by decide) ?_
  refine lv_iadd hx hb dL_law_757 ?_
  refine zl_ld (k := 2) hx hb hX hbl hL (by omega) hLs dL_law_758 ?_
  refine lv_aload_n hx hb dL_law_759 rfl (lv_at hl 0 rfl) ?_
  refine lv_iload_n hx hb dL_law_760 rfl (lv_at hl 3 rfl) ?_
  refine lv_iconst (v := 3) hx hb dL_law_761 (by decide) ?_
  refine lv_iadd hx hb dL_law_762 ?_
  refine zl_ld (k := 3) hx hb hX hbl hL (by omega) hLs dL_law_763 ?_
  refine lv_aload_n hx hb dL_law_764 rfl (lv_at hl 0 rfl) ?_
  refine lv_iload_n hx hb dL_law_765 rfl (lv_at hl 3 rfl) ?_
  refine lv_iconst (v := 4) hx hb dL_law_766 (by decide) ?_
  refine lv_iadd hx hb dL_law_767 ?_
  refine zl_ld (k := 4) hx hb hX hbl hL (by omega) hLs dL_law_768 ?_
  refine lv_aload_n hx hb dL_law_769 rfl (lv_at hl 0 rfl) ?_
  refine lv_iload_n hx hb dL_law_770 rfl (lv_at hl 3 rfl) ?_
  refine lv_iconst (v := 5) hx hb dL_law_771 (by decide) ?_
  refine lv_iadd hx hb dL_law_772 ?_
  refine zl_ld (k := 5) hx hb hX hbl hL (by omega) hLs dL_law_773 ?_
  refine zl_1i hA hL (zl_run (w := w1) (As := [.int (xs (i + 1)), .int (xs (i + 2)), .int (xs (i + 3)), .int (xs (i + 4)), .int (xs (i + 5))]) (rest := []) X1 hml hl hL.1 hL.2.2 h1.1 rfl zk_Law_100 (c_Main_judge h1 h) rfl ⟨Nat.le_of_ble_eq_true rfl, Nat.le_of_ble_eq_true rfl⟩ ⟨Nat.le_of_ble_eq_true rfl, Nat.le_of_ble_eq_true rfl⟩ rfl (Nat.le_of_ble_eq_true rfl) dL_law_774) (fun x1 M1 H locs h hL => ?_)
  refine lv_pop hx hb dL_law_777 rfl ?_
  refine lv_aload_n hx hb dL_law_778 rfl (lv_at hl 2 rfl) ?_
  refine lv_aload_n hx hb dL_law_779 rfl (lv_at hl 0 rfl) ?_
  refine lv_iload_n hx hb dL_law_780 rfl (lv_at hl 3 rfl) ?_
  refine lv_iconst (v := 1) hx hb dL_law_781 (by decide) ?_
  refine lv_iadd hx hb dL_law_782 ?_
  refine zl_ld (k := 1) hx hb hX hbl hL (by omega) hLs dL_law_783 ?_
  refine lv_aload_n hx hb dL_law_784 rfl (lv_at hl 0 rfl) ?_
  refine lv_iload_n hx hb dL_law_785 rfl (lv_at hl 3 rfl) ?_
  refine lv_iconst (v := 2) hx hb dL_law_786 (by decide) ?_
  refine lv_iadd hx hb dL_law_787 ?_
  refine zl_ld (k := 2) hx hb hX hbl hL (by omega) hLs dL_law_788 ?_
  refine lv_aload_n hx hb dL_law_789 rfl (lv_at hl 0 rfl) ?_
  refine lv_iload_n hx hb dL_law_790 rfl (lv_at hl 3 rfl) ?_
  refine lv_iconst (v := 3) hx hb dL_law_791 (by decide) ?_
  refine lv_iadd hx hb dL_law_792 ?_
  refine zl_ld (k := 3) hx hb hX hbl hL (by omega) hLs dL_law_793 ?_
  refine lv_aload_n hx hb dL_law_794 rfl (lv_at hl 0 rfl) ?_
  refine lv_iload_n hx hb dL_law_795 rfl (lv_at hl 3 rfl) ?_
  refine lv_iconst (v := 4) hx hb dL_law_796 (by decide) ?_
  refine lv_iadd hx hb dL_law_797 ?_
  refine zl_ld (k := 4) hx hb hX hbl hL (by omega) hLs dL_law_798 ?_
  refine lv_aload_n hx hb dL_law_799 rfl (lv_at hl 0 rfl) ?_
  refine lv_iload_n hx hb dL_law_800 rfl (lv_at hl 3 rfl) ?_
  refine lv_iconst (v := 5) hx hb dL_law_801 (by decide) ?_
  refine lv_iadd hx hb dL_law_802 ?_
  refine zl_ld (k := 5) hx hb hX hbl hL (by omega) hLs dL_law_803 ?_
  refine zl_2i hA hL (zl_run (w := w2) (As := [.int (xs (i + 1)), .int (xs (i + 2)), .int (xs (i + 3)), .int (xs (i + 4)), .int (xs (i + 5))]) (rest := []) X2 hml hl hL.2.1 hL.2.2 h2.1 rfl zk_Law_104 (c_Model_judge h2 h) rfl ⟨Nat.le_of_ble_eq_true rfl, Nat.le_of_ble_eq_true rfl⟩ ⟨Nat.le_of_ble_eq_true rfl, Nat.le_of_ble_eq_true rfl⟩ rfl (Nat.le_of_ble_eq_true rfl) dL_law_804) (fun x2 W2 H locs h hL => ?_)
  refine lv_pop hx hb dL_law_807 rfl ?_
  refine lv_goto (tgt := 1243) hx hb dL_law_808 rfl ?_
  exact kk M1 W2 H locs h.2 hL
set_option maxHeartbeats 4000000 in
theorem lw_c21 {p : Program} {l : Launch} {e : Env} {s : State} {m : MethodId} {below : List Frame} {meth : Method} {c : Code} {H : Heap} {locs : List Loc} {ls : Array Slot} {w1 w2 : zWd} {M W' : zMem} {b L i : Nat} {xs : Nat → Int32} {K : zMem → zMem → Prop} (C0 : lw_At p s m meth c b L xs) (hLs : L < 2147483648) (X1 : zX w1 p s m #[Value.ref b] c code "HandToHandLaw") (X2 : zX w2 p s m #[Value.ref b] c code "HandToHandLaw") (h1 : zI_Main w1) (h2 : zI_Model w2) (hA : zLa w1 w2 s) (hi : i + 6 ≤ L) (hL : zLw w1 w2 s M W' H locs) (hl : lv_has ls 4 [(0, .ref b), (1, .ref (zad w1 0)), (2, .ref (zad w2 0)), (3, .int (nI i))]) (h : wp_Main_settles (xs (i + 1)) M (fun x1 M1 => wp_Model_settles (xs (i + 1)) W' (fun x2 W2 => x1 = x2 ∧ K M1 W2))) (kk : ∀ (M W' : zMem) (H : Heap) (locs : List Loc), K M W' → zLw w1 w2 s M W' H locs → W p l e room_1 s m #[Value.ref b] below meth c H locs 108 24481 (lw_Z below #[Value.ref b] s) (F0 m 1243 ls [])) : W p l e room_1 s m #[Value.ref b] below meth c H locs 108 24481 (lw_Z below #[Value.ref b] s) (F0 m 811 ls []) := by
  obtain ⟨hx, hb, hr, hml, hown, hts, hX, hbl, hlocks, hgv⟩ := id C0
  refine lv_aload_n hx hb dL_law_811 rfl (lv_at hl 1 rfl) ?_
  refine lv_aload_n hx hb dL_law_812 rfl (lv_at hl 0 rfl) ?_
  refine lv_iload_n hx hb dL_law_813 rfl (lv_at hl 3 rfl) ?_
  refine lv_iconst (v := 1) hx hb dL_law_814 (by decide) ?_
  refine lv_iadd hx hb dL_law_815 ?_
  refine zl_ld (k := 1) hx hb hX hbl hL (by omega) hLs dL_law_816 ?_
  refine zl_1i hA hL (zl_run (w := w1) (As := [.int (xs (i + 1))]) (rest := []) X1 hml hl hL.1 hL.2.2 h1.1 rfl zk_Law_105 (c_Main_settles h1 h) rfl ⟨Nat.le_of_ble_eq_true rfl, Nat.le_of_ble_eq_true rfl⟩ ⟨Nat.le_of_ble_eq_true rfl, Nat.le_of_ble_eq_true rfl⟩ rfl (Nat.le_of_ble_eq_true rfl) dL_law_817) (fun x1 M1 H locs h hL => ?_)
  refine lv_pop hx hb dL_law_820 rfl ?_
  refine lv_aload_n hx hb dL_law_821 rfl (lv_at hl 2 rfl) ?_
  refine lv_aload_n hx hb dL_law_822 rfl (lv_at hl 0 rfl) ?_
  refine lv_iload_n hx hb dL_law_823 rfl (lv_at hl 3 rfl) ?_
  refine lv_iconst (v := 1) hx hb dL_law_824 (by decide) ?_
  refine lv_iadd hx hb dL_law_825 ?_
  refine zl_ld (k := 1) hx hb hX hbl hL (by omega) hLs dL_law_826 ?_
  refine zl_2i hA hL (zl_run (w := w2) (As := [.int (xs (i + 1))]) (rest := []) X2 hml hl hL.2.1 hL.2.2 h2.1 rfl zk_Law_108 (c_Model_settles h2 h) rfl ⟨Nat.le_of_ble_eq_true rfl, Nat.le_of_ble_eq_true rfl⟩ ⟨Nat.le_of_ble_eq_true rfl, Nat.le_of_ble_eq_true rfl⟩ rfl (Nat.le_of_ble_eq_true rfl) dL_law_827) (fun x2 W2 H locs h hL => ?_)
  refine lv_pop hx hb dL_law_830 rfl ?_
  refine lv_goto (tgt := 1243) hx hb dL_law_831 rfl ?_
  exact kk M1 W2 H locs h.2 hL
set_option maxHeartbeats 4000000 in
theorem lw_c22 {p : Program} {l : Launch} {e : Env} {s : State} {m : MethodId} {below : List Frame} {meth : Method} {c : Code} {H : Heap} {locs : List Loc} {ls : Array Slot} {w1 w2 : zWd} {M W' : zMem} {b L i : Nat} {xs : Nat → Int32} {K : zMem → zMem → Prop} (C0 : lw_At p s m meth c b L xs) (hLs : L < 2147483648) (X1 : zX w1 p s m #[Value.ref b] c code "HandToHandLaw") (X2 : zX w2 p s m #[Value.ref b] c code "HandToHandLaw") (h1 : zI_Main w1) (h2 : zI_Model w2) (hA : zLa w1 w2 s) (hi : i + 6 ≤ L) (hL : zLw w1 w2 s M W' H locs) (hl : lv_has ls 4 [(0, .ref b), (1, .ref (zad w1 0)), (2, .ref (zad w2 0)), (3, .int (nI i))]) (h : wp_Main_where (xs (i + 1)) (xs (i + 2)) M (fun x1 M1 => wp_Model_where (xs (i + 1)) (xs (i + 2)) W' (fun x2 W2 => (x1 = x2 ∨ xs (i + 2) = 1) ∧ K M1 W2))) (kk : ∀ (M W' : zMem) (H : Heap) (locs : List Loc), K M W' → zLw w1 w2 s M W' H locs → W p l e room_1 s m #[Value.ref b] below meth c H locs 108 24481 (lw_Z below #[Value.ref b] s) (F0 m 1243 ls [])) : W p l e room_1 s m #[Value.ref b] below meth c H locs 108 24481 (lw_Z below #[Value.ref b] s) (F0 m 834 ls []) := by
  obtain ⟨hx, hb, hr, hml, hown, hts, hX, hbl, hlocks, hgv⟩ := id C0
  refine lv_aload_n hx hb dL_law_834 rfl (lv_at hl 1 rfl) ?_
  refine lv_aload_n hx hb dL_law_835 rfl (lv_at hl 0 rfl) ?_
  refine lv_iload_n hx hb dL_law_836 rfl (lv_at hl 3 rfl) ?_
  refine lv_iconst (v := 1) hx hb dL_law_837 (by decide) ?_
  refine lv_iadd hx hb dL_law_838 ?_
  refine zl_ld (k := 1) hx hb hX hbl hL (by omega) hLs dL_law_839 ?_
  refine lv_aload_n hx hb dL_law_840 rfl (lv_at hl 0 rfl) ?_
  refine lv_iload_n hx hb dL_law_841 rfl (lv_at hl 3 rfl) ?_
  refine lv_iconst (v := 2) hx hb dL_law_842 (by decide) ?_
  refine lv_iadd hx hb dL_law_843 ?_
  refine zl_ld (k := 2) hx hb hX hbl hL (by omega) hLs dL_law_844 ?_
  refine zl_1i hA hL (zl_run (w := w1) (As := [.int (xs (i + 1)), .int (xs (i + 2))]) (rest := []) X1 hml hl hL.1 hL.2.2 h1.1 rfl zk_Law_109 (c_Main_where h1 h) rfl ⟨Nat.le_of_ble_eq_true rfl, Nat.le_of_ble_eq_true rfl⟩ ⟨Nat.le_of_ble_eq_true rfl, Nat.le_of_ble_eq_true rfl⟩ rfl (Nat.le_of_ble_eq_true rfl) dL_law_845) (fun x1 M1 H locs h hL => ?_)
  refine lv_pop hx hb dL_law_848 rfl ?_
  refine lv_aload_n hx hb dL_law_849 rfl (lv_at hl 2 rfl) ?_
  refine lv_aload_n hx hb dL_law_850 rfl (lv_at hl 0 rfl) ?_
  refine lv_iload_n hx hb dL_law_851 rfl (lv_at hl 3 rfl) ?_
  refine lv_iconst (v := 1) hx hb dL_law_852 (by decide) ?_
  refine lv_iadd hx hb dL_law_853 ?_
  refine zl_ld (k := 1) hx hb hX hbl hL (by omega) hLs dL_law_854 ?_
  refine lv_aload_n hx hb dL_law_855 rfl (lv_at hl 0 rfl) ?_
  refine lv_iload_n hx hb dL_law_856 rfl (lv_at hl 3 rfl) ?_
  refine lv_iconst (v := 2) hx hb dL_law_857 (by decide) ?_
  refine lv_iadd hx hb dL_law_858 ?_
  refine zl_ld (k := 2) hx hb hX hbl hL (by omega) hLs dL_law_859 ?_
  refine zl_2i hA hL (zl_run (w := w2) (As := [.int (xs (i + 1)), .int (xs (i + 2))]) (rest := []) X2 hml hl hL.2.1 hL.2.2 h2.1 rfl zk_Law_112 (c_Model_where h2 h) rfl ⟨Nat.le_of_ble_eq_true rfl, Nat.le_of_ble_eq_true rfl⟩ ⟨Nat.le_of_ble_eq_true rfl, Nat.le_of_ble_eq_true rfl⟩ rfl (Nat.le_of_ble_eq_true rfl) dL_law_860) (fun x2 W2 H locs h hL => ?_)
  refine lv_pop hx hb dL_law_863 rfl ?_
  refine lv_goto (tgt := 1243) hx hb dL_law_864 rfl ?_
  exact kk M1 W2 H locs h.2 hL
set_option maxHeartbeats 4000000 in
theorem lw_c23 {p : Program} {l : Launch} {e : Env} {s : State} {m : MethodId} {below : List Frame} {meth : Method} {c : Code} {H : Heap} {locs : List Loc} {ls : Array Slot} {w1 w2 : zWd} {M W' : zMem} {b L i : Nat} {xs : Nat → Int32} {K : zMem → zMem → Prop} (C0 : lw_At p s m meth c b L xs) (hLs : L < 2147483648) (X1 : zX w1 p s m #[Value.ref b] c code "HandToHandLaw") (X2 : zX w2 p s m #[Value.ref b] c code "HandToHandLaw") (h1 : zI_Main w1) (h2 : zI_Model w2) (hA : zLa w1 w2 s) (hi : i + 6 ≤ L) (hL : zLw w1 w2 s M W' H locs) (hl : lv_has ls 4 [(0, .ref b), (1, .ref (zad w1 0)), (2, .ref (zad w2 0)), (3, .int (nI i))]) (h : wp_Main_makes (xs (i + 1)) M (fun x1 M1 => wp_Model_makes (xs (i + 1)) W' (fun x2 W2 => x1 = x2 ∧ K M1 W2))) (kk : ∀ (M W' : zMem) (H : Heap) (locs : List Loc), K M W' → zLw w1 w2 s M W' H locs → W p l e room_1 s m #[Value.ref b] below meth c H locs 108 24481 (lw_Z below #[Value.ref b] s) (F0 m 1243 ls [])) : W p l e room_1 s m #[Value.ref b] below meth c H locs 108 24481 (lw_Z below #[Value.ref b] s) (F0 m 867 ls []) := by
  obtain ⟨hx, hb, hr, hml, hown, hts, hX, hbl, hlocks, hgv⟩ := id C0
  refine lv_aload_n hx hb dL_law_867 rfl (lv_at hl 1 rfl) ?_
  refine lv_aload_n hx hb dL_law_868 rfl (lv_at hl 0 rfl) ?_
  refine lv_iload_n hx hb dL_law_869 rfl (lv_at hl 3 rfl) ?_
  refine lv_iconst (v := 1) hx hb dL_law_870 (by decide) ?_
  refine lv_iadd hx hb dL_law_871 ?_
  refine zl_ld (k := 1) hx hb hX hbl hL (by omega) hLs dL_law_872 ?_
  refine zl_1i hA hL (zl_run (w := w1) (As := [.int (xs (i + 1))]) (rest := []) X1 hml hl hL.1 hL.2.2 h1.1 rfl zk_Law_113 (c_Main_makes h1 h) rfl ⟨Nat.le_of_ble_eq_true rfl, Nat.le_of_ble_eq_true rfl⟩ ⟨Nat.le_of_ble_eq_true rfl, Nat.le_of_ble_eq_true rfl⟩ rfl (Nat.le_of_ble_eq_true rfl) dL_law_873) (fun x1 M1 H locs h hL => ?_)
  refine lv_pop hx hb dL_law_876 rfl ?_
  refine lv_aload_n hx hb dL_law_877 rfl (lv_at hl 2 rfl) ?_
  refine lv_aload_n hx hb dL_law_878 rfl (lv_at hl 0 rfl) ?_
  refine lv_iload_n hx hb dL_law_879 rfl (lv_at hl 3 rfl) ?_
  refine lv_iconst (v := 1) hx hb dL_law_880 (by decide) ?_
  refine lv_iadd hx hb dL_law_881 ?_
  refine zl_ld (k := 1) hx hb hX hbl hL (by omega) hLs dL_law_882 ?_
  refine zl_2i hA hL (zl_run (w := w2) (As := [.int (xs (i + 1))]) (rest := []) X2 hml hl hL.2.1 hL.2.2 h2.1 rfl zk_Law_116 (c_Model_makes h2 h) rfl ⟨Nat.le_of_ble_eq_true rfl, Nat.le_of_ble_eq_true rfl⟩ ⟨Nat.le_of_ble_eq_true rfl, Nat.le_of_ble_eq_true rfl⟩ rfl (Nat.le_of_ble_eq_true rfl) dL_law_883) (fun x2 W2 H locs h hL => ?_)
  refine lv_pop hx hb dL_law_886 rfl ?_
  refine lv_goto (tgt := 1243) hx hb dL_law_887 rfl ?_
  exact kk M1 W2 H locs h.2 hL
set_option maxHeartbeats 4000000 in
theorem lw_c24 {p : Program} {l : Launch} {e : Env} {s : State} {m : MethodId} {below : List Frame} {meth : Method} {c : Code} {H : Heap} {locs : List Loc} {ls : Array Slot} {w1 w2 : zWd} {M W' : zMem} {b L i : Nat} {xs : Nat → Int32} {K : zMem → zMem → Prop} (C0 : lw_At p s m meth c b L xs) (hLs : L < 2147483648) (X1 : zX w1 p s m #[Value.ref b] c code "HandToHandLaw") (X2 : zX w2 p s m #[Value.ref b] c code "HandToHandLaw") (h1 : zI_Main w1) (h2 : zI_Model w2) (hA : zLa w1 w2 s) (hi : i + 6 ≤ L) (hL : zLw w1 w2 s M W' H locs) (hl : lv_has ls 4 [(0, .ref b), (1, .ref (zad w1 0)), (2, .ref (zad w2 0)), (3, .int (nI i))]) (h : wp_Main_could (xs (i + 1)) M (fun x1 M1 => wp_Model_could (xs (i + 1)) W' (fun x2 W2 => x1 = x2 ∧ K M1 W2))) (kk : ∀ (M W' : zMem) (H : Heap) (locs : List Loc), K M W' → zLw w1 w2 s M W' H locs → W p l e room_1 s m #[Value.ref b] below meth c H locs 108 24481 (lw_Z below #[Value.ref b] s) (F0 m 1243 ls [])) : W p l e room_1 s m #[Value.ref b] below meth c H locs 108 24481 (lw_Z below #[Value.ref b] s) (F0 m 890 ls []) := by
  obtain ⟨hx, hb, hr, hml, hown, hts, hX, hbl, hlocks, hgv⟩ := id C0
  refine lv_aload_n hx hb dL_law_890 rfl (lv_at hl 1 rfl) ?_
  refine lv_aload_n hx hb dL_law_891 rfl (lv_at hl 0 rfl) ?_
  refine lv_iload_n hx hb dL_law_892 rfl (lv_at hl 3 rfl) ?_
  refine lv_iconst (v := 1) hx hb dL_law_893 (by decide) ?_
  refine lv_iadd hx hb dL_law_894 ?_
  refine zl_ld (k := 1) hx hb hX hbl hL (by omega) hLs dL_law_895 ?_
  refine zl_1l hA hL (zl_run (w := w1) (As := [.int (xs (i + 1))]) (rest := []) X1 hml hl hL.1 hL.2.2 h1.1 rfl zk_Law_117 (c_Main_could h1 h) rfl ⟨Nat.le_of_ble_eq_true rfl, Nat.le_of_ble_eq_true rfl⟩ ⟨Nat.le_of_ble_eq_true rfl, Nat.le_of_ble_eq_true rfl⟩ rfl (Nat.le_of_ble_eq_true rfl) dL_law_896) (fun x1 M1 H locs h hL => ?_)
  refine lv_pop2_2 hx hb dL_law_899 rfl ?_
  refine lv_aload_n hx hb dL_law_900 rfl (lv_at hl 2 rfl) ?_
  refine lv_aload_n hx hb dL_law_901 rfl (lv_at hl 0 rfl) ?_
  refine lv_iload_n hx hb dL_law_902 rfl (lv_at hl 3 rfl) ?_
  refine lv_iconst (v := 1) hx hb dL_law_903 (by decide) ?_
  refine lv_iadd hx hb dL_law_904 ?_
  refine zl_ld (k := 1) hx hb hX hbl hL (by omega) hLs dL_law_905 ?_
  refine zl_2l hA hL (zl_run (w := w2) (As := [.int (xs (i + 1))]) (rest := []) X2 hml hl hL.2.1 hL.2.2 h2.1 rfl zk_Law_121 (c_Model_could h2 h) rfl ⟨Nat.le_of_ble_eq_true rfl, Nat.le_of_ble_eq_true rfl⟩ ⟨Nat.le_of_ble_eq_true rfl, Nat.le_of_ble_eq_true rfl⟩ rfl (Nat.le_of_ble_eq_true rfl) dL_law_906) (fun x2 W2 H locs h hL => ?_)
  refine lv_pop2_2 hx hb dL_law_909 rfl ?_
  refine lv_goto (tgt := 1243) hx hb dL_law_910 rfl ?_
  exact kk M1 W2 H locs h.2 hL
set_option maxHeartbeats 4000000 in
theorem lw_c25 {p : Program} {l : Launch} {e : Env} {s : State} {m : MethodId} {below : List Frame} {meth : Method} {c : Code} {H : Heap} {locs : List Loc} {ls : Array Slot} {w1 w2 : zWd} {M W' : zMem} {b L i : Nat} {xs : Nat → Int32} {K : zMem → zMem → Prop} (C0 : lw_At p s m meth c b L xs) (hLs : L < 2147483648) (X1 : zX w1 p s m #[Value.ref b] c code "HandToHandLaw") (X2 : zX w2 p s m #[Value.ref b] c code "HandToHandLaw") (h1 : zI_Main w1) (h2 : zI_Model w2) (hA : zLa w1 w2 s) (hi : i + 6 ≤ L) (hL : zLw w1 w2 s M W' H locs) (hl : lv_has ls 4 [(0, .ref b), (1, .ref (zad w1 0)), (2, .ref (zad w2 0)), (3, .int (nI i))]) (h : wp_Main_order (xs (i + 1)) (xs (i + 2)) M (fun x1 M1 => wp_Model_order (xs (i + 1)) (xs (i + 2)) W' (fun x2 W2 => x1 = x2 ∧ K M1 W2))) (kk : ∀ (M W' : zMem) (H : Heap) (locs : List Loc), K M W' → zLw w1 w2 s M W' H locs → W p l e room_1 s m #[Value.ref b] below meth c H locs 108 24481 (lw_Z below #[Value.ref b] s) (F0 m 1243 ls [])) : W p l e room_1 s m #[Value.ref b] below meth c H locs 108 24481 (lw_Z below #[Value.ref b] s) (F0 m 913 ls []) := by
  obtain ⟨hx, hb, hr, hml, hown, hts, hX, hbl, hlocks, hgv⟩ := id C0
  refine lv_aload_n hx hb dL_law_913 rfl (lv_at hl 1 rfl) ?_
  refine lv_aload_n hx hb dL_law_914 rfl (lv_at hl 0 rfl) ?_
  refine lv_iload_n hx hb dL_law_915 rfl (lv_at hl 3 rfl) ?_
  refine lv_iconst (v := 1) hx hb dL_law_916 (by decide) ?_
  refine lv_iadd hx hb dL_law_917 ?_
  refine zl_ld (k := 1) hx hb hX hbl hL (by omega) hLs dL_law_918 ?_
  refine lv_aload_n hx hb dL_law_919 rfl (lv_at hl 0 rfl) ?_
  refine lv_iload_n hx hb dL_law_920 rfl (lv_at hl 3 rfl) ?_
  refine lv_iconst (v := 2) hx hb dL_law_921 (by decide) ?_
  refine lv_iadd hx hb dL_law_922 ?_
  refine zl_ld (k := 2) hx hb hX hbl hL (by omega) hLs dL_law_923 ?_
  refine zl_1i hA hL (zl_run (w := w1) (As := [.int (xs (i + 1)), .int (xs (i + 2))]) (rest := []) X1 hml hl hL.1 hL.2.2 h1.1 rfl zk_Law_122 (c_Main_order h1 h) rfl ⟨Nat.le_of_ble_eq_true rfl, Nat.le_of_ble_eq_true rfl⟩ ⟨Nat.le_of_ble_eq_true rfl, Nat.le_of_ble_eq_true rfl⟩ rfl (Nat.le_of_ble_eq_true rfl) dL_law_924) (fun x1 M1 H locs h hL => ?_)
  refine lv_pop hx hb dL_law_927 rfl ?_
  refine lv_aload_n hx hb dL_law_928 rfl (lv_at hl 2 rfl) ?_
  refine lv_aload_n hx hb dL_law_929 rfl (lv_at hl 0 rfl) ?_
  refine lv_iload_n hx hb dL_law_930 rfl (lv_at hl 3 rfl) ?_
  refine lv_iconst (v := 1) hx hb dL_law_931 (by decide) ?_
  refine lv_iadd hx hb dL_law_932 ?_
  refine zl_ld (k := 1) hx hb hX hbl hL (by omega) hLs dL_law_933 ?_
  refine lv_aload_n hx hb dL_law_934 rfl (lv_at hl 0 rfl) ?_
  refine lv_iload_n hx hb dL_law_935 rfl (lv_at hl 3 rfl) ?_
  refine lv_iconst (v := 2) hx hb dL_law_936 (by decide) ?_
  refine lv_iadd hx hb dL_law_937 ?_
  refine zl_ld (k := 2) hx hb hX hbl hL (by omega) hLs dL_law_938 ?_
  refine zl_2i hA hL (zl_run (w := w2) (As := [.int (xs (i + 1)), .int (xs (i + 2))]) (rest := []) X2 hml hl hL.2.1 hL.2.2 h2.1 rfl zk_Law_125 (c_Model_order h2 h) rfl ⟨Nat.le_of_ble_eq_true rfl, Nat.le_of_ble_eq_true rfl⟩ ⟨Nat.le_of_ble_eq_true rfl, Nat.le_of_ble_eq_true rfl⟩ rfl (Nat.le_of_ble_eq_true rfl) dL_law_939) (fun x2 W2 H locs h hL => ?_)
  refine lv_pop hx hb dL_law_942 rfl ?_
  refine lv_goto (tgt := 1243) hx hb dL_law_943 rfl ?_
  exact kk M1 W2 H locs h.2 hL
set_option maxHeartbeats 4000000 in
theorem lw_c26 {p : Program} {l : Launch} {e : Env} {s : State} {m : MethodId} {below : List Frame} {meth : Method} {c : Code} {H : Heap} {locs : List Loc} {ls : Array Slot} {w1 w2 : zWd} {M W' : zMem} {b L i : Nat} {xs : Nat → Int32} {K : zMem → zMem → Prop} (C0 : lw_At p s m meth c b L xs) (hLs : L < 2147483648) (X1 : zX w1 p s m #[Value.ref b] c code "HandToHandLaw") (X2 : zX w2 p s m #[Value.ref b] c code "HandToHandLaw") (h1 : zI_Main w1) (h2 : zI_Model w2) (hA : zLa w1 w2 s) (hi : i + 6 ≤ L) (hL : zLw w1 w2 s M W' H locs) (hl : lv_has ls 4 [(0, .ref b), (1, .ref (zad w1 0)), (2, .ref (zad w2 0)), (3, .int (nI i))]) (h : wp_Main_best (xs (i + 1)) M (fun x1 M1 => wp_Model_best (xs (i + 1)) W' (fun x2 W2 => x1 = x2 ∧ K M1 W2))) (kk : ∀ (M W' : zMem) (H : Heap) (locs : List Loc), K M W' → zLw w1 w2 s M W' H locs → W p l e room_1 s m #[Value.ref b] below meth c H locs 108 24481 (lw_Z below #[Value.ref b] s) (F0 m 1243 ls [])) : W p l e room_1 s m #[Value.ref b] below meth c H locs 108 24481 (lw_Z below #[Value.ref b] s) (F0 m 946 ls []) := by
  obtain ⟨hx, hb, hr, hml, hown, hts, hX, hbl, hlocks, hgv⟩ := id C0
  refine lv_aload_n hx hb dL_law_946 rfl (lv_at hl 1 rfl) ?_
  refine lv_aload_n hx hb dL_law_947 rfl (lv_at hl 0 rfl) ?_
  refine lv_iload_n hx hb dL_law_948 rfl (lv_at hl 3 rfl) ?_
  refine lv_iconst (v := 1) hx hb dL_law_949 (by decide) ?_
  refine lv_iadd hx hb dL_law_950 ?_
  refine zl_ld (k := 1) hx hb hX hbl hL (by omega) hLs dL_law_951 ?_
  refine zl_1i hA hL (zl_run (w := w1) (As := [.int (xs (i + 1))]) (rest := []) X1 hml hl hL.1 hL.2.2 h1.1 rfl zk_Law_126 (c_Main_best h1 h) rfl ⟨Nat.le_of_ble_eq_true rfl, Nat.le_of_ble_eq_true rfl⟩ ⟨Nat.le_of_ble_eq_true rfl, Nat.le_of_ble_eq_true rfl⟩ rfl (Nat.le_of_ble_eq_true rfl) dL_law_952) (fun x1 M1 H locs h hL => ?_)
  refine lv_pop hx hb dL_law_955 rfl ?_
  refine lv_aload_n hx hb dL_law_956 rfl (lv_at hl 2 rfl) ?_
  refine lv_aload_n hx hb dL_law_957 rfl (lv_at hl 0 rfl) ?_
  refine lv_iload_n hx hb dL_law_958 rfl (lv_at hl 3 rfl) ?_
  refine lv_iconst (v := 1) hx hb dL_law_959 (by decide) ?_
  refine lv_iadd hx hb dL_law_960 ?_
  refine zl_ld (k := 1) hx hb hX hbl hL (by omega) hLs dL_law_961 ?_
  refine zl_2i hA hL (zl_run (w := w2) (As := [.int (xs (i + 1))]) (rest := []) X2 hml hl hL.2.1 hL.2.2 h2.1 rfl zk_Law_129 (c_Model_best h2 h) rfl ⟨Nat.le_of_ble_eq_true rfl, Nat.le_of_ble_eq_true rfl⟩ ⟨Nat.le_of_ble_eq_true rfl, Nat.le_of_ble_eq_true rfl⟩ rfl (Nat.le_of_ble_eq_true rfl) dL_law_962) (fun x2 W2 H locs h hL => ?_)
  refine lv_pop hx hb dL_law_965 rfl ?_
  refine lv_goto (tgt := 1243) hx hb dL_law_966 rfl ?_
  exact kk M1 W2 H locs h.2 hL
set_option maxHeartbeats 4000000 in
theorem lw_c27 {p : Program} {l : Launch} {e : Env} {s : State} {m : MethodId} {below : List Frame} {meth : Method} {c : Code} {H : Heap} {locs : List Loc} {ls : Array Slot} {w1 w2 : zWd} {M W' : zMem} {b L i : Nat} {xs : Nat → Int32} {K : zMem → zMem → Prop} (C0 : lw_At p s m meth c b L xs) (hLs : L < 2147483648) (X1 : zX w1 p s m #[Value.ref b] c code "HandToHandLaw") (X2 : zX w2 p s m #[Value.ref b] c code "HandToHandLaw") (h1 : zI_Main w1) (h2 : zI_Model w2) (hA : zLa w1 w2 s) (hi : i + 6 ≤ L) (hL : zLw w1 w2 s M W' H locs) (hl : lv_has ls 4 [(0, .ref b), (1, .ref (zad w1 0)), (2, .ref (zad w2 0)), (3, .int (nI i))]) (h : wp_Main_stands (xs (i + 1)) (xs (i + 2)) M (fun x1 M1 => wp_Model_stands (xs (i + 1)) (xs (i + 2)) W' (fun x2 W2 => x1 = x2 ∧ K M1 W2))) (kk : ∀ (M W' : zMem) (H : Heap) (locs : List Loc), K M W' → zLw w1 w2 s M W' H locs → W p l e room_1 s m #[Value.ref b] below meth c H locs 108 24481 (lw_Z below #[Value.ref b] s) (F0 m 1243 ls [])) : W p l e room_1 s m #[Value.ref b] below meth c H locs 108 24481 (lw_Z below #[Value.ref b] s) (F0 m 969 ls []) := by
  obtain ⟨hx, hb, hr, hml, hown, hts, hX, hbl, hlocks, hgv⟩ := id C0
  refine lv_aload_n hx hb dL_law_969 rfl (lv_at hl 1 rfl) ?_
  refine lv_aload_n hx hb dL_law_970 rfl (lv_at hl 0 rfl) ?_
  refine lv_iload_n hx hb dL_law_971 rfl (lv_at hl 3 rfl) ?_
  refine lv_iconst (v := 1) hx hb dL_law_972 (by decide) ?_
  refine lv_iadd hx hb dL_law_973 ?_
  refine zl_ld (k := 1) hx hb hX hbl hL (by omega) hLs dL_law_974 ?_
  refine lv_aload_n hx hb dL_law_975 rfl (lv_at hl 0 rfl) ?_
  refine lv_iload_n hx hb dL_law_976 rfl (lv_at hl 3 rfl) ?_
  refine lv_iconst (v := 2) hx hb dL_law_977 (by decide) ?_
  refine lv_iadd hx hb dL_law_978 ?_
  refine zl_ld (k := 2) hx hb hX hbl hL (by omega) hLs dL_law_979 ?_
  refine zl_1i hA hL (zl_run (w := w1) (As := [.int (xs (i + 1)), .int (xs (i + 2))]) (rest := []) X1 hml hl hL.1 hL.2.2 h1.1 rfl zk_Law_130 (c_Main_stands h1 h) rfl ⟨Nat.le_of_ble_eq_true rfl, Nat.le_of_ble_eq_true rfl⟩ ⟨Nat.le_of_ble_eq_true rfl, Nat.le_of_ble_eq_true rfl⟩ rfl (Nat.le_of_ble_eq_true rfl) dL_law_980) (fun x1 M1 H locs h hL => ?_)
  refine lv_pop hx hb dL_law_983 rfl ?_
  refine lv_aload_n hx hb dL_law_984 rfl (lv_at hl 2 rfl) ?_
  refine lv_aload_n hx hb dL_law_985 rfl (lv_at hl 0 rfl) ?_
  refine lv_iload_n hx hb dL_law_986 rfl (lv_at hl 3 rfl) ?_
  refine lv_iconst (v := 1) hx hb dL_law_987 (by decide) ?_
  refine lv_iadd hx hb dL_law_988 ?_
  refine zl_ld (k := 1) hx hb hX hbl hL (by omega) hLs dL_law_989 ?_
  refine lv_aload_n hx hb dL_law_990 rfl (lv_at hl 0 rfl) ?_
  refine lv_iload_n hx hb dL_law_991 rfl (lv_at hl 3 rfl) ?_
  refine lv_iconst (v := 2) hx hb dL_law_992 (by decide) ?_
  refine lv_iadd hx hb dL_law_993 ?_
  refine zl_ld (k := 2) hx hb hX hbl hL (by omega) hLs dL_law_994 ?_
  refine zl_2i hA hL (zl_run (w := w2) (As := [.int (xs (i + 1)), .int (xs (i + 2))]) (rest := []) X2 hml hl hL.2.1 hL.2.2 h2.1 rfl zk_Law_133 (c_Model_stands h2 h) rfl ⟨Nat.le_of_ble_eq_true rfl, Nat.le_of_ble_eq_true rfl⟩ ⟨Nat.le_of_ble_eq_true rfl, Nat.le_of_ble_eq_true rfl⟩ rfl (Nat.le_of_ble_eq_true rfl) dL_law_995) (fun x2 W2 H locs h hL => ?_)
  refine lv_pop hx hb dL_law_998 rfl ?_
  refine lv_goto (tgt := 1243) hx hb dL_law_999 rfl ?_
  exact kk M1 W2 H locs h.2 hL
set_option maxHeartbeats 4000000 in
theorem lw_c28 {p : Program} {l : Launch} {e : Env} {s : State} {m : MethodId} {below : List Frame} {meth : Method} {c : Code} {H : Heap} {locs : List Loc} {ls : Array Slot} {w1 w2 : zWd} {M W' : zMem} {b L i : Nat} {xs : Nat → Int32} {K : zMem → zMem → Prop} (C0 : lw_At p s m meth c b L xs) (hLs : L < 2147483648) (X1 : zX w1 p s m #[Value.ref b] c code "HandToHandLaw") (X2 : zX w2 p s m #[Value.ref b] c code "HandToHandLaw") (h1 : zI_Main w1) (h2 : zI_Model w2) (hA : zLa w1 w2 s) (hi : i + 6 ≤ L) (hL : zLw w1 w2 s M W' H locs) (hl : lv_has ls 4 [(0, .ref b), (1, .ref (zad w1 0)), (2, .ref (zad w2 0)), (3, .int (nI i))]) (h : wp_Main_parts (xs (i + 1)) M (fun x1 M1 => wp_Model_parts (xs (i + 1)) W' (fun x2 W2 => x1 = x2 ∧ K M1 W2))) (kk : ∀ (M W' : zMem) (H : Heap) (locs : List Loc), K M W' → zLw w1 w2 s M W' H locs → W p l e room_1 s m #[Value.ref b] below meth c H locs 108 24481 (lw_Z below #[Value.ref b] s) (F0 m 1243 ls [])) : W p l e room_1 s m #[Value.ref b] below meth c H locs 108 24481 (lw_Z below #[Value.ref b] s) (F0 m 1002 ls []) := by
  obtain ⟨hx, hb, hr, hml, hown, hts, hX, hbl, hlocks, hgv⟩ := id C0
  refine lv_aload_n hx hb dL_law_1002 rfl (lv_at hl 1 rfl) ?_
  refine lv_aload_n hx hb dL_law_1003 rfl (lv_at hl 0 rfl) ?_
  refine lv_iload_n hx hb dL_law_1004 rfl (lv_at hl 3 rfl) ?_
  refine lv_iconst (v := 1) hx hb dL_law_1005 (by decide) ?_
  refine lv_iadd hx hb dL_law_1006 ?_
  refine zl_ld (k := 1) hx hb hX hbl hL (by omega) hLs dL_law_1007 ?_
  refine zl_1i hA hL (zl_run (w := w1) (As := [.int (xs (i + 1))]) (rest := []) X1 hml hl hL.1 hL.2.2 h1.1 rfl zk_Law_134 (c_Main_parts h1 h) rfl ⟨Nat.le_of_ble_eq_true rfl, Nat.le_of_ble_eq_true rfl⟩ ⟨Nat.le_of_ble_eq_true rfl, Nat.le_of_ble_eq_true rfl⟩ rfl (Nat.le_of_ble_eq_true rfl) dL_law_1008) (fun x1 M1 H locs h hL => ?_)
  refine lv_pop hx hb dL_law_1011 rfl ?_
  refine lv_aload_n hx hb dL_law_1012 rfl (lv_at hl 2 rfl) ?_
  refine lv_aload_n hx hb dL_law_1013 rfl (lv_at hl 0 rfl) ?_
  refine lv_iload_n hx hb dL_law_1014 rfl (lv_at hl 3 rfl) ?_
  refine lv_iconst (v := 1) hx hb dL_law_1015 (by decide) ?_
  refine lv_iadd hx hb dL_law_1016 ?_
  refine zl_ld (k := 1) hx hb hX hbl hL (by omega) hLs dL_law_1017 ?_
  refine zl_2i hA hL (zl_run (w := w2) (As := [.int (xs (i + 1))]) (rest := []) X2 hml hl hL.2.1 hL.2.2 h2.1 rfl zk_Law_137 (c_Model_parts h2 h) rfl ⟨Nat.le_of_ble_eq_true rfl, Nat.le_of_ble_eq_true rfl⟩ ⟨Nat.le_of_ble_eq_true rfl, Nat.le_of_ble_eq_true rfl⟩ rfl (Nat.le_of_ble_eq_true rfl) dL_law_1018) (fun x2 W2 H locs h hL => ?_)
  refine lv_pop hx hb dL_law_1021 rfl ?_
  refine lv_goto (tgt := 1243) hx hb dL_law_1022 rfl ?_
  exact kk M1 W2 H locs h.2 hL
set_option maxHeartbeats 4000000 in
theorem lw_c29 {p : Program} {l : Launch} {e : Env} {s : State} {m : MethodId} {below : List Frame} {meth : Method} {c : Code} {H : Heap} {locs : List Loc} {ls : Array Slot} {w1 w2 : zWd} {M W' : zMem} {b L i : Nat} {xs : Nat → Int32} {K : zMem → zMem → Prop} (C0 : lw_At p s m meth c b L xs) (hLs : L < 2147483648) (X1 : zX w1 p s m #[Value.ref b] c code "HandToHandLaw") (X2 : zX w2 p s m #[Value.ref b] c code "HandToHandLaw") (h1 : zI_Main w1) (h2 : zI_Model w2) (hA : zLa w1 w2 s) (hi : i + 6 ≤ L) (hL : zLw w1 w2 s M W' H locs) (hl : lv_has ls 4 [(0, .ref b), (1, .ref (zad w1 0)), (2, .ref (zad w2 0)), (3, .int (nI i))]) (h : wp_Main_less (xs (i + 1)) (xs (i + 2)) M (fun x1 M1 => wp_Model_less (xs (i + 1)) (xs (i + 2)) W' (fun x2 W2 => x1 = x2 ∧ K M1 W2))) (kk : ∀ (M W' : zMem) (H : Heap) (locs : List Loc), K M W' → zLw w1 w2 s M W' H locs → W p l e room_1 s m #[Value.ref b] below meth c H locs 108 24481 (lw_Z below #[Value.ref b] s) (F0 m 1243 ls [])) : W p l e room_1 s m #[Value.ref b] below meth c H locs 108 24481 (lw_Z below #[Value.ref b] s) (F0 m 1025 ls []) := by
  obtain ⟨hx, hb, hr, hml, hown, hts, hX, hbl, hlocks, hgv⟩ := id C0
  refine lv_aload_n hx hb dL_law_1025 rfl (lv_at hl 1 rfl) ?_
  refine lv_aload_n hx hb dL_law_1026 rfl (lv_at hl 0 rfl) ?_
  refine lv_iload_n hx hb dL_law_1027 rfl (lv_at hl 3 rfl) ?_
  refine lv_iconst (v := 1) hx hb dL_law_1028 (by decide) ?_
  refine lv_iadd hx hb dL_law_1029 ?_
  refine zl_ld (k := 1) hx hb hX hbl hL (by omega) hLs dL_law_1030 ?_
  refine lv_aload_n hx hb dL_law_1031 rfl (lv_at hl 0 rfl) ?_
  refine lv_iload_n hx hb dL_law_1032 rfl (lv_at hl 3 rfl) ?_
  refine lv_iconst (v := 2) hx hb dL_law_1033 (by decide) ?_
  refine lv_iadd hx hb dL_law_1034 ?_
  refine zl_ld (k := 2) hx hb hX hbl hL (by omega) hLs dL_law_1035 ?_
  refine zl_1i hA hL (zl_run (w := w1) (As := [.int (xs (i + 1)), .int (xs (i + 2))]) (rest := []) X1 hml hl hL.1 hL.2.2 h1.1 rfl zk_Law_138 (c_Main_less h1 h) rfl ⟨Nat.le_of_ble_eq_true rfl, Nat.le_of_ble_eq_true rfl⟩ ⟨Nat.le_of_ble_eq_true rfl, Nat.le_of_ble_eq_true rfl⟩ rfl (Nat.le_of_ble_eq_true rfl) dL_law_1036) (fun x1 M1 H locs h hL => ?_)
  refine lv_pop hx hb dL_law_1039 rfl ?_
  refine lv_aload_n hx hb dL_law_1040 rfl (lv_at hl 2 rfl) ?_
  refine lv_aload_n hx hb dL_law_1041 rfl (lv_at hl 0 rfl) ?_
  refine lv_iload_n hx hb dL_law_1042 rfl (lv_at hl 3 rfl) ?_
  refine lv_iconst (v := 1) hx hb dL_law_1043 (by decide) ?_
  refine lv_iadd hx hb dL_law_1044 ?_
  refine zl_ld (k := 1) hx hb hX hbl hL (by omega) hLs dL_law_1045 ?_
  refine lv_aload_n hx hb dL_law_1046 rfl (lv_at hl 0 rfl) ?_
  refine lv_iload_n hx hb dL_law_1047 rfl (lv_at hl 3 rfl) ?_
  refine lv_iconst (v := 2) hx hb dL_law_1048 (by decide) ?_
  refine lv_iadd hx hb dL_law_1049 ?_
  refine zl_ld (k := 2) hx hb hX hbl hL (by omega) hLs dL_law_1050 ?_
  refine zl_2i hA hL (zl_run (w := w2) (As := [.int (xs (i + 1)), .int (xs (i + 2))]) (rest := []) X2 hml hl hL.2.1 hL.2.2 h2.1 rfl zk_Law_141 (c_Model_less h2 h) rfl ⟨Nat.le_of_ble_eq_true rfl, Nat.le_of_ble_eq_true rfl⟩ ⟨Nat.le_of_ble_eq_true rfl, Nat.le_of_ble_eq_true rfl⟩ rfl (Nat.le_of_ble_eq_true rfl) dL_law_1051) (fun x2 W2 H locs h hL => ?_)
  refine lv_pop hx hb dL_law_1054 rfl ?_
  refine lv_goto (tgt := 1243) hx hb dL_law_1055 rfl ?_
  exact kk M1 W2 H locs h.2 hL
set_option maxHeartbeats 4000000 in
theorem lw_c30 {p : Program} {l : Launch} {e : Env} {s : State} {m : MethodId} {below : List Frame} {meth : Method} {c : Code} {H : Heap} {locs : List Loc} {ls : Array Slot} {w1 w2 : zWd} {M W' : zMem} {b L i : Nat} {xs : Nat → Int32} {K : zMem → zMem → Prop} (C0 : lw_At p s m meth c b L xs) (hLs : L < 2147483648) (X1 : zX w1 p s m #[Value.ref b] c code "HandToHandLaw") (X2 : zX w2 p s m #[Value.ref b] c code "HandToHandLaw") (h1 : zI_Main w1) (h2 : zI_Model w2) (hA : zLa w1 w2 s) (hi : i + 6 ≤ L) (hL : zLw w1 w2 s M W' H locs) (hl : lv_has ls 4 [(0, .ref b), (1, .ref (zad w1 0)), (2, .ref (zad w2 0)), (3, .int (nI i))]) (h : wp_Main_sheet (xs (i + 1)) (xs (i + 2)) (xs (i + 3)) M (fun x1 M1 => wp_Model_sheet (xs (i + 1)) (xs (i + 2)) (xs (i + 3)) W' (fun x2 W2 => x1 = x2 ∧ K M1 W2))) (kk : ∀ (M W' : zMem) (H : Heap) (locs : List Loc), K M W' → zLw w1 w2 s M W' H locs → W p l e room_1 s m #[Value.ref b] below meth c H locs 108 24481 (lw_Z below #[Value.ref b] s) (F0 m 1243 ls [])) : W p l e room_1 s m #[Value.ref b] below meth c H locs 108 24481 (lw_Z below #[Value.ref b] s) (F0 m 1058 ls []) := by
  obtain ⟨hx, hb, hr, hml, hown, hts, hX, hbl, hlocks, hgv⟩ := id C0
  refine lv_aload_n hx hb dL_law_1058 rfl (lv_at hl 1 rfl) ?_
  refine lv_aload_n hx hb dL_law_1059 rfl (lv_at hl 0 rfl) ?_
  refine lv_iload_n hx hb dL_law_1060 rfl (lv_at hl 3 rfl) ?_
  refine lv_iconst (v := 1) hx hb dL_law_1061 (by decide) ?_
  refine lv_iadd hx hb dL_law_1062 ?_
  refine zl_ld (k := 1) hx hb hX hbl hL (by omega) hLs dL_law_1063 ?_
  refine lv_aload_n hx hb dL_law_1064 rfl (lv_at hl 0 rfl) ?_
  refine lv_iload_n hx hb dL_law_1065 rfl (lv_at hl 3 rfl) ?_
  refine lv_iconst (v := 2) hx hb dL_law_1066 (by decide) ?_
  refine lv_iadd hx hb dL_law_1067 ?_
  refine zl_ld (k := 2) hx hb hX hbl hL (by omega) hLs dL_law_1068 ?_
  refine lv_aload_n hx hb dL_law_1069 rfl (lv_at hl 0 rfl) ?_
  refine lv_iload_n hx hb dL_law_1070 rfl (lv_at hl 3 rfl) ?_
  refine lv_iconst (v := 3) hx hb dL_law_1071 (by decide) ?_
  refine lv_iadd hx hb dL_law_1072 ?_
  refine zl_ld (k := 3) hx hb hX hbl hL (by omega) hLs dL_law_1073 ?_
  refine zl_1i hA hL (zl_run (w := w1) (As := [.int (xs (i + 1)), .int (xs (i + 2)), .int (xs (i + 3))]) (rest := []) X1 hml hl hL.1 hL.2.2 h1.1 rfl zk_Law_142 (c_Main_sheet h1 h) rfl ⟨Nat.le_of_ble_eq_true rfl, Nat.le_of_ble_eq_true rfl⟩ ⟨Nat.le_of_ble_eq_true rfl, Nat.le_of_ble_eq_true rfl⟩ rfl (Nat.le_of_ble_eq_true rfl) dL_law_1074) (fun x1 M1 H locs h hL => ?_)
  refine lv_pop hx hb dL_law_1077 rfl ?_
  refine lv_aload_n hx hb dL_law_1078 rfl (lv_at hl 2 rfl) ?_
  refine lv_aload_n hx hb dL_law_1079 rfl (lv_at hl 0 rfl) ?_
  refine lv_iload_n hx hb dL_law_1080 rfl (lv_at hl 3 rfl) ?_
  refine lv_iconst (v := 1) hx hb dL_law_1081 (by decide) ?_
  refine lv_iadd hx hb dL_law_1082 ?_
  refine zl_ld (k := 1) hx hb hX hbl hL (by omega) hLs dL_law_1083 ?_
  refine lv_aload_n hx hb dL_law_1084 rfl (lv_at hl 0 rfl) ?_
  refine lv_iload_n hx hb dL_law_1085 rfl (lv_at hl 3 rfl) ?_
  refine lv_iconst (v := 2) hx hb dL_law_1086 (by decide) ?_
  refine lv_iadd hx hb dL_law_1087 ?_
  refine zl_ld (k := 2) hx hb hX hbl hL (by omega) hLs dL_law_1088 ?_
  refine lv_aload_n hx hb dL_law_1089 rfl (lv_at hl 0 rfl) ?_
  refine lv_iload_n hx hb dL_law_1090 rfl (lv_at hl 3 rfl) ?_
  refine lv_iconst (v := 3) hx hb dL_law_1091 (by decide) ?_
  refine lv_iadd hx hb dL_law_1092 ?_
  refine zl_ld (k := 3) hx hb hX hbl hL (by omega) hLs dL_law_1093 ?_
  refine zl_2i hA hL (zl_run (w := w2) (As := [.int (xs (i + 1)), .int (xs (i + 2)), .int (xs (i + 3))]) (rest := []) X2 hml hl hL.2.1 hL.2.2 h2.1 rfl zk_Law_145 (c_Model_sheet h2 h) rfl ⟨Nat.le_of_ble_eq_true rfl, Nat.le_of_ble_eq_true rfl⟩ ⟨Nat.le_of_ble_eq_true rfl, Nat.le_of_ble_eq_true rfl⟩ rfl (Nat.le_of_ble_eq_true rfl) dL_law_1094) (fun x2 W2 H locs h hL => ?_)
  refine lv_pop hx hb dL_law_1097 rfl ?_
  refine lv_goto (tgt := 1243) hx hb dL_law_1098 rfl ?_
  exact kk M1 W2 H locs h.2 hL
set_option maxHeartbeats 4000000 in
theorem lw_c31 {p : Program} {l : Launch} {e : Env} {s : State} {m : MethodId} {below : List Frame} {meth : Method} {c : Code} {H : Heap} {locs : List Loc} {ls : Array Slot} {w1 w2 : zWd} {M W' : zMem} {b L i : Nat} {xs : Nat → Int32} {K : zMem → zMem → Prop} (C0 : lw_At p s m meth c b L xs) (hLs : L < 2147483648) (X1 : zX w1 p s m #[Value.ref b] c code "HandToHandLaw") (X2 : zX w2 p s m #[Value.ref b] c code "HandToHandLaw") (h1 : zI_Main w1) (h2 : zI_Model w2) (hA : zLa w1 w2 s) (hi : i + 6 ≤ L) (hL : zLw w1 w2 s M W' H locs) (hl : lv_has ls 4 [(0, .ref b), (1, .ref (zad w1 0)), (2, .ref (zad w2 0)), (3, .int (nI i))]) (h : wp_Main_lay (xs (i + 1)) (xs (i + 2)) (xs (i + 3)) M (fun x1 M1 => wp_Model_lay (xs (i + 1)) (xs (i + 2)) (xs (i + 3)) W' (fun x2 W2 => x1 = x2 ∧ K M1 W2))) (kk : ∀ (M W' : zMem) (H : Heap) (locs : List Loc), K M W' → zLw w1 w2 s M W' H locs → W p l e room_1 s m #[Value.ref b] below meth c H locs 108 24481 (lw_Z below #[Value.ref b] s) (F0 m 1243 ls [])) : W p l e room_1 s m #[Value.ref b] below meth c H locs 108 24481 (lw_Z below #[Value.ref b] s) (F0 m 1101 ls []) := by
  obtain ⟨hx, hb, hr, hml, hown, hts, hX, hbl, hlocks, hgv⟩ := id C0
  refine lv_aload_n hx hb dL_law_1101 rfl (lv_at hl 1 rfl) ?_
  refine lv_aload_n hx hb dL_law_1102 rfl (lv_at hl 0 rfl) ?_
  refine lv_iload_n hx hb dL_law_1103 rfl (lv_at hl 3 rfl) ?_
  refine lv_iconst (v := 1) hx hb dL_law_1104 (by decide) ?_
  refine lv_iadd hx hb dL_law_1105 ?_
  refine zl_ld (k := 1) hx hb hX hbl hL (by omega) hLs dL_law_1106 ?_
  refine lv_aload_n hx hb dL_law_1107 rfl (lv_at hl 0 rfl) ?_
  refine lv_iload_n hx hb dL_law_1108 rfl (lv_at hl 3 rfl) ?_
  refine lv_iconst (v := 2) hx hb dL_law_1109 (by decide) ?_
  refine lv_iadd hx hb dL_law_1110 ?_
  refine zl_ld (k := 2) hx hb hX hbl hL (by omega) hLs dL_law_1111 ?_
  refine lv_aload_n hx hb dL_law_1112 rfl (lv_at hl 0 rfl) ?_
  refine lv_iload_n hx hb dL_law_1113 rfl (lv_at hl 3 rfl) ?_
  refine lv_iconst (v := 3) hx hb dL_law_1114 (by decide) ?_
  refine lv_iadd hx hb dL_law_1115 ?_
  refine zl_ld (k := 3) hx hb hX hbl hL (by omega) hLs dL_law_1116 ?_
  refine zl_1i hA hL (zl_run (w := w1) (As := [.int (xs (i + 1)), .int (xs (i + 2)), .int (xs (i + 3))]) (rest := []) X1 hml hl hL.1 hL.2.2 h1.1 rfl zk_Law_146 (c_Main_lay h1 h) rfl ⟨Nat.le_of_ble_eq_true rfl, Nat.le_of_ble_eq_true rfl⟩ ⟨Nat.le_of_ble_eq_true rfl, Nat.le_of_ble_eq_true rfl⟩ rfl (Nat.le_of_ble_eq_true rfl) dL_law_1117) (fun x1 M1 H locs h hL => ?_)
  refine lv_pop hx hb dL_law_1120 rfl ?_
  refine lv_aload_n hx hb dL_law_1121 rfl (lv_at hl 2 rfl) ?_
  refine lv_aload_n hx hb dL_law_1122 rfl (lv_at hl 0 rfl) ?_
  refine lv_iload_n hx hb dL_law_1123 rfl (lv_at hl 3 rfl) ?_
  refine lv_iconst (v := 1) hx hb dL_law_1124 (by decide) ?_
  refine lv_iadd hx hb dL_law_1125 ?_
  refine zl_ld (k := 1) hx hb hX hbl hL (by omega) hLs dL_law_1126 ?_
  refine lv_aload_n hx hb dL_law_1127 rfl (lv_at hl 0 rfl) ?_
  refine lv_iload_n hx hb dL_law_1128 rfl (lv_at hl 3 rfl) ?_
  refine lv_iconst (v := 2) hx hb dL_law_1129 (by decide) ?_
  refine lv_iadd hx hb dL_law_1130 ?_
  refine zl_ld (k := 2) hx hb hX hbl hL (by omega) hLs dL_law_1131 ?_
  refine lv_aload_n hx hb dL_law_1132 rfl (lv_at hl 0 rfl) ?_
  refine lv_iload_n hx hb dL_law_1133 rfl (lv_at hl 3 rfl) ?_
  refine lv_iconst (v := 3) hx hb dL_law_1134 (by decide) ?_
  refine lv_iadd hx hb dL_law_1135 ?_
  refine zl_ld (k := 3) hx hb hX hbl hL (by omega) hLs dL_law_1136 ?_
  refine zl_2i hA hL (zl_run (w := w2) (As := [.int (xs (i + 1)), .int (xs (i + 2)), .int (xs (i + 3))]) (rest := []) X2 hml hl hL.2.1 hL.2.2 h2.1 rfl zk_Law_149 (c_Model_lay h2 h) rfl ⟨Nat.le_of_ble_eq_true rfl, Nat.le_of_ble_eq_true rfl⟩ ⟨Nat.le_of_ble_eq_true rfl, Nat.le_of_ble_eq_true rfl⟩ rfl (Nat.le_of_ble_eq_true rfl) dL_law_1137) (fun x2 W2 H locs h hL => ?_)
  refine lv_pop hx hb dL_law_1140 rfl ?_
  refine lv_goto (tgt := 1243) hx hb dL_law_1141 rfl ?_
  exact kk M1 W2 H locs h.2 hL
set_option maxHeartbeats 4000000 in
theorem lw_c32 {p : Program} {l : Launch} {e : Env} {s : State} {m : MethodId} {below : List Frame} {meth : Method} {c : Code} {H : Heap} {locs : List Loc} {ls : Array Slot} {w1 w2 : zWd} {M W' : zMem} {b L i : Nat} {xs : Nat → Int32} {K : zMem → zMem → Prop} (C0 : lw_At p s m meth c b L xs) (hLs : L < 2147483648) (X1 : zX w1 p s m #[Value.ref b] c code "HandToHandLaw") (X2 : zX w2 p s m #[Value.ref b] c code "HandToHandLaw") (h1 : zI_Main w1) (h2 : zI_Model w2) (hA : zLa w1 w2 s) (hi : i + 6 ≤ L) (hL : zLw w1 w2 s M W' H locs) (hl : lv_has ls 4 [(0, .ref b), (1, .ref (zad w1 0)), (2, .ref (zad w2 0)), (3, .int (nI i))]) (h : wp_Main_read (xs (i + 1)) (xs (i + 2)) (xs (i + 3)) (xs (i + 4)) (xs (i + 5)) M (fun x1 M1 => wp_Model_read (xs (i + 1)) (xs (i + 2)) (xs (i + 3)) (xs (i + 4)) (xs (i + 5)) W' (fun x2 W2 => x1 = x2 ∧ K M1 W2))) (kk : ∀ (M W' : zMem) (H : Heap) (locs : List Loc), K M W' → zLw w1 w2 s M W' H locs → W p l e room_1 s m #[Value.ref b] below meth c H locs 108 24481 (lw_Z below #[Value.ref b] s) (F0 m 1243 ls [])) : W p l e room_1 s m #[Value.ref b] below meth c H locs 108 24481 (lw_Z below #[Value.ref b] s) (F0 m 1144 ls []) := by
  obtain ⟨hx, hb, hr, hml, hown, hts, hX, hbl, hlocks, hgv⟩ := id C0
  refine lv_aload_n hx hb dL_law_1144 rfl (lv_at hl 1 rfl) ?_
  refine lv_aload_n hx hb dL_law_1145 rfl (lv_at hl 0 rfl) ?_
  refine lv_iload_n hx hb dL_law_1146 rfl (lv_at hl 3 rfl) ?_
  refine lv_iconst (v := 1) hx hb dL_law_1147 (by decide) ?_
  refine lv_iadd hx hb dL_law_1148 ?_
  refine zl_ld (k := 1) hx hb hX hbl hL (by omega) hLs dL_law_1149 ?_
  refine lv_aload_n hx hb dL_law_1150 rfl (lv_at hl 0 rfl) ?_
  refine lv_iload_n hx hb dL_law_1151 rfl (lv_at hl 3 rfl) ?_
  refine lv_iconst (v := 2) hx hb dL_law_1152 (by decide) ?_
  refine lv_iadd hx hb dL_law_1153 ?_
  refine zl_ld (k := 2) hx hb hX hbl hL (by omega) hLs dL_law_1154 ?_
  refine lv_aload_n hx hb dL_law_1155 rfl (lv_at hl 0 rfl) ?_
  refine lv_iload_n hx hb dL_law_1156 rfl (lv_at hl 3 rfl) ?_
  refine lv_iconst (v := 3) hx hb dL_law_1157 (by decide) ?_
  refine lv_iadd hx hb dL_law_1158 ?_
  refine zl_ld (k := 3) hx hb hX hbl hL (by omega) hLs dL_law_1159 ?_
  refine lv_aload_n hx hb dL_law_1160 rfl (lv_at hl 0 rfl) ?_
  refine lv_iload_n hx hb dL_law_1161 rfl (lv_at hl 3 rfl) ?_
  refine lv_iconst (v := 4) hx hb dL_law_1162 (by decide) ?_
  refine lv_iadd hx hb dL_law_1163 ?_
  refine zl_ld (k := 4) hx hb hX hbl hL (by omega) hLs dL_law_1164 ?_
  refine lv_aload_n hx hb dL_law_1165 rfl (lv_at hl 0 rfl) ?_
  refine lv_iload_n hx hb dL_law_1166 rfl (lv_at hl 3 rfl) ?_
  refine lv_iconst (v := 5) hx hb dL_law_1167 (by decide) ?_
  refine lv_iadd hx hb dL_law_1168 ?_
  refine zl_ld (k := 5) hx hb hX hbl hL (by omega) hLs dL_law_1169 ?_
  refine zl_1i hA hL (zl_run (w := w1) (As := [.int (xs (i + 1)), .int (xs (i + 2)), .int (xs (i + 3)), .int (xs (i + 4)), .int (xs (i + 5))]) (rest := []) X1 hml hl hL.1 hL.2.2 h1.1 rfl zk_Law_150 (c_Main_read h1 h) rfl ⟨Nat.le_of_ble_eq_true rfl, Nat.le_of_ble_eq_true rfl⟩ ⟨Nat.le_of_ble_eq_true rfl, Nat.le_of_ble_eq_true rfl⟩ rfl (Nat.le_of_ble_eq_true rfl) dL_law_1170) (fun x1 M1 H locs h hL => ?_)
  refine lv_pop hx hb dL_law_1173 rfl ?_
  refine lv_aload_n hx hb dL_law_1174 rfl (lv_at hl 2 rfl) ?_
  refine lv_aload_n hx hb dL_law_1175 rfl (lv_at hl 0 rfl) ?_
  refine lv_iload_n hx hb dL_law_1176 rfl (lv_at hl 3 rfl) ?_
  refine lv_iconst (v := 1) hx hb dL_law_1177 (by decide) ?_
  refine lv_iadd hx hb dL_law_1178 ?_
  refine zl_ld (k := 1) hx hb hX hbl hL (by omega) hLs dL_law_1179 ?_
  refine lv_aload_n hx hb dL_law_1180 rfl (lv_at hl 0 rfl) ?_
  refine lv_iload_n hx hb dL_law_1181 rfl (lv_at hl 3 rfl) ?_
  refine lv_iconst (v := 2) hx hb dL_law_1182 (by decide) ?_
  refine lv_iadd hx hb dL_law_1183 ?_
  refine zl_ld (k := 2) hx hb hX hbl hL (by omega) hLs dL_law_1184 ?_
  refine lv_aload_n hx hb dL_law_1185 rfl (lv_at hl 0 rfl) ?_
  refine lv_iload_n hx hb dL_law_1186 rfl (lv_at hl 3 rfl) ?_
  refine lv_iconst (v := 3) hx hb dL_law_1187 (by decide) ?_
  refine lv_iadd hx hb dL_law_1188 ?_
  refine zl_ld (k := 3) hx hb hX hbl hL (by omega) hLs dL_law_1189 ?_
  refine lv_aload_n hx hb dL_law_1190 rfl (lv_at hl 0 rfl) ?_
  refine lv_iload_n hx hb dL_law_1191 rfl (lv_at hl 3 rfl) ?_
  refine lv_iconst (v := 4) hx hb dL_law_1192 (by decide) ?_
  refine lv_iadd hx hb dL_law_1193 ?_
  refine zl_ld (k := 4) hx hb hX hbl hL (by omega) hLs dL_law_1194 ?_
  refine lv_aload_n hx hb dL_law_1195 rfl (lv_at hl 0 rfl) ?_
  refine lv_iload_n hx hb dL_law_1196 rfl (lv_at hl 3 rfl) ?_
  refine lv_iconst (v := 5) hx hb dL_law_1197 (by decide) ?_
  refine lv_iadd hx hb dL_law_1198 ?_
  refine zl_ld (k := 5) hx hb hX hbl hL (by omega) hLs dL_law_1199 ?_
  refine zl_2i hA hL (zl_run (w := w2) (As := [.int (xs (i + 1)), .int (xs (i + 2)), .int (xs (i + 3)), .int (xs (i + 4)), .int (xs (i + 5))]) (rest := []) X2 hml hl hL.2.1 hL.2.2 h2.1 rfl zk_Law_153 (c_Model_read h2 h) rfl ⟨Nat.le_of_ble_eq_true rfl, Nat.le_of_ble_eq_true rfl⟩ ⟨Nat.le_of_ble_eq_true rfl, Nat.le_of_ble_eq_true rfl⟩ rfl (Nat.le_of_ble_eq_true rfl) dL_law_1200) (fun x2 W2 H locs h hL => ?_)
  refine lv_pop hx hb dL_law_1203 rfl ?_
  refine lv_goto (tgt := 1243) hx hb dL_law_1204 rfl ?_
  exact kk M1 W2 H locs h.2 hL
set_option maxHeartbeats 4000000 in
theorem lw_c33 {p : Program} {l : Launch} {e : Env} {s : State} {m : MethodId} {below : List Frame} {meth : Method} {c : Code} {H : Heap} {locs : List Loc} {ls : Array Slot} {w1 w2 : zWd} {M W' : zMem} {b L i : Nat} {xs : Nat → Int32} {K : zMem → zMem → Prop} (C0 : lw_At p s m meth c b L xs) (hLs : L < 2147483648) (X1 : zX w1 p s m #[Value.ref b] c code "HandToHandLaw") (X2 : zX w2 p s m #[Value.ref b] c code "HandToHandLaw") (h1 : zI_Main w1) (h2 : zI_Model w2) (hA : zLa w1 w2 s) (hi : i + 6 ≤ L) (hL : zLw w1 w2 s M W' H locs) (hl : lv_has ls 4 [(0, .ref b), (1, .ref (zad w1 0)), (2, .ref (zad w2 0)), (3, .int (nI i))]) (h : wp_Main_torn  M (fun x1 M1 => wp_Model_torn  W' (fun x2 W2 => x1 = x2 ∧ K M1 W2))) (kk : ∀ (M W' : zMem) (H : Heap) (locs : List Loc), K M W' → zLw w1 w2 s M W' H locs → W p l e room_1 s m #[Value.ref b] below meth c H locs 108 24481 (lw_Z below #[Value.ref b] s) (F0 m 1243 ls [])) : W p l e room_1 s m #[Value.ref b] below meth c H locs 108 24481 (lw_Z below #[Value.ref b] s) (F0 m 1207 ls []) := by
  obtain ⟨hx, hb, hr, hml, hown, hts, hX, hbl, hlocks, hgv⟩ := id C0
  refine lv_aload_n hx hb dL_law_1207 rfl (lv_at hl 1 rfl) ?_
  refine zl_1i hA hL (zl_run (w := w1) (As := []) (rest := []) X1 hml hl hL.1 hL.2.2 h1.1 rfl zk_Law_154 (c_Main_torn h1 h) rfl ⟨Nat.le_of_ble_eq_true rfl, Nat.le_of_ble_eq_true rfl⟩ ⟨Nat.le_of_ble_eq_true rfl, Nat.le_of_ble_eq_true rfl⟩ rfl (Nat.le_of_ble_eq_true rfl) dL_law_1208) (fun x1 M1 H locs h hL => ?_)
  refine lv_pop hx hb dL_law_1211 rfl ?_
  refine lv_aload_n hx hb dL_law_1212 rfl (lv_at hl 2 rfl) ?_
  refine zl_2i hA hL (zl_run (w := w2) (As := []) (rest := []) X2 hml hl hL.2.1 hL.2.2 h2.1 rfl zk_Law_157 (c_Model_torn h2 h) rfl ⟨Nat.le_of_ble_eq_true rfl, Nat.le_of_ble_eq_true rfl⟩ ⟨Nat.le_of_ble_eq_true rfl, Nat.le_of_ble_eq_true rfl⟩ rfl (Nat.le_of_ble_eq_true rfl) dL_law_1213) (fun x2 W2 H locs h hL => ?_)
  refine lv_pop hx hb dL_law_1216 rfl ?_
  refine lv_goto (tgt := 1243) hx hb dL_law_1217 rfl ?_
  exact kk M1 W2 H locs h.2 hL
set_option maxHeartbeats 4000000 in
theorem lw_c34 {p : Program} {l : Launch} {e : Env} {s : State} {m : MethodId} {below : List Frame} {meth : Method} {c : Code} {H : Heap} {locs : List Loc} {ls : Array Slot} {w1 w2 : zWd} {M W' : zMem} {b L i : Nat} {xs : Nat → Int32} {K : zMem → zMem → Prop} (C0 : lw_At p s m meth c b L xs) (hLs : L < 2147483648) (X1 : zX w1 p s m #[Value.ref b] c code "HandToHandLaw") (X2 : zX w2 p s m #[Value.ref b] c code "HandToHandLaw") (h1 : zI_Main w1) (h2 : zI_Model w2) (hA : zLa w1 w2 s) (hi : i + 6 ≤ L) (hL : zLw w1 w2 s M W' H locs) (hl : lv_has ls 4 [(0, .ref b), (1, .ref (zad w1 0)), (2, .ref (zad w2 0)), (3, .int (nI i))]) (h : wp_Main_count (xs (i + 1)) M (fun x1 M1 => wp_Model_count (xs (i + 1)) W' (fun x2 W2 => x1 = x2 ∧ K M1 W2))) (kk : ∀ (M W' : zMem) (H : Heap) (locs : List Loc), K M W' → zLw w1 w2 s M W' H locs → W p l e room_1 s m #[Value.ref b] below meth c H locs 108 24481 (lw_Z below #[Value.ref b] s) (F0 m 1243 ls [])) : W p l e room_1 s m #[Value.ref b] below meth c H locs 108 24481 (lw_Z below #[Value.ref b] s) (F0 m 1220 ls []) := by
  obtain ⟨hx, hb, hr, hml, hown, hts, hX, hbl, hlocks, hgv⟩ := id C0
  refine lv_aload_n hx hb dL_law_1220 rfl (lv_at hl 1 rfl) ?_
  refine lv_aload_n hx hb dL_law_1221 rfl (lv_at hl 0 rfl) ?_
  refine lv_iload_n hx hb dL_law_1222 rfl (lv_at hl 3 rfl) ?_
  refine lv_iconst (v := 1) hx hb dL_law_1223 (by decide) ?_
  refine lv_iadd hx hb dL_law_1224 ?_
  refine zl_ld (k := 1) hx hb hX hbl hL (by omega) hLs dL_law_1225 ?_
  refine zl_1i hA hL (zl_run (w := w1) (As := [.int (xs (i + 1))]) (rest := []) X1 hml hl hL.1 hL.2.2 h1.1 rfl zk_Law_158 (c_Main_count h1 h) rfl ⟨Nat.le_of_ble_eq_true rfl, Nat.le_of_ble_eq_true rfl⟩ ⟨Nat.le_of_ble_eq_true rfl, Nat.le_of_ble_eq_true rfl⟩ rfl (Nat.le_of_ble_eq_true rfl) dL_law_1226) (fun x1 M1 H locs h hL => ?_)
  refine lv_aload_n hx hb dL_law_1229 rfl (lv_at hl 2 rfl) ?_
  refine lv_aload_n hx hb dL_law_1230 rfl (lv_at hl 0 rfl) ?_
  refine lv_iload_n hx hb dL_law_1231 rfl (lv_at hl 3 rfl) ?_
  refine lv_iconst (v := 1) hx hb dL_law_1232 (by decide) ?_
  refine lv_iadd hx hb dL_law_1233 ?_
  refine zl_ld (k := 1) hx hb hX hbl hL (by omega) hLs dL_law_1234 ?_
  refine zl_2i hA hL (zl_run (w := w2) (As := [.int (xs (i + 1))]) (rest := [.int (x1)]) X2 hml hl hL.2.1 hL.2.2 h2.1 rfl zk_Law_161 (c_Model_count h2 h) rfl ⟨Nat.le_of_ble_eq_true rfl, Nat.le_of_ble_eq_true rfl⟩ ⟨Nat.le_of_ble_eq_true rfl, Nat.le_of_ble_eq_true rfl⟩ rfl (Nat.le_of_ble_eq_true rfl) dL_law_1235) (fun x2 W2 H locs h hL => ?_)
  refine lv_icmp_eq (tgt := 1243) hx hb dL_law_1238 rfl (fun _ => kk M1 W2 H locs h.2 hL) (fun c => absurd h.1 c)
theorem zl_len {L i : Nat} (hL : L < 1000) (hi : i < 2000) (h : ¬ nI L - 6 < nI i) : i + 6 ≤ L := by
  rcases Nat.lt_or_ge L 6 with q | q
  · refine absurd (Int32.lt_of_lt_of_le (b := 0) ?_ (nI_pos' (by omega))) h
    rcases (show L = 0 ∨ L = 1 ∨ L = 2 ∨ L = 3 ∨ L = 4 ∨ L = 5 by omega) with rfl | rfl | rfl | rfl | rfl | rfl <;> decide
  · have e : nI L - 6 = nI (L - 6) := q_sub q
    rw [e, nI_ltI (by omega) (by omega)] at h
    omega
set_option maxHeartbeats 4000000 in
theorem law_loop {p : Program} {l : Launch} {e : Env} {s : State} {m : MethodId} {below : List Frame} {meth : Method} {c : Code} {w1 w2 : zWd} {b L : Nat} {xs : Nat → Int32} (I : Nat → zMem → zMem → Prop) (hLN : L ≤ 384) (C0 : lw_At p s m meth c b L xs) (X1 : zX w1 p s m #[Value.ref b] c code "HandToHandLaw") (X2 : zX w2 p s m #[Value.ref b] c code "HandToHandLaw") (h1 : zI_Main w1) (h2 : zI_Model w2) (hA : zLa w1 w2 s)
    (hI : ∀ i M W', i + 6 ≤ L → I i M W' → zLaw (xs i &&& 63) (fun k => xs (i + k)) M W' (fun M' W'' => I (i + 6) M' W'')) :
    ∀ (n i : Nat) (M W' : zMem) (H : Heap) (locs : List Loc) (ls : Array Slot), L + 1 ≤ i + n → i ≤ L + 6 → I i M W' → zLw w1 w2 s M W' H locs → lv_has ls 4 [(0, .ref b), (1, .ref (zad w1 0)), (2, .ref (zad w2 0)), (3, .int (nI i))] → W p l e room_1 s m #[Value.ref b] below meth c H locs 108 24481 (lw_Z below #[Value.ref b] s) (F0 m 18 ls []) := by
  intro n
  induction n with
  | zero =>
    intro i M W' H locs ls hn hiL hin hL hl
    obtain ⟨hx, hb, hr, hml, hown, hts, hX, hbl, hlocks, hgv⟩ := id C0
    refine lv_iload_n hx hb dL_law_18 rfl (lv_at hl 3 rfl) ?_
    refine lv_aload_n hx hb dL_law_19 rfl (lv_at hl 0 rfl) ?_
    refine va_slen hx hb hX hbl (A := fun q => s.heap.size ≤ q) (Nat.not_le.mpr hbl) hL.2.2 dL_law_20 ?_
    refine lv_bipush (v := 6) hx hb dL_law_21 (by decide) ?_
    refine lv_isub hx hb dL_law_23 ?_
    refine lv_icmp_gt (tgt := 1249) hx hb dL_law_24 rfl (fun _ => ?_) (fun c0 => ?_)
    · refine lv_iconst (v := 1) hx hb dL_law_1249 (by decide) ?_
      refine va_forget (fun q hq => hL.2.2.2.2 q hq) ?_
      refine W.widen (k := 600000) (n := 7302250) (Nat.le_of_ble_eq_true rfl) (Nat.le_of_ble_eq_true rfl) ?_
      exact lw_ret hx hb hr hlocks dL_law_1250
    have hi : i + 6 ≤ L := zl_len (by omega) (by omega) c0
    omega
  | succ n ih =>
    intro i M W' H locs ls hn hiL hin hL hl
    obtain ⟨hx, hb, hr, hml, hown, hts, hX, hbl, hlocks, hgv⟩ := id C0
    refine lv_iload_n hx hb dL_law_18 rfl (lv_at hl 3 rfl) ?_
    refine lv_aload_n hx hb dL_law_19 rfl (lv_at hl 0 rfl) ?_
    refine va_slen hx hb hX hbl (A := fun q => s.heap.size ≤ q) (Nat.not_le.mpr hbl) hL.2.2 dL_law_20 ?_
    refine lv_bipush (v := 6) hx hb dL_law_21 (by decide) ?_
    refine lv_isub hx hb dL_law_23 ?_
    refine lv_icmp_gt (tgt := 1249) hx hb dL_law_24 rfl (fun _ => ?_) (fun c0 => ?_)
    · refine lv_iconst (v := 1) hx hb dL_law_1249 (by decide) ?_
      refine va_forget (fun q hq => hL.2.2.2.2 q hq) ?_
      refine W.widen (k := 600000) (n := 7302250) (Nat.le_of_ble_eq_true rfl) (Nat.le_of_ble_eq_true rfl) ?_
      exact lw_ret hx hb hr hlocks dL_law_1250
    have hi : i + 6 ≤ L := zl_len (by omega) (by omega) c0
    refine lv_aload_n hx hb dL_law_27 rfl (lv_at hl 0 rfl) ?_
    refine lv_iload_n hx hb dL_law_28 rfl (lv_at hl 3 rfl) ?_
    refine zl_ld0 hx hb hX hbl hL (by omega) (by omega) dL_law_29 ?_
    refine lv_bipush (v := 63) hx hb dL_law_30 (by decide) ?_
    refine lv_iand hx hb dL_law_32 ?_
    refine lv_topi (fun xn exn => ?_)
    have h := hI i M W' hi hin
    rw [← exn] at h
    have next : ∀ (M W' : zMem) (H : Heap) (locs : List Loc), I (i + 6) M W' → zLw w1 w2 s M W' H locs → W p l e room_1 s m #[Value.ref b] below meth c H locs 108 24481 (lw_Z below #[Value.ref b] s) (F0 m 1243 ls []) := fun M W' H locs h hL => by
      refine lv_iinc (v := nI (i + 6)) (lv' := [(3, .int (nI (i + 6))), (0, .ref b), (1, .ref (zad w1 0)), (2, .ref (zad w2 0))]) hx hb dL_law_1243 hl (k := 3) rfl (by rw [show Int32.ofInt 6 = nI 6 from by decide]; exact q_add i 6) (Nat.le_of_ble_eq_true rfl) rfl (fun ls hl => ?_)
      refine lv_goto (tgt := 18) hx hb dL_law_1246 rfl ?_
      exact ih (i + 6) M W' H locs ls (by omega) (by omega) h hL (lv_sub hl [1, 2, 3, 0] rfl)
    by_cases c0 : xn = 0
    · refine lv_tableIn (off := 155) (tgt := 188) hx hb dL_law_33 (by rw [c0]; decide) (by rw [c0]; decide) (by rw [c0]; rfl) rfl ?_
      exact lw_c0 C0 (by omega) X1 X2 h1 h2 hA hi hL hl (h.1 c0) next
    replace h := h.2
    by_cases c1 : xn = 1
    · refine lv_tableIn (off := 208) (tgt := 241) hx hb dL_law_33 (by rw [c1]; decide) (by rw [c1]; decide) (by rw [c1]; rfl) rfl ?_
      exact lw_c1 C0 (by omega) X1 X2 h1 h2 hA hi hL hl (h.1 c1) next
    replace h := h.2
    by_cases c2 : xn = 2
    · refine lv_tableIn (off := 231) (tgt := 264) hx hb dL_law_33 (by rw [c2]; decide) (by rw [c2]; decide) (by rw [c2]; rfl) rfl ?_
      exact lw_c2 C0 (by omega) X1 X2 h1 h2 hA hi hL hl (h.1 c2) next
    replace h := h.2
    by_cases c3 : xn = 3
    · refine lv_tableIn (off := 244) (tgt := 277) hx hb dL_law_33 (by rw [c3]; decide) (by rw [c3]; decide) (by rw [c3]; rfl) rfl ?_
      exact lw_c3 C0 (by omega) X1 X2 h1 h2 hA hi hL hl (h.1 c3) next
    replace h := h.2
    by_cases c4 : xn = 4
    · refine lv_tableIn (off := 257) (tgt := 290) hx hb dL_law_33 (by rw [c4]; decide) (by rw [c4]; decide) (by rw [c4]; rfl) rfl ?_
      exact lw_c4 C0 (by omega) X1 X2 h1 h2 hA hi hL hl (h.1 c4) next
    replace h := h.2
    by_cases c5 : xn = 5
    · refine lv_tableIn (off := 280) (tgt := 313) hx hb dL_law_33 (by rw [c5]; decide) (by rw [c5]; decide) (by rw [c5]; rfl) rfl ?_
      exact lw_c5 C0 (by omega) X1 X2 h1 h2 hA hi hL hl (h.1 c5) next
    replace h := h.2
    by_cases c6 : xn = 6
    · refine lv_tableIn (off := 313) (tgt := 346) hx hb dL_law_33 (by rw [c6]; decide) (by rw [c6]; decide) (by rw [c6]; rfl) rfl ?_
      exact lw_c6 C0 (by omega) X1 X2 h1 h2 hA hi hL hl (h.1 c6) next
    replace h := h.2
    by_cases c7 : xn = 7
    · refine lv_tableIn (off := 346) (tgt := 379) hx hb dL_law_33 (by rw [c7]; decide) (by rw [c7]; decide) (by rw [c7]; rfl) rfl ?_
      exact lw_c7 C0 (by omega) X1 X2 h1 h2 hA hi hL hl (h.1 c7) next
    replace h := h.2
    by_cases c8 : xn = 8
    · refine lv_tableIn (off := 389) (tgt := 422) hx hb dL_law_33 (by rw [c8]; decide) (by rw [c8]; decide) (by rw [c8]; rfl) rfl ?_
      exact lw_c8 C0 (by omega) X1 X2 h1 h2 hA hi hL hl (h.1 c8) next
    replace h := h.2
    by_cases c9 : xn = 9
    · refine lv_tableIn (off := 402) (tgt := 435) hx hb dL_law_33 (by rw [c9]; decide) (by rw [c9]; decide) (by rw [c9]; rfl) rfl ?_
      exact lw_c9 C0 (by omega) X1 X2 h1 h2 hA hi hL hl (h.1 c9) next
    replace h := h.2
    by_cases c10 : xn = 10
    · refine lv_tableIn (off := 425) (tgt := 458) hx hb dL_law_33 (by rw [c10]; decide) (by rw [c10]; decide) (by rw [c10]; rfl) rfl ?_
      exact lw_c10 C0 (by omega) X1 X2 h1 h2 hA hi hL hl (h.1 c10) next
    replace h := h.2
    by_cases c11 : xn = 11
    · refine lv_tableIn (off := 438) (tgt := 471) hx hb dL_law_33 (by rw [c11]; decide) (by rw [c11]; decide) (by rw [c11]; rfl) rfl ?_
      exact lw_c11 C0 (by omega) X1 X2 h1 h2 hA hi hL hl (h.1 c11) next
    replace h := h.2
    by_cases c12 : xn = 12
    · refine lv_tableIn (off := 461) (tgt := 494) hx hb dL_law_33 (by rw [c12]; decide) (by rw [c12]; decide) (by rw [c12]; rfl) rfl ?_
      exact lw_c12 C0 (by omega) X1 X2 h1 h2 hA hi hL hl (h.1 c12) next
    replace h := h.2
    by_cases c13 : xn = 13
    · refine lv_tableIn (off := 494) (tgt := 527) hx hb dL_law_33 (by rw [c13]; decide) (by rw [c13]; decide) (by rw [c13]; rfl) rfl ?_
      exact lw_c13 C0 (by omega) X1 X2 h1 h2 hA hi hL hl (h.1 c13) next
    replace h := h.2
    by_cases c14 : xn = 14
    · refine lv_tableIn (off := 527) (tgt := 560) hx hb dL_law_33 (by rw [c14]; decide) (by rw [c14]; decide) (by rw [c14]; rfl) rfl ?_
      exact lw_c14 C0 (by omega) X1 X2 h1 h2 hA hi hL hl (h.1 c14) next
    replace h := h.2
    by_cases c15 : xn = 15
    · refine lv_tableIn (off := 560) (tgt := 593) hx hb dL_law_33 (by rw [c15]; decide) (by rw [c15]; decide) (by rw [c15]; rfl) rfl ?_
      exact lw_c15 C0 (by omega) X1 X2 h1 h2 hA hi hL hl (h.1 c15) next
    replace h := h.2
    by_cases c16 : xn = 16
    · refine lv_tableIn (off := 583) (tgt := 616) hx hb dL_law_33 (by rw [c16]; decide) (by rw [c16]; decide) (by rw [c16]; rfl) rfl ?_
      exact lw_c16 C0 (by omega) X1 X2 h1 h2 hA hi hL hl (h.1 c16) next
    replace h := h.2
    by_cases c17 : xn = 17
    · refine lv_tableIn (off := 606) (tgt := 639) hx hb dL_law_33 (by rw [c17]; decide) (by rw [c17]; decide) (by rw [c17]; rfl) rfl ?_
      exact lw_c17 C0 (by omega) X1 X2 h1 h2 hA hi hL hl (h.1 c17) next
    replace h := h.2
    by_cases c18 : xn = 18
    · refine lv_tableIn (off := 639) (tgt := 672) hx hb dL_law_33 (by rw [c18]; decide) (by rw [c18]; decide) (by rw [c18]; rfl) rfl ?_
      exact lw_c18 C0 (by omega) X1 X2 h1 h2 hA hi hL hl (h.1 c18) next
    replace h := h.2
    by_cases c19 : xn = 19
    · refine lv_tableIn (off := 672) (tgt := 705) hx hb dL_law_33 (by rw [c19]; decide) (by rw [c19]; decide) (by rw [c19]; rfl) rfl ?_
      exact lw_c19 C0 (by omega) X1 X2 h1 h2 hA hi hL hl (h.1 c19) next
    replace h := h.2
    by_cases c20 : xn = 20
    · refine lv_tableIn (off := 715) (tgt := 748) hx hb dL_law_33 (by rw [c20]; decide) (by rw [c20]; decide) (by rw [c20]; rfl) rfl ?_
      exact lw_c20 C0 (by omega) X1 X2 h1 h2 hA hi hL hl (h.1 c20) next
    replace h := h.2
    by_cases c21 : xn = 21
    · refine lv_tableIn (off := 778) (tgt := 811) hx hb dL_law_33 (by rw [c21]; decide) (by rw [c21]; decide) (by rw [c21]; rfl) rfl ?_
      exact lw_c21 C0 (by omega) X1 X2 h1 h2 hA hi hL hl (h.1 c21) next
    replace h := h.2
    by_cases c22 : xn = 22
    · refine lv_tableIn (off := 801) (tgt := 834) hx hb dL_law_33 (by rw [c22]; decide) (by rw [c22]; decide) (by rw [c22]; rfl) rfl ?_
      exact lw_c22 C0 (by omega) X1 X2 h1 h2 hA hi hL hl (h.1 c22) next
    replace h := h.2
    by_cases c23 : xn = 23
    · refine lv_tableIn (off := 834) (tgt := 867) hx hb dL_law_33 (by rw [c23]; decide) (by rw [c23]; decide) (by rw [c23]; rfl) rfl ?_
      exact lw_c23 C0 (by omega) X1 X2 h1 h2 hA hi hL hl (h.1 c23) next
    replace h := h.2
    by_cases c24 : xn = 24
    · refine lv_tableIn (off := 857) (tgt := 890) hx hb dL_law_33 (by rw [c24]; decide) (by rw [c24]; decide) (by rw [c24]; rfl) rfl ?_
      exact lw_c24 C0 (by omega) X1 X2 h1 h2 hA hi hL hl (h.1 c24) next
    replace h := h.2
    by_cases c25 : xn = 25
    · refine lv_tableIn (off := 880) (tgt := 913) hx hb dL_law_33 (by rw [c25]; decide) (by rw [c25]; decide) (by rw [c25]; rfl) rfl ?_
      exact lw_c25 C0 (by omega) X1 X2 h1 h2 hA hi hL hl (h.1 c25) next
    replace h := h.2
    by_cases c26 : xn = 26
    · refine lv_tableIn (off := 913) (tgt := 946) hx hb dL_law_33 (by rw [c26]; decide) (by rw [c26]; decide) (by rw [c26]; rfl) rfl ?_
      exact lw_c26 C0 (by omega) X1 X2 h1 h2 hA hi hL hl (h.1 c26) next
    replace h := h.2
    by_cases c27 : xn = 27
    · refine lv_tableIn (off := 936) (tgt := 969) hx hb dL_law_33 (by rw [c27]; decide) (by rw [c27]; decide) (by rw [c27]; rfl) rfl ?_
      exact lw_c27 C0 (by omega) X1 X2 h1 h2 hA hi hL hl (h.1 c27) next
    replace h := h.2
    by_cases c28 : xn = 28
    · refine lv_tableIn (off := 969) (tgt := 1002) hx hb dL_law_33 (by rw [c28]; decide) (by rw [c28]; decide) (by rw [c28]; rfl) rfl ?_
      exact lw_c28 C0 (by omega) X1 X2 h1 h2 hA hi hL hl (h.1 c28) next
    replace h := h.2
    by_cases c29 : xn = 29
    · refine lv_tableIn (off := 992) (tgt := 1025) hx hb dL_law_33 (by rw [c29]; decide) (by rw [c29]; decide) (by rw [c29]; rfl) rfl ?_
      exact lw_c29 C0 (by omega) X1 X2 h1 h2 hA hi hL hl (h.1 c29) next
    replace h := h.2
    by_cases c30 : xn = 30
    · refine lv_tableIn (off := 1025) (tgt := 1058) hx hb dL_law_33 (by rw [c30]; decide) (by rw [c30]; decide) (by rw [c30]; rfl) rfl ?_
      exact lw_c30 C0 (by omega) X1 X2 h1 h2 hA hi hL hl (h.1 c30) next
    replace h := h.2
    by_cases c31 : xn = 31
    · refine lv_tableIn (off := 1068) (tgt := 1101) hx hb dL_law_33 (by rw [c31]; decide) (by rw [c31]; decide) (by rw [c31]; rfl) rfl ?_
      exact lw_c31 C0 (by omega) X1 X2 h1 h2 hA hi hL hl (h.1 c31) next
    replace h := h.2
    by_cases c32 : xn = 32
    · refine lv_tableIn (off := 1111) (tgt := 1144) hx hb dL_law_33 (by rw [c32]; decide) (by rw [c32]; decide) (by rw [c32]; rfl) rfl ?_
      exact lw_c32 C0 (by omega) X1 X2 h1 h2 hA hi hL hl (h.1 c32) next
    replace h := h.2
    by_cases c33 : xn = 33
    · refine lv_tableIn (off := 1174) (tgt := 1207) hx hb dL_law_33 (by rw [c33]; decide) (by rw [c33]; decide) (by rw [c33]; rfl) rfl ?_
      exact lw_c33 C0 (by omega) X1 X2 h1 h2 hA hi hL hl (h.1 c33) next
    replace h := h.2
    by_cases c34 : xn = 34
    · refine lv_tableIn (off := 1187) (tgt := 1220) hx hb dL_law_33 (by rw [c34]; decide) (by rw [c34]; decide) (by rw [c34]; rfl) rfl ?_
      exact lw_c34 C0 (by omega) X1 X2 h1 h2 hA hi hL hl (h.1 c34) next
    replace h := h.2
    have hno : ∀ j, j ≤ 34 → xn ≠ nI j := fun j hj => by
      rcases (show j = 0 ∨ j = 1 ∨ j = 2 ∨ j = 3 ∨ j = 4 ∨ j = 5 ∨ j = 6 ∨ j = 7 ∨ j = 8 ∨ j = 9 ∨ j = 10 ∨ j = 11 ∨ j = 12 ∨ j = 13 ∨ j = 14 ∨ j = 15 ∨ j = 16 ∨ j = 17 ∨ j = 18 ∨ j = 19 ∨ j = 20 ∨ j = 21 ∨ j = 22 ∨ j = 23 ∨ j = 24 ∨ j = 25 ∨ j = 26 ∨ j = 27 ∨ j = 28 ∨ j = 29 ∨ j = 30 ∨ j = 31 ∨ j = 32 ∨ j = 33 ∨ j = 34 by omega) with rfl | rfl | rfl | rfl | rfl | rfl | rfl | rfl | rfl | rfl | rfl | rfl | rfl | rfl | rfl | rfl | rfl | rfl | rfl | rfl | rfl | rfl | rfl | rfl | rfl | rfl | rfl | rfl | rfl | rfl | rfl | rfl | rfl | rfl | rfl
      · exact c0
      · exact c1
      · exact c2
      · exact c3
      · exact c4
      · exact c5
      · exact c6
      · exact c7
      · exact c8
      · exact c9
      · exact c10
      · exact c11
      · exact c12
      · exact c13
      · exact c14
      · exact c15
      · exact c16
      · exact c17
      · exact c18
      · exact c19
      · exact c20
      · exact c21
      · exact c22
      · exact c23
      · exact c24
      · exact c25
      · exact c26
      · exact c27
      · exact c28
      · exact c29
      · exact c30
      · exact c31
      · exact c32
      · exact c33
      · exact c34
    refine lv_tableOut (tgt := 1243) hx hb dL_law_33 (zsw 34 (Nat.le_of_ble_eq_true rfl) hno) rfl ?_
    exact next M W' H locs (h hno) hL
theorem st_cl {s : State} {args : Array Value} (hts : ∀ u ∈ zU, u.before args s = true) : ∃ D : va_G, ∀ (k : Nat) (q : vw_C), vwCl[k]? = some q → u_Kn s q.1 q.2.1 q.2.2 (D.1 k) (D.2 k) := by
  obtain ⟨c0, i0, h0⟩ := u_known (C := "HandToHand$Bench") (T := TX0) (N := 14) (n := 14) hts zin_0 (hts _ zu_155)
  obtain ⟨c1, i1, h1⟩ := u_known (C := "HandToHand$Course") (T := TX1) (N := 4) (n := 4) hts zin_1 (hts _ zu_222)
  obtain ⟨c2, i2, h2⟩ := u_known (C := "HandToHand$Handings") (T := TX2) (N := 2) (n := 2) hts zin_2 (hts _ zu_228)
  obtain ⟨c3, i3, h3⟩ := u_known (C := "HandToHand$Orders") (T := TX3) (N := 3) (n := 3) hts zin_3 (hts _ zu_330)
  obtain ⟨c4, i4, h4⟩ := u_known (C := "HandToHand$Parts") (T := TX4) (N := 4) (n := 4) hts zin_4 (hts _ zu_349)
  obtain ⟨c5, i5, h5⟩ := u_known (C := "HandToHand$Reader") (T := TX5) (N := 14) (n := 14) hts zin_5 (hts _ zu_97)
  obtain ⟨c6, i6, h6⟩ := u_known (C := "HandToHand$Ring") (T := TX6) (N := 8) (n := 8) hts zin_6 (hts _ zu_287)
  obtain ⟨c7, i7, h7⟩ := u_known (C := "HandToHand$Settling") (T := TX7) (N := 5) (n := 5) hts zin_7 (hts _ zu_263)
  obtain ⟨c8, i8, h8⟩ := u_known (C := "HandToHand$Sheet") (T := TX8) (N := 3) (n := 3) hts zin_8 (hts _ zu_384)
  obtain ⟨c9, i9, h9⟩ := u_known (C := "HandToHand$Told") (T := TX9) (N := 11) (n := 11) hts zin_9 (hts _ zu_27)
  obtain ⟨c10, i10, h10⟩ := u_known (C := "HandToHand") (T := TX10) (N := 14) (n := 14) hts zin_10 (hts _ zu_19)
  obtain ⟨c11, i11, h11⟩ := u_known (C := "HandToHandModel") (T := TX11) (N := 40) (n := 40) hts zin_11 (hts _ zu_1015)
  refine ⟨(fun k => [c0, c1, c2, c3, c4, c5, c6, c7, c8, c9, c10, c11].getD k c0, fun k => [i0, i1, i2, i3, i4, i5, i6, i7, i8, i9, i10, i11].getD k i0), ?_⟩
  intro k q hq
  match k, hq with
  | 0, hq => cases hq; exact h0
  | 1, hq => cases hq; exact h1
  | 2, hq => cases hq; exact h2
  | 3, hq => cases hq; exact h3
  | 4, hq => cases hq; exact h4
  | 5, hq => cases hq; exact h5
  | 6, hq => cases hq; exact h6
  | 7, hq => cases hq; exact h7
  | 8, hq => cases hq; exact h8
  | 9, hq => cases hq; exact h9
  | 10, hq => cases hq; exact h10
  | 11, hq => cases hq; exact h11
  | k + 12, hq => simp at hq
theorem st_ar {s : State} {args : Array Value} {ty : FieldType} (hra : ∀ cA, va_RA s cA ty = (s.vm.findClass ("[" ++ ty.toString) = some cA)) (h : (Cond.arrayClass ty).before args s = true) : ∃ cA, ArrOfT s cA ty ∧ va_RA s cA ty := by
  obtain ⟨cA, kA, comp, h1, h2, h3⟩ := Cond.arrayClass_spec h
  exact ⟨cA, fun N z => ⟨(fun k h => by cases h), kA, h2, comp, h3⟩, by rw [hra]; exact h1⟩
theorem st_ao {s : State} {args : Array Value} {C : String} (h : (Cond.arrayOver (.object C)).before args s = true) : ∃ cA, ArrOfT s cA (.object C) ∧ va_RA s cA (.object C) := by
  obtain ⟨comp, c, k, h1, h2, h3, h4, h5⟩ := Cond.arrayOver_spec h
  exact ⟨c, fun N z => ⟨(fun k h => by cases h), k, h3, comp, h4⟩, k, comp, h3, h4, h1, h5⟩
abbrev st_t (i : Nat) : Term := Term.string "HandToHand$Reader" (zsI.getD i 0)
theorem st_sref {s : State} {args : Array Value} (hts : ∀ w ∈ lw_tbl, w.before args s = true) (i : Nat) (hi : i < 11) : (Cond.stringRef "HandToHand$Reader" (zsI.getD i 0) (zsT.getD i "")).before args s = true := by
  rcases (show i = 0 ∨ i = 1 ∨ i = 2 ∨ i = 3 ∨ i = 4 ∨ i = 5 ∨ i = 6 ∨ i = 7 ∨ i = 8 ∨ i = 9 ∨ i = 10 by omega) with rfl | rfl | rfl | rfl | rfl | rfl | rfl | rfl | rfl | rfl | rfl
  · exact hts _ (List.mem_append_right _ (zu_l3 (List.mem_of_getElem? (i := 62) rfl)))
  · exact hts _ (List.mem_append_right _ (zu_l3 (List.mem_of_getElem? (i := 63) rfl)))
  · exact hts _ (List.mem_append_right _ (zu_l3 (List.mem_of_getElem? (i := 64) rfl)))
  · exact hts _ (List.mem_append_right _ (zu_l3 (List.mem_of_getElem? (i := 65) rfl)))
  · exact hts _ (List.mem_append_right _ (zu_l3 (List.mem_of_getElem? (i := 66) rfl)))
  · exact hts _ (List.mem_append_right _ (zu_l3 (List.mem_of_getElem? (i := 67) rfl)))
  · exact hts _ (List.mem_append_right _ (zu_l3 (List.mem_of_getElem? (i := 68) rfl)))
  · exact hts _ (List.mem_append_right _ (zu_l3 (List.mem_of_getElem? (i := 69) rfl)))
  · exact hts _ (List.mem_append_right _ (zu_l3 (List.mem_of_getElem? (i := 70) rfl)))
  · exact hts _ (List.mem_append_right _ (zu_l3 (List.mem_of_getElem? (i := 71) rfl)))
  · exact hts _ (List.mem_append_right _ (zu_l3 (List.mem_of_getElem? (i := 72) rfl)))
theorem st_S {s : State} {args : Array Value} (hts : ∀ w ∈ lw_tbl, w.before args s = true) (hgv : (Jvm.Cond.and given_1 narrow_1).before args s = true) : ∃ adK adV : Nat → Nat, ∀ b, s.heap.size ≤ b → vk_S 11 zsL zsB adK adV (fun q => b ≤ q) s s.heap ∧ (∀ i, i < 11 → vk_R "HandToHand$Reader" (zsI.getD i 0) (zsT.getD i "") (adK i) s) ∧ va_Z "java/lang/String" "COMPACT_STRINGS" "Z" (.int 1) (fun q => b ≤ q) s s.heap ∧ va_Zq "jdk/internal/util/Preconditions" "SIOOBE_FORMATTER" "Ljava/util/function/BiFunction;" (fun q => b ≤ q) s s.heap := by
  have hs := flat_of_before _ hgv
  have hz : ∀ u ∈ zU, u.before args s = true := fun u h => hts u (zU_tbl u h)
  have hA : ∀ a : Nat, a < s.heap.size → ¬ (fun q => s.heap.size ≤ q) a := fun a h => Nat.not_le.mpr h
  have hN : ∀ i, i < 11 → ∀ j, j < 11 → i < j → Cond.not (Cond.eq (st_t i) (st_t j)) ∈ flatC (Jvm.Cond.and given_1 narrow_1) := by decide +kernel
  obtain ⟨adK, adV, h1, h2⟩ := vk_Sof (args := args) (s := s) (N := 11) (tm := st_t) (len := zsL) (byt := zsB) (A := fun q => s.heap.size ≤ q) (by decide)
    (fun i hi => hs _ ((show ∀ i, i < 11 → Cond.exactly (st_t i) "java/lang/String" ∈ flatC (Jvm.Cond.and given_1 narrow_1) by decide +kernel) i hi))
    (fun i hi => hs _ ((show ∀ i, i < 11 → Cond.eq (.field (st_t i) "java/lang/String" "coder" "B") (.int 0) ∈ flatC (Jvm.Cond.and given_1 narrow_1) by decide +kernel) i hi))
    (fun i hi => hs _ ((show ∀ i, i < 11 → Cond.arrayOf (.field (st_t i) "java/lang/String" "value" "[B") .byte ∈ flatC (Jvm.Cond.and given_1 narrow_1) by decide +kernel) i hi))
    (fun i hi => hs _ ((show ∀ i, i < 11 → Cond.eq (.length (.field (st_t i) "java/lang/String" "value" "[B")) (.int (Int32.ofNat (zsL.getD i 0))) ∈ flatC (Jvm.Cond.and given_1 narrow_1) by decide +kernel) i hi))
    (fun i hi j hj => hs _ ((show ∀ i, i < 11 → ∀ j, j < zsL.getD i 0 → Cond.eq (.elem (.field (st_t i) "java/lang/String" "value" "[B") (.int (Int32.ofNat j))) (.int ((zsB.getD i []).getD j 0)) ∈ flatC (Jvm.Cond.and given_1 narrow_1) by decide +kernel) i hi j hj))
    (fun i j hi hj hij => by
      rcases Nat.lt_or_ge i j with q | q
      · exact Or.inl (hs _ (hN i hi j hj q))
      · exact Or.inr (hs _ (hN j hj i hi (by omega))))
    hA
  have hc : (Term.static "java/lang/String" "COMPACT_STRINGS" "Z").eval args s none [] s = some (.int 1) := va_eqt (hs (Cond.eq (Term.static "java/lang/String" "COMPACT_STRINGS" "Z") (.int 1)) (by decide +kernel))
  have hr : (Cond.isRef (Term.static "jdk/internal/util/Preconditions" "SIOOBE_FORMATTER" "Ljava/util/function/BiFunction;")).before args s = true := hs _ (by decide +kernel)
  have l1 : (Cond.laysStatic "java/lang/String" "COMPACT_STRINGS" "Z").before args s = true := hts _ (List.mem_append_right _ (zu_l3 (List.mem_of_getElem? (i := 82) rfl)))
  have l2 : (Cond.laysStatic "jdk/internal/util/Preconditions" "SIOOBE_FORMATTER" "Ljava/util/function/BiFunction;").before args s = true := hts _ (List.mem_append_right _ (zu_l3 (List.mem_of_getElem? (i := 98) rfl)))
  have z1 := va_Zof (v := .int 1) l1 (hz _ zu_13) hc hA
  have z2 := va_Zqof l2 (hz _ zu_15) hr hA
  exact ⟨adK, adV, fun b hb => ⟨h1.narrow (fun q h => Nat.le_trans hb h), fun i hi => vk_R.of (st_sref hts i hi) (h2 i hi), z1.narrow (fun q h => Nat.le_trans hb h), z2.narrow (fun q h => Nat.le_trans hb h)⟩⟩
theorem st_K {s : State} {args : Array Value} (hts : ∀ w ∈ lw_tbl, w.before args s = true) (hgv : (Jvm.Cond.and given_1 narrow_1).before args s = true) : ∃ (D : va_G) (ar : Nat → ClassId), ∀ sh b n, s.heap.size ≤ b → zKo (D, ar, sh, b, n) s := by
  obtain ⟨adK, adV, hstr⟩ := st_S hts hgv
  have hz : ∀ u ∈ zU, u.before args s = true := fun u h => hts u (zU_tbl u h)
  obtain ⟨D, hD⟩ := st_cl hz
  have ob : (Cond.arrayOver (.object "HandToHand$Bench")).before args s = true := hts _ (List.mem_append_right _ (zu_l1 (List.mem_of_getElem? (i := 220) rfl)))
  have os : (Cond.arrayOver (.object "HandToHand$Sheet")).before args s = true := hts _ (List.mem_append_right _ (zu_l2 (List.mem_of_getElem? (i := 131) rfl)))
  obtain ⟨a0, e0⟩ := st_ar (ty := .byte) (fun _ => rfl) (hz _ zu_153)
  obtain ⟨a1, e1⟩ := st_ar (ty := .int) (fun _ => rfl) (hz _ zu_95)
  obtain ⟨a2, e2⟩ := st_ar (ty := .boolean) (fun _ => rfl) (hz _ zu_242)
  obtain ⟨a3, e3⟩ := st_ao ob
  obtain ⟨a4, e4⟩ := st_ao os
  refine ⟨D, fun k => if k < 100 then [a0, a1, a2, a3, a4].getD k a0 else if k < 200 then adK (k - 100) else adV (k - 200), fun sh b n hbn => ⟨⟨⟨hD, ?_⟩, ?_, ?_⟩, va_AO.of ob, va_AO.of os⟩⟩
  · intro k q hq
    match k, hq with
    | 0, hq => cases hq; exact e0
    | 1, hq => cases hq; exact e1
    | 2, hq => cases hq; exact e2
    | 3, hq => cases hq; exact e3
    | 4, hq => cases hq; exact e4
    | k + 5, hq => simp [ztys] at hq
  · intro q hq
    exact va_tabs rfl (u := s) (U := s) rfl (hts _ (zN_tbl q hq))
  · obtain ⟨s1, s2, s3, s4⟩ := hstr b hbn
    have ek : ∀ i, i < 11 → zsa (D, (fun k => if k < 100 then [a0, a1, a2, a3, a4].getD k a0 else if k < 200 then adK (k - 100) else adV (k - 200)), sh, b, n) i = adK i := fun i hi => by
      show (if 100 + i < 100 then [a0, a1, a2, a3, a4].getD (100 + i) a0 else if 100 + i < 200 then adK (100 + i - 100) else adV (100 + i - 200)) = adK i
      rw [if_neg (by omega), if_pos (by omega), Nat.add_sub_cancel_left]
    have ev : ∀ i, i < 11 → zsv (D, (fun k => if k < 100 then [a0, a1, a2, a3, a4].getD k a0 else if k < 200 then adK (k - 100) else adV (k - 200)), sh, b, n) i = adV i := fun i hi => by
      show (if 200 + i < 100 then [a0, a1, a2, a3, a4].getD (200 + i) a0 else if 200 + i < 200 then adK (200 + i - 100) else adV (200 + i - 200)) = adV i
      rw [if_neg (by omega), if_neg (by omega), Nat.add_sub_cancel_left]
    refine ⟨⟨fun i hi => ?_, fun i j hi hj e => ?_⟩, fun i hi => ?_, s3, s4⟩
    · rw [ek i hi, ev i hi]; exact s1.1 i hi
    · rw [ek i hi, ek j hj] at e; exact s1.2 i j hi hj e
    · rw [ek i hi]; exact s2 i hi
set_option maxHeartbeats 4000000 in
theorem start_of {p : Program} {e : Env} {s : State} {m : MethodId} {below : List Frame} {meth : Method} {c : Code} (l : Launch) {b L : Nat} {xs : Nat → Int32} (hLN : L ≤ 384) (C0 : lw_At p s m meth c b L xs) (I : Nat → zMem → zMem → Prop) (h0 : wp_Told_tellAsAtFirst 1 zM0 (fun zm1 => (∀ c, 6 ≤ c → zm1 c = zM0 c) ∧ wp_Bench_clear 18 zm1 (fun zm2 => wp_Bench_doAll 18 zm2 (fun M => I 0 M zW0))))
    (hI : ∀ i M W', i + 6 ≤ L → I i M W' → zLaw (xs i &&& 63) (fun k => xs (i + k)) M W' (fun M' W'' => I (i + 6) M' W'')) : W p l e room_1 s m #[Value.ref b] below meth c s.heap [] 0 0 (lw_Z below #[Value.ref b] s) (entryFrame m ([Value.ref b] : List Value).toArray 4) := by
  obtain ⟨hx, hb, hr, hml, hown, hts, hX, hbl, hlocks, hgv⟩ := id C0
  have hz : ∀ u ∈ zU, u.before #[Value.ref b] s = true := fun u h => hts u (zU_tbl u h)
  obtain ⟨D, ar, hKo⟩ := st_K hts hgv
  have hl := lv_entry ([.ref b]) (n := 4) (Nat.le_of_ble_eq_true rfl)
  rw [lg_entry_eq]
  generalize (lg_sl ([.ref b]) ++ List.replicate (4 - (lg_sl ([.ref b])).length) Slot.unset).toArray = ls at hl ⊢
  have hl : lv_has ls 4 [(0, .ref b)] := hl
  generalize hsh : (fun (_ : Nat) (_ : Nat → Int32) => (Sum.inr (0, []) : va_E)) = sh0
  generalize hw1 : ((D, ar, sh0, s.heap.size, 0) : zWd) = w1
  have b1 : w1.2.2.2.1 = s.heap.size := by rw [← hw1]
  have K1 : zKo w1 s := by rw [← hw1]; exact hKo _ _ _ (Nat.le_refl _)
  have X1 : zX w1 p s m #[Value.ref b] c code "HandToHandLaw" := ⟨hx, hb, hown, hz, K1.1⟩
  have hG : zGo (zwn w1 sh0 0) s.heap zM0 s.heap [] := ⟨fun k q h => by simp [zws, zwn] at h, va_S.rf⟩
  refine zg_new (w := w1) (ci := 10) (C := "HandToHand") (T := TX10) (ty0 := tyX10) (fs := [.null, .null, .null, .null, .null, .null, .null, .null, .null, .null, .null, .null, .null, .int 0]) X1 hG (by omega) (by omega) rfl zin_10 tyX10_ok zu_18 zu_19 zu_1 (fun j hj => by rcases (show j = 0 ∨ j = 1 ∨ j = 2 ∨ j = 3 ∨ j = 4 ∨ j = 5 ∨ j = 6 ∨ j = 7 ∨ j = 8 ∨ j = 9 ∨ j = 10 ∨ j = 11 ∨ j = 12 ∨ j = 13 by omega) with rfl | rfl | rfl | rfl | rfl | rfl | rfl | rfl | rfl | rfl | rfl | rfl | rfl | rfl <;> rfl) (Nat.le_of_ble_eq_true rfl) (Nat.le_of_ble_eq_true rfl) dL_law_0 (fun H hG => ?_)
  refine lv_dup hx hb dL_law_3 rfl ?_
  refine zg_ctor (w := w1) (k := 0) (na := 0) (As := []) (rest := [.ref (w1.2.2.2.1 + 0)]) X1 K1 hml hl hG (by omega) (by omega) zu_20 zu_21 zu_1 zu_22 rfl (by decide +kernel) (i_Main (w := zwn w1 (zsk sh0 0 (.inr (10, [.null, .null, .null, .null, .null, .null, .null, .null, .null, .null, .null, .null, .null, .int 0]))) 1) (M := zM0) rfl rfl h0) rfl rfl ⟨Nat.le_of_ble_eq_true rfl, Nat.le_of_ble_eq_true rfl⟩ ⟨Nat.le_of_ble_eq_true rfl, Nat.le_of_ble_eq_true rfl⟩ rfl (Nat.le_of_ble_eq_true rfl) dL_law_4 (fun M H locs hI0 hG => ?_)
  refine zub (fun hub => ?_)
  have hlb := zlb hG.1 (by omega)
  have hsz : H.size = s.heap.size + 89 := by
    have hub' : H.size ≤ s.heap.size + (0 + 1 + 88) := hub
    have hlb' : w1.2.2.2.1 + 89 ≤ H.size := hlb
    omega
  refine va_forget (fun q hq => by
    have h := hG.2.2.2 q hq
    have h' : w1.2.2.2.1 ≤ q.base := h
    omega) ?_
  refine lv_astore_n (lv' := [(1, .ref (w1.2.2.2.1 + 0)), (0, .ref b)]) hx hb dL_law_7 rfl hl (Nat.le_of_ble_eq_true rfl) rfl (fun ls hl => ?_)
  generalize hw2 : ((D, ar, sh0, H.size, 0) : zWd) = w2
  have b2 : w2.2.2.2.1 = H.size := by rw [← hw2]
  have hS1 : va_S (fun q => w1.2.2.2.1 ≤ q) s.heap H _ := hG.2
  have K2 : zKo w2 s := by rw [← hw2]; exact hKo _ _ _ hS1.1
  have hF2 : s.heap.size ≤ H.size ∧ zFr w2 s H := ⟨hS1.1, fun a ha _ => hS1.2.1 a ha (fun z => by have z' : w1.2.2.2.1 ≤ a := z; omega)⟩
  have X2 : zX w2 p s m #[Value.ref b] c code "HandToHandLaw" := ⟨hx, hb, hown, hz, K2.1⟩
  have hG2 : zGo (zwn w2 sh0 0) H zM0 H [] := ⟨fun k q h => by simp [zws, zwn] at h, va_S.rf⟩
  refine zg_new (w := w2) (ci := 11) (C := "HandToHandModel") (T := TX11) (ty0 := tyX11) (fs := [.null, .int 0, .int 0, .int 0, .int 0, .int 0, .int 0, .int 0, .int 0, .null, .null, .null, .null, .int 0, .int 0, .int 0, .null, .null, .int 0, .int 0, .null, .null, .null, .null, .int 0, .null, .null, .null, .int 0, .int 0, .int 0, .int 0, .int 0, .int 0, .int 0, .null, .null, .null, .null, .int 0]) X2 hG2 (by omega) (by omega) rfl zin_11 tyX11_ok zu_1014 zu_1015 zu_12 (fun j hj => by rcases (show j = 0 ∨ j = 1 ∨ j = 2 ∨ j = 3 ∨ j = 4 ∨ j = 5 ∨ j = 6 ∨ j = 7 ∨ j = 8 ∨ j = 9 ∨ j = 10 ∨ j = 11 ∨ j = 12 ∨ j = 13 ∨ j = 14 ∨ j = 15 ∨ j = 16 ∨ j = 17 ∨ j = 18 ∨ j = 19 ∨ j = 20 ∨ j = 21 ∨ j = 22 ∨ j = 23 ∨ j = 24 ∨ j = 25 ∨ j = 26 ∨ j = 27 ∨ j = 28 ∨ j = 29 ∨ j = 30 ∨ j = 31 ∨ j = 32 ∨ j = 33 ∨ j = 34 ∨ j = 35 ∨ j = 36 ∨ j = 37 ∨ j = 38 ∨ j = 39 by omega) with rfl | rfl | rfl | rfl | rfl | rfl | rfl | rfl | rfl | rfl | rfl | rfl | rfl | rfl | rfl | rfl | rfl | rfl | rfl | rfl | rfl | rfl | rfl | rfl | rfl | rfl | rfl | rfl | rfl | rfl | rfl | rfl | rfl | rfl | rfl | rfl | rfl | rfl | rfl | rfl <;> rfl) (Nat.le_of_ble_eq_true rfl) (Nat.le_of_ble_eq_true rfl) dL_law_8 (fun H2 hG2 => ?_)
  refine lv_dup hx hb dL_law_11 rfl ?_
  refine zg_ctor (fr := 1) (lo := 12) (mc := 18) (ms := 14071) (w' := zwM w2) (post := fun M1 => M1 = zW0) (w := w2) (k := 0) (na := 0) (As := []) (rest := [.ref (w2.2.2.2.1 + 0)]) X2 K2 hml hl hG2 (by omega) (by omega) zu_1016 zu_1017 zu_12 zu_1018 rfl (by decide +kernel) (i_Model (w := zwn w2 (zsk sh0 0 (.inr (11, [.null, .int 0, .int 0, .int 0, .int 0, .int 0, .int 0, .int 0, .int 0, .null, .null, .null, .null, .int 0, .int 0, .int 0, .null, .null, .int 0, .int 0, .null, .null, .null, .null, .int 0, .null, .null, .null, .int 0, .int 0, .int 0, .int 0, .int 0, .int 0, .int 0, .null, .null, .null, .null, .int 0]))) 1) (M := zM0) rfl rfl) rfl rfl ⟨Nat.le_of_ble_eq_true rfl, Nat.le_of_ble_eq_true rfl⟩ ⟨Nat.le_of_ble_eq_true rfl, Nat.le_of_ble_eq_true rfl⟩ rfl (Nat.le_of_ble_eq_true rfl) dL_law_12 (fun W' H2 locs hW hG2 => ?_) hF2
  subst hW
  refine lv_astore_n (lv' := [(2, .ref (w2.2.2.2.1 + 0)), (1, .ref (w1.2.2.2.1 + 0)), (0, .ref b)]) hx hb dL_law_15 rfl hl (Nat.le_of_ble_eq_true rfl) rfl (fun ls hl => ?_)
  refine lv_iconst (v := 0) hx hb dL_law_16 (by decide) ?_
  refine lv_istore_n (lv' := [(3, .int 0), (2, .ref (w2.2.2.2.1 + 0)), (1, .ref (w1.2.2.2.1 + 0)), (0, .ref b)]) hx hb dL_law_17 rfl hl (Nat.le_of_ble_eq_true rfl) rfl (fun ls hl => ?_)
  have hS2 : va_S (fun q => w2.2.2.2.1 ≤ q) H H2 locs := hG2.2
  refine law_loop (w1 := zwC w1) (w2 := zwM w2) I hLN C0 X1 X2 (zi_main w1) (zi_model w2) ⟨b1, ?_⟩ hI (L + 1) 0 M zW0 H2 locs ls (by omega) (by omega) hI0 ⟨?_, hG2.1, ?_, ?_, ?_⟩ (lv_sub hl [3, 2, 1, 0] rfl)
  · show w1.2.2.2.1 + 89 ≤ w2.2.2.2.1
    omega
  · refine zP.kept hG.1 (fun k hk => ?_)
    have h1 := zP.at hG.1 hk
    refine hS2.2.1 _ h1 ?_
    intro z
    have z' : w2.2.2.2.1 ≤ _ := z
    exact absurd h1 (by rw [b2] at z'; exact Nat.not_lt.mpr z')
  · exact Nat.le_trans hS1.1 hS2.1
  · intro q hq hn
    rw [hS2.2.1 q (by omega) (fun z => by have z' : w2.2.2.2.1 ≤ q := z; omega)]
    exact hS1.2.1 q hq (fun z => hn (by have z' : w1.2.2.2.1 ≤ q := z; show s.heap.size ≤ q; omega))
  · intro q hq
    have h : w2.2.2.2.1 ≤ q.base := hS2.2.2 q hq
    show s.heap.size ≤ q.base
    omega
theorem xt_tf26 {k p : Nat} {K Q : zMem → Prop} {M : zMem} (hp : p < 8) (hK : ∀ M', (∀ s, s < 3 → M' (k + 2) (s * 8 + p) = 2) → (∀ j, (∀ s, s < 3 → j ≠ s * 8 + p) → M' (k + 2) j = M (k + 2) j) → (∀ d, d ≠ k + 2 → M' d = M d) → K M') : ∃ n, zlp1 (wpB_Told_tellAsAtFirst_26 k (nI p) K Q) n 0 M := by
  refine zlp1_r (fun m x M' => ∃ j, x = nI j ∧ j ≤ 3 ∧ m = 3 - j ∧ (∀ s, s < j → M' (k + 2) (s * 8 + p) = 2) ∧ (∀ i, (∀ s, s < 3 → i ≠ s * 8 + p) → M' (k + 2) i = M (k + 2) i) ∧ (∀ d, d ≠ k + 2 → M' d = M d)) ?_ (n := 3) ⟨0, rfl, by omega, rfl, fun s h => absurd h (by omega), fun _ _ => rfl, fun _ _ => rfl⟩
  rintro m x M' ⟨j, rfl, hj, rfl, i1, i2, i3⟩ J hJ
  unfold wpB_Told_tellAsAtFirst_26
  refine ⟨fun c => ?_, fun c => ?_⟩
  · have := (nI_leI (a := 3) (by omega) (by omega)).mp c
    have e : j = 3 := by omega
    subst e
    exact hK M' i1 i2 i3
  · have hj2 : j < 3 := (nI_ltI (b := 3) (by omega) (by omega)).mp (Int32.not_le.mp c)
    have e8 : nI j * 8 + nI p = nI (j * 8 + p) := by rw [show (8 : Int32) = nI 8 from rfl, q_mul, q_add]
    rw [e8, q_ix (by omega)]
    refine ⟨vp_in_nI (by omega) (by omega), fun M2 e2 y ey => ?_⟩
    rw [ey, nI_1]
    refine hJ (3 - (j + 1)) _ _ (by omega) ⟨j + 1, rfl, by omega, rfl, fun s hs => ?_, fun i hi => ?_, fun d hd => by rw [e2, zup_ne hd]; exact i3 d hd⟩
    · rw [e2, zup_eq]
      by_cases z : s = j
      · rw [z, upd_eq]
      · rw [upd_ne (by omega)]; exact i1 s (by omega)
    · rw [e2, zup_eq, upd_ne (hi j hj2)]; exact i2 i hi
theorem xt_tf51 {k p H : Nat} {K Q : zMem → Prop} {M : zMem} (hp : p < 8) (hH : M k 1 = nI H) (H5 : H ≤ 3) (hK : ∀ M', (∀ s, s < H → M' (k + 3) (s * 8 + p) = nI (3 - s)) → (∀ j, (∀ s, s < H → j ≠ s * 8 + p) → M' (k + 3) j = M (k + 3) j) → (∀ d, d ≠ k + 3 → M' d = M d) → K M') : ∃ n, zlp1 (wpB_Told_tellAsAtFirst_51 k (nI p) K Q) n 0 M := by
  refine zlp1_r (fun m x M' => ∃ j, x = nI j ∧ j ≤ H ∧ m = H - j ∧ (∀ s, s < j → M' (k + 3) (s * 8 + p) = nI (3 - s)) ∧ (∀ i, (∀ s, s < H → i ≠ s * 8 + p) → M' (k + 3) i = M (k + 3) i) ∧ (∀ d, d ≠ k + 3 → M' d = M d)) ?_ (n := H) ⟨0, rfl, by omega, rfl, fun s h => absurd h (by omega), fun _ _ => rfl, fun _ _ => rfl⟩
  rintro m x M' ⟨j, rfl, hj, rfl, i1, i2, i3⟩ J hJ
  unfold wpB_Told_tellAsAtFirst_51
  rw [i3 k (by omega), hH]
  refine ⟨fun c => ?_, fun c => ?_⟩
  · have := (nI_leI (by omega) (by omega)).mp c
    have e : j = H := by omega
    subst e
    exact hK M' i1 i2 i3
  · have hj2 : j < H := (nI_ltI (by omega) (by omega)).mp (Int32.not_le.mp c)
    have e8 : nI j * 8 + nI p = nI (j * 8 + p) := by rw [show (8 : Int32) = nI 8 from rfl, q_mul, q_add]
    have e3 : (3 : Int32) - nI j = nI (3 - j) := by rw [show (3 : Int32) = nI 3 from rfl, q_sub (by omega)]
    rw [e8, q_ix (by omega), e3]
    refine ⟨vp_in_nI (by omega) (by omega), fun M2 e2 y ey => ?_⟩
    rw [ey, nI_1]
    refine hJ (H - (j + 1)) _ _ (by omega) ⟨j + 1, rfl, by omega, rfl, fun s hs => ?_, fun i hi => ?_, fun d hd => by rw [e2, zup_ne hd]; exact i3 d hd⟩
    · rw [e2, zup_eq]
      by_cases z : s = j
      · rw [z, upd_eq]
      · rw [upd_ne (by omega)]; exact i1 s (by omega)
    · rw [e2, zup_eq, upd_ne (hi j hj2)]; exact i2 i hi
/-- the rule as at first -/
def tf (k : Nat) (M M' : zMem) : Prop :=
  M' k 0 = 3 ∧ M' k 1 = 3 ∧ M' k 2 = 0 ∧ M' k 3 = 0 ∧ M' k 4 = 0 ∧ M' k 5 = 0 ∧ M' k 6 = 1 ∧ M' (k + 1) 0 = 0 ∧ (∀ s p, s < 3 → p < 3 → M' (k + 2) (s * 8 + p) = 2) ∧ (∀ h p, h < 3 → p < 3 → M' (k + 3) (h * 8 + p) = nI (3 - h)) ∧ (∀ h, h < 3 → M' (k + 4) h = 3) ∧ (∀ d, (d < k ∨ k + 5 ≤ d) → M' d = M d)
theorem xt_tell {k : Nat} {M : zMem} {Q : zMem → Prop} (hQ : ∀ M', tf k M M' → Q M') : wp_Told_tellAsAtFirst k M Q := by
  unfold wp_Told_tellAsAtFirst wp_Told_clear
  intro z1 e1 z2 e2 z3 e3 z4 e4 z5 e5 z6 e6 z7 e7
  refine ⟨vp_in_nI (n := 0) (by omega) (by omega), fun z8 e8 z9 e9 za ea => ?_⟩
  have hk : za k 0 = 3 ∧ za k 1 = 3 ∧ za k 2 = 0 ∧ za k 3 = 0 ∧ za k 4 = 0 ∧ za k 5 = 0 ∧ za k 6 = 1 := by
    have e8' : z8 k = z7 k := by rw [e8, zup_ne (by omega)]
    refine ⟨?_, ?_, ?_, ?_, ?_, ?_, ?_⟩ <;> (rw [ea, zup_eq]; simp [upd, e9, e8', e7, e6, e5, e4, e3, e2, e1, zup_eq])
  have hk1 : za (k + 1) 0 = 0 := by
    rw [ea, zup_ne (by omega), e9, zup_ne (by omega), e8, zup_eq]
    exact upd_eq
  have hd : ∀ d, (d < k ∨ k + 5 ≤ d) → za d = M d := fun d h => by
    rw [ea, zup_ne (by omega), e9, zup_ne (by omega), e8, zup_ne (by omega), e7, zup_ne (by omega), e6, zup_ne (by omega), e5, zup_ne (by omega), e4, zup_ne (by omega), e3, zup_ne (by omega), e2, zup_ne (by omega), e1, zup_ne (by omega)]
  refine zlp1_r (fun m x M' => ∃ j, x = nI j ∧ j ≤ 3 ∧ m = 3 - j ∧ M' k = za k ∧ M' (k + 1) = za (k + 1) ∧ (∀ s p, s < 3 → p < j → M' (k + 2) (s * 8 + p) = 2) ∧ (∀ h p, h < 3 → p < j → M' (k + 3) (h * 8 + p) = nI (3 - h)) ∧ (∀ d, (d < k ∨ k + 5 ≤ d) → M' d = M d)) ?_ (n := 3) ⟨0, rfl, by omega, rfl, rfl, rfl, fun s p _ h => absurd h (by omega), fun s p _ h => absurd h (by omega), hd⟩
  rintro m x M' ⟨j, rfl, hj, rfl, i1, i2, i3, i4, i5⟩ J hJ
  unfold wpB_Told_tellAsAtFirst_16
  rw [i1, hk.1]
  refine ⟨fun c => ?_, fun c => ?_⟩
  · have := (nI_leI (a := 3) (by omega) (by omega)).mp c
    have e : j = 3 := by omega
    subst e
    refine xt_fillEnds (n := 3) (H := 3) (by rw [i1]; exact hk.1) (by rw [i1]; exact hk.2.1) (by omega) (fun M2 a1 a2 a3 => ?_)
    obtain ⟨h0, h1, h2, h3, h4, h5, h6⟩ := hk
    have e0 : M2 k = za k := by rw [a3 k (by omega), i1]
    refine hQ M2 ⟨by rw [e0]; exact h0, by rw [e0]; exact h1, by rw [e0]; exact h2, by rw [e0]; exact h3, by rw [e0]; exact h4, by rw [e0]; exact h5, by rw [e0]; exact h6, by rw [a3 (k + 1) (by omega), i2]; exact hk1, fun s p hs hp => by rw [a3 (k + 2) (by omega)]; exact i3 s p hs hp, fun s p hs hp => by rw [a3 (k + 3) (by omega)]; exact i4 s p hs hp, fun h hh => by rw [a1 h hh, if_pos (Or.inl (by rw [i1]; exact h4))]; rfl, fun d hd => by rw [a3 d (by omega)]; exact i5 d hd⟩
  · have hj2 : j < 3 := (nI_ltI (b := 3) (by omega) (by omega)).mp (Int32.not_le.mp c)
    refine xt_tf26 (by omega) (fun M2 a1 a2 a3 => ?_)
    refine xt_tf51 (H := 3) (by omega) (by rw [a3 k (by omega), i1]; exact hk.2.1) (by omega) (fun M3 b1 b2 b3 => ?_)
    intro y ey
    rw [ey, nI_1]
    refine hJ (3 - (j + 1)) _ _ (by omega) ⟨j + 1, rfl, by omega, rfl, by rw [b3 k (by omega), a3 k (by omega), i1], by rw [b3 (k + 1) (by omega), a3 (k + 1) (by omega), i2], fun s p hs hp => ?_, fun s p hs hp => ?_, fun d hd => by rw [b3 d (by omega), a3 d (by omega)]; exact i5 d hd⟩
    · rw [b3 (k + 2) (by omega)]
      by_cases z : p = j
      · rw [z]; exact a1 s hs
      · rw [a2 _ (fun s' hs' => by omega)]; exact i3 s p hs (by omega)
    · by_cases z : p = j
      · rw [z]; exact b1 s hs
      · rw [b2 _ (fun s' hs' => by omega), a3 (k + 3) (by omega)]; exact i4 s p hs (by omega)
/-- the state in which the law meets its first call -/
def fsh (M W : zMem) : Prop := W = zW0 ∧ sp_vt M 1 3 3 1 ∧ rt0 W M 3 3 1 ∧ (∀ c, (c = 0 ∨ 6 ≤ c ∧ c < 18 ∨ 27 ≤ c) → M c = zM0 c) ∧ M 1 2 = 0 ∧ M 1 3 = 0 ∧ M 1 4 = 0 ∧ M 1 5 = 0 ∧ (∃ M0 Mc, sp_clear 18 M0 Mc ∧ sp_ok Mc 1 18 3 3 1 ∧ M = sp_all 1 18 3 Mc)
theorem tf_vt {M M' : zMem} (h : tf 1 M M') : sp_vt M' 1 3 3 1 := by
  obtain ⟨h0, h1, h2, h3, h4, h5, h6, h7, hu, hc, he, -⟩ := h
  refine ⟨by omega, h0, h1, h6, ⟨0, by omega, h2⟩, ⟨0, by omega, h3⟩, ⟨0, by omega, h4⟩, ⟨0, by omega, h5⟩, fun i hi => ⟨0, by omega, by rw [show i = 0 by omega]; exact h7⟩, fun s p hs hp => ⟨2, by omega, hu s p hs hp⟩, fun s hs => ?_, fun h p hh hp => ⟨3 - h, by omega, by omega, hc h p hh hp⟩, fun h hh => ⟨3, by omega, he h hh⟩, he 2 (by omega), fun _ h hh => he h hh⟩
  have := hu s 0 hs (by omega)
  have e : M' 3 (s * 8) = 2 := this
  unfold sp_pf
  simp [e]
theorem tf_rt {M M' : zMem} (h : tf 1 M M') : rt0 zW0 M' 3 3 1 := by
  obtain ⟨h0, h1, h2, h3, h4, h5, h6, h7, hu, hc, he, -⟩ := h
  refine ⟨rfl, rfl, by rw [h2]; rfl, by rw [h3]; rfl, by rw [h4]; rfl, by rw [h5]; rfl, rfl, fun i hi => by rw [show i = 0 by omega, h7]; rfl, fun s p hs hp => ?_, fun h p hh hp => ?_, fun h hh => ?_⟩
  · rw [hu s p hs hp]
    rcases (show s = 0 ∨ s = 1 ∨ s = 2 by omega) with rfl | rfl | rfl <;> rcases (show p = 0 ∨ p = 1 ∨ p = 2 by omega) with rfl | rfl | rfl <;> rfl
  · rw [hc h p hh hp]
    rcases (show h = 0 ∨ h = 1 ∨ h = 2 by omega) with rfl | rfl | rfl <;> rcases (show p = 0 ∨ p = 1 ∨ p = 2 by omega) with rfl | rfl | rfl <;> rfl
  · rw [he h hh, if_pos (Or.inr h4)]; rfl
/-- the bench and its page -/
def pr (W M : zMem) (n H : Nat) : Prop := mr_s W M 0 18 ∧ (∀ h, h < H → mr_h W M 0 18 h) ∧ (∀ h p, h < H → p < n → W 6 (48 + 8 * h + p) = M 25 (h * 8 + p)) ∧ (∀ h p, h < H → n ≤ p → p < 8 → W 6 (48 + 8 * h + p) = 0) ∧ W 6 3 = 0 ∧ (∀ h, H ≤ h → h < 5 → W 6 (8 + 8 * h + 2) = 0)
/-- awake, or asleep with an empty page -/
def pst (W M : zMem) (n H L : Nat) : Prop := (W 0 24 = 1 ∧ pr W M n H) ∨ (W 0 24 = 0 ∧ (∀ j, j < 96 → W 6 j = 0) ∧ ∃ M0 Mc, sp_clear 18 M0 Mc ∧ sp_ok Mc 1 18 n H L ∧ M = sp_all 1 18 H Mc)
/-- what waking changes -/
def awf (W W' : zMem) : Prop := (∀ k, k ≠ 0 → k ≠ 6 → k ≠ 8 → k ≠ 9 → W' k = W k) ∧ (∀ j, j ≠ 18 → j ≠ 19 → j ≠ 24 → W' 0 j = W 0 j) ∧ (∀ j, 96 ≤ j → W' 6 j = W 6 j)
theorem awf.rf {W : zMem} : awf W W := ⟨fun _ _ _ _ _ => rfl, fun _ _ _ _ => rfl, fun _ _ => rfl⟩
theorem awf.tr {W W1 W2 : zMem} (a : awf W W1) (b : awf W1 W2) : awf W W2 := ⟨fun k q0 q6 q8 q9 => (b.1 k q0 q6 q8 q9).trans (a.1 k q0 q6 q8 q9), fun j x y z => (b.2.1 j x y z).trans (a.2.1 j x y z), fun j h => (b.2.2 j h).trans (a.2.2 j h)⟩
theorem mnum.a {W W' M : zMem} {H : Nat} (h : mnum W W' M H) : awf W W' := ⟨fun k a _ c d => h.2.2.2.2 k a c d, fun j a b _ => h.2.2.2.1 j a b, fun j _ => by rw [h.2.2.2.2 6 (by omega) (by omega) (by omega)]⟩
theorem mfr.a {W W' : zMem} (h : mfr 0 W W') : awf W W' := ⟨fun k _ b _ _ => by
  by_cases z : k = 10
  · rw [z]; exact h.2.2.1 (by omega)
  · exact h.1 k b z, fun j _ _ _ => by rw [h.1 0 (by omega) (by omega)], fun j hj => h.2.1 j (by omega)⟩
theorem mr.pr {W M : zMem} {n H L : Nat} (r : mr W M 0 1 18 n H L (fun h => h)) (z3 : W 6 3 = 0) (zu : ∀ h, H ≤ h → h < 5 → W 6 (8 + 8 * h + 2) = 0) : pr W M n H :=
  ⟨r.2.2.2.2.1, r.2.2.2.1, fun h p hh hp => by have e := r.2.2.1.2.2.2.1 h p hh hp; rw [show 96 * 0 + 48 + 8 * h + p = 48 + 8 * h + p by omega] at e; exact e, fun h p hh hp h8 => by have e := r.2.2.1.2.2.2.2 h p hh hp h8; rw [show 96 * 0 + 48 + 8 * h + p = 48 + 8 * h + p by omega] at e; exact e, z3, zu⟩
theorem pr.mr {W M : zMem} {n H L : Nat} (h : pr W M n H) (H5 : H ≤ 5) (r : rt0 W M n H L) (h18 : W 0 18 = nI H) (h19 : W 0 19 = M 1 4) (h89 : ∀ h, h < H → W 8 h = nI h ∧ W 9 h = M 5 h) : mr W M 0 1 18 n H L (fun h => h) := by
  obtain ⟨a1, a2, a3, a4, a5, a6⟩ := h
  refine ⟨by omega, mr_t_of (M' := M) r h18 h19 (fun h hh => (h89 h hh).2), ⟨fun h hh => ⟨by show h < 5; omega, (h89 h hh).1⟩, fun _ _ _ _ e => e, fun h p hh hp => r.2.2.2.2.2.2.2.2.2.1 h p hh hp, fun h p hh hp => ?_, fun h p hh hp h8 => ?_⟩, a2, a1, fun h => absurd h (by omega)⟩
  · rw [show 96 * 0 + 48 + 8 * h + p = 48 + 8 * h + p by omega]; exact a3 h p hh hp
  · rw [show 96 * 0 + 48 + 8 * h + p = 48 + 8 * h + p by omega]; exact a4 h p hh hp h8
theorem pr.moved {W W' M : zMem} {n H : Nat} (h : pr W M n H) (H5 : H ≤ 5) (n8 : n ≤ 8) (e : ∀ j, j < 96 → W' 6 j = W 6 j) : pr W' M n H := by
  obtain ⟨⟨s1, s2, s3, s4⟩, a2, a3, a4, a5, a6⟩ := h
  refine ⟨⟨by rw [e _ (by omega)]; exact s1, by rw [e _ (by omega)]; exact s2, by rw [e _ (by omega)]; exact s3, by rw [e _ (by omega)]; exact s4⟩, fun h hh => (a2 h hh).moved (fun i hi => e _ (by omega)) (fun _ _ _ => rfl), fun h p hh hp => by rw [e _ (by omega)]; exact a3 h p hh hp, fun h p hh hp h8 => by rw [e _ (by omega)]; exact a4 h p hh hp h8, by rw [e _ (by omega)]; exact a5, fun h h1 h2 => by rw [e _ (by omega)]; exact a6 h h1 h2⟩
/-- the reference wakes -/
theorem mt_awake {n H L : Nat} {M W : zMem} {Q : zMem → Prop} (vt : sp_vt M 1 n H L) (r : rt0 W M n H L) (st : pst W M n H L) (hQ : ∀ W', W' 0 24 = 1 → pr W' M n H → awf W W' → Q W') : wp_Model_awake W Q := by
  have H5 : H ≤ 5 := vt.1.2.2.2.1
  have n8 : n ≤ 8 := vt.1.2.1
  unfold wp_Model_awake
  rcases st with ⟨h24, hp⟩ | ⟨h24, hz, M0, Mc, hc, ok, eM⟩
  · rw [h24]
    exact ⟨fun _ => hQ W h24 hp awf.rf, fun c => absurd c (by decide)⟩
  · rw [h24]
    refine ⟨fun c => absurd rfl c, fun _ => ?_⟩
    have fr := (sp_all_ok ok).2.1
    have et : ∀ i, i ≤ 4 → Mc (1 + i) = M (1 + i) := fun i hi => by rw [eM]; exact (fr.1 (1 + i) (by omega) (fun q => absurd q (by omega))).symm
    have vtc := ok.2.2.2.1
    have rc : rt0 W Mc n H L := r.moved rfl et
    refine mt_asNumbered vtc rc (fun W1 m1 => ?_)
    have r1 : rt0 W1 Mc n H L := rc.moved (m1.2.2.2.2 4 (by omega) (by omega) (by omega)) (fun _ _ => rfl)
    have x6 : W1 6 = W 6 := m1.2.2.2.2 6 (by omega) (by omega) (by omega)
    have mr1 : mr W1 Mc 0 1 18 n H L (fun h => h) := mr_clear (by omega) (fun j hj => by rw [x6, show 96 * 0 + j = j by omega]; exact hz j hj) hc n8 H5 (mr_t_of (M' := Mc) r1 m1.1 m1.2.1 (fun h hh => (m1.2.2.1 h hh).2)) (fun h hh => ⟨by show h < 5; omega, (m1.2.2.1 h hh).1⟩) (fun _ _ _ _ e => e) (fun h p hh hp => r1.2.2.2.2.2.2.2.2.2.1 h p hh hp) (fun h => absurd h (by omega))
    show wp_Model_settle (nI 0) W1 _
    refine mt_settle (C := 40) (by omega) ok mr1 (fun h => absurd h (by omega)) (fun W2 mr2 f2 _ z2 => ?_)
    intro W3 e3
    have y6 : W3 6 = W2 6 := by rw [e3, zup_ne (by omega)]
    have p2 : pr W2 M n H := by
      rw [eM]
      refine mr2.pr z2 (fun h h1 h2 => ?_)
      have := f2.2.2.2 H h m1.1 h1 h2
      rw [show 96 * 0 + 8 + 8 * h + 2 = 8 + 8 * h + 2 by omega] at this
      rw [this, x6]
      exact hz _ (by omega)
    refine hQ W3 (by rw [e3, zup_eq, upd_eq]) (p2.moved H5 n8 (fun j _ => by rw [y6])) (m1.a.tr (f2.a.tr ⟨fun k q0 _ _ _ => by rw [e3, zup_ne q0], fun j _ _ q => by rw [e3, zup_eq, upd_ne q], fun j _ => by rw [y6]⟩))
/-- where no hand is at its unit's end, nothing gets done -/
theorem sp_all_nf {t b n H L : Nat} {M : zMem} (ok : sp_ok M t b n H L) (st : sp_st M b H) : sp_all t b H M b 3 = M b 3 := by
  have step : ∀ h (X X' : zMem), sp_ok X t b n H L → h < H → sp_st X b H → sp_hand t b h X = some X' → sp_st X' b H ∧ X' b 3 = X b 3 := by
    intro h X X' okx hh stx e
    have okx' := (sp_step okx hh e).1
    have hb18 := okx.2.2.1
    unfold sp_hand at e
    split at e
    · rename_i hl
      split at e
      · rename_i h3
        have := stx h hh h3
        rw [hl] at this
        exact absurd this (by decide)
      · split at e
        · split at e
          · cases e
            refine ⟨fun j hj j3 => ?_, by unfold sp_new; simp (disch := omega) only [zup_ne, zup_eq, upd_ne]⟩
            unfold sp_new at j3 ⊢
            by_cases c : j = 0
            · subst c
              simp (disch := omega) only [zup_ne, zup_eq, upd_eq] at j3
              exact absurd j3 (by decide)
            · simp (disch := omega) only [zup_ne, zup_eq, upd_ne] at j3 ⊢
              exact stx j hj j3
          · split at e
            · rename_i h0 hc
              cases e
              have key : ∃ (X6 : zMem) (f : Int32), sp_take t b h X = sp_goBack t b (h - 1) f X6 ∧ X6 b 3 = X b 3 ∧ X6 (b + 1) h = 2 ∧ (∀ j, X6 (b + 2) j = X (b + 2) j) ∧ (∀ j, j ≠ h → X6 (b + 1) j = X (b + 1) j) := by
                unfold sp_take
                rcases zlg_cases b with c | ⟨c, hb32⟩
                · rw [c]
                  refine ⟨_, _, rfl, ?_, ?_, fun j => ?_, fun j hj => ?_⟩ <;> simp (disch := omega) only [zup_ne, zup_eq, upd_eq, upd_ne]
                · rw [c]
                  refine ⟨_, _, rfl, ?_, ?_, fun j => ?_, fun j hj => ?_⟩ <;> rw [e_note_ne (by omega) (by omega)] <;> simp (disch := omega) only [zup_ne, zup_eq, upd_eq, upd_ne]
              obtain ⟨X6, f, x1, x2, x3, x4, x5⟩ := key
              rw [x1]
              refine ⟨fun j hj j3 => ?_, by rw [← x2]; unfold sp_goBack; simp (disch := omega) only [zup_ne]⟩
              by_cases c : j = h - 1
              · subst c
                unfold sp_goBack at j3
                simp (disch := omega) only [zup_eq, upd_eq] at j3
                split at j3 <;> exact absurd j3 (by decide)
              · rw [sp_goBack_at (Or.inr (Or.inr c))] at j3 ⊢
                by_cases c2 : j = h
                · subst c2
                  rw [x3] at j3
                  exact absurd j3 (by decide)
                · rw [x5 j c2] at j3
                  rw [x4]
                  exact stx j hj j3
            · cases e
        · split at e
          · split at e
            · cases e
              refine ⟨fun j hj j3 => ?_, by unfold sp_start; simp (disch := omega) only [zup_ne, zup_eq, upd_ne]⟩
              by_cases c : j = h
              · subst c
                unfold sp_start
                simp (disch := omega) only [zup_eq, upd_eq]
                exact sp_ticks_pos _ _ _ _ _
              · rw [sp_start_ne c] at j3 ⊢
                exact stx j hj j3
            · cases e
          · cases e
    · cases e
  have rd : ∀ h (s : Bool) (X : zMem), h ≤ H → sp_ok X t b n H L → sp_st X b H → sp_st (sp_rd t b h s X).2 b H ∧ (sp_rd t b h s X).2 b 3 = X b 3 := by
    intro h
    induction h with
    | zero => intro s X _ _ stx; exact ⟨stx, rfl⟩
    | succ h ih =>
      intro s X hh okx stx
      unfold sp_rd
      cases e : sp_hand t b h X with
      | none => exact ih s X (by omega) okx stx
      | some X' =>
        obtain ⟨y1, y2⟩ := step h X X' okx (by omega) stx e
        obtain ⟨z1, z2⟩ := ih true X' (by omega) (sp_step okx (by omega) e).1 y1
        exact ⟨z1, z2.trans y2⟩
  have rds : ∀ f (X : zMem), sp_ok X t b n H L → sp_st X b H → sp_rounds t b H f X b 3 = X b 3 := by
    intro f
    induction f with
    | zero => intro X _ _; rfl
    | succ f ih =>
      intro X okx stx
      obtain ⟨y1, y2⟩ := rd H false X (Nat.le_refl _) okx stx
      unfold sp_rounds
      split
      · rw [ih _ (sp_rd_ok H false X (Nat.le_refl _) okx).1 y1, y2]
      · exact y2
  exact rds _ M ok st
theorem sp_clear.st {b H : Nat} {M0 M : zMem} (hc : sp_clear b M0 M) (H5 : H ≤ 5) : sp_st M b H := fun h hh h3 => by
  rw [(hc.2.2.2.2.2.2.1 h (by omega)).1] at h3
  exact absurd h3 (by decide)
/-- done, learnt, and the page, awake or asleep -/
theorem pst.done {W M : zMem} {n H L : Nat} (st : pst W M n H L) : W 6 1 = M 18 3 := by
  rcases st with ⟨-, hp⟩ | ⟨-, hz, M0, Mc, hc, ok, eM⟩
  · exact hp.1.2.1
  · rw [eM, sp_all_nf ok (hc.st ok.2.2.2.1.1.2.2.2.1), hc.2.1]; exact hz 1 (by omega)
theorem pst.learnt {W M : zMem} {n H L h p : Nat} (st : pst W M n H L) (hh : h < H) (hp : p < n) (H5 : H ≤ 5) (n8 : n ≤ 8) : W 6 (48 + 8 * h + p) = M 25 (h * 8 + p) := by
  rcases st with ⟨-, pp⟩ | ⟨-, hz, M0, Mc, hc, ok, eM⟩
  · exact pp.2.2.1 h p hh hp
  · rw [eM, show sp_all 1 18 H Mc 25 = Mc 25 from (sp_ri_0 hc ok).2.2, hz _ (by omega)]
    exact (hc.2.2.2.2.2.2.2.1 _ (by omega)).symm
theorem p_fault {M W : zMem} {P : zMem → zMem → Prop} (e : M 11 1 = W 0 2) (hP : P M W) : wp_Main_fault M (fun x M' => wp_Model_fault W (fun y W' => x = y ∧ P M' W')) := ⟨e, hP⟩
theorem p_torn {M W : zMem} {P : zMem → zMem → Prop} (e : M 0 13 = W 0 39) (hP : P M W) : wp_Main_torn M (fun x M' => wp_Model_torn W (fun y W' => x = y ∧ P M' W')) := ⟨e, hP⟩
theorem p_end {a : Int32} {M W : zMem} {P : zMem → zMem → Prop} {z : Nat} (e : M 11 5 = nI z) (e2 : W 0 1 = nI z) (hz : z ≤ 400) (hP : P M W) (hP2 : ∀ j, j ≤ z → a = nI j → P (zup M 11 5 (nI j)) (zup W 0 1 (nI j))) : wp_Main_end a M (fun x M' => wp_Model_end a W (fun y W' => x = y ∧ P M' W')) := by
  unfold wp_Main_end wp_Model_end
  rw [e, e2]
  refine ⟨fun c => ?_, fun c => ⟨fun c2 x ex M1 e1 => ?_, fun c2 => ?_⟩⟩
  · exact mt_in (lo' := 0) (hi' := nI z) rfl rfl (fun q _ => absurd c (Int32.not_lt.mpr q)) (fun _ => ⟨fun q => absurd rfl q, fun _ => ⟨rfl, hP⟩⟩)
  · obtain ⟨j, hj, rfl⟩ := nI_of c
    have hj2 := (nI_leI (by omega) (by omega)).mp c2
    refine mt_in (lo' := 0) (hi' := nI z) rfl rfl (fun _ _ => ⟨fun _ y ey W1 f1 => ?_, fun q => absurd q (by decide)⟩) (fun q => absurd ⟨Int32.not_lt.mp c, c2⟩ q)
    rw [e1, f1, ex, ey, e2]
    exact ⟨rfl, hP2 j hj2 rfl⟩
  · exact mt_in (lo' := 0) (hi' := nI z) rfl rfl (fun _ q => absurd q c2) (fun _ => ⟨fun q => absurd rfl q, fun _ => ⟨rfl, hP⟩⟩)
theorem p_units {n H L : Nat} {M W : zMem} {a1 a2 : Int32} {P : zMem → zMem → Prop} (vt : sp_vt M 1 n H L) (r : rt0 W M n H L) (hP : P M W) : wp_Main_units a1 a2 M (fun x M' => wp_Model_units a1 a2 W (fun y W' => x = y ∧ P M' W')) := by
  obtain ⟨⟨n1, n8, H1, H5, L1, L6⟩, hn, hH, -⟩ := id vt
  have no : (¬ ((0 : Int32) ≤ a1 ∧ a1 ≤ 2)) → wp_Model_units a1 a2 W (fun y W' => -1 = y ∧ P M W') := fun q => mt_in (lo' := 0) (hi' := 2) rfl rfl (fun x y => absurd ⟨x, y⟩ q) (fun _ => ⟨fun _ => ⟨rfl, hP⟩, fun q => absurd rfl q⟩)
  unfold wp_Main_units
  refine ⟨fun c => no (fun q => absurd c (Int32.not_lt.mpr q.1)), fun c => ?_⟩
  obtain ⟨s, hs, rfl⟩ := nI_of c
  refine ⟨fun c2 => no (fun q => ?_), fun c2 => ?_⟩
  · have h1 := (nI_leI (a := 3) (by omega) (by omega)).mp c2
    have h2 := (nI_leI (b := 2) (by omega) (by omega)).mp q.2
    omega
  have hs3 : s < 3 := (nI_ltI (b := 3) (by omega) (by omega)).mp (Int32.not_le.mp c2)
  have yes : ∀ (K : Int32 → zMem → Prop), wp_Model_isPiece a2 W (fun zr4 zm3 => (zr4 = 0 → K (-1) zm3) ∧ (¬ zr4 = 0 → vp_in ((30 + (8 * nI s)) + a2) 100 ∧ K (zm3 4 (ix ((30 + (8 * nI s)) + a2))) zm3)) → wp_Model_units (nI s) a2 W K := fun K h => mt_in (lo' := 0) (hi' := 2) rfl rfl (fun _ _ => ⟨fun q => absurd q (by decide), fun _ => h⟩) (fun q => absurd ⟨nI_pos' (by omega), (nI_leI (b := 2) (by omega) (by omega)).mpr (by omega)⟩ q)
  refine xt_isPiece hn (by omega) (fun p hp ep => ⟨fun _ => ?_, fun q => absurd q (by decide)⟩) (fun np => ⟨fun q => absurd rfl q, fun _ => yes _ (mt_isPiece r.1 (by omega) (by omega) (fun p hp ep => absurd ⟨p, hp, ep⟩ np) (fun _ => ⟨fun _ => ⟨rfl, hP⟩, fun q => absurd rfl q⟩))⟩)
  subst ep
  unfold wp_Told_unitsOf
  have e1 : nI s * 8 + nI p = nI (s * 8 + p) := by rw [show (8 : Int32) = nI 8 from rfl, q_mul, q_add]
  have e2 : 30 + 8 * nI s + nI p = nI (30 + 8 * s + p) := by simp (disch := omega) only [q_lit, q_add, q_mul, q_sub, q_ix, q_in, q_lt, q_le, q_eq, q_nlt, q_nle, q_ltn, q_len, q_neq, q_eqn, zup_ne, zup_eq, zset_ne, zset_eq, upd_eq, upd_ne, forall_eq, true_and, and_true, true_implies, false_implies, implies_true, not_true_eq_false, not_false_eq_true, and_self, ↓reduceIte, false_and, and_false]
  rw [e1, q_ix (by omega)]
  refine ⟨vp_in_nI (by omega) (by omega), yes _ ?_⟩
  refine mt_isPiece r.1 (by omega) (by omega) (fun _ _ _ => ⟨fun q => absurd q (by decide), fun _ => ?_⟩) (fun q => absurd ⟨p, hp, rfl⟩ q)
  rw [e2, q_ix (by omega), r.2.2.2.2.2.2.2.2.1 s p hs3 hp]
  exact ⟨vp_in_nI (by omega) (by omega), rfl, hP⟩
/-- the reference's way in, for a hand and a piece -/
theorem mt_hp {n H L h p : Nat} {M W : zMem} {Q : Int32 → zMem → Prop} {G : zMem → Prop} (vt : sp_vt M 1 n H L) (r : rt0 W M n H L) (hh : h < H) (hp : p < n) (g : G W) : wp_Model_isHand (nI h) W (fun zr2 zm1 => (zr2 = 0 → Q ((-1)) zm1) ∧ (¬ zr2 = 0 → wp_Model_isPiece (nI p) zm1 (fun zr4 zm3 => (zr4 = 0 → Q ((-1)) zm3) ∧ (¬ zr4 = 0 → G zm3)))) := by
  obtain ⟨⟨n1, n8, H1, H5, L1, L6⟩, hn, hH, -⟩ := id vt
  exact mt_isHand r.2.1 (by omega) (by omega) (fun _ _ _ => ⟨fun q => absurd q (by decide), fun _ => mt_isPiece r.1 (by omega) (by omega) (fun _ _ _ => ⟨fun q => absurd q (by decide), fun _ => g⟩) (fun q => absurd ⟨p, hp, rfl⟩ q)⟩) (fun q => absurd ⟨h, hh, rfl⟩ q)
/-- and what the reference says where there is none -/
theorem mt_nhp {n H L : Nat} {M W : zMem} {a1 a2 : Int32} {Q : Int32 → zMem → Prop} {G : zMem → Prop} (vt : sp_vt M 1 n H L) (r : rt0 W M n H L) (no : ¬ ((∃ h, h < H ∧ a1 = nI h) ∧ ∃ p, p < n ∧ a2 = nI p)) (q0 : Q (-1) W) : wp_Model_isHand a1 W (fun zr2 zm1 => (zr2 = 0 → Q ((-1)) zm1) ∧ (¬ zr2 = 0 → wp_Model_isPiece a2 zm1 (fun zr4 zm3 => (zr4 = 0 → Q ((-1)) zm3) ∧ (¬ zr4 = 0 → G zm3)))) := by
  obtain ⟨⟨n1, n8, H1, H5, L1, L6⟩, hn, hH, -⟩ := id vt
  exact mt_isHand r.2.1 (by omega) (by omega) (fun h hh eh => ⟨fun q => absurd q (by decide), fun _ => mt_isPiece r.1 (by omega) (by omega) (fun p hp ep => absurd ⟨⟨h, hh, eh⟩, p, hp, ep⟩ no) (fun _ => ⟨fun _ => q0, fun q => absurd rfl q⟩)⟩) (fun _ => ⟨fun _ => q0, fun q => absurd rfl q⟩)
theorem p_pace {n H L : Nat} {M W : zMem} {a1 a2 : Int32} {P : zMem → zMem → Prop} (vt : sp_vt M 1 n H L) (r : rt0 W M n H L) (hP : P M W) : wp_Main_pace a1 a2 M (fun x M' => wp_Model_pace a1 a2 W (fun y W' => x = y ∧ P M' W')) := by
  obtain ⟨⟨n1, n8, H1, H5, L1, L6⟩, hn, hH, -⟩ := id vt
  have no : ¬ ((∃ h, h < H ∧ a1 = nI h) ∧ ∃ p, p < n ∧ a2 = nI p) → wp_Model_pace a1 a2 W (fun y W' => -1 = y ∧ P M W') := fun q => by
    unfold wp_Model_pace
    exact mt_nhp (Q := fun y W' => -1 = y ∧ P M W') vt r q ⟨rfl, hP⟩
  refine xt_isHand hH (by omega) (fun h hh eh => ⟨fun q => absurd q (by decide), fun _ => ?_⟩) (fun nh => ⟨fun _ => no (fun q => nh q.1), fun q => absurd rfl q⟩)
  refine xt_isPiece hn (by omega) (fun p hp ep => ⟨fun _ => ?_, fun q => absurd q (by decide)⟩) (fun np => ⟨fun q => absurd rfl q, fun _ => no (fun q => np q.2)⟩)
  subst eh; subst ep
  have e1 : nI h * 8 + nI p = nI (h * 8 + p) := by rw [show (8 : Int32) = nI 8 from rfl, q_mul, q_add]
  have e2 : 60 + 8 * nI h + nI p = nI (60 + 8 * h + p) := by simp (disch := omega) only [q_lit, q_add, q_mul, q_sub, q_ix, q_in, q_lt, q_le, q_eq, q_nlt, q_nle, q_ltn, q_len, q_neq, q_eqn, zup_ne, zup_eq, zset_ne, zset_eq, upd_eq, upd_ne, forall_eq, true_and, and_true, true_implies, false_implies, implies_true, not_true_eq_false, not_false_eq_true, and_self, ↓reduceIte, false_and, and_false]
  unfold wp_Told_paceOf
  rw [e1, q_ix (by omega)]
  refine ⟨vp_in_nI (by omega) (by omega), ?_⟩
  show wp_Model_pace (nI h) (nI p) W (fun y W' => M 4 (h * 8 + p) = y ∧ P M W')
  unfold wp_Model_pace
  refine mt_hp (Q := fun y W' => M 4 (h * 8 + p) = y ∧ P M W') vt r hh hp ?_
  rw [e2, q_ix (by omega), r.2.2.2.2.2.2.2.2.2.1 h p hh hp]
  exact ⟨vp_in_nI (by omega) (by omega), rfl, hP⟩
theorem p_learnt {n H L : Nat} {M W : zMem} {a1 a2 : Int32} {P : zMem → zMem → Prop} (vt : sp_vt M 1 n H L) (r : rt0 W M n H L) (st : pst W M n H L) (hP : P M W) : wp_Main_learnt a1 a2 M (fun x M' => wp_Model_learnt a1 a2 W (fun y W' => x = y ∧ P M' W')) := by
  obtain ⟨⟨n1, n8, H1, H5, L1, L6⟩, hn, hH, -⟩ := id vt
  have no : ¬ ((∃ h, h < H ∧ a1 = nI h) ∧ ∃ p, p < n ∧ a2 = nI p) → wp_Model_learnt a1 a2 W (fun y W' => -1 = y ∧ P M W') := fun q => by
    unfold wp_Model_learnt
    exact mt_nhp (Q := fun y W' => -1 = y ∧ P M W') vt r q ⟨rfl, hP⟩
  refine xt_isHand hH (by omega) (fun h hh eh => ⟨fun q => absurd q (by decide), fun _ => ?_⟩) (fun nh => ⟨fun _ => no (fun q => nh q.1), fun q => absurd rfl q⟩)
  refine xt_isPiece hn (by omega) (fun p hp ep => ⟨fun _ => ?_, fun q => absurd q (by decide)⟩) (fun np => ⟨fun q => absurd rfl q, fun _ => no (fun q => np q.2)⟩)
  subst eh; subst ep
  have e1 : nI h * 8 + nI p = nI (h * 8 + p) := by rw [show (8 : Int32) = nI 8 from rfl, q_mul, q_add]
  have e2 : 96 * 0 + 48 + 8 * nI h + nI p = nI (48 + 8 * h + p) := by simp (disch := omega) only [q_lit, q_add, q_mul, q_sub, q_ix, q_in, q_lt, q_le, q_eq, q_nlt, q_nle, q_ltn, q_len, q_neq, q_eqn, zup_ne, zup_eq, zset_ne, zset_eq, upd_eq, upd_ne, forall_eq, true_and, and_true, true_implies, false_implies, implies_true, not_true_eq_false, not_false_eq_true, and_self, ↓reduceIte, false_and, and_false]
  rw [e1, q_ix (by omega)]
  refine ⟨vp_in_nI (by omega) (by omega), ?_⟩
  show wp_Model_learnt (nI h) (nI p) W (fun y W' => M 25 (h * 8 + p) = y ∧ P M W')
  unfold wp_Model_learnt
  refine mt_hp (Q := fun y W' => M 25 (h * 8 + p) = y ∧ P M W') vt r hh hp ?_
  unfold wp_Model_learntAt
  rw [e2]
  show vp_in (nI (48 + 8 * h + p)) 384 ∧ (M 25 (h * 8 + p) = W 6 (ix (nI (48 + 8 * h + p))) ∧ P M W)
  rw [q_ix (by omega), st.learnt hh hp H5 n8]
  exact ⟨vp_in_nI (by omega) (by omega), rfl, hP⟩
theorem p_takes {n H L : Nat} {M W : zMem} {a1 a2 : Int32} {P : zMem → zMem → Prop} (vt : sp_vt M 1 n H L) (r : rt0 W M n H L) (st : pst W M n H L) (hP : P M W) : wp_Main_takes a1 a2 M (fun x M' => wp_Model_takes a1 a2 W (fun y W' => x = y ∧ P M' W')) := by
  obtain ⟨⟨n1, n8, H1, H5, L1, L6⟩, hn, hH, -, -, ⟨le, hle, hle2⟩, -⟩ := id vt
  have no : ¬ ((∃ h, h < H ∧ a1 = nI h) ∧ ∃ p, p < n ∧ a2 = nI p) → wp_Model_takes a1 a2 W (fun y W' => -1 = y ∧ P M W') := fun q => by
    unfold wp_Model_takes
    exact mt_nhp (Q := fun y W' => -1 = y ∧ P M W') vt r q ⟨rfl, hP⟩
  refine xt_isHand hH (by omega) (fun h hh eh => ⟨fun q => absurd q (by decide), fun _ => ?_⟩) (fun nh => ⟨fun _ => no (fun q => nh q.1), fun q => absurd rfl q⟩)
  refine xt_isPiece hn (by omega) (fun p hp ep => ⟨fun _ => ?_, fun q => absurd q (by decide)⟩) (fun np => ⟨fun q => absurd rfl q, fun _ => no (fun q => np q.2)⟩)
  subst eh; subst ep
  have e1 : nI h * 8 + nI p = nI (h * 8 + p) := by rw [show (8 : Int32) = nI 8 from rfl, q_mul, q_add]
  rw [e1, q_ix (by omega)]
  refine ⟨vp_in_nI (by omega) (by omega), e_ticksOf (by omega) (by omega) ?_⟩
  show wp_Model_takes (nI h) (nI p) W (fun y W' => sp_ticks 1 h p (M 25 (h * 8 + p)) M = y ∧ P M W')
  unfold wp_Model_takes
  refine mt_hp (Q := fun y W' => sp_ticks 1 h p (M 25 (h * 8 + p)) M = y ∧ P M W') vt r hh hp ?_
  show wp_Model_ticksOf (nI 0) (nI h) (nI p) W _
  refine mt_ticks (t := 1) (b := 18) (h := h) (w := h) (by omega) (by omega) (by omega) r.2.2.2.1 hle2 hle (r.2.2.2.2.2.2.2.2.2.1 h p hh hp) ?_ ⟨rfl, hP⟩
  rw [show 96 * 0 + 48 + 8 * h + p = 48 + 8 * h + p by omega]
  exact st.learnt hh hp H5 n8
theorem mw_rule0 {j : Nat} {W : zMem} {Q : Int32 → zMem → Prop} (hj : j ≤ 6) (h : Q (W 4 j) W) : wp_Model_rule (nI j) W Q := by
  refine mt_in (lo' := 0) (hi' := 6) rfl rfl (fun _ _ => ⟨fun q => absurd q (by decide), fun _ => ⟨vp_in_nI (by omega) (by omega), ?_⟩⟩) (fun q => absurd ⟨nI_pos' (by omega), (nI_leI (b := 6) (by omega) (by omega)).mpr hj⟩ q)
  rw [q_ix (by omega)]; exact h
theorem nI_10 {L : Nat} (h : 1 ≤ L) : (10 : Int32) + nI L - 1 = nI (10 + (L - 1)) := by
  rw [show (10 : Int32) = nI 10 from rfl, q_add, q_pred (by omega)]; congr 1; omega
theorem mw_rule1 {j L : Nat} {W : zMem} {Q : Int32 → zMem → Prop} (hL : W 4 6 = nI L) (L6 : L ≤ 6) (hj : j < L) (h : Q (W 4 (10 + j)) W) : wp_Model_rule (nI (10 + j)) W Q := by
  refine mt_in (lo' := 0) (hi' := 6) rfl rfl (fun _ c => ?_) (fun _ => ⟨fun _ => ⟨vp_in_nI (n := 6) (by omega) (by omega), ?_⟩, fun q => absurd rfl q⟩)
  · have := (nI_leI (b := 6) (by omega) (by omega)).mp c
    omega
  · rw [show ix 6 = 6 from rfl, hL, nI_10 (by omega)]
    refine mt_in (lo' := 10) (hi' := nI (10 + (L - 1))) rfl rfl (fun _ _ => ⟨fun q => absurd q (by decide), fun _ => ⟨vp_in_nI (by omega) (by omega), ?_⟩⟩) (fun q => absurd ⟨(nI_leI (a := 10) (by omega) (by omega)).mpr (by omega), (nI_leI (by omega) (by omega)).mpr (by omega)⟩ q)
    rw [q_ix (by omega)]; exact h
theorem mw_rule2 {n H L h : Nat} {M W : zMem} {Q : Int32 → zMem → Prop} (vt : sp_vt M 1 n H L) (r : rt0 W M n H L) (hh : h < H) (hQ : Q (M 5 h) W) : wp_Model_rule (nI (20 + h)) W Q := by
  obtain ⟨⟨n1, n8, H1, H5, L1, L6⟩, hn, hH, -⟩ := id vt
  refine mt_in (lo' := 0) (hi' := 6) rfl rfl (fun _ c => ?_) (fun _ => ⟨fun _ => ⟨vp_in_nI (n := 6) (by omega) (by omega), ?_⟩, fun q => absurd rfl q⟩)
  · have := (nI_leI (b := 6) (by omega) (by omega)).mp c
    omega
  · rw [show ix 6 = 6 from rfl, r.2.2.2.2.2.2.1, nI_10 (by omega)]
    refine mt_in (lo' := 10) (hi' := nI (10 + (L - 1))) rfl rfl (fun _ c => ?_) (fun _ => ⟨fun _ => ⟨fun c => ?_, fun _ => ?_⟩, fun q => absurd rfl q⟩)
    · have := (nI_leI (by omega) (by omega)).mp c
      omega
    · have := (nI_ltI (b := 20) (by omega) (by omega)).mp c
      omega
    · have e : nI (20 + h) - 20 = nI h := by rw [show (20 : Int32) = nI 20 from rfl, q_sub (by omega)]; congr 1; omega
      rw [e]
      exact mt_isHand r.2.1 (by omega) (by omega) (fun _ _ _ => ⟨fun q => absurd q (by decide), fun _ => mt_endOf vt r hh hQ⟩) (fun q => absurd ⟨h, hh, rfl⟩ q)
theorem mw_rule3 {n H L : Nat} {a : Int32} {M W : zMem} {Q : Int32 → zMem → Prop} (vt : sp_vt M 1 n H L) (r : rt0 W M n H L) (h0 : ¬ ∃ j, j ≤ 6 ∧ a = nI j) (h1 : ¬ ∃ j, j < L ∧ a = nI (10 + j)) (h2 : ¬ ∃ h, h < H ∧ a = nI (20 + h)) (hQ : Q (-1) W) : wp_Model_rule a W Q := by
  obtain ⟨⟨n1, n8, H1, H5, L1, L6⟩, hn, hH, -⟩ := id vt
  refine mt_in (lo' := 0) (hi' := 6) rfl rfl (fun c0 c => ?_) (fun _ => ⟨fun _ => ⟨vp_in_nI (n := 6) (by omega) (by omega), ?_⟩, fun q => absurd rfl q⟩)
  · obtain ⟨j, hj, e⟩ := nI_of2 (M := 6) (n := 6) rfl (Int32.not_lt.mpr c0) c
    exact absurd ⟨j, hj, e⟩ h0
  · rw [show ix 6 = 6 from rfl, r.2.2.2.2.2.2.1, nI_10 (by omega)]
    refine mt_in (lo' := 10) (hi' := nI (10 + (L - 1))) rfl rfl (fun c0 c => ?_) (fun _ => ⟨fun _ => ⟨fun _ => hQ, fun c => ?_⟩, fun q => absurd rfl q⟩)
    · obtain ⟨j, hj, rfl⟩ := nI_of (x := a) (fun q => absurd (Int32.lt_of_lt_of_le q (by decide : (0 : Int32) ≤ 10)) (Int32.not_lt.mpr c0))
      have a1 := (nI_leI (a := 10) (by omega) (by omega)).mp c0
      have a2 := (nI_leI (by omega) (by omega)).mp c
      exact absurd ⟨j - 10, by omega, by congr 1; omega⟩ h1
    · obtain ⟨j, hj, rfl⟩ := nI_of (x := a) (fun q => c (Int32.lt_of_lt_of_le q (by decide : (0 : Int32) ≤ 20)))
      have a1 := (nI_leI (a := 20) (by omega) (by omega)).mp (Int32.not_lt.mp c)
      have e : nI j - 20 = nI (j - 20) := by rw [show (20 : Int32) = nI 20 from rfl, q_sub (by omega)]
      rw [e]
      refine mt_isHand r.2.1 (by omega) (by omega) (fun h hh eh => ?_) (fun _ => ⟨fun _ => hQ, fun q => absurd rfl q⟩)
      have e3 := (nI_eq (by omega) (by omega)).mp eh
      exact absurd ⟨h, hh, by congr 1; omega⟩ h2
theorem p_rule {n H L : Nat} {M W : zMem} {a : Int32} {P : zMem → zMem → Prop} (vt : sp_vt M 1 n H L) (r : rt0 W M n H L) (hP : P M W) : wp_Main_rule a M (fun x M' => wp_Model_rule a W (fun y W' => x = y ∧ P M' W')) := by
  obtain ⟨⟨n1, n8, H1, H5, L1, L6⟩, hn, hH, hL, -⟩ := id vt
  have j66 : (¬ ∃ j, j < L ∧ a = nI (10 + j)) → (¬ ∃ h, h < H ∧ a = nI (20 + h)) → wpJ_Main_rule_66 a (fun x M' => wp_Model_rule a W (fun y W' => x = y ∧ P M' W')) M := by
    intro h1 h2 x ex
    subst ex
    have lit : ∀ j, j ≤ 6 → x = nI j → W 4 j = M 1 j → wp_Model_rule x W (fun y W' => M 1 j = y ∧ P M W') := fun j hj e ew => by
      rw [e]
      exact mw_rule0 hj ⟨ew.symm, hP⟩
    refine ⟨fun c => lit 0 (by omega) c (by rw [r.1, hn]), fun c => lit 1 (by omega) c (by rw [r.2.1, hH]), fun c => lit 2 (by omega) c r.2.2.1, fun c => lit 3 (by omega) c r.2.2.2.1, fun c => lit 4 (by omega) c r.2.2.2.2.1, fun c => lit 5 (by omega) c r.2.2.2.2.2.1, fun c => lit 6 (by omega) c (by rw [r.2.2.2.2.2.2.1, hL]), fun c0 c1 c2 c3 c4 c5 c6 => ?_⟩
    refine mw_rule3 vt r (fun ⟨j, hj, e⟩ => ?_) h1 h2 ⟨rfl, hP⟩
    rcases (show j = 0 ∨ j = 1 ∨ j = 2 ∨ j = 3 ∨ j = 4 ∨ j = 5 ∨ j = 6 by omega) with rfl | rfl | rfl | rfl | rfl | rfl | rfl
    · exact c0 e
    · exact c1 e
    · exact c2 e
    · exact c3 e
    · exact c4 e
    · exact c5 e
    · exact c6 e
  have j33 : (¬ ∃ j, j < L ∧ a = nI (10 + j)) → wpJ_Main_rule_33 a (fun x M' => wp_Model_rule a W (fun y W' => x = y ∧ P M' W')) M := by
    intro h1
    unfold wpJ_Main_rule_33
    rw [hH]
    refine ⟨fun c => j66 h1 (fun ⟨h, hh, e⟩ => ?_), fun c => ⟨fun c2 => j66 h1 (fun ⟨h, hh, e⟩ => ?_), fun c2 => ?_⟩⟩
    · rw [e] at c
      have := (nI_ltI (b := 20) (by omega) (by omega)).mp c
      omega
    · rw [e, show (20 : Int32) = nI 20 from rfl, q_add] at c2
      have := (nI_leI (by omega) (by omega)).mp c2
      omega
    · obtain ⟨j, hj, rfl⟩ := nI_of (x := a) (fun q => c (Int32.lt_of_lt_of_le q (by decide : (0 : Int32) ≤ 20)))
      have a1 := (nI_leI (a := 20) (by omega) (by omega)).mp (Int32.not_lt.mp c)
      rw [show (20 : Int32) = nI 20 from rfl, q_add] at c2
      have a2 := (nI_ltI (by omega) (by omega)).mp (Int32.not_le.mp c2)
      have e : nI j - 20 = nI (j - 20) := by rw [show (20 : Int32) = nI 20 from rfl, q_sub (by omega)]
      rw [e, q_ix (by omega)]
      refine ⟨vp_in_nI (by omega) (by omega), ?_⟩
      have e2 : j = 20 + (j - 20) := by omega
      have k := mw_rule2 (Q := fun y W' => M 5 (j - 20) = y ∧ P M W') vt r (h := j - 20) (by omega) ⟨rfl, hP⟩
      rw [← e2] at k
      exact k
  unfold wp_Main_rule
  rw [hL]
  refine ⟨fun c => j33 (fun ⟨h, hh, e⟩ => ?_), fun c => ⟨fun c2 => j33 (fun ⟨h, hh, e⟩ => ?_), fun c2 => ?_⟩⟩
  · rw [e] at c
    have := (nI_ltI (b := 10) (by omega) (by omega)).mp c
    omega
  · rw [e, show (10 : Int32) = nI 10 from rfl, q_add] at c2
    have := (nI_leI (by omega) (by omega)).mp c2
    omega
  · obtain ⟨j, hj, rfl⟩ := nI_of (x := a) (fun q => c (Int32.lt_of_lt_of_le q (by decide : (0 : Int32) ≤ 10)))
    have a1 := (nI_leI (a := 10) (by omega) (by omega)).mp (Int32.not_lt.mp c)
    rw [show (10 : Int32) = nI 10 from rfl, q_add] at c2
    have a2 := (nI_ltI (by omega) (by omega)).mp (Int32.not_le.mp c2)
    have e : nI j - 10 = nI (j - 10) := by rw [show (10 : Int32) = nI 10 from rfl, q_sub (by omega)]
    rw [e, q_ix (by omega)]
    refine ⟨vp_in_nI (by omega) (by omega), ?_⟩
    have e2 : j = 10 + (j - 10) := by omega
    have k := mw_rule1 (Q := fun y W' => M 2 (j - 10) = y ∧ P M W') r.2.2.2.2.2.2.1 L6 (j := j - 10) (by omega) ⟨(r.2.2.2.2.2.2.2.1 (j - 10) (by omega)).symm, hP⟩
    rw [← e2] at k
    exact k
/-- the bench stands well, and nobody can do more -/
def bst (M : zMem) (n H L : Nat) : Prop := sp_ok M 1 18 n H L ∧ ∀ j, j < H → sp_hand 1 18 j M = none
theorem mw_of {j : Nat} {W : zMem} {Q : Int32 → zMem → Prop} (hj : j < 96) (h : Q (W 6 j) W) : wp_Model_of 0 (nI j) W Q := by
  unfold wp_Model_of
  have e : 96 * 0 + nI j = nI j := by rw [show (96 : Int32) * 0 = nI 0 from rfl, q_add, Nat.zero_add]
  rw [e, q_ix (by omega)]
  exact ⟨vp_in_nI (by omega) (by omega), h⟩
theorem zlg_18 : zlg 18 = none := by
  rcases zlg_cases 18 with c | ⟨-, c⟩
  · exact c
  · omega
theorem p_begin {n H L : Nat} {M W : zMem} {P : zMem → zMem → Prop} (vt : sp_vt M 1 n H L) (r : rt0 W M n H L) (st : pst W M n H L) (ht : ztc (M 18 0) = 1)
    (hP : ∀ M' W', bst M' n H L → W' 0 24 = 1 → pr W' M' n H → M' 18 0 = M 18 0 → (∀ k, (k < 18 ∨ 27 ≤ k) → M' k = M k) → awf W W' → P M' W') : wp_Main_begin M (fun x M' => wp_Model_begin W (fun y W' => x = y ∧ P M' W')) := by
  intro x ex
  refine xt_clear (fun Mc hc => ?_)
  have ok := sp_ok_clear hc ht (by omega) (by omega) vt (fun g hg => by rw [zlg_18] at hg; cases hg)
  refine xt_doAll ok ?_
  obtain ⟨ok2, fr2, hs2⟩ := sp_all_ok ok
  have ek : ∀ k, (k < 18 ∨ 27 ≤ k) → sp_all 1 18 H Mc k = M k := fun k hk => by
    rw [fr2.1 k (by omega) (fun q => absurd q (by omega))]
    exact hc.2.2.2.2.2.2.2.2.2 k (by omega)
  show wp_Model_of 0 (nI 1) W _
  refine mw_of (by omega) ?_
  show wp_Model_clear (nI 0) W _
  refine mt_clear (by omega) (fun W1 a1 a2 a3 => ?_)
  intro W2 e2
  have x4 : W2 4 = W 4 := by rw [e2, zup_ne (by omega), a3 4 (by omega)]
  have x6 : W2 6 = W1 6 := by rw [e2, zup_ne (by omega)]
  have aw : awf W W2 := ⟨fun k q0 q6 _ _ => by rw [e2, zup_ne q0, a3 k q6], fun j _ _ q => by rw [e2, zup_eq, upd_ne q, a3 0 (by omega)], fun j hj => by rw [x6]; exact a2 j (by omega)⟩
  refine mt_awake (M := sp_all 1 18 H Mc) (n := n) (H := H) (L := L) ok2.2.2.2.1 (r.moved x4 (fun i hi => ek _ (by omega))) (Or.inr ⟨by rw [e2, zup_eq, upd_eq], fun j hj => ?_, M, Mc, hc, ok, rfl⟩) (fun W3 h24 hp f3 => ⟨?_, hP _ W3 ⟨ok2, hs2⟩ h24 hp ?_ ek (aw.tr f3)⟩)
  · rw [x6, ← a1 j hj]; congr 1; omega
  · rw [ex]; exact st.done.symm
  · rw [fr2.2]; exact hc.2.2.2.2.1
theorem p_now {n H L : Nat} {M W : zMem} {a : Int32} {P : zMem → zMem → Prop} (vt : sp_vt M 1 n H L) (r : rt0 W M n H L) (st : pst W M n H L) (bs : bst M n H L) (hP : ∀ W', W' 0 24 = 1 → pr W' M n H → awf W W' → P M W') : wp_Main_now a M (fun x M' => wp_Model_now a W (fun y W' => x = y ∧ P M' W')) := by
  have yes : ∀ j x, j ≤ 4 → (∀ W', pr W' M n H → x = W' 6 j) → wp_Model_now (nI j) W (fun y W' => x = y ∧ P M W') := fun j x hj hx => by
    refine mt_awake vt r st (fun W' h24 hp f => ?_)
    refine mt_in (lo' := 0) (hi' := 4) rfl rfl (fun _ _ => ⟨fun q => absurd q (by decide), fun _ => ?_⟩) (fun q => absurd ⟨nI_pos' (by omega), (nI_leI (b := 4) (by omega) (by omega)).mpr hj⟩ q)
    exact mw_of (by omega) ⟨hx W' hp, hP W' h24 hp f⟩
  intro x ex
  refine ⟨fun c => ?_, fun c => ?_, fun c => ?_, fun c => ?_, fun c => ?_, fun c0 c1 c2 c3 c4 => ?_⟩
  · rw [← ex, c]; exact yes 0 _ (by omega) (fun W' hp => hp.1.1.symm)
  · rw [← ex, c]; exact yes 1 _ (by omega) (fun W' hp => hp.1.2.1.symm)
  · rw [← ex, c]; exact yes 2 _ (by omega) (fun W' hp => hp.1.2.2.1.symm)
  · refine xt_least bs.1 ⟨fun _ => ?_, fun q => ?_⟩
    · rw [← ex, c]; exact yes 3 _ (by omega) (fun W' hp => hp.2.2.2.2.1.symm)
    · have := sp_nstuck bs.1 bs.2
      rw [q] at this
      exact absurd this (by decide)
  · rw [← ex, c]; exact yes 4 _ (by omega) (fun W' hp => hp.1.2.2.2.symm)
  · refine mt_awake vt r st (fun W' h24 hp f => ?_)
    refine mt_in (lo' := 0) (hi' := 4) rfl rfl (fun q0 q => ?_) (fun _ => ⟨fun _ => ⟨rfl, hP W' h24 hp f⟩, fun q => absurd rfl q⟩)
    obtain ⟨j, hj, e⟩ := nI_of2 (M := 4) (n := 4) rfl (Int32.not_lt.mpr q0) q
    rw [← ex] at e
    rcases (show j = 0 ∨ j = 1 ∨ j = 2 ∨ j = 3 ∨ j = 4 by omega) with rfl | rfl | rfl | rfl | rfl
    · exact absurd e c0
    · exact absurd e c1
    · exact absurd e c2
    · exact absurd e c3
    · exact absurd e c4
theorem mw_at {h j : Nat} {W : zMem} {Q : Int32 → zMem → Prop} (hh : h < 5) (hj : j ≤ 5) (hQ : Q (W 6 (8 + 8 * h + j) + (if 2 ≤ j ∧ j ≤ 4 then -4 else 0)) W) : wp_Model_at 0 (nI h) (nI j) W Q := by
  unfold wp_Model_at
  have e : 96 * 0 + 8 + 8 * nI h + nI j = nI (8 + 8 * h + j) := by simp (disch := omega) only [q_lit, q_add, q_mul, q_sub, q_ix, q_in, q_lt, q_le, q_eq, q_nlt, q_nle, q_ltn, q_len, q_neq, q_eqn, zup_ne, zup_eq, zset_ne, zset_eq, upd_eq, upd_ne, forall_eq, true_and, and_true, true_implies, false_implies, implies_true, not_true_eq_false, not_false_eq_true, and_self, ↓reduceIte, false_and, and_false]
  rw [e, q_ix (by omega)]
  refine ⟨vp_in_nI (by omega) (by omega), ?_⟩
  refine mt_in (lo' := 2) (hi' := 4) rfl rfl (fun c1 c2 => ⟨fun q => absurd q (by decide), fun _ => ?_⟩) (fun c => ⟨fun _ => ?_, fun q => absurd rfl q⟩)
  · rw [if_pos ⟨(nI_leI (a := 2) (by omega) (by omega)).mp c1, (nI_leI (b := 4) (by omega) (by omega)).mp c2⟩] at hQ
    exact hQ
  · rw [if_neg (fun z => c ⟨(nI_leI (a := 2) (by omega) (by omega)).mpr z.1, (nI_leI (b := 4) (by omega) (by omega)).mpr z.2⟩)] at hQ
    exact hQ
theorem p_hand {n H L : Nat} {M W : zMem} {a1 a2 : Int32} {P : zMem → zMem → Prop} (vt : sp_vt M 1 n H L) (r : rt0 W M n H L) (st : pst W M n H L) (hP : ∀ W', W' 0 24 = 1 → pr W' M n H → awf W W' → P M W') : wp_Main_hand a1 a2 M (fun x M' => wp_Model_hand a1 a2 W (fun y W' => x = y ∧ P M' W')) := by
  obtain ⟨⟨n1, n8, H1, H5, L1, L6⟩, hn, hH, -⟩ := id vt
  have w1 : ∀ W', awf W W' → W' 4 1 = nI H := fun W' f => by rw [f.1 4 (by omega) (by omega) (by omega) (by omega)]; exact r.2.1
  refine xt_isHand hH (by omega) (fun h hh eh => ⟨fun _ => ⟨by rw [eh]; exact vp_in_nI (by omega) (by omega), ?_⟩, fun q => absurd q (by decide)⟩) (fun nh => ⟨fun q => absurd rfl q, fun _ => ?_⟩)
  · subst eh
    rw [q_ix (by omega)]
    have yes : ∀ j x, j ≤ 5 → (∀ W', mr_h W' M 0 18 h → x = W' 6 (8 + 8 * h + j) + (if 2 ≤ j ∧ j ≤ 4 then -4 else 0)) → wp_Model_hand (nI h) (nI j) W (fun y W' => x = y ∧ P M W') := fun j x hj hx => by
      refine mt_awake vt r st (fun W' h24 hp f => ?_)
      refine mt_isHand (w1 W' f) (by omega) (by omega) (fun _ _ _ => ⟨fun q => absurd q (by decide), fun _ => ?_⟩) (fun q => absurd ⟨h, hh, rfl⟩ q)
      refine mt_in (lo' := 0) (hi' := 5) rfl rfl (fun _ _ => ⟨fun q => absurd q (by decide), fun _ => ?_⟩) (fun q => absurd ⟨nI_pos' (by omega), (nI_leI (b := 5) (by omega) (by omega)).mpr hj⟩ q)
      exact mw_at (by omega) hj ⟨hx W' (hp.2.1 h hh), hP W' h24 hp f⟩
    have v5 : vp_in (nI h) 5 := vp_in_nI (by omega) (by omega)
    have go : ∀ s : Int32, (s = 0 ↔ M 21 h < 0) → wpJ_Main_hand_27 (nI h) a2 (fun x M' => wp_Model_hand (nI h) a2 W (fun y W' => x = y ∧ P M' W')) s M := by
      intro s hs x ex
      rw [q_ix (by omega)]
      have p3 : ∀ W', mr_h W' M 0 18 h → (M 21 h < 0 ∧ W' 6 (8 + 8 * h + 2) = 0 ∧ W' 6 (8 + 8 * h + 3) = 0 ∧ W' 6 (8 + 8 * h + 4) = 0) ∨ (¬ M 21 h < 0 ∧ W' 6 (8 + 8 * h + 2) + -4 = M 21 h ∧ W' 6 (8 + 8 * h + 3) + -4 = M 22 h ∧ W' 6 (8 + 8 * h + 4) + -4 = M 23 h) := by
        intro W' hm
        obtain ⟨-, -, -, hm⟩ := hm
        rw [show 96 * 0 + 8 + 8 * h = 8 + 8 * h by omega] at hm
        rcases hm with ⟨e1, e2, e3, e4⟩ | ⟨p, u, q, hp, hu, hq, e1, e2, e3, e4, e5, e6⟩
        · have e1' : M 21 h = -1 := e1
          exact Or.inl ⟨by rw [e1']; decide, e2, e3, e4⟩
        · have e1' : M 21 h = nI p := e1
          have e2' : M 22 h = nI u := e2
          have e3' : M 23 h = nI q := e3
          refine Or.inr ⟨by rw [e1']; exact nI_pos (by omega), ?_, ?_, ?_⟩
          · rw [e4, e1']; exact q_m4 p
          · rw [e5, e2']; exact q_m4 u
          · rw [e6, e3']; exact q_m4 q
      have pc : ∀ (j k : Nat), (j = 2 ∧ k = 21 ∨ j = 3 ∧ k = 22 ∨ j = 4 ∧ k = 23) → (s = 0 → wp_Model_hand (nI h) (nI j) W (fun y W' => -4 = y ∧ P M W')) ∧ (¬ s = 0 → vp_in (nI h) 5 ∧ wp_Model_hand (nI h) (nI j) W (fun y W' => M k h = y ∧ P M W')) := by
        intro j k hjk
        refine ⟨fun c => yes j _ (by omega) (fun W' hm => ?_), fun c => ⟨v5, yes j _ (by omega) (fun W' hm => ?_)⟩⟩
        · rw [if_pos (by omega)]
          rcases p3 W' hm with ⟨-, e2, e3, e4⟩ | ⟨q, -⟩
          · rcases hjk with ⟨rfl, -⟩ | ⟨rfl, -⟩ | ⟨rfl, -⟩
            · rw [e2]; rfl
            · rw [e3]; rfl
            · rw [e4]; rfl
          · exact absurd (hs.mp c) q
        · rw [if_pos (by omega)]
          rcases p3 W' hm with ⟨q, -⟩ | ⟨-, e2, e3, e4⟩
          · exact absurd (hs.mpr q) c
          · rcases hjk with ⟨rfl, rfl⟩ | ⟨rfl, rfl⟩ | ⟨rfl, rfl⟩
            · exact e2.symm
            · exact e3.symm
            · exact e4.symm
      refine ⟨fun c => ⟨v5, ?_⟩, fun c => ⟨v5, ?_⟩, fun c => ?_, fun c => ?_, fun c => ?_, fun c => ⟨v5, ?_⟩, fun c0 c1 c2 c3 c4 c5 => ?_⟩
      · rw [← ex, c]
        refine yes 0 _ (by omega) (fun W' hm => ?_)
        rw [if_neg (by omega), Int32.add_zero]
        have := hm.1
        rw [show 96 * 0 + 8 + 8 * h = 8 + 8 * h by omega] at this
        exact this.symm
      · rw [← ex, c]
        refine yes 1 _ (by omega) (fun W' hm => ?_)
        rw [if_neg (by omega), Int32.add_zero]
        have := hm.2.1
        rw [show 96 * 0 + 8 + 8 * h = 8 + 8 * h by omega] at this
        exact this.symm
      · rw [← ex, c]; exact pc 2 21 (by omega)
      · rw [← ex, c]; exact pc 3 22 (by omega)
      · rw [← ex, c]; exact pc 4 23 (by omega)
      · rw [← ex, c]
        refine yes 5 _ (by omega) (fun W' hm => ?_)
        rw [if_neg (by omega), Int32.add_zero]
        have := hm.2.2.1
        rw [show 96 * 0 + 8 + 8 * h = 8 + 8 * h by omega] at this
        exact this.symm
      · refine mt_awake vt r st (fun W' h24 hp f => ?_)
        refine mt_isHand (w1 W' f) (by omega) (by omega) (fun _ _ _ => ⟨fun q => absurd q (by decide), fun _ => ?_⟩) (fun q => absurd ⟨h, hh, rfl⟩ q)
        refine mt_in (lo' := 0) (hi' := 5) rfl rfl (fun q0 q => ?_) (fun _ => ⟨fun _ => ⟨rfl, hP W' h24 hp f⟩, fun q => absurd rfl q⟩)
        obtain ⟨j, hj, e⟩ := nI_of2 (M := 5) (n := 5) rfl (Int32.not_lt.mpr q0) q
        rw [← ex] at e
        rcases (show j = 0 ∨ j = 1 ∨ j = 2 ∨ j = 3 ∨ j = 4 ∨ j = 5 by omega) with rfl | rfl | rfl | rfl | rfl | rfl
        · exact absurd e c0
        · exact absurd e c1
        · exact absurd e c2
        · exact absurd e c3
        · exact absurd e c4
        · exact absurd e c5
    exact ⟨fun c => go 0 ⟨fun _ => c, fun _ => rfl⟩, fun c => go 1 ⟨fun q => absurd q (by decide), fun q => absurd q c⟩⟩
  · refine mt_awake vt r st (fun W' h24 hp f => ?_)
    exact mt_isHand (w1 W' f) (by omega) (by omega) (fun h a b => absurd ⟨h, a, b⟩ nh) (fun _ => ⟨fun _ => ⟨rfl, hP W' h24 hp f⟩, fun q => absurd rfl q⟩)
/-- a bench laid like another -/
def bdc (M : zMem) (t : Nat) (M' : zMem) (k : Nat) : Prop := (∀ j, 2 ≤ j → j ≤ 5 → M' k j = M t j) ∧ (∀ j, j < 2 → M' k j = M k j) ∧ (∀ i x, 1 ≤ i → i ≤ 6 → x < 5 → M' (k + i) x = M (t + i) x) ∧ (∀ x, x < 40 → M' (k + 7) x = M (t + 7) x) ∧ (∀ c, (c < k ∨ k + 8 ≤ c) → M' c = M c)
theorem xt_copyBench {k t : Nat} {M : zMem} {Q : zMem → Prop} (h : k + 8 < t ∨ t + 8 < k) (hQ : ∀ M', bdc M t M' k → Q M') : wp_Bench_copyFrom k t M Q := by
  unfold wp_Bench_copyFrom
  intro M1 e1 M2 e2 M3 e3 M4 e4
  have ht : t ≠ k := by omega
  have o4 : ∀ c, c ≠ k → M4 c = M c := fun c hc => by rw [e4, zup_ne hc, e3, zup_ne hc, e2, zup_ne hc, e1, zup_ne hc]
  have k4 : (∀ j, 2 ≤ j → j ≤ 5 → M4 k j = M t j) ∧ ∀ j, j < 2 → M4 k j = M k j := by
    have x1 : M1 t = M t := by rw [e1, zup_ne ht]
    have x2 : M2 t = M t := by rw [e2, zup_ne ht, x1]
    have x3 : M3 t = M t := by rw [e3, zup_ne ht, x2]
    rw [x1] at e2; rw [x2] at e3; rw [x3] at e4
    refine ⟨fun j h1 h2 => ?_, fun j hj => ?_⟩
    · rcases (show j = 2 ∨ j = 3 ∨ j = 4 ∨ j = 5 by omega) with rfl | rfl | rfl | rfl
      all_goals
        rw [e4, e3, e2, e1]
        simp (disch := omega) only [zup_eq, upd_ne, upd_eq]
    · rw [e4, e3, e2, e1]
      simp (disch := omega) only [zup_eq, upd_ne]
  clear e4 e3 e2 e1
  have c5 : zcpok 0 0 5 5 5 := zcpok_nI (sp := 0) (dp := 0) (n := 5) (by omega) (by omega) (by omega) (by omega)
  refine ⟨c5, fun M5 e5 => ⟨c5, fun M6 e6 => ⟨c5, fun M7 e7 => ⟨c5, fun M8 e8 => ⟨c5, fun M9 e9 => ⟨c5, fun Ma ea => ⟨zcpok_nI (sp := 0) (dp := 0) (n := 40) (by omega) (by omega) (by omega) (by omega), fun Mb eb => ?_⟩⟩⟩⟩⟩⟩⟩
  have ci : ∀ (X : zMem) (a b x : Nat), x < 5 → zcopyM X a b 0 0 5 b x = X a x := fun X a b x hx => by
    have := zcopy_in (M := X) (k0 := a) (k1 := b) (sp := 0) (dp := 0) (n := 5) (j := x) (by omega) (by omega) (by omega) (by omega) (by omega)
    rw [Nat.sub_zero, Nat.zero_add] at this
    exact this
  have y5 : ∀ c, c ≠ k + 1 → M5 c = M4 c := fun c q => by rw [e5, zcopy_ne q]
  have y6 : ∀ c, c ≠ k + 2 → M6 c = M5 c := fun c q => by rw [e6, zcopy_ne q]
  have y7 : ∀ c, c ≠ k + 3 → M7 c = M6 c := fun c q => by rw [e7, zcopy_ne q]
  have y8 : ∀ c, c ≠ k + 4 → M8 c = M7 c := fun c q => by rw [e8, zcopy_ne q]
  have y9 : ∀ c, c ≠ k + 5 → M9 c = M8 c := fun c q => by rw [e9, zcopy_ne q]
  have ya : ∀ c, c ≠ k + 6 → Ma c = M9 c := fun c q => by rw [ea, zcopy_ne q]
  have yb : ∀ c, c ≠ k + 7 → Mb c = Ma c := fun c q => by rw [eb, zcopy_ne q]
  refine hQ Mb ⟨fun j h1 h2 => ?_, fun j hj => ?_, fun i x h1 h2 hx => ?_, fun x hx => ?_, fun c hc => ?_⟩
  · rw [yb k (by omega), ya k (by omega), y9 k (by omega), y8 k (by omega), y7 k (by omega), y6 k (by omega), y5 k (by omega)]; exact k4.1 j h1 h2
  · rw [yb k (by omega), ya k (by omega), y9 k (by omega), y8 k (by omega), y7 k (by omega), y6 k (by omega), y5 k (by omega)]; exact k4.2 j hj
  · rcases (show i = 1 ∨ i = 2 ∨ i = 3 ∨ i = 4 ∨ i = 5 ∨ i = 6 by omega) with rfl | rfl | rfl | rfl | rfl | rfl
    · rw [yb _ (by omega), ya _ (by omega), y9 _ (by omega), y8 _ (by omega), y7 _ (by omega), y6 _ (by omega), e5, ci _ _ _ x hx, o4 _ (by omega)]
    · rw [yb _ (by omega), ya _ (by omega), y9 _ (by omega), y8 _ (by omega), y7 _ (by omega), e6, ci _ _ _ x hx, y5 _ (by omega), o4 _ (by omega)]
    · rw [yb _ (by omega), ya _ (by omega), y9 _ (by omega), y8 _ (by omega), e7, ci _ _ _ x hx, y6 _ (by omega), y5 _ (by omega), o4 _ (by omega)]
    · rw [yb _ (by omega), ya _ (by omega), y9 _ (by omega), e8, ci _ _ _ x hx, y7 _ (by omega), y6 _ (by omega), y5 _ (by omega), o4 _ (by omega)]
    · rw [yb _ (by omega), ya _ (by omega), e9, ci _ _ _ x hx, y8 _ (by omega), y7 _ (by omega), y6 _ (by omega), y5 _ (by omega), o4 _ (by omega)]
    · rw [yb _ (by omega), ea, ci _ _ _ x hx, y9 _ (by omega), y8 _ (by omega), y7 _ (by omega), y6 _ (by omega), y5 _ (by omega), o4 _ (by omega)]
  · rw [eb]
    have := zcopy_in (M := Ma) (k0 := t + 7) (k1 := k + 7) (sp := 0) (dp := 0) (n := 40) (j := x) (by omega) (by omega) (by omega) (by omega) (by omega)
    refine Eq.trans this ?_
    rw [Nat.sub_zero, Nat.zero_add, ya _ (by omega), y9 _ (by omega), y8 _ (by omega), y7 _ (by omega), y6 _ (by omega), y5 _ (by omega), o4 _ (by omega)]
  · rw [yb _ (by omega), ya _ (by omega), y9 _ (by omega), y8 _ (by omega), y7 _ (by omega), y6 _ (by omega), y5 _ (by omega), o4 _ (by omega)]
theorem xt_forget {M : zMem} {Q : zMem → Prop} (hQ : ∀ M', (∀ q, q < 120 → M' 58 q = 0) → (∀ k, k ≠ 58 → M' k = M k) → Q M') : wp_Orders_forget 56 M Q := by
  unfold wp_Orders_forget
  exact zfill_r (c := 58) (N := 120) (v := 0) (by omega) (fun M' a1 a2 a3 => hQ M' a1 a3)
/-- what is kept: the flags, and the image of each -/
theorem mw_keep18 {i : Nat} {W : zMem} {K : zMem → Prop} {Q : Int32 → zMem → Prop} (hi : i < 2) (hK : ∀ W', (∀ j, j < 96 → W' 6 (96 * (2 + i) + j) = W 6 j) → (∀ j, (j < 96 * (2 + i) ∨ 96 * (2 + i) + 96 ≤ j) → W' 6 j = W 6 j) → (∀ k, k ≠ 6 → W' k = W k) → K W') : ∃ n, zlp1 (wpB_Model_keep_18 (nI i) K Q) n 0 W := by
  refine zlp1_r (fun m x W' => ∃ h, x = nI h ∧ h ≤ 96 ∧ m = 96 - h ∧ (∀ j, j < h → W' 6 (96 * (2 + i) + j) = W 6 j) ∧ (∀ j, (j < 96 * (2 + i) ∨ 96 * (2 + i) + 96 ≤ j) → W' 6 j = W 6 j) ∧ (∀ k, k ≠ 6 → W' k = W k)) ?_ (n := 96) ⟨0, rfl, by omega, rfl, fun i hi => absurd hi (by omega), fun _ _ => rfl, fun _ _ => rfl⟩
  rintro m x W' ⟨h, rfl, hh, rfl, i1, i2, i3⟩ J hJ
  refine ⟨fun c => ?_, fun c => ?_⟩
  · have := (nI_leI (a := 96) (by omega) (by omega)).mp c
    have e : h = 96 := by omega
    subst e
    exact hK W' i1 i2 i3
  · have hh2 : h < 96 := (nI_ltI (b := 96) (by omega) (by omega)).mp (Int32.not_le.mp c)
    have e2 : 96 * (2 + nI i) + nI h = nI (96 * (2 + i) + h) := by simp (disch := omega) only [q_lit, q_add, q_mul, q_sub, q_ix, q_in, q_lt, q_le, q_eq, q_nlt, q_nle, q_ltn, q_len, q_neq, q_eqn, zup_ne, zup_eq, zset_ne, zset_eq, upd_eq, upd_ne, forall_eq, true_and, and_true, true_implies, false_implies, implies_true, not_true_eq_false, not_false_eq_true, and_self, ↓reduceIte, false_and, and_false]
    rw [e2, q_ix (by omega), q_ix (by omega)]
    refine ⟨vp_in_nI (by omega) (by omega), vp_in_nI (by omega) (by omega), fun W2 e2 y ey => ?_⟩
    rw [ey, nI_1]
    refine hJ (96 - (h + 1)) _ _ (by omega) ⟨h + 1, rfl, by omega, rfl, fun j hj => ?_, fun j hj => ?_, fun d hd => by rw [e2, zup_ne hd]; exact i3 d hd⟩
    · rw [e2, zup_eq]
      by_cases z : j = h
      · rw [z, upd_eq]; exact i2 h (by omega)
      · rw [upd_ne (by omega)]; exact i1 j (by omega)
    · rw [e2, zup_eq, upd_ne (by omega)]; exact i2 j hj
theorem mw_back26 {i : Nat} {W : zMem} {Q : Int32 → zMem → Prop} (hi : i < 2) (hK : ∀ W', (∀ j, j < 96 → W' 6 j = W 6 (96 * (2 + i) + j)) → (∀ j, 96 ≤ j → W' 6 j = W 6 j) → (∀ k, k ≠ 6 → W' k = W k) → Q (W' 6 0) W') : ∃ n, zlp1 (wpB_Model_back_26 (nI i) Q) n 0 W := by
  refine zlp1_r (fun m x W' => ∃ h, x = nI h ∧ h ≤ 96 ∧ m = 96 - h ∧ (∀ j, j < h → W' 6 j = W 6 (96 * (2 + i) + j)) ∧ (∀ j, 96 ≤ j → W' 6 j = W 6 j) ∧ (∀ k, k ≠ 6 → W' k = W k)) ?_ (n := 96) ⟨0, rfl, by omega, rfl, fun i hi => absurd hi (by omega), fun _ _ => rfl, fun _ _ => rfl⟩
  rintro m x W' ⟨h, rfl, hh, rfl, i1, i2, i3⟩ J hJ
  refine ⟨fun c => ?_, fun c => ?_⟩
  · have := (nI_leI (a := 96) (by omega) (by omega)).mp c
    have e : h = 96 := by omega
    subst e
    exact mw_of (j := 0) (by omega) (hK W' i1 i2 i3)
  · have hh2 : h < 96 := (nI_ltI (b := 96) (by omega) (by omega)).mp (Int32.not_le.mp c)
    have e2 : 96 * (2 + nI i) + nI h = nI (96 * (2 + i) + h) := by simp (disch := omega) only [q_lit, q_add, q_mul, q_sub, q_ix, q_in, q_lt, q_le, q_eq, q_nlt, q_nle, q_ltn, q_len, q_neq, q_eqn, zup_ne, zup_eq, zset_ne, zset_eq, upd_eq, upd_ne, forall_eq, true_and, and_true, true_implies, false_implies, implies_true, not_true_eq_false, not_false_eq_true, and_self, ↓reduceIte, false_and, and_false]
    rw [e2, q_ix (by omega), q_ix (by omega)]
    refine ⟨vp_in_nI (by omega) (by omega), vp_in_nI (by omega) (by omega), fun W2 e2 y ey => ?_⟩
    rw [ey, nI_1]
    refine hJ (96 - (h + 1)) _ _ (by omega) ⟨h + 1, rfl, by omega, rfl, fun j hj => ?_, fun j hj => ?_, fun d hd => by rw [e2, zup_ne hd]; exact i3 d hd⟩
    · rw [e2, zup_eq]
      by_cases z : j = h
      · rw [z, upd_eq]; exact i2 _ (by omega)
      · rw [upd_ne (by omega)]; exact i1 j (by omega)
    · rw [e2, zup_eq, upd_ne (by omega)]; exact i2 j hj
theorem p_keep {n H L : Nat} {M W : zMem} {a : Int32} {P : zMem → zMem → Prop} (vt : sp_vt M 1 n H L) (r : rt0 W M n H L) (st : pst W M n H L) (e28 : ∀ i, i < 2 → M 28 i = W 7 i) (hP0 : P M W)
    (hP : ∀ i M' W1 W', i < 2 → bdc M 18 M' (63 + 9 * i) → W1 0 24 = 1 → pr W1 M n H → awf W W1 → (∀ j, j < 96 → W' 6 (96 * (2 + i) + j) = W1 6 j) → (∀ j, (j < 96 * (2 + i) ∨ 96 * (2 + i) + 96 ≤ j) → W' 6 j = W1 6 j) → (∀ k, k ≠ 6 → W' k = W1 k) → P (zup M' 28 i 1) (zup W' 7 i 1)) : wp_Main_keep a M (fun x M' => wp_Model_keep a W (fun y W' => x = y ∧ P M' W')) := by
  have no : ¬ (0 ≤ a ∧ a ≤ 1) → wp_Model_keep a W (fun y W' => -1 = y ∧ P M W') := fun q => mt_in (lo' := 0) (hi' := 1) rfl rfl (fun x y => absurd ⟨x, y⟩ q) (fun _ => ⟨fun q => absurd rfl q, fun _ => ⟨rfl, hP0⟩⟩)
  refine ⟨fun c => no (fun q => absurd c (Int32.not_lt.mpr q.1)), fun c => ⟨fun c2 => ?_, fun c2 => no (fun q => c2 (Int32.lt_of_le_of_lt q.2 (by decide)))⟩⟩
  obtain ⟨i, hi0, rfl⟩ := nI_of c
  have hi : i < 2 := (nI_ltI (b := 2) (by omega) (by omega)).mp c2
  rw [q_ix (by omega)]
  have v2 : vp_in (nI i) 2 := vp_in_nI (by omega) (by omega)
  refine ⟨v2, fun x ex => ⟨v2, ?_⟩⟩
  refine xt_copyBench (by omega) (fun M1 b1 => ⟨v2, fun M2 e2 => ?_⟩)
  have key : ∀ y : Int32, (y = 0 ∧ x = 0 ∨ y = 1 ∧ x ≠ 0) → wp_Model_keep (nI i) W (fun z W' => y = z ∧ P M2 W') := by
    intro y hy
    refine mt_in (lo' := 0) (hi' := 1) rfl rfl (fun _ _ => ⟨fun _ => ?_, fun q => absurd q (by decide)⟩) (fun q => absurd ⟨nI_pos' (by omega), (nI_leI (b := 1) (by omega) (by omega)).mpr (by omega)⟩ q)
    refine mt_awake vt r st (fun W1 h24 hp f => ?_)
    refine mw_keep18 hi (fun W2 k1 k2 k3 => ?_)
    rw [q_ix (by omega)]
    have e7 : W2 7 i = x := by rw [k3 7 (by omega), f.1 7 (by omega) (by omega) (by omega) (by omega), ex, e28 i hi]
    have pp : ∀ W3, W3 = zup W2 7 i (vp_nar .boolean 1) → P M2 W3 := fun W3 e3 => by
      rw [e2, e3]
      exact hP i M1 W1 W2 hi b1 h24 hp f k1 k2 k3
    refine ⟨v2, fun q => ⟨v2, fun W3 e3 => ⟨?_, pp W3 e3⟩⟩, fun q => ⟨v2, fun W3 e3 => ⟨?_, pp W3 e3⟩⟩⟩
    · rcases hy with ⟨h1, -⟩ | ⟨-, h2⟩
      · exact h1
      · exact absurd (e7.symm.trans q) h2
    · rcases hy with ⟨-, h2⟩ | ⟨h1, -⟩
      · exact absurd (e7.trans h2) q
      · exact h1
  exact ⟨fun q => key 0 (Or.inl ⟨rfl, q⟩), fun q => key 1 (Or.inr ⟨rfl, q⟩)⟩
/-- back, where what is kept is known to be laid alike -/
theorem p_back {M W : zMem} {a : Int32} {P : zMem → zMem → Prop} (e28 : ∀ i, i < 2 → M 28 i = W 7 i) (hP0 : P M W)
    (hP : ∀ i M' W', i < 2 → M 28 i ≠ 0 → bdc M (63 + 9 * i) M' 18 → (∀ j, j < 96 → W' 6 j = W 6 (96 * (2 + i) + j)) → (∀ j, 96 ≤ j → W' 6 j = W 6 j) → (∀ k, k ≠ 6 → W' k = W k) → M' 18 2 = W' 6 0 ∧ P M' W') : wp_Main_back a M (fun x M' => wp_Model_back a W (fun y W' => x = y ∧ P M' W')) := by
  have no : ¬ (0 ≤ a ∧ a ≤ 1) → wp_Model_back a W (fun y W' => -1 = y ∧ P M W') := fun q => mt_in (lo' := 0) (hi' := 1) rfl rfl (fun x y => absurd ⟨x, y⟩ q) (fun _ => ⟨fun q => absurd rfl q, fun _ => ⟨rfl, hP0⟩⟩)
  refine ⟨fun c => no (fun q => absurd c (Int32.not_lt.mpr q.1)), fun c => ⟨fun c2 => ?_, fun c2 => no (fun q => c2 (Int32.lt_of_le_of_lt q.2 (by decide)))⟩⟩
  obtain ⟨i, hi0, rfl⟩ := nI_of c
  have hi : i < 2 := (nI_ltI (b := 2) (by omega) (by omega)).mp c2
  rw [q_ix (by omega)]
  have v2 : vp_in (nI i) 2 := vp_in_nI (by omega) (by omega)
  have way : ∀ Q : Int32 → zMem → Prop, (¬ W 7 i = 0 → ∃ n : Nat, zlp1 (wpB_Model_back_26 (nI i) Q) n 0 W) → (W 7 i = 0 → Q (-2) W) → wp_Model_back (nI i) W Q := fun Q h1 h2 => by
    refine mt_in (lo' := 0) (hi' := 1) rfl rfl (fun _ _ => ⟨fun _ => ⟨v2, ?_⟩, fun q => absurd q (by decide)⟩) (fun q => absurd ⟨nI_pos' (by omega), (nI_leI (b := 1) (by omega) (by omega)).mpr (by omega)⟩ q)
    rw [q_ix (by omega)]
    exact ⟨h1, h2⟩
  refine ⟨v2, fun q => ⟨v2, ?_⟩, fun q => ?_⟩
  · refine xt_copyBench (by omega) (fun M1 b1 => ?_)
    refine way _ (fun _ => mw_back26 hi (fun W1 k1 k2 k3 => hP i M1 W1 hi q b1 k1 k2 k3)) (fun z => absurd ((e28 i hi).trans z) q)
  · exact way _ (fun z => absurd ((e28 i hi).symm.trans q) z) (fun _ => ⟨rfl, hP0⟩)
theorem p_setPace {n H L : Nat} {M W : zMem} {a1 a2 a3 : Int32} {P : zMem → zMem → Prop} (vt : sp_vt M 1 n H L) (r : rt0 W M n H L) (st : pst W M n H L) (hP0 : P M W)
    (hP : ∀ h p c M' W1, h < H → p < n → 1 ≤ c → c ≤ 9 → M' 4 = upd (M 4) (h * 8 + p) (nI c) → M' 29 2 = 0 → M' 54 0 = 0 → M' 60 0 = 0 → (∀ q, q < 120 → M' 58 q = 0) → (∀ k, k ≠ 4 → k ≠ 29 → k ≠ 54 → k ≠ 58 → k ≠ 60 → M' k = M k) → W1 0 24 = 1 → pr W1 M n H → awf W W1 → P M' (zup W1 4 (60 + 8 * h + p) (nI c))) : wp_Main_setPace a1 a2 a3 M (fun x M' => wp_Model_setPace a1 a2 a3 W (fun y W' => x = y ∧ P M' W')) := by
  obtain ⟨⟨n1, n8, H1, H5, L1, L6⟩, hn, hH, -⟩ := id vt
  have no : ¬ ((∃ h, h < H ∧ a1 = nI h) ∧ ∃ p, p < n ∧ a2 = nI p) → wp_Model_setPace a1 a2 a3 W (fun y W' => -1 = y ∧ P M W') := fun q => by
    unfold wp_Model_setPace
    exact mt_nhp (Q := fun y W' => -1 = y ∧ P M W') vt r q ⟨rfl, hP0⟩
  refine xt_isHand hH (by omega) (fun h hh eh => ⟨fun q => absurd q (by decide), fun _ => ?_⟩) (fun nh => ⟨fun _ => no (fun q => nh q.1), fun q => absurd rfl q⟩)
  refine xt_isPiece hn (by omega) (fun p hp ep => ⟨fun q => absurd q (by decide), fun _ => ?_⟩) (fun np => ⟨fun _ => no (fun q => np q.2), fun q => absurd rfl q⟩)
  subst eh; subst ep
  have e1 : nI h * 8 + nI p = nI (h * 8 + p) := by rw [show (8 : Int32) = nI 8 from rfl, q_mul, q_add]
  have e2 : 60 + 8 * nI h + nI p = nI (60 + 8 * h + p) := by simp (disch := omega) only [q_lit, q_add, q_mul, q_sub, q_ix, q_in, q_lt, q_le, q_eq, q_nlt, q_nle, q_ltn, q_len, q_neq, q_eqn, zup_ne, zup_eq, zset_ne, zset_eq, upd_eq, upd_ne, forall_eq, true_and, and_true, true_implies, false_implies, implies_true, not_true_eq_false, not_false_eq_true, and_self, ↓reduceIte, false_and, and_false]
  have bad : ¬ (1 ≤ a3 ∧ a3 ≤ 9) → wp_Model_setPace (nI h) (nI p) a3 W (fun y W' => -1 = y ∧ P M W') := fun q => by
    unfold wp_Model_setPace
    refine mt_hp (Q := fun y W' => -1 = y ∧ P M W') vt r hh hp ?_
    exact mt_in (lo' := 1) (hi' := 9) rfl rfl (fun x y => absurd ⟨x, y⟩ q) (fun _ => ⟨fun z => absurd rfl z, fun _ => ⟨rfl, hP0⟩⟩)
  unfold wp_Main_isPace
  refine ⟨fun c => ⟨fun q => absurd rfl q, fun _ => bad (fun q => absurd c (Int32.not_lt.mpr q.1))⟩, fun c => ⟨fun c2 => ⟨fun q => absurd rfl q, fun _ => bad (fun q => absurd c2 (Int32.not_lt.mpr q.2))⟩, fun c2 => ⟨fun _ => ?_, fun q => absurd q (by decide)⟩⟩⟩
  have c1' := Int32.not_lt.mp c
  have c2' := Int32.not_lt.mp c2
  obtain ⟨c0, hc9, rfl⟩ := nI_of2 (x := a3) (M := 9) (n := 9) rfl (fun q => absurd (Int32.lt_of_lt_of_le q (by decide : (0 : Int32) ≤ 1)) c) c2'
  have hc1 := (nI_leI (a := 1) (by omega) (by omega)).mp c1'
  unfold wp_Told_paceOf
  rw [e1, q_ix (by omega)]
  refine ⟨vp_in_nI (by omega) (by omega), vp_in_nI (by omega) (by omega), fun M1 f1 => ?_⟩
  unfold wp_Main_forgetAnswers
  intro M2 f2 M3 f3 M4 f4
  refine xt_forget (fun M5 g1 g2 => ?_)
  show wp_Model_setPace (nI h) (nI p) (nI c0) W (fun y W' => M 4 (h * 8 + p) = y ∧ P M5 W')
  unfold wp_Model_setPace
  refine mt_hp (Q := fun y W' => M 4 (h * 8 + p) = y ∧ P M5 W') vt r hh hp ?_
  refine mt_in (lo' := 1) (hi' := 9) rfl rfl (fun _ _ => ⟨fun _ => ?_, fun q => absurd q (by decide)⟩) (fun q => absurd ⟨c1', c2'⟩ q)
  refine mt_awake vt r st (fun W1 h24 hpr f => ?_)
  rw [e2, q_ix (by omega)]
  refine ⟨vp_in_nI (by omega) (by omega), fun x ex => ⟨vp_in_nI (by omega) (by omega), fun W2 w2 => ⟨?_, ?_⟩⟩⟩
  · rw [ex, f.1 4 (by omega) (by omega) (by omega) (by omega)]
    exact (r.2.2.2.2.2.2.2.2.2.1 h p hh hp).symm
  · rw [w2]
    refine hP h p c0 M5 W1 hh hp hc1 hc9 ?_ ?_ ?_ ?_ g1 (fun k k4 k29 k54 k58 k60 => ?_) h24 hpr f
    · rw [g2 4 (by omega), f4, zup_ne (by omega), f3, zup_ne (by omega), f2, zup_ne (by omega), f1, zup_eq]
    · rw [g2 29 (by omega), f4, zup_ne (by omega), f3, zup_ne (by omega), f2, zup_eq, upd_eq]
    · rw [g2 54 (by omega), f4, zup_ne (by omega), f3, zup_eq, upd_eq]
    · rw [g2 60 (by omega), f4, zup_eq, upd_eq]
    · rw [g2 k k58, f4, zup_ne k60, f3, zup_ne k54, f2, zup_ne k29, f1, zup_ne k4]
theorem p_count {n H L : Nat} {M W : zMem} {a : Int32} {P : zMem → zMem → Prop} (vt : sp_vt M 1 n H L) (r : rt0 W M n H L) (e28 : ∀ i, i < 2 → M 28 i = W 7 i) (e5 : M 11 5 = W 0 1) (es : (M 81 0 = -1 ∧ W 16 0 = -4) ∨ (M 81 0 ≠ -1 ∧ W 16 0 ≠ -4 ∧ M 81 1 = W 17 0)) (hP : P M W) : wp_Main_count a M (fun x M' => wp_Model_count a W (fun y W' => x = y ∧ P M' W')) := by
  obtain ⟨⟨n1, n8, H1, H5, L1, L6⟩, hn, hH, -⟩ := id vt
  have v0 : vp_in 0 2 := vp_in_nI (n := 0) (by omega) (by omega)
  have v1 : vp_in 1 2 := vp_in_nI (n := 1) (by omega) (by omega)
  have u0 : vp_in 0 4 := vp_in_nI (n := 0) (by omega) (by omega)
  have j0 : ix 0 = 0 := rfl
  have j1 : ix 1 = 1 := rfl
  have w0 := e28 0 (by omega)
  have w1 := e28 1 (by omega)
  have way : ∀ (K : Int32 → zMem → Prop) (x : Int32), x = a → ((x = 0 → (W 7 0 = 0 → (W 7 1 = 0 → K (0 + 0) W) ∧ (¬ W 7 1 = 0 → K (0 + 1) W)) ∧ (¬ W 7 0 = 0 → (W 7 1 = 0 → K (1 + 0) W) ∧ (¬ W 7 1 = 0 → K (1 + 1) W))) ∧ (x = 1 → K (W 0 1) W) ∧ (x = 2 → (¬ W 16 0 = -4 → K (W 17 0) W) ∧ (W 16 0 = -4 → K (-4) W)) ∧ (x = 3 → K (nI (so_f H)) W) ∧ (¬ x = 0 → ¬ x = 1 → ¬ x = 2 → ¬ x = 3 → K (-1) W)) → wp_Model_count a W K := by
    intro K x ex h
    intro y ey
    rw [← ex] at ey
    subst ey
    obtain ⟨h0, h1, h2, h3, h4⟩ := h
    rw [j0, j1]
    exact ⟨fun c => ⟨v0, fun d => ⟨v1, fun e => ((h0 c).1 d).1 e, fun e => ((h0 c).1 d).2 e⟩, fun d => ⟨v1, fun e => ((h0 c).2 d).1 e, fun e => ((h0 c).2 d).2 e⟩⟩, h1, fun c => ⟨u0, fun d => ⟨u0, (h2 c).1 d⟩, fun d => (h2 c).2 d⟩, fun c => mt_orders r.2.1 H1 H5 (h3 c), h4⟩
  have lit : ∀ {u v : Int32}, (u = v → False) → ∀ {Z : Prop}, u = v → Z := fun h _ e => absurd e h
  intro x ex
  rw [j0, j1]
  refine ⟨fun c => ⟨v0, fun d => ⟨v1, fun e => ?_, fun e => ?_⟩, fun d => ⟨v1, fun e => ?_, fun e => ?_⟩⟩, fun c => ?_, fun c => ⟨u0, fun d => ⟨u0, ?_⟩, fun d => ?_⟩, fun c => ?_, fun c0 c1 c2 c3 => ?_⟩
  · refine way _ x ex ⟨fun _ => ⟨fun _ => ⟨fun _ => ⟨rfl, hP⟩, fun q => absurd (w1.symm.trans e) q⟩, fun q => absurd (w0.symm.trans d) q⟩, ?_, ?_, ?_, fun q => absurd c q⟩ <;> (intro q; rw [c] at q; exact absurd q (by decide))
  · refine way _ x ex ⟨fun _ => ⟨fun _ => ⟨fun q => absurd (w1.trans q) e, fun _ => ⟨rfl, hP⟩⟩, fun q => absurd (w0.symm.trans d) q⟩, ?_, ?_, ?_, fun q => absurd c q⟩ <;> (intro q; rw [c] at q; exact absurd q (by decide))
  · refine way _ x ex ⟨fun _ => ⟨fun q => absurd (w0.trans q) d, fun _ => ⟨fun _ => ⟨rfl, hP⟩, fun q => absurd (w1.symm.trans e) q⟩⟩, ?_, ?_, ?_, fun q => absurd c q⟩ <;> (intro q; rw [c] at q; exact absurd q (by decide))
  · refine way _ x ex ⟨fun _ => ⟨fun q => absurd (w0.trans q) d, fun _ => ⟨fun q => absurd (w1.trans q) e, fun _ => ⟨rfl, hP⟩⟩⟩, ?_, ?_, ?_, fun q => absurd c q⟩ <;> (intro q; rw [c] at q; exact absurd q (by decide))
  · refine way _ x ex ⟨?_, fun _ => ⟨e5, hP⟩, ?_, ?_, fun _ q => absurd c q⟩ <;> (intro q; rw [c] at q; exact absurd q (by decide))
  · refine way _ x ex ⟨?_, ?_, fun _ => ?_, ?_, fun _ _ q => absurd c q⟩
    · intro q; rw [c] at q; exact absurd q (by decide)
    · intro q; rw [c] at q; exact absurd q (by decide)
    · rcases es with ⟨q, -⟩ | ⟨-, q, e⟩
      · exact absurd q d
      · exact ⟨fun _ => ⟨e, hP⟩, fun z => absurd z q⟩
    · intro q; rw [c] at q; exact absurd q (by decide)
  · refine way _ x ex ⟨?_, ?_, fun _ => ?_, ?_, fun _ _ q => absurd c q⟩
    · intro q; rw [c] at q; exact absurd q (by decide)
    · intro q; rw [c] at q; exact absurd q (by decide)
    · rcases es with ⟨-, q⟩ | ⟨q, -⟩
      · exact ⟨fun z => absurd q z, fun _ => ⟨rfl, hP⟩⟩
      · exact absurd d q
    · intro q; rw [c] at q; exact absurd q (by decide)
  · rw [hH]
    refine xt_orders H1 H5 (way _ x ex ⟨?_, ?_, ?_, fun _ => ⟨rfl, hP⟩, fun _ _ _ q => absurd c q⟩) <;> (intro q; rw [c] at q; exact absurd q (by decide))
  · exact way _ x ex ⟨fun q => absurd q c0, fun q => absurd q c1, fun q => absurd q c2, fun q => absurd q c3, fun _ _ _ _ => ⟨rfl, hP⟩⟩
theorem xt_isSheet {a : Int32} {M : zMem} {Q : Int32 → zMem → Prop} (ht : ∀ i, i < 4 → a = nI i → Q 1 M) (hf : ¬ (0 ≤ a ∧ a ≤ 3) → Q 0 M) : wp_Main_isSheet a M Q := by
  refine ⟨fun c => hf (fun q => absurd c (Int32.not_lt.mpr q.1)), fun c => ⟨fun c2 => hf (fun q => ?_), fun c2 => ?_⟩⟩
  · exact absurd (Int32.le_trans c2 q.2) (by decide)
  · obtain ⟨i, hi, rfl⟩ := nI_of c
    exact ht i ((nI_ltI (b := 4) (by omega) (by omega)).mp (Int32.not_le.mp c2)) rfl
theorem xt_isLane {a : Int32} {M : zMem} {Q : Int32 → zMem → Prop} (ht : ∀ i, i < 3 → a = nI i → Q 1 M) (hf : ¬ (0 ≤ a ∧ a ≤ 2) → Q 0 M) : wp_Main_isLane a M Q := by
  refine ⟨fun c => hf (fun q => absurd c (Int32.not_lt.mpr q.1)), fun c => ⟨fun c2 => hf (fun q => ?_), fun c2 => ?_⟩⟩
  · exact absurd (Int32.le_trans c2 q.2) (by decide)
  · obtain ⟨i, hi, rfl⟩ := nI_of c
    exact ht i ((nI_ltI (b := 3) (by omega) (by omega)).mp (Int32.not_le.mp c2)) rfl
theorem in_yes {i hi : Nat} {W : zMem} {Q : Int32 → zMem → Prop} {hi' : Int64} (e : hi' = (nI hi).toInt64) (h : i ≤ hi) (hb : hi < 2147483648) (hQ : Q 1 W) : wp_Model_in (nI i).toInt64 0 hi' W Q := mt_in (lo' := 0) (hi' := nI hi) rfl e (fun _ _ => hQ) (fun q => absurd ⟨nI_pos' (by omega), (nI_leI (by omega) (by omega)).mpr h⟩ q)
theorem in_no {a : Int32} {hi : Nat} {W : zMem} {Q : Int32 → zMem → Prop} {hi' : Int64} (e : hi' = (nI hi).toInt64) (h : ¬ (0 ≤ a ∧ a ≤ nI hi)) (hQ : Q 0 W) : wp_Model_in a.toInt64 0 hi' W Q := mt_in (lo' := 0) (hi' := nI hi) rfl e (fun x y => absurd ⟨x, y⟩ h) (fun _ => hQ)
theorem p_sheet {M W : zMem} {a1 a2 a3 : Int32} {P : zMem → zMem → Prop} (hP0 : P M W)
    (hP : ∀ i l z M' W', i < 4 → l < 3 → z ≤ 40 → M' (81 + 2 * i) = upd (upd (M (81 + 2 * i)) 0 (nI l)) 1 (nI z) → (∀ j, j < 40 → M' (81 + 2 * i + 1) j = 0) → (∀ k, k ≠ 81 + 2 * i → k ≠ 81 + 2 * i + 1 → M' k = M k) → W' 16 = upd (W 16) i (nI l) → W' 17 = upd (W 17) i (nI z) → (∀ j, j < 40 → W' 18 (40 * i + j) = 0) → (∀ j, (j < 40 * i ∨ 40 * i + 40 ≤ j) → W' 18 j = W 18 j) → (∀ k, k ≠ 16 → k ≠ 17 → k ≠ 18 → W' k = W k) → P M' W') : wp_Main_sheet a1 a2 a3 M (fun x M' => wp_Model_sheet a1 a2 a3 W (fun y W' => x = y ∧ P M' W')) := by
  refine xt_isSheet (fun i hi ei => ⟨fun q => absurd q (by decide), fun _ => ?_⟩) (fun nh => ⟨fun _ => in_no (hi := 3) rfl nh ⟨fun _ => ⟨rfl, hP0⟩, fun q => absurd rfl q⟩, fun q => absurd rfl q⟩)
  subst ei
  refine xt_isLane (fun l hl el => ⟨fun q => absurd q (by decide), fun _ => ?_⟩) (fun nh => ⟨fun _ => in_yes (hi := 3) rfl (by omega) (by omega) ⟨fun q => absurd q (by decide), fun _ => in_no (hi := 2) rfl nh ⟨fun _ => ⟨rfl, hP0⟩, fun q => absurd rfl q⟩⟩, fun q => absurd rfl q⟩)
  subst el
  have way : ∀ K : Int32 → zMem → Prop, ((a3 ≤ 40 → (0 ≤ a3 → vp_in (nI i) 4 ∧ ∀ zm5 : zMem, zm5 = zup W 16 (ix (nI i)) (nI l) → vp_in (nI i) 4 ∧ ∀ zm6 : zMem, zm6 = zup zm5 17 (ix (nI i)) a3 → ∃ n : Nat, zlp1 (wpB_Model_sheet_56 (nI i) (nI l) a3 K) n 0 zm6) ∧ (¬ 0 ≤ a3 → K (-14) W)) ∧ (¬ a3 ≤ 40 → K (-1) W)) → wp_Model_sheet (nI i) (nI l) a3 W K := fun K h => in_yes (hi := 3) rfl (by omega) (by omega) ⟨fun q => absurd q (by decide), fun _ => in_yes (hi := 2) rfl (by omega) (by omega) ⟨fun q => absurd q (by decide), fun _ => h⟩⟩
  refine ⟨fun c => ⟨fun c2 => ?_, fun c2 => way _ ⟨fun _ => ⟨fun q => absurd q c2, fun _ => ⟨rfl, hP0⟩⟩, fun q => absurd c q⟩⟩, fun c => way _ ⟨fun q => absurd q c, fun _ => ⟨rfl, hP0⟩⟩⟩
  obtain ⟨z, hz, rfl⟩ := nI_of2 (x := a3) (M := 40) (n := 40) rfl (Int32.not_lt.mpr c2) c
  rw [q_ix (by omega)]
  refine ⟨vp_in_nI (by omega) (by omega), ?_⟩
  unfold wp_Sheet_makeNew
  intro M1 e1 M2 e2
  refine zfill_r (c := 81 + 2 * i + 1) (N := 40) (v := 0) (by omega) (fun M3 f1 f2 f3 => ?_)
  refine way _ ⟨fun _ => ⟨fun _ => ⟨vp_in_nI (by omega) (by omega), fun W1 w1 => ⟨vp_in_nI (by omega) (by omega), fun W2 w2 => ?_⟩⟩, fun q => absurd c2 q⟩, fun q => absurd c q⟩
  rw [q_ix (by omega)] at w1 w2
  refine zlp1_r (fun m x W' => ∃ h, x = nI h ∧ h ≤ 40 ∧ m = 40 - h ∧ (∀ j, j < h → W' 18 (40 * i + j) = 0) ∧ (∀ j, (j < 40 * i ∨ 40 * i + 40 ≤ j) → W' 18 j = W2 18 j) ∧ (∀ k, k ≠ 18 → W' k = W2 k)) ?_ (n := 40) ⟨0, rfl, by omega, rfl, fun i hi => absurd hi (by omega), fun _ _ => rfl, fun _ _ => rfl⟩
  rintro m x W' ⟨h, rfl, hh, rfl, i1, i2, i3⟩ J hJ
  refine ⟨fun c => ⟨rfl, ?_⟩, fun c => ?_⟩
  · have := (nI_leI (a := 40) (by omega) (by omega)).mp c
    have e : h = 40 := by omega
    subst e
    refine hP i l z M3 W' hi hl hz ?_ f1 (fun k k1 k2 => ?_) ?_ ?_ i1 (fun j hj => ?_) (fun k k1 k2 k3 => ?_)
    · rw [f3 _ (by omega), e2, zup_eq, e1, zup_eq]
    · rw [f3 _ k2, e2, zup_ne k1, e1, zup_ne k1]
    · rw [i3 _ (by omega), w2, zup_ne (by omega), w1, zup_eq]
    · rw [i3 _ (by omega), w2, zup_eq, w1, zup_ne (by omega)]
    · rw [i2 j hj, w2, zup_ne (by omega), w1, zup_ne (by omega)]
    · rw [i3 k k3, w2, zup_ne k2, w1, zup_ne k1]
  · have hh2 : h < 40 := (nI_ltI (b := 40) (by omega) (by omega)).mp (Int32.not_le.mp c)
    have e3 : 40 * nI i + nI h = nI (40 * i + h) := by simp (disch := omega) only [q_lit, q_add, q_mul, q_sub, q_ix, q_in, q_lt, q_le, q_eq, q_nlt, q_nle, q_ltn, q_len, q_neq, q_eqn, zup_ne, zup_eq, zset_ne, zset_eq, upd_eq, upd_ne, forall_eq, true_and, and_true, true_implies, false_implies, implies_true, not_true_eq_false, not_false_eq_true, and_self, ↓reduceIte, false_and, and_false]
    rw [e3, q_ix (by omega)]
    refine ⟨vp_in_nI (by omega) (by omega), fun W3 w3 y ey => ?_⟩
    rw [ey, nI_1]
    refine hJ (40 - (h + 1)) _ _ (by omega) ⟨h + 1, rfl, by omega, rfl, fun j hj => ?_, fun j hj => ?_, fun d hd => by rw [w3, zup_ne hd]; exact i3 d hd⟩
    · rw [w3, zup_eq]
      by_cases z : j = h
      · rw [z, upd_eq]
      · rw [upd_ne (by omega)]; exact i1 j (by omega)
    · rw [w3, zup_eq, upd_ne (by omega)]; exact i2 j hj
theorem p_lay0 {M W : zMem} {a1 a2 a3 : Int32} {P : zMem → zMem → Prop} (hs : ∀ i, i < 4 → M (81 + 2 * i) 0 = -1 ∧ W 16 i = -4) (hP0 : P M W) : wp_Main_lay a1 a2 a3 M (fun x M' => wp_Model_lay a1 a2 a3 W (fun y W' => x = y ∧ P M' W')) := by
  refine xt_isSheet (fun i hi ei => ⟨fun _ => ?_, fun q => absurd q (by decide)⟩) (fun nh => ⟨fun q => absurd rfl q, fun _ => in_no (hi := 3) rfl nh ⟨fun q => absurd rfl q, fun _ => ⟨rfl, hP0⟩⟩⟩)
  subst ei
  rw [q_ix (by omega)]
  have v : vp_in (nI i) 4 := vp_in_nI (by omega) (by omega)
  refine ⟨v, fun q => absurd (hs i hi).1 q, fun _ => in_yes (hi := 3) rfl (by omega) (by omega) ⟨fun _ => ⟨v, ?_⟩, fun q => absurd q (by decide)⟩⟩
  rw [q_ix (by omega)]
  exact ⟨fun q => absurd (hs i hi).2 q, fun _ => ⟨rfl, hP0⟩⟩
theorem p_feed {M W : zMem} {a : Int64} {P : zMem → zMem → Prop} {z : Nat} (e : M 11 5 = nI z) (e2 : W 0 1 = nI z) (hz : z ≤ 400) (hP0 : P M W)
    (hP : ∀ M' W', z + 8 ≤ 400 → M' 11 = upd (M 11) 5 (nI (z + 8)) → W' 0 = upd (W 0) 1 (nI (z + 8)) → (∀ i, i < 8 → M' 17 (z + i) = vp_nar .byte (((a >>> ((nI (56 - 8 * i)).toInt64 &&& 63)).toInt32).toInt8.toInt32) ∧ W' 1 (z + i) = (((a >>> ((nI (56 - 8 * i)).toInt64 &&& 63)).toInt32) &&& 255)) → (∀ j, (j < z ∨ z + 8 ≤ j) → M' 17 j = M 17 j ∧ W' 1 j = W 1 j) → (∀ k, k ≠ 11 → k ≠ 17 → M' k = M k) → (∀ k, k ≠ 0 → k ≠ 1 → W' k = W k) → P M' W') : wp_Main_feed a M (fun x M' => wp_Model_feed a W (fun y W' => x = y ∧ P M' W')) := by
  unfold wp_Main_feed
  rw [e]
  refine ⟨fun c => ?_, fun c => ?_⟩
  · have hz2 := (nI_leI (b := 392) (by omega) (by omega)).mp c
    refine zlp1_r (fun m x M' => ∃ h, x = nI h ∧ h ≤ 8 ∧ m = 8 - h ∧ M' 11 = upd (M 11) 5 (nI (z + h)) ∧ (∀ i, i < h → M' 17 (z + i) = vp_nar .byte (((a >>> ((nI (56 - 8 * i)).toInt64 &&& 63)).toInt32).toInt8.toInt32)) ∧ (∀ j, (j < z ∨ z + 8 ≤ j) → M' 17 j = M 17 j) ∧ (∀ k, k ≠ 11 → k ≠ 17 → M' k = M k)) ?_ (n := 8) ⟨0, rfl, by omega, rfl, ?_, fun i hi => absurd hi (by omega), fun _ _ => rfl, fun _ _ _ => rfl⟩
    · rintro m x M' ⟨h, rfl, hh, rfl, i1, i2, i3, i4⟩ J hJ
      have y5 : M' 11 5 = nI (z + h) := by rw [i1, upd_eq]
      refine ⟨fun c => ?_, fun c => ?_⟩
      · have := (nI_leI (a := 8) (by omega) (by omega)).mp c
        have eh : h = 8 := by omega
        subst eh
        rw [y5]
        unfold wp_Model_feed
        rw [e2]
        have e8 : nI z + 8 = nI (z + 8) := by rw [show (8 : Int32) = nI 8 from rfl, q_add]
        rw [e8]
        refine ⟨fun _ => ?_, fun q => absurd ((nI_leI (b := 400) (by omega) (by omega)).mpr (by omega)) q⟩
        refine zlp1_r (fun m x W' => ∃ h, (x = if h < 8 then nI (56 - 8 * h) else -8) ∧ h ≤ 8 ∧ m = 8 - h ∧ W' 0 = upd (W 0) 1 (nI (z + h)) ∧ (∀ i, i < h → W' 1 (z + i) = (((a >>> ((nI (56 - 8 * i)).toInt64 &&& 63)).toInt32) &&& 255)) ∧ (∀ j, (j < z ∨ z + 8 ≤ j) → W' 1 j = W 1 j) ∧ (∀ k, k ≠ 0 → k ≠ 1 → W' k = W k)) ?_ (n := 8) ⟨0, by rw [if_pos (by omega)]; rfl, by omega, rfl, ?_, fun i hi => absurd hi (by omega), fun _ _ => rfl, fun _ _ _ => rfl⟩
        · rintro m x W' ⟨h, ex, hh, rfl, k1, k2, k3, k4⟩ J hJ
          have w1 : W' 0 1 = nI (z + h) := by rw [k1, upd_eq]
          refine ⟨fun c => ?_, fun c => ?_⟩
          · have e8 : h = 8 := by
              by_cases q : h < 8
              · rw [if_pos q] at ex
                rw [ex] at c
                exact absurd c (nI_pos (by omega))
              · omega
            subst e8
            rw [w1]
            exact ⟨rfl, hP M' W' (by omega) i1 k1 (fun i hi => ⟨i2 i hi, k2 i hi⟩) (fun j hj => ⟨i3 j hj, k3 j hj⟩) i4 k4⟩
          · have h8 : h < 8 := by
              by_cases q : h < 8
              · exact q
              · rw [if_neg q] at ex
                rw [ex] at c
                exact absurd (by decide) c
            rw [if_pos h8] at ex
            rw [w1, q_ix (by omega), ex]
            refine ⟨vp_in_nI (by omega) (by omega), fun W1 f1 W2 f2 y ey => ?_⟩
            refine hJ (8 - (h + 1)) _ _ (by omega) ⟨h + 1, ?_, by omega, rfl, ?_, fun i hi => ?_, fun j hj => ?_, fun k q0 q1 => ?_⟩
            · rw [ey]
              rcases (show h = 0 ∨ h = 1 ∨ h = 2 ∨ h = 3 ∨ h = 4 ∨ h = 5 ∨ h = 6 ∨ h = 7 by omega) with rfl | rfl | rfl | rfl | rfl | rfl | rfl | rfl <;> decide
            · rw [f2, zup_eq, f1, zup_ne (by omega), w1, k1, show (1 : Int32) = nI 1 from rfl, q_add]
              funext j
              by_cases q : j = 1
              · rw [q, upd_eq, upd_eq]; congr 1
              · rw [upd_ne q, upd_ne q, upd_ne q]
            · rw [f2, zup_ne (by omega), f1, zup_eq]
              by_cases q : i = h
              · rw [q, upd_eq]
              · rw [upd_ne (by omega)]; exact k2 i (by omega)
            · rw [f2, zup_ne (by omega), f1, zup_eq, upd_ne (by omega)]; exact k3 j hj
            · rw [f2, zup_ne q0, f1, zup_ne q1]; exact k4 k q0 q1
        · funext j
          by_cases q : j = 1
          · rw [q, upd_eq]; exact e2
          · rw [upd_ne q]
      · have h8 : h < 8 := (nI_ltI (b := 8) (by omega) (by omega)).mp (Int32.not_le.mp c)
        rw [y5, q_ix (by omega)]
        have es : 8 * (7 - nI h) = nI (56 - 8 * h) := by
          rcases (show h = 0 ∨ h = 1 ∨ h = 2 ∨ h = 3 ∨ h = 4 ∨ h = 5 ∨ h = 6 ∨ h = 7 by omega) with rfl | rfl | rfl | rfl | rfl | rfl | rfl | rfl <;> decide
        rw [es]
        refine ⟨vp_in_nI (by omega) (by omega), fun M1 f1 M2 f2 y ey => ?_⟩
        rw [ey, nI_1]
        refine hJ (8 - (h + 1)) _ _ (by omega) ⟨h + 1, rfl, by omega, rfl, ?_, fun i hi => ?_, fun j hj => ?_, fun k q0 q1 => ?_⟩
        · rw [f2, zup_eq, f1, zup_ne (by omega), y5, i1, show (1 : Int32) = nI 1 from rfl, q_add]
          funext j
          by_cases q : j = 5
          · rw [q, upd_eq, upd_eq]; congr 1
          · rw [upd_ne q, upd_ne q, upd_ne q]
        · rw [f2, zup_ne (by omega), f1, zup_eq]
          by_cases q : i = h
          · rw [q, upd_eq]
          · rw [upd_ne (by omega)]; exact i2 i (by omega)
        · rw [f2, zup_ne (by omega), f1, zup_eq, upd_ne (by omega)]; exact i3 j hj
        · rw [f2, zup_ne q0, f1, zup_ne q1]; exact i4 k q0 q1
    · funext j
      by_cases q : j = 5
      · rw [q, upd_eq]; exact e
      · rw [upd_ne q]
  · unfold wp_Model_feed
    rw [e2]
    have e8 : nI z + 8 = nI (z + 8) := by rw [show (8 : Int32) = nI 8 from rfl, q_add]
    rw [e8]
    refine ⟨fun q => absurd ((nI_leI (b := 392) (by omega) (by omega)).mpr ?_) c, fun _ => ⟨rfl, hP0⟩⟩
    have := (nI_leI (b := 400) (by omega) (by omega)).mp q
    omega
