theorem zc_bm20 : (Int8.ofInt (-20)).toInt32 = ((-20) : Int32) := by decide
theorem zc_bm14 : (Int8.ofInt (-14)).toInt32 = ((-14) : Int32) := by decide
theorem zc_bm12 : (Int8.ofInt (-12)).toInt32 = ((-12) : Int32) := by decide
theorem zc_bm11 : (Int8.ofInt (-11)).toInt32 = ((-11) : Int32) := by decide
theorem zc_bm10 : (Int8.ofInt (-10)).toInt32 = ((-10) : Int32) := by decide
theorem zc_bm4 : (Int8.ofInt (-4)).toInt32 = ((-4) : Int32) := by decide
theorem zc_bm3 : (Int8.ofInt (-3)).toInt32 = ((-3) : Int32) := by decide
theorem zc_bm2 : (Int8.ofInt (-2)).toInt32 = ((-2) : Int32) := by decide
theorem zc_b6 : (Int8.ofInt (6)).toInt32 = (6 : Int32) := by decide
theorem zc_b7 : (Int8.ofInt (7)).toInt32 = (7 : Int32) := by decide
theorem zc_b8 : (Int8.ofInt (8)).toInt32 = (8 : Int32) := by decide
theorem zc_b9 : (Int8.ofInt (9)).toInt32 = (9 : Int32) := by decide
theorem zc_b10 : (Int8.ofInt (10)).toInt32 = (10 : Int32) := by decide
theorem zc_b16 : (Int8.ofInt (16)).toInt32 = (16 : Int32) := by decide
theorem zc_b20 : (Int8.ofInt (20)).toInt32 = (20 : Int32) := by decide
theorem zc_b24 : (Int8.ofInt (24)).toInt32 = (24 : Int32) := by decide
theorem zc_b25 : (Int8.ofInt (25)).toInt32 = (25 : Int32) := by decide
theorem zc_b30 : (Int8.ofInt (30)).toInt32 = (30 : Int32) := by decide
theorem zc_b32 : (Int8.ofInt (32)).toInt32 = (32 : Int32) := by decide
theorem zc_b40 : (Int8.ofInt (40)).toInt32 = (40 : Int32) := by decide
theorem zc_b46 : (Int8.ofInt (46)).toInt32 = (46 : Int32) := by decide
theorem zc_b48 : (Int8.ofInt (48)).toInt32 = (48 : Int32) := by decide
theorem zc_b56 : (Int8.ofInt (56)).toInt32 = (56 : Int32) := by decide
theorem zc_b57 : (Int8.ofInt (57)).toInt32 = (57 : Int32) := by decide
theorem zc_b59 : (Int8.ofInt (59)).toInt32 = (59 : Int32) := by decide
theorem zc_b60 : (Int8.ofInt (60)).toInt32 = (60 : Int32) := by decide
theorem zc_b80 : (Int8.ofInt (80)).toInt32 = (80 : Int32) := by decide
theorem zc_b96 : (Int8.ofInt (96)).toInt32 = (96 : Int32) := by decide
theorem zc_b97 : (Int8.ofInt (97)).toInt32 = (97 : Int32) := by decide
theorem zc_b99 : (Int8.ofInt (99)).toInt32 = (99 : Int32) := by decide
theorem zc_b100 : (Int8.ofInt (100)).toInt32 = (100 : Int32) := by decide
theorem zc_b120 : (Int8.ofInt (120)).toInt32 = (120 : Int32) := by decide
theorem zc_b122 : (Int8.ofInt (122)).toInt32 = (122 : Int32) := by decide
theorem zc_im8 : Int32.ofInt (-8) = ((-8) : Int32) := by decide
theorem zc_im1 : Int32.ofInt (-1) = ((-1) : Int32) := by decide
theorem zc_i0 : Int32.ofInt (0) = (0 : Int32) := by decide
theorem zc_i1 : Int32.ofInt (1) = (1 : Int32) := by decide
theorem zc_i2 : Int32.ofInt (2) = (2 : Int32) := by decide
theorem zc_i3 : Int32.ofInt (3) = (3 : Int32) := by decide
theorem zc_i4 : Int32.ofInt (4) = (4 : Int32) := by decide
theorem zc_i5 : Int32.ofInt (5) = (5 : Int32) := by decide
theorem zc_l0 : Int64.ofNat ((0 : Fin 2) : Nat) = (0 : Int64) := by decide
theorem zc_l1 : Int64.ofNat ((1 : Fin 2) : Nat) = (1 : Int64) := by decide
theorem zc_s255 : (Int16.ofInt (255)).toInt32 = (255 : Int32) := by decide
theorem zc_s392 : (Int16.ofInt (392)).toInt32 = (392 : Int32) := by decide
theorem zc_s400 : (Int16.ofInt (400)).toInt32 = (400 : Int32) := by decide
theorem zc_s600 : (Int16.ofInt (600)).toInt32 = (600 : Int32) := by decide
theorem zc_s9600 : (Int16.ofInt (9600)).toInt32 = (9600 : Int32) := by decide
theorem zc_s9999 : (Int16.ofInt (9999)).toInt32 = (9999 : Int32) := by decide
theorem zk_Told_46 : zCV "HandToHand$Told" 46 "HandToHand$Told" ⟨"HandToHand$Told", "clear", "()V"⟩ prog_11_method_2_code 1 none 0 := ⟨zgoodV zu_376 zu_377 zu_378 zu_2 zu_379, by decide +kernel⟩
theorem zk_Told_49 : zCV "HandToHand$Told" 49 "HandToHand$Told" ⟨"HandToHand$Told", "fillEnds", "()V"⟩ prog_11_method_6_code 2 none 0 := ⟨zgoodV zu_380 zu_381 zu_382 zu_2 zu_383, by decide +kernel⟩
theorem zk_Told_58 : zCV "HandToHand$Told" 58 "HandToHand$Told" ⟨"HandToHand$Told", "copyPacesOf", "(LHandToHand$Told;II)V"⟩ prog_11_method_5_code 4 none 3 := ⟨zgoodV zu_963 zu_924 zu_925 zu_2 zu_926, by decide +kernel⟩
theorem zk_Told_62 : zCV "HandToHand$Told" 62 "HandToHand$Told" ⟨"HandToHand$Told", "paceOf", "(II)I"⟩ prog_11_method_10_code 3 (Option.some .int) 2 := ⟨zgoodV zu_855 zu_717 zu_718 zu_2 zu_719, by decide +kernel⟩
theorem zk_Told_66 : zCV "HandToHand$Told" 66 "HandToHand$Told" ⟨"HandToHand$Told", "unitsOf", "(II)I"⟩ prog_11_method_9_code 3 (Option.some .int) 2 := ⟨zgoodV zu_897 zu_424 zu_425 zu_2 zu_426, by decide +kernel⟩
theorem zk_Handings_19 : zCV "HandToHand$Handings" 19 "HandToHand$Handings" ⟨"HandToHand$Handings", "valueOf", "(II)I"⟩ prog_4_method_3_code 3 (Option.some .int) 2 := ⟨zgoodV zu_880 zu_815 zu_816 zu_6 zu_817, by decide +kernel⟩
theorem zk_Bench_54 : zCV "HandToHand$Bench" 54 "HandToHand$Bench" ⟨"HandToHand$Bench", "makeReady", "()V"⟩ prog_2_method_3_code 2 none 0 := ⟨zgoodV zu_406 zu_407 zu_408 zu_4 zu_409, by decide +kernel⟩
theorem zk_Bench_109 : zCV "HandToHand$Bench" 109 "HandToHand$Told" ⟨"HandToHand$Told", "mayBeLeft", "(III)Z"⟩ prog_11_method_13_code 4 (Option.some .boolean) 3 := ⟨zgoodV zu_443 zu_444 zu_445 zu_2 zu_446, by decide +kernel⟩
theorem zk_Bench_99 : zCV "HandToHand$Bench" 99 "HandToHand$Bench" ⟨"HandToHand$Bench", "goBack", "(II)V"⟩ prog_2_method_10_code 4 none 2 := ⟨zgoodV zu_431 zu_433 zs_2 zu_4 zu_434, by decide +kernel⟩
theorem zk_Bench_113 : zCV "HandToHand$Bench" 113 "HandToHand$Handings" ⟨"HandToHand$Handings", "note", "(IIIII)V"⟩ prog_4_method_2_code 7 none 5 := ⟨zgoodV zu_447 zu_448 zu_449 zu_6 zu_450, by decide +kernel⟩
theorem zk_Bench_83 : zCV "HandToHand$Bench" 83 "HandToHand$Bench" ⟨"HandToHand$Bench", "takeOver", "(I)Z"⟩ prog_2_method_9_code 3 (Option.some .boolean) 1 := ⟨zgoodV zu_439 zu_441 zs_4 zu_4 zu_442, by decide +kernel⟩
theorem zk_Bench_93 : zCV "HandToHand$Bench" 93 "HandToHand$Told" ⟨"HandToHand$Told", "pieceFrom", "(II)I"⟩ prog_11_method_11_code 4 (Option.some .int) 2 := ⟨zgoodV zu_427 zu_428 zu_429 zu_2 zu_430, by decide +kernel⟩
theorem zk_Bench_79 : zCV "HandToHand$Bench" 79 "HandToHand$Bench" ⟨"HandToHand$Bench", "takeNewCoat", "()Z"⟩ prog_2_method_8_code 3 (Option.some .boolean) 0 := ⟨zgoodV zu_435 zu_437 zs_3 zu_4 zu_438, by decide +kernel⟩
theorem zk_Bench_122 : zCV "HandToHand$Bench" 122 "HandToHand$Told" ⟨"HandToHand$Told", "mayBegin", "(II)Z"⟩ prog_11_method_12_code 3 (Option.some .boolean) 2 := ⟨zgoodV zu_455 zu_456 zu_457 zu_2 zu_458, by decide +kernel⟩
theorem zk_Bench_126 : zCV "HandToHand$Bench" 126 "HandToHand$Bench" ⟨"HandToHand$Bench", "isHeldBy", "(II)Z"⟩ prog_2_method_12_code 3 (Option.some .boolean) 2 := ⟨zgoodV zu_459 zu_461 zs_6 zu_4 zu_462, by decide +kernel⟩
theorem zk_Bench_129 : zCV "HandToHand$Bench" 129 "HandToHand$Told" ⟨"HandToHand$Told", "ticksOf", "(III)I"⟩ prog_11_method_14_code 5 (Option.some .int) 3 := ⟨zgoodV zu_463 zu_464 zu_465 zu_2 zu_466, by decide +kernel⟩
theorem zk_Bench_86 : zCV "HandToHand$Bench" 86 "HandToHand$Bench" ⟨"HandToHand$Bench", "startUnit", "(I)Z"⟩ prog_2_method_11_code 2 (Option.some .boolean) 1 := ⟨zgoodV zu_451 zu_453 zs_5 zu_4 zu_454, by decide +kernel⟩
theorem zk_Bench_89 : zCV "HandToHand$Bench" 89 "HandToHand$Told" ⟨"HandToHand$Told", "unitsOf", "(II)I"⟩ prog_11_method_9_code 3 (Option.some .int) 2 := ⟨zgoodV zu_423 zu_424 zu_425 zu_2 zu_426, by decide +kernel⟩
theorem zk_Bench_76 : zCV "HandToHand$Bench" 76 "HandToHand$Bench" ⟨"HandToHand$Bench", "finishUnit", "(I)Z"⟩ prog_2_method_7_code 3 (Option.some .boolean) 1 := ⟨zgoodV zu_419 zu_421 zs_1 zu_4 zu_422, by decide +kernel⟩
theorem zk_Bench_72 : zCV "HandToHand$Bench" 72 "HandToHand$Bench" ⟨"HandToHand$Bench", "act", "(I)Z"⟩ prog_2_method_6_code 2 (Option.some .boolean) 1 := ⟨zgoodV zu_415 zu_417 zs_0 zu_4 zu_418, by decide +kernel⟩
theorem zk_Ring_35 : zCN "HandToHand$Ring" 35 "HandToHand" ⟨"HandToHand", "commonDivisor", "(JJ)J"⟩ prog_1_method_47_code 7 (Option.some .long) 2 := ⟨List.mem_of_getElem? (i := 8) rfl, zu_870, zu_869, zu_1, by decide +kernel⟩
theorem zk_Course_38 : zCV "HandToHand$Course" 38 "HandToHand$Bench" ⟨"HandToHand$Bench", "clear", "()V"⟩ prog_2_method_2_code 2 none 0 := ⟨zgoodV zu_793 zu_403 zu_404 zu_4 zu_405, by decide +kernel⟩
theorem zk_Course_41 : zCV "HandToHand$Course" 41 "HandToHand$Bench" ⟨"HandToHand$Bench", "doAll", "()V"⟩ prog_2_method_5_code 4 none 0 := ⟨zgoodV zu_794 zu_411 zu_412 zu_4 zu_413, by decide +kernel⟩
theorem zk_Course_48 : zCV "HandToHand$Course" 48 "HandToHand$Bench" ⟨"HandToHand$Bench", "leastLeft", "()I"⟩ prog_2_method_13_code 3 (Option.some .int) 0 := ⟨zgoodV zu_796 zu_736 zu_737 zu_4 zu_738, by decide +kernel⟩
theorem zk_Course_52 : zCV "HandToHand$Course" 52 "HandToHand$Bench" ⟨"HandToHand$Bench", "letPass", "(I)V"⟩ prog_2_method_14_code 3 none 1 := ⟨zgoodV zu_797 zu_740 zu_741 zu_4 zu_742, by decide +kernel⟩
theorem zk_Settling_30 : zCV "HandToHand$Settling" 30 "HandToHand$Ring" ⟨"HandToHand$Ring", "lose", "()V"⟩ prog_8_method_2_code 1 none 0 := ⟨zgoodV zu_834 zu_835 zu_836 zu_8 zu_837, by decide +kernel⟩
theorem zk_Settling_43 : zCV "HandToHand$Settling" 43 "HandToHand$Bench" ⟨"HandToHand$Bench", "clear", "()V"⟩ prog_2_method_2_code 2 none 0 := ⟨zgoodV zu_838 zu_403 zu_404 zu_4 zu_405, by decide +kernel⟩
theorem zk_Settling_46 : zCV "HandToHand$Settling" 46 "HandToHand$Bench" ⟨"HandToHand$Bench", "doAll", "()V"⟩ prog_2_method_5_code 4 none 0 := ⟨zgoodV zu_839 zu_411 zu_412 zu_4 zu_413, by decide +kernel⟩
theorem zk_Settling_49 : zCV "HandToHand$Settling" 49 "HandToHand$Bench" ⟨"HandToHand$Bench", "leastLeft", "()I"⟩ prog_2_method_13_code 3 (Option.some .int) 0 := ⟨zgoodV zu_840 zu_736 zu_737 zu_4 zu_738, by decide +kernel⟩
theorem zk_Settling_61 : zCV "HandToHand$Settling" 61 "HandToHand$Bench" ⟨"HandToHand$Bench", "letPass", "(I)V"⟩ prog_2_method_14_code 3 none 1 := ⟨zgoodV zu_842 zu_740 zu_741 zu_4 zu_742, by decide +kernel⟩
theorem zk_Settling_101 : zCV "HandToHand$Settling" 101 "HandToHand$Settling" ⟨"HandToHand$Settling", "clearOthers", "(ILHandToHand$Told;)V"⟩ prog_9_method_4_code 5 none 2 := ⟨zgoodV zu_856 zu_858 zs_33 zu_7 zu_859, by decide +kernel⟩
theorem zk_Settling_87 : zCV "HandToHand$Settling" 87 "HandToHand$Bench" ⟨"HandToHand$Bench", "inOneNumber", "(I)I"⟩ prog_2_method_15_code 3 (Option.some .int) 1 := ⟨zgoodV zu_847 zu_848 zu_849 zu_4 zu_850, by decide +kernel⟩
theorem zk_Settling_97 : zCV "HandToHand$Settling" 97 "HandToHand$Told" ⟨"HandToHand$Told", "learnedThatCounts", "(III)I"⟩ prog_11_method_15_code 5 (Option.some .int) 3 := ⟨zgoodV zu_851 zu_852 zu_853 zu_2 zu_854, by decide +kernel⟩
theorem zk_Settling_65 : zCV "HandToHand$Settling" 65 "HandToHand$Settling" ⟨"HandToHand$Settling", "writeDown", "(LHandToHand$Told;)V"⟩ prog_9_method_3_code 6 none 1 := ⟨zgoodV zu_843 zu_845 zs_32 zu_7 zu_846, by decide +kernel⟩
theorem zk_Settling_69 : zCV "HandToHand$Settling" 69 "HandToHand$Settling" ⟨"HandToHand$Settling", "earlierAlike", "()I"⟩ prog_9_method_5_code 4 (Option.some .int) 0 := ⟨zgoodV zu_860 zu_862 zs_34 zu_7 zu_863, by decide +kernel⟩
theorem zk_Settling_75 : zCV "HandToHand$Settling" 75 "HandToHand$Ring" ⟨"HandToHand$Ring", "close", "(IIII)V"⟩ prog_8_method_3_code 6 none 4 := ⟨zgoodV zu_864 zu_865 zu_866 zu_8 zu_867, by decide +kernel⟩
theorem zk_Orders_21 : zCN "HandToHand$Orders" 21 "HandToHand" ⟨"HandToHand", "numberOfOrders", "(I)I"⟩ prog_1_method_45_code 3 (Option.some .int) 1 := ⟨List.mem_of_getElem? (i := 9) rfl, zu_909, zu_908, zu_1, by decide +kernel⟩
theorem zk_Orders_25 : zCV "HandToHand$Orders" 25 "HandToHand$Orders" ⟨"HandToHand$Orders", "unusedHand", "(III)I"⟩ prog_5_method_4_code 6 (Option.some .int) 3 := ⟨zgoodV zu_919 zu_921 zs_37 zu_9 zu_922, by decide +kernel⟩
theorem zk_Reader_48 : zCV "HandToHand$Reader" 48 "HandToHand$Told" ⟨"HandToHand$Told", "clear", "()V"⟩ prog_11_method_2_code 1 none 0 := ⟨zgoodV zu_526 zu_377 zu_378 zu_2 zu_379, by decide +kernel⟩
theorem zk_Reader_73 : zCV "HandToHand$Reader" 73 "HandToHand$Reader" ⟨"HandToHand$Reader", "refuse", "(II)Z"⟩ prog_7_method_3_code 3 (Option.some .boolean) 2 := ⟨zgoodV zu_601 zu_603 zs_10 zu_3 zu_604, by decide +kernel⟩
theorem zk_Reader_91 : zCV "HandToHand$Reader" 91 "HandToHand$Told" ⟨"HandToHand$Told", "fillEnds", "()V"⟩ prog_11_method_6_code 2 none 0 := ⟨zgoodV zu_677 zu_381 zu_382 zu_2 zu_383, by decide +kernel⟩
theorem zk_Reader_87 : zCV "HandToHand$Reader" 87 "HandToHand$Told" ⟨"HandToHand$Told", "pieceFrom", "(II)I"⟩ prog_11_method_11_code 4 (Option.some .int) 2 := ⟨zgoodV zu_676 zu_428 zu_429 zu_2 zu_430, by decide +kernel⟩
theorem zk_Reader_61 : zCV "HandToHand$Reader" 61 "HandToHand$Reader" ⟨"HandToHand$Reader", "isComplete", "()Z"⟩ prog_7_method_4_code 2 (Option.some .boolean) 0 := ⟨zgoodV zu_669 zu_671 zs_27 zu_3 zu_672, by decide +kernel⟩
theorem zk_Reader_162 : zCV "HandToHand$Reader" 162 "HandToHand$Reader" ⟨"HandToHand$Reader", "isLetter", "(I)Z"⟩ prog_7_method_22_code 2 (Option.some .boolean) 1 := ⟨zgoodV zu_531 zu_533 zs_8 zu_3 zu_534, by decide +kernel⟩
theorem zk_Reader_168 : zCV "HandToHand$Reader" 168 "HandToHand$Reader" ⟨"HandToHand$Reader", "isFigure", "(I)Z"⟩ prog_7_method_23_code 2 (Option.some .boolean) 1 := ⟨zgoodV zu_605 zu_607 zs_11 zu_3 zu_608, by decide +kernel⟩
theorem zk_Reader_171 : zCV "HandToHand$Reader" 171 "HandToHand$Reader" ⟨"HandToHand$Reader", "readFigures", "()Z"⟩ prog_7_method_21_code 1 (Option.some .boolean) 0 := ⟨zgoodV zu_609 zu_611 zs_12 zu_3 zu_612, by decide +kernel⟩
theorem zk_Reader_165 : zCV "HandToHand$Reader" 165 "HandToHand$Reader" ⟨"HandToHand$Reader", "readName", "()Z"⟩ prog_7_method_20_code 4 (Option.some .boolean) 0 := ⟨zgoodV zu_535 zu_537 zs_9 zu_3 zu_538, by decide +kernel⟩
theorem zk_Reader_51 : zCV "HandToHand$Reader" 51 "HandToHand$Reader" ⟨"HandToHand$Reader", "readToken", "()Z"⟩ prog_7_method_19_code 1 (Option.some .boolean) 0 := ⟨zgoodV zu_527 zu_529 zs_7 zu_3 zu_530, by decide +kernel⟩
theorem zk_Reader_140 : zCV "HandToHand$Reader" 140 "HandToHand$Reader" ⟨"HandToHand$Reader", "isWithin", "(II)Z"⟩ prog_7_method_16_code 3 (Option.some .boolean) 2 := ⟨zgoodV zu_625 zu_627 zs_16 zu_3 zu_628, by decide +kernel⟩
theorem zk_Reader_131 : zCV "HandToHand$Reader" 131 "HandToHand$Reader" ⟨"HandToHand$Reader", "readNumber", "(II)Z"⟩ prog_7_method_15_code 3 (Option.some .boolean) 2 := ⟨zgoodV zu_621 zu_623 zs_15 zu_3 zu_624, by decide +kernel⟩
theorem zk_Reader_146 : zCV "HandToHand$Reader" 146 "HandToHand$Reader" ⟨"HandToHand$Reader", "isSign", "()Z"⟩ prog_7_method_18_code 1 (Option.some .boolean) 0 := ⟨zgoodV zu_633 zu_635 zs_18 zu_3 zu_636, by decide +kernel⟩
theorem zk_Reader_125 : zCV "HandToHand$Reader" 125 "HandToHand$Reader" ⟨"HandToHand$Reader", "readSign", "()Z"⟩ prog_7_method_17_code 1 (Option.some .boolean) 0 := ⟨zgoodV zu_629 zu_631 zs_17 zu_3 zu_632, by decide +kernel⟩
theorem zk_Reader_100 : zCV "HandToHand$Reader" 100 "HandToHand$Reader" ⟨"HandToHand$Reader", "readPiece", "()Z"⟩ prog_7_method_7_code 1 (Option.some .boolean) 0 := ⟨zgoodV zu_617 zu_619 zs_14 zu_3 zu_620, by decide +kernel⟩
theorem zk_Reader_103 : zCV "HandToHand$Reader" 103 "HandToHand$Reader" ⟨"HandToHand$Reader", "readWhole", "()Z"⟩ prog_7_method_8_code 1 (Option.some .boolean) 0 := ⟨zgoodV zu_637 zu_639 zs_19 zu_3 zu_640, by decide +kernel⟩
theorem zk_Reader_106 : zCV "HandToHand$Reader" 106 "HandToHand$Reader" ⟨"HandToHand$Reader", "readSort", "()Z"⟩ prog_7_method_9_code 3 (Option.some .boolean) 0 := ⟨zgoodV zu_641 zu_643 zs_20 zu_3 zu_644, by decide +kernel⟩
theorem zk_Reader_112 : zCV "HandToHand$Reader" 112 "HandToHand$Reader" ⟨"HandToHand$Reader", "readOnce", "(I)Z"⟩ prog_7_method_6_code 2 (Option.some .boolean) 1 := ⟨zgoodV zu_649 zu_651 zs_22 zu_3 zu_652, by decide +kernel⟩
theorem zk_Reader_116 : zCV "HandToHand$Reader" 116 "HandToHand$Reader" ⟨"HandToHand$Reader", "readRow", "()Z"⟩ prog_7_method_10_code 3 (Option.some .boolean) 0 := ⟨zgoodV zu_653 zu_655 zs_23 zu_3 zu_656, by decide +kernel⟩
theorem zk_Reader_109 : zCV "HandToHand$Reader" 109 "HandToHand$Reader" ⟨"HandToHand$Reader", "readHand", "()Z"⟩ prog_7_method_11_code 2 (Option.some .boolean) 0 := ⟨zgoodV zu_645 zu_647 zs_21 zu_3 zu_648, by decide +kernel⟩
theorem zk_Reader_119 : zCV "HandToHand$Reader" 119 "HandToHand$Reader" ⟨"HandToHand$Reader", "readWalk", "()Z"⟩ prog_7_method_12_code 1 (Option.some .boolean) 0 := ⟨zgoodV zu_657 zu_659 zs_24 zu_3 zu_660, by decide +kernel⟩
theorem zk_Reader_122 : zCV "HandToHand$Reader" 122 "HandToHand$Reader" ⟨"HandToHand$Reader", "readLearn", "()Z"⟩ prog_7_method_13_code 1 (Option.some .boolean) 0 := ⟨zgoodV zu_661 zu_663 zs_25 zu_3 zu_664, by decide +kernel⟩
theorem zk_Reader_128 : zCV "HandToHand$Reader" 128 "HandToHand$Reader" ⟨"HandToHand$Reader", "readEnds", "(I)Z"⟩ prog_7_method_14_code 4 (Option.some .boolean) 1 := ⟨zgoodV zu_665 zu_667 zs_26 zu_3 zu_668, by decide +kernel⟩
theorem zk_Reader_58 : zCV "HandToHand$Reader" 58 "HandToHand$Reader" ⟨"HandToHand$Reader", "readLine", "()Z"⟩ prog_7_method_5_code 1 (Option.some .boolean) 0 := ⟨zgoodV zu_613 zu_615 zs_13 zu_3 zu_616, by decide +kernel⟩
theorem zk_Main_107 : zCV "HandToHand" 107 "HandToHand$Reader" ⟨"HandToHand$Reader", "readAll", "()Z"⟩ prog_7_method_2_code 3 (Option.some .boolean) 0 := ⟨zgoodV zu_522 zu_523 zu_524 zu_3 zu_525, by decide +kernel⟩
theorem zk_Main_117 : zCV "HandToHand" 117 "HandToHand$Told" ⟨"HandToHand$Told", "copyFrom", "(LHandToHand$Told;)V"⟩ prog_11_method_4_code 2 none 1 := ⟨zgoodV zu_678 zu_679 zu_680 zu_2 zu_681, by decide +kernel⟩
theorem zk_Main_93 : zCV "HandToHand" 93 "HandToHand$Bench" ⟨"HandToHand$Bench", "clear", "()V"⟩ prog_2_method_2_code 2 none 0 := ⟨zgoodV zu_402 zu_403 zu_404 zu_4 zu_405, by decide +kernel⟩
theorem zk_Main_96 : zCV "HandToHand" 96 "HandToHand$Bench" ⟨"HandToHand$Bench", "doAll", "()V"⟩ prog_2_method_5_code 4 none 0 := ⟨zgoodV zu_410 zu_411 zu_412 zu_4 zu_413, by decide +kernel⟩
theorem zk_Main_376 : zCV "HandToHand" 376 "HandToHand$Orders" ⟨"HandToHand$Orders", "forget", "()V"⟩ prog_5_method_2_code 2 none 0 := ⟨zgoodV zu_687 zu_688 zu_689 zu_9 zu_690, by decide +kernel⟩
theorem zk_Main_120 : zCV "HandToHand" 120 "HandToHand" ⟨"HandToHand", "forgetAnswers", "()V"⟩ prog_1_method_48_code 1 none 0 := ⟨zgoodV zu_683 zu_685 zs_28 zu_1 zu_686, by decide +kernel⟩
theorem zk_Main_157 : zCV "HandToHand" 157 "HandToHand" ⟨"HandToHand", "isPiece", "(I)Z"⟩ prog_1_method_37_code 2 (Option.some .boolean) 1 := ⟨zgoodV zu_703 zu_705 zs_29 zu_1 zu_706, by decide +kernel⟩
theorem zk_Main_161 : zCV "HandToHand" 161 "HandToHand$Told" ⟨"HandToHand$Told", "unitsOf", "(II)I"⟩ prog_11_method_9_code 3 (Option.some .int) 2 := ⟨zgoodV zu_707 zu_424 zu_425 zu_2 zu_426, by decide +kernel⟩
theorem zk_Main_165 : zCV "HandToHand" 165 "HandToHand" ⟨"HandToHand", "isHand", "(I)Z"⟩ prog_1_method_38_code 2 (Option.some .boolean) 1 := ⟨zgoodV zu_712 zu_714 zs_30 zu_1 zu_715, by decide +kernel⟩
theorem zk_Main_168 : zCV "HandToHand" 168 "HandToHand$Told" ⟨"HandToHand$Told", "paceOf", "(II)I"⟩ prog_11_method_10_code 3 (Option.some .int) 2 := ⟨zgoodV zu_716 zu_717 zu_718 zu_2 zu_719, by decide +kernel⟩
theorem zk_Main_171 : zCS "HandToHand" 171 ⟨"HandToHand", "isPace", "(I)Z"⟩ prog_1_method_40_code 1 (Option.some .boolean) 1 := ⟨zgoodS zu_724 zu_725 zu_1 zu_726, by decide +kernel⟩
theorem zk_Main_180 : zCV "HandToHand" 180 "HandToHand$Bench" ⟨"HandToHand$Bench", "leastLeft", "()I"⟩ prog_2_method_13_code 3 (Option.some .int) 0 := ⟨zgoodV zu_735 zu_736 zu_737 zu_4 zu_738, by decide +kernel⟩
theorem zk_Main_184 : zCV "HandToHand" 184 "HandToHand$Bench" ⟨"HandToHand$Bench", "letPass", "(I)V"⟩ prog_2_method_14_code 3 none 1 := ⟨zgoodV zu_739 zu_740 zu_741 zu_4 zu_742, by decide +kernel⟩
theorem zk_Main_188 : zCV "HandToHand" 188 "HandToHand$Bench" ⟨"HandToHand$Bench", "coatsInHand", "()I"⟩ prog_2_method_16_code 3 (Option.some .int) 0 := ⟨zgoodV zu_747 zu_748 zu_749 zu_4 zu_750, by decide +kernel⟩
theorem zk_Main_191 : zCV "HandToHand" 191 "HandToHand$Bench" ⟨"HandToHand$Bench", "makeReady", "()V"⟩ prog_2_method_3_code 2 none 0 := ⟨zgoodV zu_751 zu_407 zu_408 zu_4 zu_409, by decide +kernel⟩
theorem zk_Main_224 : zCV "HandToHand" 224 "HandToHand$Told" ⟨"HandToHand$Told", "ticksOf", "(III)I"⟩ prog_11_method_14_code 5 (Option.some .int) 3 := ⟨zgoodV zu_768 zu_464 zu_465 zu_2 zu_466, by decide +kernel⟩
theorem zk_Main_228 : zCV "HandToHand" 228 "HandToHand$Bench" ⟨"HandToHand$Bench", "copyFrom", "(LHandToHand$Bench;)V"⟩ prog_2_method_4_code 2 none 1 := ⟨zgoodV zu_773 zu_774 zu_775 zu_4 zu_776, by decide +kernel⟩
theorem zk_Main_231 : zCS "HandToHand" 231 ⟨"HandToHand", "isRun", "(I)Z"⟩ prog_1_method_41_code 1 (Option.some .boolean) 1 := ⟨zgoodS zu_786 zu_787 zu_1 zu_788, by decide +kernel⟩
theorem zk_Main_234 : zCV "HandToHand" 234 "HandToHand$Course" ⟨"HandToHand$Course", "runFor", "(I)V"⟩ prog_3_method_2_code 4 none 1 := ⟨zgoodV zu_789 zu_790 zu_791 zu_5 zu_792, by decide +kernel⟩
theorem zk_Main_242 : zCV "HandToHand" 242 "HandToHand$Bench" ⟨"HandToHand$Bench", "waitedByAll", "()I"⟩ prog_2_method_17_code 3 (Option.some .int) 0 := ⟨zgoodV zu_798 zu_799 zu_800 zu_4 zu_801, by decide +kernel⟩
theorem zk_Main_245 : zCV "HandToHand" 245 "HandToHand$Bench" ⟨"HandToHand$Bench", "mostStoodAt", "()I"⟩ prog_2_method_18_code 3 (Option.some .int) 0 := ⟨zgoodV zu_802 zu_803 zu_804 zu_4 zu_805, by decide +kernel⟩
theorem zk_Main_256 : zCV "HandToHand" 256 "HandToHand$Handings" ⟨"HandToHand$Handings", "valueOf", "(II)I"⟩ prog_4_method_3_code 3 (Option.some .int) 2 := ⟨zgoodV zu_814 zu_815 zu_816 zu_6 zu_817, by decide +kernel⟩
theorem zk_Main_333 : zCV "HandToHand" 333 "HandToHand$Settling" ⟨"HandToHand$Settling", "settle", "(LHandToHand$Told;LHandToHand$Ring;)V"⟩ prog_9_method_2_code 7 none 2 := ⟨zgoodV zu_830 zu_831 zu_832 zu_7 zu_833, by decide +kernel⟩
theorem zk_Main_259 : zCV "HandToHand" 259 "HandToHand" ⟨"HandToHand", "findRing", "()V"⟩ prog_1_method_49_code 1 none 0 := ⟨zgoodV zu_826 zu_828 zs_31 zu_1 zu_829, by decide +kernel⟩
theorem zk_Main_274 : zCV "HandToHand" 274 "HandToHand$Handings" ⟨"HandToHand$Handings", "placesOf", "(ILHandToHand$Ring;I)I"⟩ prog_4_method_4_code 10 (Option.some .int) 3 := ⟨zgoodV zu_876 zu_877 zu_878 zu_6 zu_879, by decide +kernel⟩
theorem zk_Main_278 : zCS "HandToHand" 278 ⟨"HandToHand", "isHalf", "(I)Z"⟩ prog_1_method_42_code 1 (Option.some .boolean) 1 := ⟨zgoodS zu_885 zu_886 zu_1 zu_887, by decide +kernel⟩
theorem zk_Main_289 : zCV "HandToHand" 289 "HandToHand$Told" ⟨"HandToHand$Told", "ticksAlone", "(I)J"⟩ prog_11_method_16_code 6 (Option.some .long) 1 := ⟨zgoodV zu_893 zu_894 zu_895 zu_2 zu_896, by decide +kernel⟩
theorem zk_Main_293 : zCS "HandToHand" 293 ⟨"HandToHand", "commonDivisor", "(JJ)J"⟩ prog_1_method_47_code 7 (Option.some .long) 2 := ⟨zgoodS zu_898 zu_869 zu_1 zu_870, by decide +kernel⟩
theorem zk_Main_309 : zCS "HandToHand" 309 ⟨"HandToHand", "numberOfOrders", "(I)I"⟩ prog_1_method_45_code 3 (Option.some .int) 1 := ⟨zgoodS zu_907 zu_908 zu_1 zu_909, by decide +kernel⟩
theorem zk_Main_297 : zCV "HandToHand" 297 "HandToHand" ⟨"HandToHand", "isOrder", "(I)Z"⟩ prog_1_method_39_code 2 (Option.some .boolean) 1 := ⟨zgoodV zu_903 zu_905 zs_35 zu_1 zu_906, by decide +kernel⟩
theorem zk_Main_317 : zCV "HandToHand" 317 "HandToHand$Orders" ⟨"HandToHand$Orders", "standAs", "(II)V"⟩ prog_5_method_3_code 9 none 2 := ⟨zgoodV zu_914 zu_915 zu_916 zu_9 zu_917, by decide +kernel⟩
theorem zk_Main_379 : zCV "HandToHand" 379 "HandToHand$Told" ⟨"HandToHand$Told", "copyPacesOf", "(LHandToHand$Told;II)V"⟩ prog_11_method_5_code 4 none 3 := ⟨zgoodV zu_923 zu_924 zu_925 zu_2 zu_926, by decide +kernel⟩
theorem zk_Main_300 : zCV "HandToHand" 300 "HandToHand" ⟨"HandToHand", "findOrder", "(I)V"⟩ prog_1_method_50_code 3 none 1 := ⟨zgoodV zu_910 zu_912 zs_36 zu_1 zu_913, by decide +kernel⟩
theorem zk_Main_313 : zCS "HandToHand" 313 ⟨"HandToHand", "isMore", "(JJJJ)Z"⟩ prog_1_method_46_code 8 (Option.some .boolean) 4 := ⟨zgoodS zu_931 zu_932 zu_1 zu_933, by decide +kernel⟩
theorem zk_Main_386 : zCV "HandToHand" 386 "HandToHand$Told" ⟨"HandToHand$Told", "moveEnds", "()Z"⟩ prog_11_method_8_code 4 (Option.some .boolean) 0 := ⟨zgoodV zu_951 zu_952 zu_953 zu_2 zu_954, by decide +kernel⟩
theorem zk_Main_383 : zCV "HandToHand" 383 "HandToHand$Parts" ⟨"HandToHand$Parts", "takeFrom", "(LHandToHand$Told;LHandToHand$Ring;)V"⟩ prog_6_method_2_code 3 none 2 := ⟨zgoodV zu_946 zu_947 zu_948 zu_10 zu_949, by decide +kernel⟩
theorem zk_Main_324 : zCV "HandToHand" 324 "HandToHand" ⟨"HandToHand", "findParts", "()V"⟩ prog_1_method_51_code 3 none 0 := ⟨zgoodV zu_942 zu_944 zs_38 zu_1 zu_945, by decide +kernel⟩
theorem zk_Main_330 : zCV "HandToHand" 330 "HandToHand$Told" ⟨"HandToHand$Told", "dropHand", "(I)V"⟩ prog_11_method_7_code 3 none 1 := ⟨zgoodV zu_959 zu_960 zu_961 zu_2 zu_962, by decide +kernel⟩
theorem zk_Main_337 : zCS "HandToHand" 337 ⟨"HandToHand", "isSheet", "(I)Z"⟩ prog_1_method_43_code 1 (Option.some .boolean) 1 := ⟨zgoodS zu_968 zu_969 zu_1 zu_970, by decide +kernel⟩
theorem zk_Main_340 : zCS "HandToHand" 340 ⟨"HandToHand", "isLane", "(I)Z"⟩ prog_1_method_44_code 1 (Option.some .boolean) 1 := ⟨zgoodS zu_971 zu_972 zu_1 zu_973, by decide +kernel⟩
theorem zk_Main_343 : zCV "HandToHand" 343 "HandToHand$Sheet" ⟨"HandToHand$Sheet", "makeNew", "(II)V"⟩ prog_10_method_2_code 4 none 2 := ⟨zgoodV zu_974 zu_975 zu_976 zu_11 zu_977, by decide +kernel⟩
theorem zk_Main_350 : zCV "HandToHand" 350 "HandToHand$Sheet" ⟨"HandToHand$Sheet", "put", "(II)V"⟩ prog_10_method_3_code 3 none 2 := ⟨zgoodV zu_982 zu_983 zu_984 zu_11 zu_985, by decide +kernel⟩
theorem zk_Main_353 : zCV "HandToHand" 353 "HandToHand$Sheet" ⟨"HandToHand$Sheet", "faultAs", "(I)I"⟩ prog_10_method_4_code 2 (Option.some .int) 1 := ⟨zgoodV zu_990 zu_991 zu_992 zu_11 zu_993, by decide +kernel⟩
theorem zk_Main_356 : zCV "HandToHand" 356 "HandToHand$Sheet" ⟨"HandToHand$Sheet", "wholeRows", "(III)I"⟩ prog_10_method_5_code 5 (Option.some .int) 3 := ⟨zgoodV zu_994 zu_995 zu_996 zu_11 zu_997, by decide +kernel⟩
theorem zk_Main_359 : zCV "HandToHand" 359 "HandToHand" ⟨"HandToHand", "hasPacesAlone", "(LHandToHand$Sheet;I)Z"⟩ prog_1_method_52_code 4 (Option.some .boolean) 2 := ⟨zgoodV zu_998 zu_1000 zs_39 zu_1 zu_1001, by decide +kernel⟩
theorem zk_Main_363 : zCV "HandToHand" 363 "HandToHand" ⟨"HandToHand", "copyPaces", "(LHandToHand$Sheet;II)V"⟩ prog_1_method_53_code 5 none 3 := ⟨zgoodV zu_1002 zu_1004 zs_40 zu_1 zu_1005, by decide +kernel⟩
theorem zk_Model_69 : zCS "HandToHandModel" 69 ⟨"HandToHandModel", "in", "(JJJ)Z"⟩ prog_13_method_3_code 6 (Option.some .boolean) 3 := ⟨zgoodS zu_1149 zu_1150 zu_12 zu_1151, by decide +kernel⟩
theorem zk_Model_82 : zCV "HandToHandModel" 82 "HandToHandModel" ⟨"HandToHandModel", "byteAt", "(I)I"⟩ prog_13_method_6_code 2 (Option.some .int) 1 := ⟨zgoodV zu_1160 zu_1162 zs_42 zu_12 zu_1163, by decide +kernel⟩
theorem zk_Model_103 : zCV "HandToHandModel" 103 "HandToHandModel" ⟨"HandToHandModel", "fails", "(I)V"⟩ prog_13_method_7_code 2 none 1 := ⟨zgoodV zu_1170 zu_1172 zs_44 zu_12 zu_1173, by decide +kernel⟩
theorem zk_Model_99 : zCV "HandToHandModel" 99 "HandToHandModel" ⟨"HandToHandModel", "nameAt", "(II)I"⟩ prog_13_method_8_code 6 (Option.some .int) 2 := ⟨zgoodV zu_1166 zu_1168 zs_43 zu_12 zu_1169, by decide +kernel⟩
theorem zk_Model_111 : zCV "HandToHandModel" 111 "HandToHandModel" ⟨"HandToHandModel", "number", "(II)I"⟩ prog_13_method_10_code 3 (Option.some .int) 2 := ⟨zgoodV zu_1184 zu_1186 zs_47 zu_12 zu_1187, by decide +kernel⟩
theorem zk_Model_114 : zCV "HandToHandModel" 114 "HandToHandModel" ⟨"HandToHandModel", "next", "()V"⟩ prog_13_method_9_code 2 none 0 := ⟨zgoodV zu_1156 zu_1158 zs_41 zu_12 zu_1159, by decide +kernel⟩
theorem zk_Model_124 : zCV "HandToHandModel" 124 "HandToHandModel" ⟨"HandToHandModel", "numbers", "(IIII)V"⟩ prog_13_method_11_code 6 none 4 := ⟨zgoodV zu_1196 zu_1198 zs_50 zu_12 zu_1199, by decide +kernel⟩
theorem zk_Model_131 : zCV "HandToHandModel" 131 "HandToHandModel" ⟨"HandToHandModel", "readPiece", "()V"⟩ prog_13_method_12_code 2 none 0 := ⟨zgoodV zu_1180 zu_1182 zs_46 zu_12 zu_1183, by decide +kernel⟩
theorem zk_Model_134 : zCV "HandToHandModel" 134 "HandToHandModel" ⟨"HandToHandModel", "readWhole", "()V"⟩ prog_13_method_13_code 2 none 0 := ⟨zgoodV zu_1188 zu_1190 zs_48 zu_12 zu_1191, by decide +kernel⟩
theorem zk_Model_137 : zCV "HandToHandModel" 137 "HandToHandModel" ⟨"HandToHandModel", "readSort", "()V"⟩ prog_13_method_14_code 2 none 0 := ⟨zgoodV zu_1192 zu_1194 zs_49 zu_12 zu_1195, by decide +kernel⟩
theorem zk_Model_140 : zCV "HandToHandModel" 140 "HandToHandModel" ⟨"HandToHandModel", "readRow", "()V"⟩ prog_13_method_15_code 3 none 0 := ⟨zgoodV zu_1200 zu_1202 zs_51 zu_12 zu_1203, by decide +kernel⟩
theorem zk_Model_143 : zCV "HandToHandModel" 143 "HandToHandModel" ⟨"HandToHandModel", "readHand", "()V"⟩ prog_13_method_16_code 1 none 0 := ⟨zgoodV zu_1204 zu_1206 zs_52 zu_12 zu_1207, by decide +kernel⟩
theorem zk_Model_146 : zCV "HandToHandModel" 146 "HandToHandModel" ⟨"HandToHandModel", "readEnds", "()V"⟩ prog_13_method_17_code 3 none 0 := ⟨zgoodV zu_1208 zu_1210 zs_53 zu_12 zu_1211, by decide +kernel⟩
theorem zk_Model_149 : zCV "HandToHandModel" 149 "HandToHandModel" ⟨"HandToHandModel", "readLine", "()V"⟩ prog_13_method_18_code 3 none 0 := ⟨zgoodV zu_1176 zu_1178 zs_45 zu_12 zu_1179, by decide +kernel⟩
theorem zk_Model_249 : zCV "HandToHandModel" 249 "HandToHandModel" ⟨"HandToHandModel", "clear", "(I)V"⟩ prog_13_method_29_code 3 none 1 := ⟨zgoodV zu_1220 zu_1222 zs_56 zu_12 zu_1223, by decide +kernel⟩
theorem zk_Model_170 : zCV "HandToHandModel" 170 "HandToHandModel" ⟨"HandToHandModel", "endOf", "(I)I"⟩ prog_13_method_24_code 2 (Option.some .int) 1 := ⟨zgoodV zu_1232 zu_1234 zs_59 zu_12 zu_1235, by decide +kernel⟩
theorem zk_Model_243 : zCV "HandToHandModel" 243 "HandToHandModel" ⟨"HandToHandModel", "asNumbered", "()V"⟩ prog_13_method_36_code 2 none 0 := ⟨zgoodV zu_1228 zu_1230 zs_58 zu_12 zu_1231, by decide +kernel⟩
theorem zk_Model_195 : zCV "HandToHandModel" 195 "HandToHandModel" ⟨"HandToHandModel", "at", "(III)I"⟩ prog_13_method_30_code 4 (Option.some .int) 3 := ⟨zgoodV zu_1244 zu_1246 zs_62 zu_12 zu_1247, by decide +kernel⟩
theorem zk_Model_228 : zCV "HandToHandModel" 228 "HandToHandModel" ⟨"HandToHandModel", "mayBegin", "(II)Z"⟩ prog_13_method_43_code 6 (Option.some .boolean) 2 := ⟨zgoodV zu_1290 zu_1292 zs_73 zu_12 zu_1293, by decide +kernel⟩
theorem zk_Model_201 : zCV "HandToHandModel" 201 "HandToHandModel" ⟨"HandToHandModel", "put", "(IIII)V"⟩ prog_13_method_31_code 5 none 4 := ⟨zgoodV zu_1258 zu_1260 zs_65 zu_12 zu_1261, by decide +kernel⟩
theorem zk_Model_185 : zCV "HandToHandModel" 185 "HandToHandModel" ⟨"HandToHandModel", "learntAt", "(III)I"⟩ prog_13_method_34_code 4 (Option.some .int) 3 := ⟨zgoodV zu_1254 zu_1256 zs_64 zu_12 zu_1257, by decide +kernel⟩
theorem zk_Model_231 : zCV "HandToHandModel" 231 "HandToHandModel" ⟨"HandToHandModel", "ticksOf", "(III)I"⟩ prog_13_method_35_code 5 (Option.some .int) 3 := ⟨zgoodV zu_1294 zu_1296 zs_74 zu_12 zu_1297, by decide +kernel⟩
theorem zk_Model_214 : zCV "HandToHandModel" 214 "HandToHandModel" ⟨"HandToHandModel", "canBeLeft", "(II)Z"⟩ prog_13_method_41_code 5 (Option.some .boolean) 2 := ⟨zgoodV zu_1286 zu_1288 zs_72 zu_12 zu_1289, by decide +kernel⟩
theorem zk_Model_218 : zCV "HandToHandModel" 218 "HandToHandModel" ⟨"HandToHandModel", "of", "(II)I"⟩ prog_13_method_32_code 3 (Option.some .int) 2 := ⟨zgoodV zu_1278 zu_1280 zs_70 zu_12 zu_1281, by decide +kernel⟩
theorem zk_Model_207 : zCV "HandToHandModel" 207 "HandToHandModel" ⟨"HandToHandModel", "more", "(III)V"⟩ prog_13_method_33_code 4 none 3 := ⟨zgoodV zu_1266 zu_1268 zs_67 zu_12 zu_1269, by decide +kernel⟩
theorem zk_Model_198 : zCV "HandToHandModel" 198 "HandToHandModel" ⟨"HandToHandModel", "pieceOr0", "(II)I"⟩ prog_13_method_37_code 4 (Option.some .int) 2 := ⟨zgoodV zu_1274 zu_1276 zs_69 zu_12 zu_1277, by decide +kernel⟩
theorem zk_Model_211 : zCV "HandToHandModel" 211 "HandToHandModel" ⟨"HandToHandModel", "goesBack", "(III)V"⟩ prog_13_method_38_code 5 none 3 := ⟨zgoodV zu_1270 zu_1272 zs_68 zu_12 zu_1273, by decide +kernel⟩
theorem zk_Model_225 : zCV "HandToHandModel" 225 "HandToHandModel" ⟨"HandToHandModel", "takesOver", "(II)Z"⟩ prog_13_method_42_code 5 (Option.some .boolean) 2 := ⟨zgoodV zu_1282 zu_1284 zs_71 zu_12 zu_1285, by decide +kernel⟩
theorem zk_Model_204 : zCV "HandToHandModel" 204 "HandToHandModel" ⟨"HandToHandModel", "pieceFrom", "(II)I"⟩ prog_13_method_39_code 4 (Option.some .int) 2 := ⟨zgoodV zu_1262 zu_1264 zs_66 zu_12 zu_1265, by decide +kernel⟩
theorem zk_Model_221 : zCV "HandToHandModel" 221 "HandToHandModel" ⟨"HandToHandModel", "endsUnit", "(II)V"⟩ prog_13_method_40_code 6 none 2 := ⟨zgoodV zu_1250 zu_1252 zs_63 zu_12 zu_1253, by decide +kernel⟩
theorem zk_Model_234 : zCV "HandToHandModel" 234 "HandToHandModel" ⟨"HandToHandModel", "does", "(II)Z"⟩ prog_13_method_44_code 5 (Option.some .boolean) 2 := ⟨zgoodV zu_1240 zu_1242 zs_61 zu_12 zu_1243, by decide +kernel⟩
theorem zk_Model_237 : zCV "HandToHandModel" 237 "HandToHandModel" ⟨"HandToHandModel", "least", "(I)I"⟩ prog_13_method_46_code 5 (Option.some .int) 1 := ⟨zgoodV zu_1298 zu_1300 zs_75 zu_12 zu_1301, by decide +kernel⟩
theorem zk_Model_246 : zCV "HandToHandModel" 246 "HandToHandModel" ⟨"HandToHandModel", "settle", "(I)V"⟩ prog_13_method_45_code 4 none 1 := ⟨zgoodV zu_1236 zu_1238 zs_60 zu_12 zu_1239, by decide +kernel⟩
theorem zk_Model_180 : zCV "HandToHandModel" 180 "HandToHandModel" ⟨"HandToHandModel", "awake", "()V"⟩ prog_13_method_48_code 1 none 0 := ⟨zgoodV zu_1224 zu_1226 zs_57 zu_12 zu_1227, by decide +kernel⟩
theorem zk_Model_159 : zCV "HandToHandModel" 159 "HandToHandModel" ⟨"HandToHandModel", "beginAnew", "()V"⟩ prog_13_method_49_code 1 none 0 := ⟨zgoodV zu_1216 zu_1218 zs_55 zu_12 zu_1219, by decide +kernel⟩
theorem zk_Model_152 : zCV "HandToHandModel" 152 "HandToHandModel" ⟨"HandToHandModel", "wholeFault", "()I"⟩ prog_13_method_19_code 4 (Option.some .int) 0 := ⟨zgoodV zu_1212 zu_1214 zs_54 zu_12 zu_1215, by decide +kernel⟩
theorem zk_Model_166 : zCV "HandToHandModel" 166 "HandToHandModel" ⟨"HandToHandModel", "isHand", "(I)Z"⟩ prog_13_method_23_code 2 (Option.some .boolean) 1 := ⟨zgoodV zu_1312 zu_1314 zs_76 zu_12 zu_1315, by decide +kernel⟩
theorem zk_Model_175 : zCV "HandToHandModel" 175 "HandToHandModel" ⟨"HandToHandModel", "isPiece", "(I)Z"⟩ prog_13_method_22_code 2 (Option.some .boolean) 1 := ⟨zgoodV zu_1320 zu_1322 zs_77 zu_12 zu_1323, by decide +kernel⟩
theorem zk_Model_254 : zCV "HandToHandModel" 254 "HandToHandModel" ⟨"HandToHandModel", "pass", "(II)V"⟩ prog_13_method_47_code 5 none 2 := ⟨zgoodV zu_1342 zu_1344 zs_78 zu_12 zu_1345, by decide +kernel⟩
theorem zk_Model_262 : zCV "HandToHandModel" 262 "HandToHandModel" ⟨"HandToHandModel", "areSame", "(II)Z"⟩ prog_13_method_60_code 5 (Option.some .boolean) 2 := ⟨zgoodV zu_1395 zu_1397 zs_82 zu_12 zu_1398, by decide +kernel⟩
theorem zk_Model_268 : zCV "HandToHandModel" 268 "HandToHandModel" ⟨"HandToHandModel", "laySeen", "()V"⟩ prog_13_method_59_code 6 none 0 := ⟨zgoodV zu_1387 zu_1389 zs_80 zu_12 zu_1390, by decide +kernel⟩
theorem zk_Model_271 : zCV "HandToHandModel" 271 "HandToHandModel" ⟨"HandToHandModel", "earlier", "()I"⟩ prog_13_method_61_code 2 (Option.some .int) 0 := ⟨zgoodV zu_1391 zu_1393 zs_81 zu_12 zu_1394, by decide +kernel⟩
theorem zk_Model_279 : zCS "HandToHandModel" 279 ⟨"HandToHandModel", "isRun", "(I)Z"⟩ prog_13_method_63_code 1 (Option.some .boolean) 1 := ⟨zgoodS zu_1379 zu_1380 zu_12 zu_1381, by decide +kernel⟩
theorem zk_Model_282 : zCV "HandToHandModel" 282 "HandToHandModel" ⟨"HandToHandModel", "runs", "(IZ)V"⟩ prog_13_method_62_code 4 none 2 := ⟨zgoodV zu_1383 zu_1385 zs_79 zu_12 zu_1386, by decide +kernel⟩
theorem zk_Model_286 : zCV "HandToHandModel" 286 "HandToHandModel" ⟨"HandToHandModel", "oversKept", "()I"⟩ prog_13_method_66_code 1 (Option.some .int) 0 := ⟨zgoodV zu_1407 zu_1409 zs_83 zu_12 zu_1410, by decide +kernel⟩
theorem zk_Model_295 : zCV "HandToHandModel" 295 "HandToHandModel" ⟨"HandToHandModel", "hasRing", "()Z"⟩ prog_13_method_69_code 1 (Option.some .boolean) 0 := ⟨zgoodV zu_1419 zu_1421 zs_84 zu_12 zu_1422, by decide +kernel⟩
theorem zk_Model_301 : zCS "HandToHandModel" 301 ⟨"HandToHandModel", "lowest", "(JJI)J"⟩ prog_13_method_72_code 11 (Option.some .long) 3 := ⟨zgoodS zu_1436 zu_1437 zu_12 zu_1438, by decide +kernel⟩
theorem zk_Model_305 : zCV "HandToHandModel" 305 "HandToHandModel" ⟨"HandToHandModel", "made", "(I)I"⟩ prog_13_method_73_code 2 (Option.some .int) 1 := ⟨zgoodV zu_1432 zu_1434 zs_85 zu_12 zu_1435, by decide +kernel⟩
theorem zk_Model_310 : zCV "HandToHandModel" 310 "HandToHandModel" ⟨"HandToHandModel", "orders", "()I"⟩ prog_13_method_76_code 3 (Option.some .int) 0 := ⟨zgoodV zu_1452 zu_1454 zs_87 zu_12 zu_1455, by decide +kernel⟩
theorem zk_Model_313 : zCV "HandToHandModel" 313 "HandToHandModel" ⟨"HandToHandModel", "isOrder", "(I)Z"⟩ prog_13_method_78_code 2 (Option.some .boolean) 1 := ⟨zgoodV zu_1448 zu_1450 zs_86 zu_12 zu_1451, by decide +kernel⟩
theorem zk_Model_316 : zCV "HandToHandModel" 316 "HandToHandModel" ⟨"HandToHandModel", "layOrder", "(I)V"⟩ prog_13_method_77_code 8 none 1 := ⟨zgoodV zu_1456 zu_1458 zs_88 zu_12 zu_1459, by decide +kernel⟩
theorem zk_Model_328 : zCV "HandToHandModel" 328 "HandToHandModel" ⟨"HandToHandModel", "keepBest", "()V"⟩ prog_13_method_81_code 1 none 0 := ⟨zgoodV zu_1468 zu_1470 zs_90 zu_12 zu_1471, by decide +kernel⟩
theorem zk_Model_325 : zCV "HandToHandModel" 325 "HandToHandModel" ⟨"HandToHandModel", "isMore", "()Z"⟩ prog_13_method_80_code 1 (Option.some .boolean) 0 := ⟨zgoodV zu_1464 zu_1466 zs_89 zu_12 zu_1467, by decide +kernel⟩
theorem zk_Model_331 : zCV "HandToHandModel" 331 "HandToHandModel" ⟨"HandToHandModel", "isLike", "()Z"⟩ prog_13_method_85_code 1 (Option.some .boolean) 0 := ⟨zgoodV zu_1480 zu_1482 zs_91 zu_12 zu_1483, by decide +kernel⟩
theorem zk_Model_334 : zCV "HandToHandModel" 334 "HandToHandModel" ⟨"HandToHandModel", "areLess", "()Z"⟩ prog_13_method_86_code 2 (Option.some .boolean) 0 := ⟨zgoodV zu_1484 zu_1486 zs_92 zu_12 zu_1487, by decide +kernel⟩
