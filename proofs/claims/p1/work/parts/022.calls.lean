theorem zc_bm4 : (Int8.ofInt (-4)).toInt32 = ((-4) : Int32) := by decide
theorem zc_b6 : (Int8.ofInt (6)).toInt32 = (6 : Int32) := by decide
theorem zc_b8 : (Int8.ofInt (8)).toInt32 = (8 : Int32) := by decide
theorem zc_b10 : (Int8.ofInt (10)).toInt32 = (10 : Int32) := by decide
theorem zc_b24 : (Int8.ofInt (24)).toInt32 = (24 : Int32) := by decide
theorem zc_b40 : (Int8.ofInt (40)).toInt32 = (40 : Int32) := by decide
theorem zc_b100 : (Int8.ofInt (100)).toInt32 = (100 : Int32) := by decide
theorem zc_im1 : Int32.ofInt (-1) = ((-1) : Int32) := by decide
theorem zc_i0 : Int32.ofInt (0) = (0 : Int32) := by decide
theorem zc_i1 : Int32.ofInt (1) = (1 : Int32) := by decide
theorem zc_i2 : Int32.ofInt (2) = (2 : Int32) := by decide
theorem zc_i3 : Int32.ofInt (3) = (3 : Int32) := by decide
theorem zc_i4 : Int32.ofInt (4) = (4 : Int32) := by decide
theorem zc_i5 : Int32.ofInt (5) = (5 : Int32) := by decide
theorem zc_l0 : Int64.ofNat ((0 : Fin 2) : Nat) = (0 : Int64) := by decide
theorem zc_s600 : (Int16.ofInt (600)).toInt32 = (600 : Int32) := by decide
theorem zk_Told_46 : zCV "HandToHand$Told" 46 "HandToHand$Told" ⟨"HandToHand$Told", "clear", "()V"⟩ prog_11_method_2_code 1 none 0 := ⟨zgoodV zu_376 zu_377 zu_378 zu_2 zu_379, by decide +kernel⟩
theorem zk_Told_49 : zCV "HandToHand$Told" 49 "HandToHand$Told" ⟨"HandToHand$Told", "fillEnds", "()V"⟩ prog_11_method_6_code 2 none 0 := ⟨zgoodV zu_380 zu_381 zu_382 zu_2 zu_383, by decide +kernel⟩
theorem zk_Told_58 : zCV "HandToHand$Told" 58 "HandToHand$Told" ⟨"HandToHand$Told", "copyPacesOf", "(LHandToHand$Told;II)V"⟩ prog_11_method_5_code 4 none 3 := ⟨zgoodV zu_963 zu_924 zu_925 zu_2 zu_926, by decide +kernel⟩
theorem zk_Told_62 : zCV "HandToHand$Told" 62 "HandToHand$Told" ⟨"HandToHand$Told", "paceOf", "(II)I"⟩ prog_11_method_10_code 3 (Option.some .int) 2 := ⟨zgoodV zu_855 zu_717 zu_718 zu_2 zu_719, by decide +kernel⟩
theorem zk_Told_66 : zCV "HandToHand$Told" 66 "HandToHand$Told" ⟨"HandToHand$Told", "unitsOf", "(II)I"⟩ prog_11_method_9_code 3 (Option.some .int) 2 := ⟨zgoodV zu_897 zu_424 zu_425 zu_2 zu_426, by decide +kernel⟩
theorem zk_Handings_19 : zCV "HandToHand$Handings" 19 "HandToHand$Handings" ⟨"HandToHand$Handings", "valueOf", "(II)I"⟩ prog_4_method_3_code 3 (Option.some .int) 2 := ⟨zgoodV zu_880 zu_815 zu_816 zu_6 zu_817, by decide +kernel⟩
theorem zk_Bench_54 : zCV "HandToHand$Bench" 54 "HandToHand$Bench" ⟨"HandToHand$Bench", "makeReady", "()V"⟩ prog_2_method_3_code 2 none 0 := ⟨zgoodV zu_406 zu_407 zu_408 zu_4 zu_409, by decide +kernel⟩
theorem zk_Bench_109 : zCV "HandToHand$Bench" 109 "HandToHand$Told" ⟨"HandToHand$Told", "mayBeLeft", "(III)Z"⟩ prog_11_method_13_code 4 (Option.some .boolean) 3 := ⟨zgoodV zu_443 zu_444 zu_445 zu_2 zu_446, by decide +kernel⟩
theorem zk_Bench_99 : zCV "HandToHand$Bench" 99 "HandToHand$Bench" ⟨"HandToHand$Bench", "goBack", "(II)V"⟩ prog_2_method_10_code 4 none 2 := ⟨zgoodV zu_431 zu_433 zs_2 zu_4 zu_434, by decide +kernel⟩
theorem zk_Bench_113 : zCV "HandToHand$Bench" 113 "HandToHand$Handings" ⟨"HandToHand$Handings", "note", "(IIIII)V"⟩ prog_4_method_2_code 7 none 5 := ⟨zgoodV zu_447 zu_448 zu_449 zu_6 zu_450, by decide +kernel⟩
theorem zk_Bench_83 : zCV "HandToHand$Bench" 83 "HandToHand$Bench" ⟨"HandToHand$Bench", "takeOver", "(I)Z"⟩ prog_2_method_9_code 3 (Option.some .boolean) 1 := ⟨zgoodV zu_439 zu_441 zs_4 zu_4 zu_442, by decide +kernel⟩
theorem zk_Bench_93 : zCV "HandToHand$Bench" 93 "HandToHand$Told" ⟨"HandToHand$Told", "pieceFrom", "(II)I"⟩ prog_11_method_11_code 4 (Option.some .int) 2 := ⟨zgoodV zu_427 zu_428 zu_429 zu_2 zu_430, by decide +kernel⟩
theorem zk_Bench_79 : zCV "HandToHand$Bench" 79 "HandToHand$Bench" ⟨"HandToHand$Bench", "takeNewCoat", "()Z"⟩ prog_2_method_8_code 3 (Option.some .boolean) 0 := ⟨zgoodV zu_435 zu_437 zs_3 zu_4 zu_438, by decide +kernel⟩
theorem zk_Bench_122 : zCV "HandToHand$Bench" 122 "HandToHand$Told" ⟨"HandToHand$Told", "mayBegin", "(II)Z"⟩ prog_11_method_12_code 3 (Option.some .boolean) 2 := ⟨zgoodV zu_455 zu_456 zu_457 zu_2 zu_458, by decide +kernel⟩
theorem zk_Bench_126 : zCV "HandToHand$Bench" 126 "HandToHand$Bench" ⟨"HandToHand$Bench", "isHeldBy", "(II)Z"⟩ prog_2_method_12_code 3 (Option.some .boolean) 2 := ⟨zgoodV zu_459 zu_461 zs_6 zu_4 zu_462, by decide +kernel⟩
theorem zk_Bench_129 : zCV "HandToHand$Bench" 129 "HandToHand$Told" ⟨"HandToHand$Told", "ticksOf", "(III)I"⟩ prog_11_method_14_code 5 (Option.some .int) 3 := ⟨zgoodV zu_463 zu_464 zu_465 zu_2 zu_466, by decide +kernel⟩
theorem zk_Bench_86 : zCV "HandToHand$Bench" 86 "HandToHand$Bench" ⟨"HandToHand$Bench", "startUnit", "(I)Z"⟩ prog_2_method_11_code 2 (Option.some .boolean) 1 := ⟨zgoodV zu_451 zu_453 zs_5 zu_4 zu_454, by decide +kernel⟩
theorem zk_Bench_89 : zCV "HandToHand$Bench" 89 "HandToHand$Told" ⟨"HandToHand$Told", "unitsOf", "(II)I"⟩ prog_11_method_9_code 3 (Option.some .int) 2 := ⟨zgoodV zu_423 zu_424 zu_425 zu_2 zu_426, by decide +kernel⟩
theorem zk_Bench_76 : zCV "HandToHand$Bench" 76 "HandToHand$Bench" ⟨"HandToHand$Bench", "finishUnit", "(I)Z"⟩ prog_2_method_7_code 3 (Option.some .boolean) 1 := ⟨zgoodV zu_419 zu_421 zs_1 zu_4 zu_422, by decide +kernel⟩
theorem zk_Bench_72 : zCV "HandToHand$Bench" 72 "HandToHand$Bench" ⟨"HandToHand$Bench", "act", "(I)Z"⟩ prog_2_method_6_code 2 (Option.some .boolean) 1 := ⟨zgoodV zu_415 zu_417 zs_0 zu_4 zu_418, by decide +kernel⟩
