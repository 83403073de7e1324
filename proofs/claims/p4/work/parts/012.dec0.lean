theorem dX0_init_0 : decode cX0_init 0 = .ok (.aload_n 0, 1) := by decide +kernel
theorem dX0_init_1 : decode cX0_init 1 = .ok (.invokespecial 3, 3) := by decide +kernel
theorem dX0_init_4 : decode cX0_init 4 = .ok (.aload_n 0, 1) := by decide +kernel
theorem dX0_init_5 : decode cX0_init 5 = .ok (.iconst 5, 1) := by decide +kernel
theorem dX0_init_6 : decode cX0_init 6 = .ok (.newarray .int, 2) := by decide +kernel
theorem dX0_init_8 : decode cX0_init 8 = .ok (.putfield 9, 3) := by decide +kernel
theorem dX0_init_11 : decode cX0_init 11 = .ok (.aload_n 0, 1) := by decide +kernel
theorem dX0_init_12 : decode cX0_init 12 = .ok (.iconst 5, 1) := by decide +kernel
theorem dX0_init_13 : decode cX0_init 13 = .ok (.newarray .int, 2) := by decide +kernel
theorem dX0_init_15 : decode cX0_init 15 = .ok (.putfield 15, 3) := by decide +kernel
theorem dX0_init_18 : decode cX0_init 18 = .ok (.aload_n 0, 1) := by decide +kernel
theorem dX0_init_19 : decode cX0_init 19 = .ok (.iconst 5, 1) := by decide +kernel
theorem dX0_init_20 : decode cX0_init 20 = .ok (.newarray .int, 2) := by decide +kernel
theorem dX0_init_22 : decode cX0_init 22 = .ok (.putfield 18, 3) := by decide +kernel
theorem dX0_init_25 : decode cX0_init 25 = .ok (.aload_n 0, 1) := by decide +kernel
theorem dX0_init_26 : decode cX0_init 26 = .ok (.iconst 5, 1) := by decide +kernel
theorem dX0_init_27 : decode cX0_init 27 = .ok (.newarray .int, 2) := by decide +kernel
theorem dX0_init_29 : decode cX0_init 29 = .ok (.putfield 21, 3) := by decide +kernel
theorem dX0_init_32 : decode cX0_init 32 = .ok (.aload_n 0, 1) := by decide +kernel
theorem dX0_init_33 : decode cX0_init 33 = .ok (.iconst 5, 1) := by decide +kernel
theorem dX0_init_34 : decode cX0_init 34 = .ok (.newarray .int, 2) := by decide +kernel
theorem dX0_init_36 : decode cX0_init 36 = .ok (.putfield 24, 3) := by decide +kernel
theorem dX0_init_39 : decode cX0_init 39 = .ok (.aload_n 0, 1) := by decide +kernel
theorem dX0_init_40 : decode cX0_init 40 = .ok (.iconst 5, 1) := by decide +kernel
theorem dX0_init_41 : decode cX0_init 41 = .ok (.newarray .int, 2) := by decide +kernel
theorem dX0_init_43 : decode cX0_init 43 = .ok (.putfield 27, 3) := by decide +kernel
theorem dX0_init_46 : decode cX0_init 46 = .ok (.aload_n 0, 1) := by decide +kernel
theorem dX0_init_47 : decode cX0_init 47 = .ok (.bipush 40, 2) := by decide +kernel
theorem dX0_init_49 : decode cX0_init 49 = .ok (.newarray .int, 2) := by decide +kernel
theorem dX0_init_51 : decode cX0_init 51 = .ok (.putfield 30, 3) := by decide +kernel
theorem dX0_init_54 : decode cX0_init 54 = .ok (.aload_n 0, 1) := by decide +kernel
theorem dX0_init_55 : decode cX0_init 55 = .ok (.bipush 8, 2) := by decide +kernel
theorem dX0_init_57 : decode cX0_init 57 = .ok (.newarray .int, 2) := by decide +kernel
theorem dX0_init_59 : decode cX0_init 59 = .ok (.putfield 33, 3) := by decide +kernel
theorem dX0_init_62 : decode cX0_init 62 = .ok (.aload_n 0, 1) := by decide +kernel
theorem dX0_init_63 : decode cX0_init 63 = .ok (.aload_n 1, 1) := by decide +kernel
theorem dX0_init_64 : decode cX0_init 64 = .ok (.putfield 36, 3) := by decide +kernel
theorem dX0_init_67 : decode cX0_init 67 = .ok (.aload_n 0, 1) := by decide +kernel
theorem dX0_init_68 : decode cX0_init 68 = .ok (.aload_n 2, 1) := by decide +kernel
theorem dX0_init_69 : decode cX0_init 69 = .ok (.putfield 40, 3) := by decide +kernel
theorem dX0_init_72 : decode cX0_init 72 = .ok (.return_, 1) := by decide +kernel
theorem dX0_clear_0 : decode cX0_clear 0 = .ok (.aload_n 0, 1) := by decide +kernel
theorem dX0_clear_1 : decode cX0_clear 1 = .ok (.iconst 0, 1) := by decide +kernel
theorem dX0_clear_2 : decode cX0_clear 2 = .ok (.putfield 44, 3) := by decide +kernel
theorem dX0_clear_5 : decode cX0_clear 5 = .ok (.aload_n 0, 1) := by decide +kernel
theorem dX0_clear_6 : decode cX0_clear 6 = .ok (.iconst 0, 1) := by decide +kernel
theorem dX0_clear_7 : decode cX0_clear 7 = .ok (.putfield 48, 3) := by decide +kernel
theorem dX0_clear_10 : decode cX0_clear 10 = .ok (.aload_n 0, 1) := by decide +kernel
theorem dX0_clear_11 : decode cX0_clear 11 = .ok (.iconst 0, 1) := by decide +kernel
theorem dX0_clear_12 : decode cX0_clear 12 = .ok (.putfield 51, 3) := by decide +kernel
theorem dX0_clear_15 : decode cX0_clear 15 = .ok (.iconst 0, 1) := by decide +kernel
theorem dX0_clear_16 : decode cX0_clear 16 = .ok (.istore_n 1, 1) := by decide +kernel
theorem dX0_clear_17 : decode cX0_clear 17 = .ok (.iload_n 1, 1) := by decide +kernel
theorem dX0_clear_18 : decode cX0_clear 18 = .ok (.iconst 5, 1) := by decide +kernel
theorem dX0_clear_19 : decode cX0_clear 19 = .ok (.if_icmp .ge 16, 3) := by decide +kernel
theorem dX0_clear_22 : decode cX0_clear 22 = .ok (.aload_n 0, 1) := by decide +kernel
theorem dX0_clear_23 : decode cX0_clear 23 = .ok (.getfield 27, 3) := by decide +kernel
theorem dX0_clear_26 : decode cX0_clear 26 = .ok (.iload_n 1, 1) := by decide +kernel
theorem dX0_clear_27 : decode cX0_clear 27 = .ok (.iconst 0, 1) := by decide +kernel
theorem dX0_clear_28 : decode cX0_clear 28 = .ok (.iastore, 1) := by decide +kernel
theorem dX0_clear_29 : decode cX0_clear 29 = .ok (.iinc 1 1, 3) := by decide +kernel
theorem dX0_clear_32 : decode cX0_clear 32 = .ok (.goto (-15), 3) := by decide +kernel
theorem dX0_clear_35 : decode cX0_clear 35 = .ok (.iconst 0, 1) := by decide +kernel
theorem dX0_clear_36 : decode cX0_clear 36 = .ok (.istore_n 1, 1) := by decide +kernel
theorem dX0_clear_37 : decode cX0_clear 37 = .ok (.iload_n 1, 1) := by decide +kernel
theorem dX0_clear_38 : decode cX0_clear 38 = .ok (.bipush 40, 2) := by decide +kernel
theorem dX0_clear_40 : decode cX0_clear 40 = .ok (.if_icmp .ge 16, 3) := by decide +kernel
theorem dX0_clear_43 : decode cX0_clear 43 = .ok (.aload_n 0, 1) := by decide +kernel
theorem dX0_clear_44 : decode cX0_clear 44 = .ok (.getfield 30, 3) := by decide +kernel
theorem dX0_clear_47 : decode cX0_clear 47 = .ok (.iload_n 1, 1) := by decide +kernel
theorem dX0_clear_48 : decode cX0_clear 48 = .ok (.iconst 0, 1) := by decide +kernel
theorem dX0_clear_49 : decode cX0_clear 49 = .ok (.iastore, 1) := by decide +kernel
theorem dX0_clear_50 : decode cX0_clear 50 = .ok (.iinc 1 1, 3) := by decide +kernel
theorem dX0_clear_53 : decode cX0_clear 53 = .ok (.goto (-16), 3) := by decide +kernel
theorem dX0_clear_56 : decode cX0_clear 56 = .ok (.iconst 0, 1) := by decide +kernel
theorem dX0_clear_57 : decode cX0_clear 57 = .ok (.istore_n 1, 1) := by decide +kernel
theorem dX0_clear_58 : decode cX0_clear 58 = .ok (.iload_n 1, 1) := by decide +kernel
theorem dX0_clear_59 : decode cX0_clear 59 = .ok (.bipush 8, 2) := by decide +kernel
theorem dX0_clear_61 : decode cX0_clear 61 = .ok (.if_icmp .ge 16, 3) := by decide +kernel
theorem dX0_clear_64 : decode cX0_clear 64 = .ok (.aload_n 0, 1) := by decide +kernel
theorem dX0_clear_65 : decode cX0_clear 65 = .ok (.getfield 33, 3) := by decide +kernel
theorem dX0_clear_68 : decode cX0_clear 68 = .ok (.iload_n 1, 1) := by decide +kernel
theorem dX0_clear_69 : decode cX0_clear 69 = .ok (.iconst 0, 1) := by decide +kernel
theorem dX0_clear_70 : decode cX0_clear 70 = .ok (.iastore, 1) := by decide +kernel
theorem dX0_clear_71 : decode cX0_clear 71 = .ok (.iinc 1 1, 3) := by decide +kernel
theorem dX0_clear_74 : decode cX0_clear 74 = .ok (.goto (-16), 3) := by decide +kernel
theorem dX0_clear_77 : decode cX0_clear 77 = .ok (.aload_n 0, 1) := by decide +kernel
theorem dX0_clear_78 : decode cX0_clear 78 = .ok (.invokevirtual 54, 3) := by decide +kernel
theorem dX0_clear_81 : decode cX0_clear 81 = .ok (.return_, 1) := by decide +kernel
theorem dX0_makeReady_0 : decode cX0_makeReady 0 = .ok (.aload_n 0, 1) := by decide +kernel
theorem dX0_makeReady_1 : decode cX0_makeReady 1 = .ok (.iconst 0, 1) := by decide +kernel
theorem dX0_makeReady_2 : decode cX0_makeReady 2 = .ok (.putfield 57, 3) := by decide +kernel
theorem dX0_makeReady_5 : decode cX0_makeReady 5 = .ok (.iconst 0, 1) := by decide +kernel
theorem dX0_makeReady_6 : decode cX0_makeReady 6 = .ok (.istore_n 1, 1) := by decide +kernel
theorem dX0_makeReady_7 : decode cX0_makeReady 7 = .ok (.iload_n 1, 1) := by decide +kernel
theorem dX0_makeReady_8 : decode cX0_makeReady 8 = .ok (.iconst 5, 1) := by decide +kernel
theorem dX0_makeReady_9 : decode cX0_makeReady 9 = .ok (.if_icmp .ge 30, 3) := by decide +kernel
theorem dX0_makeReady_12 : decode cX0_makeReady 12 = .ok (.aload_n 0, 1) := by decide +kernel
theorem dX0_makeReady_13 : decode cX0_makeReady 13 = .ok (.getfield 9, 3) := by decide +kernel
theorem dX0_makeReady_16 : decode cX0_makeReady 16 = .ok (.iload_n 1, 1) := by decide +kernel
theorem dX0_makeReady_17 : decode cX0_makeReady 17 = .ok (.iconst 0, 1) := by decide +kernel
theorem dX0_makeReady_18 : decode cX0_makeReady 18 = .ok (.iastore, 1) := by decide +kernel
theorem dX0_makeReady_19 : decode cX0_makeReady 19 = .ok (.aload_n 0, 1) := by decide +kernel
theorem dX0_makeReady_20 : decode cX0_makeReady 20 = .ok (.getfield 15, 3) := by decide +kernel
theorem dX0_makeReady_23 : decode cX0_makeReady 23 = .ok (.iload_n 1, 1) := by decide +kernel
theorem dX0_makeReady_24 : decode cX0_makeReady 24 = .ok (.iconst 0, 1) := by decide +kernel
theorem dX0_makeReady_25 : decode cX0_makeReady 25 = .ok (.iastore, 1) := by decide +kernel
theorem dX0_makeReady_26 : decode cX0_makeReady 26 = .ok (.aload_n 0, 1) := by decide +kernel
theorem dX0_makeReady_27 : decode cX0_makeReady 27 = .ok (.getfield 18, 3) := by decide +kernel
theorem dX0_makeReady_30 : decode cX0_makeReady 30 = .ok (.iload_n 1, 1) := by decide +kernel
theorem dX0_makeReady_31 : decode cX0_makeReady 31 = .ok (.iconst (-1), 1) := by decide +kernel
theorem dX0_makeReady_32 : decode cX0_makeReady 32 = .ok (.iastore, 1) := by decide +kernel
theorem dX0_makeReady_33 : decode cX0_makeReady 33 = .ok (.iinc 1 1, 3) := by decide +kernel
theorem dX0_makeReady_36 : decode cX0_makeReady 36 = .ok (.goto (-29), 3) := by decide +kernel
theorem dX0_makeReady_39 : decode cX0_makeReady 39 = .ok (.return_, 1) := by decide +kernel
theorem dX0_copyFrom_0 : decode cX0_copyFrom 0 = .ok (.aload_n 0, 1) := by decide +kernel
theorem dX0_copyFrom_1 : decode cX0_copyFrom 1 = .ok (.aload_n 1, 1) := by decide +kernel
theorem dX0_copyFrom_2 : decode cX0_copyFrom 2 = .ok (.getfield 44, 3) := by decide +kernel
theorem dX0_copyFrom_5 : decode cX0_copyFrom 5 = .ok (.putfield 44, 3) := by decide +kernel
theorem dX0_copyFrom_8 : decode cX0_copyFrom 8 = .ok (.aload_n 0, 1) := by decide +kernel
theorem dX0_copyFrom_9 : decode cX0_copyFrom 9 = .ok (.aload_n 1, 1) := by decide +kernel
theorem dX0_copyFrom_10 : decode cX0_copyFrom 10 = .ok (.getfield 48, 3) := by decide +kernel
theorem dX0_copyFrom_13 : decode cX0_copyFrom 13 = .ok (.putfield 48, 3) := by decide +kernel
theorem dX0_copyFrom_16 : decode cX0_copyFrom 16 = .ok (.aload_n 0, 1) := by decide +kernel
theorem dX0_copyFrom_17 : decode cX0_copyFrom 17 = .ok (.aload_n 1, 1) := by decide +kernel
theorem dX0_copyFrom_18 : decode cX0_copyFrom 18 = .ok (.getfield 51, 3) := by decide +kernel
theorem dX0_copyFrom_21 : decode cX0_copyFrom 21 = .ok (.putfield 51, 3) := by decide +kernel
theorem dX0_copyFrom_24 : decode cX0_copyFrom 24 = .ok (.aload_n 0, 1) := by decide +kernel
theorem dX0_copyFrom_25 : decode cX0_copyFrom 25 = .ok (.aload_n 1, 1) := by decide +kernel
theorem dX0_copyFrom_26 : decode cX0_copyFrom 26 = .ok (.getfield 57, 3) := by decide +kernel
theorem dX0_copyFrom_29 : decode cX0_copyFrom 29 = .ok (.putfield 57, 3) := by decide +kernel
theorem dX0_copyFrom_32 : decode cX0_copyFrom 32 = .ok (.aload_n 1, 1) := by decide +kernel
theorem dX0_copyFrom_33 : decode cX0_copyFrom 33 = .ok (.getfield 9, 3) := by decide +kernel
theorem dX0_copyFrom_36 : decode cX0_copyFrom 36 = .ok (.iconst 0, 1) := by decide +kernel
theorem dX0_copyFrom_37 : decode cX0_copyFrom 37 = .ok (.aload_n 0, 1) := by decide +kernel
theorem dX0_copyFrom_38 : decode cX0_copyFrom 38 = .ok (.getfield 9, 3) := by decide +kernel
theorem dX0_copyFrom_41 : decode cX0_copyFrom 41 = .ok (.iconst 0, 1) := by decide +kernel
theorem dX0_copyFrom_42 : decode cX0_copyFrom 42 = .ok (.iconst 5, 1) := by decide +kernel
theorem dX0_copyFrom_43 : decode cX0_copyFrom 43 = .ok (.invokestatic 60, 3) := by decide +kernel
theorem dX0_copyFrom_46 : decode cX0_copyFrom 46 = .ok (.aload_n 1, 1) := by decide +kernel
theorem dX0_copyFrom_47 : decode cX0_copyFrom 47 = .ok (.getfield 15, 3) := by decide +kernel
theorem dX0_copyFrom_50 : decode cX0_copyFrom 50 = .ok (.iconst 0, 1) := by decide +kernel
theorem dX0_copyFrom_51 : decode cX0_copyFrom 51 = .ok (.aload_n 0, 1) := by decide +kernel
theorem dX0_copyFrom_52 : decode cX0_copyFrom 52 = .ok (.getfield 15, 3) := by decide +kernel
theorem dX0_copyFrom_55 : decode cX0_copyFrom 55 = .ok (.iconst 0, 1) := by decide +kernel
theorem dX0_copyFrom_56 : decode cX0_copyFrom 56 = .ok (.iconst 5, 1) := by decide +kernel
theorem dX0_copyFrom_57 : decode cX0_copyFrom 57 = .ok (.invokestatic 60, 3) := by decide +kernel
theorem dX0_copyFrom_60 : decode cX0_copyFrom 60 = .ok (.aload_n 1, 1) := by decide +kernel
theorem dX0_copyFrom_61 : decode cX0_copyFrom 61 = .ok (.getfield 18, 3) := by decide +kernel
theorem dX0_copyFrom_64 : decode cX0_copyFrom 64 = .ok (.iconst 0, 1) := by decide +kernel
theorem dX0_copyFrom_65 : decode cX0_copyFrom 65 = .ok (.aload_n 0, 1) := by decide +kernel
theorem dX0_copyFrom_66 : decode cX0_copyFrom 66 = .ok (.getfield 18, 3) := by decide +kernel
theorem dX0_copyFrom_69 : decode cX0_copyFrom 69 = .ok (.iconst 0, 1) := by decide +kernel
theorem dX0_copyFrom_70 : decode cX0_copyFrom 70 = .ok (.iconst 5, 1) := by decide +kernel
theorem dX0_copyFrom_71 : decode cX0_copyFrom 71 = .ok (.invokestatic 60, 3) := by decide +kernel
theorem dX0_copyFrom_74 : decode cX0_copyFrom 74 = .ok (.aload_n 1, 1) := by decide +kernel
theorem dX0_copyFrom_75 : decode cX0_copyFrom 75 = .ok (.getfield 21, 3) := by decide +kernel
theorem dX0_copyFrom_78 : decode cX0_copyFrom 78 = .ok (.iconst 0, 1) := by decide +kernel
theorem dX0_copyFrom_79 : decode cX0_copyFrom 79 = .ok (.aload_n 0, 1) := by decide +kernel
theorem dX0_copyFrom_80 : decode cX0_copyFrom 80 = .ok (.getfield 21, 3) := by decide +kernel
theorem dX0_copyFrom_83 : decode cX0_copyFrom 83 = .ok (.iconst 0, 1) := by decide +kernel
theorem dX0_copyFrom_84 : decode cX0_copyFrom 84 = .ok (.iconst 5, 1) := by decide +kernel
theorem dX0_copyFrom_85 : decode cX0_copyFrom 85 = .ok (.invokestatic 60, 3) := by decide +kernel
theorem dX0_copyFrom_88 : decode cX0_copyFrom 88 = .ok (.aload_n 1, 1) := by decide +kernel
theorem dX0_copyFrom_89 : decode cX0_copyFrom 89 = .ok (.getfield 24, 3) := by decide +kernel
theorem dX0_copyFrom_92 : decode cX0_copyFrom 92 = .ok (.iconst 0, 1) := by decide +kernel
theorem dX0_copyFrom_93 : decode cX0_copyFrom 93 = .ok (.aload_n 0, 1) := by decide +kernel
theorem dX0_copyFrom_94 : decode cX0_copyFrom 94 = .ok (.getfield 24, 3) := by decide +kernel
theorem dX0_copyFrom_97 : decode cX0_copyFrom 97 = .ok (.iconst 0, 1) := by decide +kernel
theorem dX0_copyFrom_98 : decode cX0_copyFrom 98 = .ok (.iconst 5, 1) := by decide +kernel
theorem dX0_copyFrom_99 : decode cX0_copyFrom 99 = .ok (.invokestatic 60, 3) := by decide +kernel
theorem dX0_copyFrom_102 : decode cX0_copyFrom 102 = .ok (.aload_n 1, 1) := by decide +kernel
theorem dX0_copyFrom_103 : decode cX0_copyFrom 103 = .ok (.getfield 27, 3) := by decide +kernel
theorem dX0_copyFrom_106 : decode cX0_copyFrom 106 = .ok (.iconst 0, 1) := by decide +kernel
theorem dX0_copyFrom_107 : decode cX0_copyFrom 107 = .ok (.aload_n 0, 1) := by decide +kernel
theorem dX0_copyFrom_108 : decode cX0_copyFrom 108 = .ok (.getfield 27, 3) := by decide +kernel
theorem dX0_copyFrom_111 : decode cX0_copyFrom 111 = .ok (.iconst 0, 1) := by decide +kernel
theorem dX0_copyFrom_112 : decode cX0_copyFrom 112 = .ok (.iconst 5, 1) := by decide +kernel
theorem dX0_copyFrom_113 : decode cX0_copyFrom 113 = .ok (.invokestatic 60, 3) := by decide +kernel
theorem dX0_copyFrom_116 : decode cX0_copyFrom 116 = .ok (.aload_n 1, 1) := by decide +kernel
theorem dX0_copyFrom_117 : decode cX0_copyFrom 117 = .ok (.getfield 30, 3) := by decide +kernel
theorem dX0_copyFrom_120 : decode cX0_copyFrom 120 = .ok (.iconst 0, 1) := by decide +kernel
theorem dX0_copyFrom_121 : decode cX0_copyFrom 121 = .ok (.aload_n 0, 1) := by decide +kernel
theorem dX0_copyFrom_122 : decode cX0_copyFrom 122 = .ok (.getfield 30, 3) := by decide +kernel
theorem dX0_copyFrom_125 : decode cX0_copyFrom 125 = .ok (.iconst 0, 1) := by decide +kernel
theorem dX0_copyFrom_126 : decode cX0_copyFrom 126 = .ok (.bipush 40, 2) := by decide +kernel
theorem dX0_copyFrom_128 : decode cX0_copyFrom 128 = .ok (.invokestatic 60, 3) := by decide +kernel
theorem dX0_copyFrom_131 : decode cX0_copyFrom 131 = .ok (.return_, 1) := by decide +kernel
theorem dX0_doAll_0 : decode cX0_doAll 0 = .ok (.iconst 1, 1) := by decide +kernel
theorem dX0_doAll_1 : decode cX0_doAll 1 = .ok (.istore_n 1, 1) := by decide +kernel
theorem dX0_doAll_2 : decode cX0_doAll 2 = .ok (.iconst 0, 1) := by decide +kernel
theorem dX0_doAll_3 : decode cX0_doAll 3 = .ok (.istore_n 2, 1) := by decide +kernel
theorem dX0_doAll_4 : decode cX0_doAll 4 = .ok (.iload_n 2, 1) := by decide +kernel
theorem dX0_doAll_5 : decode cX0_doAll 5 = .ok (.ldc 66, 2) := by decide +kernel
theorem dX0_doAll_7 : decode cX0_doAll 7 = .ok (.if_icmp .ge 54, 3) := by decide +kernel
theorem dX0_doAll_10 : decode cX0_doAll 10 = .ok (.iload_n 1, 1) := by decide +kernel
theorem dX0_doAll_11 : decode cX0_doAll 11 = .ok (.ifCond .eq 50, 3) := by decide +kernel
theorem dX0_doAll_14 : decode cX0_doAll 14 = .ok (.iconst 0, 1) := by decide +kernel
theorem dX0_doAll_15 : decode cX0_doAll 15 = .ok (.istore_n 1, 1) := by decide +kernel
theorem dX0_doAll_16 : decode cX0_doAll 16 = .ok (.aload_n 0, 1) := by decide +kernel
theorem dX0_doAll_17 : decode cX0_doAll 17 = .ok (.getfield 36, 3) := by decide +kernel
theorem dX0_doAll_20 : decode cX0_doAll 20 = .ok (.getfield 67, 3) := by decide +kernel
theorem dX0_doAll_23 : decode cX0_doAll 23 = .ok (.iconst 1, 1) := by decide +kernel
theorem dX0_doAll_24 : decode cX0_doAll 24 = .ok (.isub, 1) := by decide +kernel
theorem dX0_doAll_25 : decode cX0_doAll 25 = .ok (.istore_n 3, 1) := by decide +kernel
theorem dX0_doAll_26 : decode cX0_doAll 26 = .ok (.iload_n 3, 1) := by decide +kernel
theorem dX0_doAll_27 : decode cX0_doAll 27 = .ok (.ifCond .lt 28, 3) := by decide +kernel
theorem dX0_doAll_30 : decode cX0_doAll 30 = .ok (.aload_n 0, 1) := by decide +kernel
theorem dX0_doAll_31 : decode cX0_doAll 31 = .ok (.getfield 15, 3) := by decide +kernel
theorem dX0_doAll_34 : decode cX0_doAll 34 = .ok (.iload_n 3, 1) := by decide +kernel
theorem dX0_doAll_35 : decode cX0_doAll 35 = .ok (.iaload, 1) := by decide +kernel
theorem dX0_doAll_36 : decode cX0_doAll 36 = .ok (.ifCond .ne 13, 3) := by decide +kernel
theorem dX0_doAll_39 : decode cX0_doAll 39 = .ok (.aload_n 0, 1) := by decide +kernel
theorem dX0_doAll_40 : decode cX0_doAll 40 = .ok (.iload_n 3, 1) := by decide +kernel
theorem dX0_doAll_41 : decode cX0_doAll 41 = .ok (.invokevirtual 72, 3) := by decide +kernel
theorem dX0_doAll_44 : decode cX0_doAll 44 = .ok (.ifCond .eq 5, 3) := by decide +kernel
theorem dX0_doAll_47 : decode cX0_doAll 47 = .ok (.iconst 1, 1) := by decide +kernel
theorem dX0_doAll_48 : decode cX0_doAll 48 = .ok (.istore_n 1, 1) := by decide +kernel
theorem dX0_doAll_49 : decode cX0_doAll 49 = .ok (.iinc 3 (-1), 3) := by decide +kernel
theorem dX0_doAll_52 : decode cX0_doAll 52 = .ok (.goto (-26), 3) := by decide +kernel
theorem dX0_doAll_55 : decode cX0_doAll 55 = .ok (.iinc 2 1, 3) := by decide +kernel
theorem dX0_doAll_58 : decode cX0_doAll 58 = .ok (.goto (-54), 3) := by decide +kernel
theorem dX0_doAll_61 : decode cX0_doAll 61 = .ok (.return_, 1) := by decide +kernel
theorem dX0_act_0 : decode cX0_act 0 = .ok (.aload_n 0, 1) := by decide +kernel
theorem dX0_act_1 : decode cX0_act 1 = .ok (.getfield 9, 3) := by decide +kernel
theorem dX0_act_4 : decode cX0_act 4 = .ok (.iload_n 1, 1) := by decide +kernel
theorem dX0_act_5 : decode cX0_act 5 = .ok (.iaload, 1) := by decide +kernel
theorem dX0_act_6 : decode cX0_act 6 = .ok (.tableswitch 59 0 3 #[36, 59, 53, 30], 30) := by decide +kernel
theorem dX0_act_36 : decode cX0_act 36 = .ok (.aload_n 0, 1) := by decide +kernel
theorem dX0_act_37 : decode cX0_act 37 = .ok (.iload_n 1, 1) := by decide +kernel
theorem dX0_act_38 : decode cX0_act 38 = .ok (.invokevirtual 76, 3) := by decide +kernel
theorem dX0_act_41 : decode cX0_act 41 = .ok (.ireturn, 1) := by decide +kernel
theorem dX0_act_42 : decode cX0_act 42 = .ok (.iload_n 1, 1) := by decide +kernel
theorem dX0_act_43 : decode cX0_act 43 = .ok (.ifCond .ne 10, 3) := by decide +kernel
theorem dX0_act_46 : decode cX0_act 46 = .ok (.aload_n 0, 1) := by decide +kernel
theorem dX0_act_47 : decode cX0_act 47 = .ok (.invokevirtual 79, 3) := by decide +kernel
theorem dX0_act_50 : decode cX0_act 50 = .ok (.goto 8, 3) := by decide +kernel
theorem dX0_act_53 : decode cX0_act 53 = .ok (.aload_n 0, 1) := by decide +kernel
theorem dX0_act_54 : decode cX0_act 54 = .ok (.iload_n 1, 1) := by decide +kernel
theorem dX0_act_55 : decode cX0_act 55 = .ok (.invokevirtual 83, 3) := by decide +kernel
theorem dX0_act_58 : decode cX0_act 58 = .ok (.ireturn, 1) := by decide +kernel
theorem dX0_act_59 : decode cX0_act 59 = .ok (.aload_n 0, 1) := by decide +kernel
theorem dX0_act_60 : decode cX0_act 60 = .ok (.iload_n 1, 1) := by decide +kernel
theorem dX0_act_61 : decode cX0_act 61 = .ok (.invokevirtual 86, 3) := by decide +kernel
theorem dX0_act_64 : decode cX0_act 64 = .ok (.ireturn, 1) := by decide +kernel
theorem dX0_act_65 : decode cX0_act 65 = .ok (.iconst 0, 1) := by decide +kernel
theorem dX0_act_66 : decode cX0_act 66 = .ok (.ireturn, 1) := by decide +kernel
theorem dX0_finishUnit_0 : decode cX0_finishUnit 0 = .ok (.aload_n 0, 1) := by decide +kernel
theorem dX0_finishUnit_1 : decode cX0_finishUnit 1 = .ok (.getfield 30, 3) := by decide +kernel
theorem dX0_finishUnit_4 : decode cX0_finishUnit 4 = .ok (.iload_n 1, 1) := by decide +kernel
theorem dX0_finishUnit_5 : decode cX0_finishUnit 5 = .ok (.bipush 8, 2) := by decide +kernel
theorem dX0_finishUnit_7 : decode cX0_finishUnit 7 = .ok (.imul, 1) := by decide +kernel
theorem dX0_finishUnit_8 : decode cX0_finishUnit 8 = .ok (.aload_n 0, 1) := by decide +kernel
theorem dX0_finishUnit_9 : decode cX0_finishUnit 9 = .ok (.getfield 18, 3) := by decide +kernel
theorem dX0_finishUnit_12 : decode cX0_finishUnit 12 = .ok (.iload_n 1, 1) := by decide +kernel
theorem dX0_finishUnit_13 : decode cX0_finishUnit 13 = .ok (.iaload, 1) := by decide +kernel
theorem dX0_finishUnit_14 : decode cX0_finishUnit 14 = .ok (.iadd, 1) := by decide +kernel
theorem dX0_finishUnit_15 : decode cX0_finishUnit 15 = .ok (.dup2, 1) := by decide +kernel
theorem dX0_finishUnit_16 : decode cX0_finishUnit 16 = .ok (.iaload, 1) := by decide +kernel
theorem dX0_finishUnit_17 : decode cX0_finishUnit 17 = .ok (.iconst 1, 1) := by decide +kernel
theorem dX0_finishUnit_18 : decode cX0_finishUnit 18 = .ok (.iadd, 1) := by decide +kernel
theorem dX0_finishUnit_19 : decode cX0_finishUnit 19 = .ok (.iastore, 1) := by decide +kernel
theorem dX0_finishUnit_20 : decode cX0_finishUnit 20 = .ok (.aload_n 0, 1) := by decide +kernel
theorem dX0_finishUnit_21 : decode cX0_finishUnit 21 = .ok (.getfield 9, 3) := by decide +kernel
theorem dX0_finishUnit_24 : decode cX0_finishUnit 24 = .ok (.iload_n 1, 1) := by decide +kernel
theorem dX0_finishUnit_25 : decode cX0_finishUnit 25 = .ok (.iconst 2, 1) := by decide +kernel
theorem dX0_finishUnit_26 : decode cX0_finishUnit 26 = .ok (.iastore, 1) := by decide +kernel
theorem dX0_finishUnit_27 : decode cX0_finishUnit 27 = .ok (.aload_n 0, 1) := by decide +kernel
theorem dX0_finishUnit_28 : decode cX0_finishUnit 28 = .ok (.getfield 21, 3) := by decide +kernel
theorem dX0_finishUnit_31 : decode cX0_finishUnit 31 = .ok (.iload_n 1, 1) := by decide +kernel
theorem dX0_finishUnit_32 : decode cX0_finishUnit 32 = .ok (.dup2, 1) := by decide +kernel
theorem dX0_finishUnit_33 : decode cX0_finishUnit 33 = .ok (.iaload, 1) := by decide +kernel
theorem dX0_finishUnit_34 : decode cX0_finishUnit 34 = .ok (.iconst 1, 1) := by decide +kernel
theorem dX0_finishUnit_35 : decode cX0_finishUnit 35 = .ok (.iadd, 1) := by decide +kernel
theorem dX0_finishUnit_36 : decode cX0_finishUnit 36 = .ok (.iastore, 1) := by decide +kernel
theorem dX0_finishUnit_37 : decode cX0_finishUnit 37 = .ok (.aload_n 0, 1) := by decide +kernel
theorem dX0_finishUnit_38 : decode cX0_finishUnit 38 = .ok (.getfield 21, 3) := by decide +kernel
theorem dX0_finishUnit_41 : decode cX0_finishUnit 41 = .ok (.iload_n 1, 1) := by decide +kernel
theorem dX0_finishUnit_42 : decode cX0_finishUnit 42 = .ok (.iaload, 1) := by decide +kernel
theorem dX0_finishUnit_43 : decode cX0_finishUnit 43 = .ok (.aload_n 0, 1) := by decide +kernel
theorem dX0_finishUnit_44 : decode cX0_finishUnit 44 = .ok (.getfield 36, 3) := by decide +kernel
theorem dX0_finishUnit_47 : decode cX0_finishUnit 47 = .ok (.aload_n 0, 1) := by decide +kernel
theorem dX0_finishUnit_48 : decode cX0_finishUnit 48 = .ok (.getfield 24, 3) := by decide +kernel
theorem dX0_finishUnit_51 : decode cX0_finishUnit 51 = .ok (.iload_n 1, 1) := by decide +kernel
theorem dX0_finishUnit_52 : decode cX0_finishUnit 52 = .ok (.iaload, 1) := by decide +kernel
theorem dX0_finishUnit_53 : decode cX0_finishUnit 53 = .ok (.aload_n 0, 1) := by decide +kernel
theorem dX0_finishUnit_54 : decode cX0_finishUnit 54 = .ok (.getfield 18, 3) := by decide +kernel
theorem dX0_finishUnit_57 : decode cX0_finishUnit 57 = .ok (.iload_n 1, 1) := by decide +kernel
theorem dX0_finishUnit_58 : decode cX0_finishUnit 58 = .ok (.iaload, 1) := by decide +kernel
theorem dX0_finishUnit_59 : decode cX0_finishUnit 59 = .ok (.invokevirtual 89, 3) := by decide +kernel
theorem dX0_finishUnit_62 : decode cX0_finishUnit 62 = .ok (.if_icmp .ge 5, 3) := by decide +kernel
theorem dX0_finishUnit_65 : decode cX0_finishUnit 65 = .ok (.iconst 1, 1) := by decide +kernel
theorem dX0_finishUnit_66 : decode cX0_finishUnit 66 = .ok (.ireturn, 1) := by decide +kernel
theorem dX0_finishUnit_67 : decode cX0_finishUnit 67 = .ok (.aload_n 0, 1) := by decide +kernel
theorem dX0_finishUnit_68 : decode cX0_finishUnit 68 = .ok (.getfield 36, 3) := by decide +kernel
theorem dX0_finishUnit_71 : decode cX0_finishUnit 71 = .ok (.aload_n 0, 1) := by decide +kernel
theorem dX0_finishUnit_72 : decode cX0_finishUnit 72 = .ok (.getfield 18, 3) := by decide +kernel
theorem dX0_finishUnit_75 : decode cX0_finishUnit 75 = .ok (.iload_n 1, 1) := by decide +kernel
theorem dX0_finishUnit_76 : decode cX0_finishUnit 76 = .ok (.iaload, 1) := by decide +kernel
theorem dX0_finishUnit_77 : decode cX0_finishUnit 77 = .ok (.iconst 1, 1) := by decide +kernel
theorem dX0_finishUnit_78 : decode cX0_finishUnit 78 = .ok (.iadd, 1) := by decide +kernel
theorem dX0_finishUnit_79 : decode cX0_finishUnit 79 = .ok (.aload_n 0, 1) := by decide +kernel
theorem dX0_finishUnit_80 : decode cX0_finishUnit 80 = .ok (.getfield 24, 3) := by decide +kernel
theorem dX0_finishUnit_83 : decode cX0_finishUnit 83 = .ok (.iload_n 1, 1) := by decide +kernel
theorem dX0_finishUnit_84 : decode cX0_finishUnit 84 = .ok (.iaload, 1) := by decide +kernel
theorem dX0_finishUnit_85 : decode cX0_finishUnit 85 = .ok (.invokevirtual 93, 3) := by decide +kernel
theorem dX0_finishUnit_88 : decode cX0_finishUnit 88 = .ok (.istore_n 2, 1) := by decide +kernel
theorem dX0_finishUnit_89 : decode cX0_finishUnit 89 = .ok (.iload_n 2, 1) := by decide +kernel
theorem dX0_finishUnit_90 : decode cX0_finishUnit 90 = .ok (.aload_n 0, 1) := by decide +kernel
theorem dX0_finishUnit_91 : decode cX0_finishUnit 91 = .ok (.getfield 36, 3) := by decide +kernel
theorem dX0_finishUnit_94 : decode cX0_finishUnit 94 = .ok (.getfield 96, 3) := by decide +kernel
theorem dX0_finishUnit_97 : decode cX0_finishUnit 97 = .ok (.if_icmp .ge 20, 3) := by decide +kernel
theorem dX0_finishUnit_100 : decode cX0_finishUnit 100 = .ok (.aload_n 0, 1) := by decide +kernel
theorem dX0_finishUnit_101 : decode cX0_finishUnit 101 = .ok (.getfield 18, 3) := by decide +kernel
theorem dX0_finishUnit_104 : decode cX0_finishUnit 104 = .ok (.iload_n 1, 1) := by decide +kernel
theorem dX0_finishUnit_105 : decode cX0_finishUnit 105 = .ok (.iload_n 2, 1) := by decide +kernel
theorem dX0_finishUnit_106 : decode cX0_finishUnit 106 = .ok (.iastore, 1) := by decide +kernel
theorem dX0_finishUnit_107 : decode cX0_finishUnit 107 = .ok (.aload_n 0, 1) := by decide +kernel
theorem dX0_finishUnit_108 : decode cX0_finishUnit 108 = .ok (.getfield 21, 3) := by decide +kernel
theorem dX0_finishUnit_111 : decode cX0_finishUnit 111 = .ok (.iload_n 1, 1) := by decide +kernel
theorem dX0_finishUnit_112 : decode cX0_finishUnit 112 = .ok (.iconst 0, 1) := by decide +kernel
theorem dX0_finishUnit_113 : decode cX0_finishUnit 113 = .ok (.iastore, 1) := by decide +kernel
theorem dX0_finishUnit_114 : decode cX0_finishUnit 114 = .ok (.goto 25, 3) := by decide +kernel
theorem dX0_finishUnit_117 : decode cX0_finishUnit 117 = .ok (.aload_n 0, 1) := by decide +kernel
theorem dX0_finishUnit_118 : decode cX0_finishUnit 118 = .ok (.dup, 1) := by decide +kernel
theorem dX0_finishUnit_119 : decode cX0_finishUnit 119 = .ok (.getfield 48, 3) := by decide +kernel
theorem dX0_finishUnit_122 : decode cX0_finishUnit 122 = .ok (.iconst 1, 1) := by decide +kernel
theorem dX0_finishUnit_123 : decode cX0_finishUnit 123 = .ok (.iadd, 1) := by decide +kernel
theorem dX0_finishUnit_124 : decode cX0_finishUnit 124 = .ok (.putfield 48, 3) := by decide +kernel
theorem dX0_finishUnit_127 : decode cX0_finishUnit 127 = .ok (.aload_n 0, 1) := by decide +kernel
theorem dX0_finishUnit_128 : decode cX0_finishUnit 128 = .ok (.iload_n 1, 1) := by decide +kernel
theorem dX0_finishUnit_129 : decode cX0_finishUnit 129 = .ok (.aload_n 0, 1) := by decide +kernel
theorem dX0_finishUnit_130 : decode cX0_finishUnit 130 = .ok (.getfield 36, 3) := by decide +kernel
theorem dX0_finishUnit_133 : decode cX0_finishUnit 133 = .ok (.getfield 96, 3) := by decide +kernel
theorem dX0_finishUnit_136 : decode cX0_finishUnit 136 = .ok (.invokevirtual 99, 3) := by decide +kernel
theorem dX0_finishUnit_139 : decode cX0_finishUnit 139 = .ok (.iconst 1, 1) := by decide +kernel
theorem dX0_finishUnit_140 : decode cX0_finishUnit 140 = .ok (.ireturn, 1) := by decide +kernel
theorem dX0_takeNewCoat_0 : decode cX0_takeNewCoat 0 = .ok (.aload_n 0, 1) := by decide +kernel
theorem dX0_takeNewCoat_1 : decode cX0_takeNewCoat 1 = .ok (.getfield 36, 3) := by decide +kernel
theorem dX0_takeNewCoat_4 : decode cX0_takeNewCoat 4 = .ok (.getfield 103, 3) := by decide +kernel
theorem dX0_takeNewCoat_7 : decode cX0_takeNewCoat 7 = .ok (.aload_n 0, 1) := by decide +kernel
theorem dX0_takeNewCoat_8 : decode cX0_takeNewCoat 8 = .ok (.getfield 57, 3) := by decide +kernel
theorem dX0_takeNewCoat_11 : decode cX0_takeNewCoat 11 = .ok (.iaload, 1) := by decide +kernel
theorem dX0_takeNewCoat_12 : decode cX0_takeNewCoat 12 = .ok (.istore_n 1, 1) := by decide +kernel
theorem dX0_takeNewCoat_13 : decode cX0_takeNewCoat 13 = .ok (.aload_n 0, 1) := by decide +kernel
theorem dX0_takeNewCoat_14 : decode cX0_takeNewCoat 14 = .ok (.getfield 36, 3) := by decide +kernel
theorem dX0_takeNewCoat_17 : decode cX0_takeNewCoat 17 = .ok (.iconst 0, 1) := by decide +kernel
theorem dX0_takeNewCoat_18 : decode cX0_takeNewCoat 18 = .ok (.iload_n 1, 1) := by decide +kernel
theorem dX0_takeNewCoat_19 : decode cX0_takeNewCoat 19 = .ok (.invokevirtual 93, 3) := by decide +kernel
theorem dX0_takeNewCoat_22 : decode cX0_takeNewCoat 22 = .ok (.istore_n 2, 1) := by decide +kernel
theorem dX0_takeNewCoat_23 : decode cX0_takeNewCoat 23 = .ok (.iload_n 2, 1) := by decide +kernel
theorem dX0_takeNewCoat_24 : decode cX0_takeNewCoat 24 = .ok (.aload_n 0, 1) := by decide +kernel
theorem dX0_takeNewCoat_25 : decode cX0_takeNewCoat 25 = .ok (.getfield 36, 3) := by decide +kernel
theorem dX0_takeNewCoat_28 : decode cX0_takeNewCoat 28 = .ok (.getfield 96, 3) := by decide +kernel
theorem dX0_takeNewCoat_31 : decode cX0_takeNewCoat 31 = .ok (.if_icmp .lt 5, 3) := by decide +kernel
theorem dX0_takeNewCoat_34 : decode cX0_takeNewCoat 34 = .ok (.iconst 0, 1) := by decide +kernel
theorem dX0_takeNewCoat_35 : decode cX0_takeNewCoat 35 = .ok (.ireturn, 1) := by decide +kernel
theorem dX0_takeNewCoat_36 : decode cX0_takeNewCoat 36 = .ok (.aload_n 0, 1) := by decide +kernel
theorem dX0_takeNewCoat_37 : decode cX0_takeNewCoat 37 = .ok (.aload_n 0, 1) := by decide +kernel
theorem dX0_takeNewCoat_38 : decode cX0_takeNewCoat 38 = .ok (.getfield 57, 3) := by decide +kernel
theorem dX0_takeNewCoat_41 : decode cX0_takeNewCoat 41 = .ok (.iconst 1, 1) := by decide +kernel
theorem dX0_takeNewCoat_42 : decode cX0_takeNewCoat 42 = .ok (.iadd, 1) := by decide +kernel
theorem dX0_takeNewCoat_43 : decode cX0_takeNewCoat 43 = .ok (.aload_n 0, 1) := by decide +kernel
theorem dX0_takeNewCoat_44 : decode cX0_takeNewCoat 44 = .ok (.getfield 36, 3) := by decide +kernel
theorem dX0_takeNewCoat_47 : decode cX0_takeNewCoat 47 = .ok (.getfield 106, 3) := by decide +kernel
theorem dX0_takeNewCoat_50 : decode cX0_takeNewCoat 50 = .ok (.if_icmp .ge 12, 3) := by decide +kernel
theorem dX0_takeNewCoat_53 : decode cX0_takeNewCoat 53 = .ok (.aload_n 0, 1) := by decide +kernel
theorem dX0_takeNewCoat_54 : decode cX0_takeNewCoat 54 = .ok (.getfield 57, 3) := by decide +kernel
theorem dX0_takeNewCoat_57 : decode cX0_takeNewCoat 57 = .ok (.iconst 1, 1) := by decide +kernel
theorem dX0_takeNewCoat_58 : decode cX0_takeNewCoat 58 = .ok (.iadd, 1) := by decide +kernel
theorem dX0_takeNewCoat_59 : decode cX0_takeNewCoat 59 = .ok (.goto 4, 3) := by decide +kernel
theorem dX0_takeNewCoat_62 : decode cX0_takeNewCoat 62 = .ok (.iconst 0, 1) := by decide +kernel
theorem dX0_takeNewCoat_63 : decode cX0_takeNewCoat 63 = .ok (.putfield 57, 3) := by decide +kernel
theorem dX0_takeNewCoat_66 : decode cX0_takeNewCoat 66 = .ok (.aload_n 0, 1) := by decide +kernel
theorem dX0_takeNewCoat_67 : decode cX0_takeNewCoat 67 = .ok (.getfield 9, 3) := by decide +kernel
theorem dX0_takeNewCoat_70 : decode cX0_takeNewCoat 70 = .ok (.iconst 0, 1) := by decide +kernel
theorem dX0_takeNewCoat_71 : decode cX0_takeNewCoat 71 = .ok (.iconst 2, 1) := by decide +kernel
theorem dX0_takeNewCoat_72 : decode cX0_takeNewCoat 72 = .ok (.iastore, 1) := by decide +kernel
theorem dX0_takeNewCoat_73 : decode cX0_takeNewCoat 73 = .ok (.aload_n 0, 1) := by decide +kernel
theorem dX0_takeNewCoat_74 : decode cX0_takeNewCoat 74 = .ok (.getfield 18, 3) := by decide +kernel
theorem dX0_takeNewCoat_77 : decode cX0_takeNewCoat 77 = .ok (.iconst 0, 1) := by decide +kernel
theorem dX0_takeNewCoat_78 : decode cX0_takeNewCoat 78 = .ok (.iload_n 2, 1) := by decide +kernel
theorem dX0_takeNewCoat_79 : decode cX0_takeNewCoat 79 = .ok (.iastore, 1) := by decide +kernel
theorem dX0_takeNewCoat_80 : decode cX0_takeNewCoat 80 = .ok (.aload_n 0, 1) := by decide +kernel
theorem dX0_takeNewCoat_81 : decode cX0_takeNewCoat 81 = .ok (.getfield 21, 3) := by decide +kernel
theorem dX0_takeNewCoat_84 : decode cX0_takeNewCoat 84 = .ok (.iconst 0, 1) := by decide +kernel
theorem dX0_takeNewCoat_85 : decode cX0_takeNewCoat 85 = .ok (.iconst 0, 1) := by decide +kernel
theorem dX0_takeNewCoat_86 : decode cX0_takeNewCoat 86 = .ok (.iastore, 1) := by decide +kernel
theorem dX0_takeNewCoat_87 : decode cX0_takeNewCoat 87 = .ok (.aload_n 0, 1) := by decide +kernel
theorem dX0_takeNewCoat_88 : decode cX0_takeNewCoat 88 = .ok (.getfield 24, 3) := by decide +kernel
theorem dX0_takeNewCoat_91 : decode cX0_takeNewCoat 91 = .ok (.iconst 0, 1) := by decide +kernel
theorem dX0_takeNewCoat_92 : decode cX0_takeNewCoat 92 = .ok (.iload_n 1, 1) := by decide +kernel
theorem dX0_takeNewCoat_93 : decode cX0_takeNewCoat 93 = .ok (.iastore, 1) := by decide +kernel
theorem dX0_takeNewCoat_94 : decode cX0_takeNewCoat 94 = .ok (.iconst 1, 1) := by decide +kernel
theorem dX0_takeNewCoat_95 : decode cX0_takeNewCoat 95 = .ok (.ireturn, 1) := by decide +kernel
theorem dX0_takeOver_0 : decode cX0_takeOver 0 = .ok (.iload_n 1, 1) := by decide +kernel
theorem dX0_takeOver_1 : decode cX0_takeOver 1 = .ok (.iconst 1, 1) := by decide +kernel
theorem dX0_takeOver_2 : decode cX0_takeOver 2 = .ok (.isub, 1) := by decide +kernel
theorem dX0_takeOver_3 : decode cX0_takeOver 3 = .ok (.istore_n 2, 1) := by decide +kernel
theorem dX0_takeOver_4 : decode cX0_takeOver 4 = .ok (.aload_n 0, 1) := by decide +kernel
theorem dX0_takeOver_5 : decode cX0_takeOver 5 = .ok (.getfield 9, 3) := by decide +kernel
theorem dX0_takeOver_8 : decode cX0_takeOver 8 = .ok (.iload_n 2, 1) := by decide +kernel
theorem dX0_takeOver_9 : decode cX0_takeOver 9 = .ok (.iaload, 1) := by decide +kernel
theorem dX0_takeOver_10 : decode cX0_takeOver 10 = .ok (.iconst 2, 1) := by decide +kernel
theorem dX0_takeOver_11 : decode cX0_takeOver 11 = .ok (.if_icmp .ne 26, 3) := by decide +kernel
theorem dX0_takeOver_14 : decode cX0_takeOver 14 = .ok (.aload_n 0, 1) := by decide +kernel
theorem dX0_takeOver_15 : decode cX0_takeOver 15 = .ok (.getfield 36, 3) := by decide +kernel
theorem dX0_takeOver_18 : decode cX0_takeOver 18 = .ok (.iload_n 2, 1) := by decide +kernel
theorem dX0_takeOver_19 : decode cX0_takeOver 19 = .ok (.aload_n 0, 1) := by decide +kernel
theorem dX0_takeOver_20 : decode cX0_takeOver 20 = .ok (.getfield 18, 3) := by decide +kernel
theorem dX0_takeOver_23 : decode cX0_takeOver 23 = .ok (.iload_n 2, 1) := by decide +kernel
theorem dX0_takeOver_24 : decode cX0_takeOver 24 = .ok (.iaload, 1) := by decide +kernel
theorem dX0_takeOver_25 : decode cX0_takeOver 25 = .ok (.aload_n 0, 1) := by decide +kernel
theorem dX0_takeOver_26 : decode cX0_takeOver 26 = .ok (.getfield 21, 3) := by decide +kernel
theorem dX0_takeOver_29 : decode cX0_takeOver 29 = .ok (.iload_n 2, 1) := by decide +kernel
theorem dX0_takeOver_30 : decode cX0_takeOver 30 = .ok (.iaload, 1) := by decide +kernel
theorem dX0_takeOver_31 : decode cX0_takeOver 31 = .ok (.invokevirtual 109, 3) := by decide +kernel
theorem dX0_takeOver_34 : decode cX0_takeOver 34 = .ok (.ifCond .ne 5, 3) := by decide +kernel
theorem dX0_takeOver_37 : decode cX0_takeOver 37 = .ok (.iconst 0, 1) := by decide +kernel
theorem dX0_takeOver_38 : decode cX0_takeOver 38 = .ok (.ireturn, 1) := by decide +kernel
theorem dX0_takeOver_39 : decode cX0_takeOver 39 = .ok (.aload_n 0, 1) := by decide +kernel
theorem dX0_takeOver_40 : decode cX0_takeOver 40 = .ok (.getfield 9, 3) := by decide +kernel
theorem dX0_takeOver_43 : decode cX0_takeOver 43 = .ok (.iload_n 1, 1) := by decide +kernel
theorem dX0_takeOver_44 : decode cX0_takeOver 44 = .ok (.iconst 2, 1) := by decide +kernel
theorem dX0_takeOver_45 : decode cX0_takeOver 45 = .ok (.iastore, 1) := by decide +kernel
theorem dX0_takeOver_46 : decode cX0_takeOver 46 = .ok (.aload_n 0, 1) := by decide +kernel
theorem dX0_takeOver_47 : decode cX0_takeOver 47 = .ok (.getfield 18, 3) := by decide +kernel
theorem dX0_takeOver_50 : decode cX0_takeOver 50 = .ok (.iload_n 1, 1) := by decide +kernel
theorem dX0_takeOver_51 : decode cX0_takeOver 51 = .ok (.aload_n 0, 1) := by decide +kernel
theorem dX0_takeOver_52 : decode cX0_takeOver 52 = .ok (.getfield 18, 3) := by decide +kernel
theorem dX0_takeOver_55 : decode cX0_takeOver 55 = .ok (.iload_n 2, 1) := by decide +kernel
theorem dX0_takeOver_56 : decode cX0_takeOver 56 = .ok (.iaload, 1) := by decide +kernel
theorem dX0_takeOver_57 : decode cX0_takeOver 57 = .ok (.iastore, 1) := by decide +kernel
theorem dX0_takeOver_58 : decode cX0_takeOver 58 = .ok (.aload_n 0, 1) := by decide +kernel
theorem dX0_takeOver_59 : decode cX0_takeOver 59 = .ok (.getfield 21, 3) := by decide +kernel
theorem dX0_takeOver_62 : decode cX0_takeOver 62 = .ok (.iload_n 1, 1) := by decide +kernel
theorem dX0_takeOver_63 : decode cX0_takeOver 63 = .ok (.aload_n 0, 1) := by decide +kernel
theorem dX0_takeOver_64 : decode cX0_takeOver 64 = .ok (.getfield 21, 3) := by decide +kernel
theorem dX0_takeOver_67 : decode cX0_takeOver 67 = .ok (.iload_n 2, 1) := by decide +kernel
theorem dX0_takeOver_68 : decode cX0_takeOver 68 = .ok (.iaload, 1) := by decide +kernel
theorem dX0_takeOver_69 : decode cX0_takeOver 69 = .ok (.iastore, 1) := by decide +kernel
theorem dX0_takeOver_70 : decode cX0_takeOver 70 = .ok (.aload_n 0, 1) := by decide +kernel
theorem dX0_takeOver_71 : decode cX0_takeOver 71 = .ok (.getfield 24, 3) := by decide +kernel
theorem dX0_takeOver_74 : decode cX0_takeOver 74 = .ok (.iload_n 1, 1) := by decide +kernel
theorem dX0_takeOver_75 : decode cX0_takeOver 75 = .ok (.aload_n 0, 1) := by decide +kernel
theorem dX0_takeOver_76 : decode cX0_takeOver 76 = .ok (.getfield 24, 3) := by decide +kernel
theorem dX0_takeOver_79 : decode cX0_takeOver 79 = .ok (.iload_n 2, 1) := by decide +kernel
theorem dX0_takeOver_80 : decode cX0_takeOver 80 = .ok (.iaload, 1) := by decide +kernel
theorem dX0_takeOver_81 : decode cX0_takeOver 81 = .ok (.iastore, 1) := by decide +kernel
theorem dX0_takeOver_82 : decode cX0_takeOver 82 = .ok (.aload_n 0, 1) := by decide +kernel
theorem dX0_takeOver_83 : decode cX0_takeOver 83 = .ok (.dup, 1) := by decide +kernel
theorem dX0_takeOver_84 : decode cX0_takeOver 84 = .ok (.getfield 51, 3) := by decide +kernel
theorem dX0_takeOver_87 : decode cX0_takeOver 87 = .ok (.iconst 1, 1) := by decide +kernel
theorem dX0_takeOver_88 : decode cX0_takeOver 88 = .ok (.iadd, 1) := by decide +kernel
theorem dX0_takeOver_89 : decode cX0_takeOver 89 = .ok (.putfield 51, 3) := by decide +kernel
theorem dX0_takeOver_92 : decode cX0_takeOver 92 = .ok (.aload_n 0, 1) := by decide +kernel
theorem dX0_takeOver_93 : decode cX0_takeOver 93 = .ok (.getfield 40, 3) := by decide +kernel
theorem dX0_takeOver_96 : decode cX0_takeOver 96 = .ok (.ifnull 33, 3) := by decide +kernel
theorem dX0_takeOver_99 : decode cX0_takeOver 99 = .ok (.aload_n 0, 1) := by decide +kernel
theorem dX0_takeOver_100 : decode cX0_takeOver 100 = .ok (.getfield 40, 3) := by decide +kernel
theorem dX0_takeOver_103 : decode cX0_takeOver 103 = .ok (.aload_n 0, 1) := by decide +kernel
theorem dX0_takeOver_104 : decode cX0_takeOver 104 = .ok (.getfield 44, 3) := by decide +kernel
theorem dX0_takeOver_107 : decode cX0_takeOver 107 = .ok (.iload_n 1, 1) := by decide +kernel
theorem dX0_takeOver_108 : decode cX0_takeOver 108 = .ok (.aload_n 0, 1) := by decide +kernel
theorem dX0_takeOver_109 : decode cX0_takeOver 109 = .ok (.getfield 18, 3) := by decide +kernel
theorem dX0_takeOver_112 : decode cX0_takeOver 112 = .ok (.iload_n 1, 1) := by decide +kernel
theorem dX0_takeOver_113 : decode cX0_takeOver 113 = .ok (.iaload, 1) := by decide +kernel
theorem dX0_takeOver_114 : decode cX0_takeOver 114 = .ok (.aload_n 0, 1) := by decide +kernel
theorem dX0_takeOver_115 : decode cX0_takeOver 115 = .ok (.getfield 21, 3) := by decide +kernel
theorem dX0_takeOver_118 : decode cX0_takeOver 118 = .ok (.iload_n 1, 1) := by decide +kernel
theorem dX0_takeOver_119 : decode cX0_takeOver 119 = .ok (.iaload, 1) := by decide +kernel
theorem dX0_takeOver_120 : decode cX0_takeOver 120 = .ok (.aload_n 0, 1) := by decide +kernel
theorem dX0_takeOver_121 : decode cX0_takeOver 121 = .ok (.getfield 24, 3) := by decide +kernel
theorem dX0_takeOver_124 : decode cX0_takeOver 124 = .ok (.iload_n 1, 1) := by decide +kernel
theorem dX0_takeOver_125 : decode cX0_takeOver 125 = .ok (.iaload, 1) := by decide +kernel
theorem dX0_takeOver_126 : decode cX0_takeOver 126 = .ok (.invokevirtual 113, 3) := by decide +kernel
theorem dX0_takeOver_129 : decode cX0_takeOver 129 = .ok (.aload_n 0, 1) := by decide +kernel
theorem dX0_takeOver_130 : decode cX0_takeOver 130 = .ok (.iload_n 2, 1) := by decide +kernel
theorem dX0_takeOver_131 : decode cX0_takeOver 131 = .ok (.aload_n 0, 1) := by decide +kernel
theorem dX0_takeOver_132 : decode cX0_takeOver 132 = .ok (.getfield 18, 3) := by decide +kernel
theorem dX0_takeOver_135 : decode cX0_takeOver 135 = .ok (.iload_n 2, 1) := by decide +kernel
theorem dX0_takeOver_136 : decode cX0_takeOver 136 = .ok (.iaload, 1) := by decide +kernel
theorem dX0_takeOver_137 : decode cX0_takeOver 137 = .ok (.invokevirtual 99, 3) := by decide +kernel
theorem dX0_takeOver_140 : decode cX0_takeOver 140 = .ok (.iconst 1, 1) := by decide +kernel
theorem dX0_takeOver_141 : decode cX0_takeOver 141 = .ok (.ireturn, 1) := by decide +kernel
theorem dX0_goBack_0 : decode cX0_goBack 0 = .ok (.aload_n 0, 1) := by decide +kernel
theorem dX0_goBack_1 : decode cX0_goBack 1 = .ok (.getfield 18, 3) := by decide +kernel
theorem dX0_goBack_4 : decode cX0_goBack 4 = .ok (.iload_n 1, 1) := by decide +kernel
theorem dX0_goBack_5 : decode cX0_goBack 5 = .ok (.iconst (-1), 1) := by decide +kernel
theorem dX0_goBack_6 : decode cX0_goBack 6 = .ok (.iastore, 1) := by decide +kernel
theorem dX0_goBack_7 : decode cX0_goBack 7 = .ok (.iconst 0, 1) := by decide +kernel
theorem dX0_goBack_8 : decode cX0_goBack 8 = .ok (.istore_n 3, 1) := by decide +kernel
theorem dX0_goBack_9 : decode cX0_goBack 9 = .ok (.iload_n 1, 1) := by decide +kernel
theorem dX0_goBack_10 : decode cX0_goBack 10 = .ok (.ifCond .le 29, 3) := by decide +kernel
theorem dX0_goBack_13 : decode cX0_goBack 13 = .ok (.aload_n 0, 1) := by decide +kernel
theorem dX0_goBack_14 : decode cX0_goBack 14 = .ok (.getfield 18, 3) := by decide +kernel
theorem dX0_goBack_17 : decode cX0_goBack 17 = .ok (.iload_n 1, 1) := by decide +kernel
theorem dX0_goBack_18 : decode cX0_goBack 18 = .ok (.iconst 1, 1) := by decide +kernel
theorem dX0_goBack_19 : decode cX0_goBack 19 = .ok (.isub, 1) := by decide +kernel
theorem dX0_goBack_20 : decode cX0_goBack 20 = .ok (.iaload, 1) := by decide +kernel
theorem dX0_goBack_21 : decode cX0_goBack 21 = .ok (.ifCond .ge 7, 3) := by decide +kernel
theorem dX0_goBack_24 : decode cX0_goBack 24 = .ok (.iload_n 2, 1) := by decide +kernel
theorem dX0_goBack_25 : decode cX0_goBack 25 = .ok (.goto 13, 3) := by decide +kernel
theorem dX0_goBack_28 : decode cX0_goBack 28 = .ok (.iload_n 2, 1) := by decide +kernel
theorem dX0_goBack_29 : decode cX0_goBack 29 = .ok (.aload_n 0, 1) := by decide +kernel
theorem dX0_goBack_30 : decode cX0_goBack 30 = .ok (.getfield 18, 3) := by decide +kernel
theorem dX0_goBack_33 : decode cX0_goBack 33 = .ok (.iload_n 1, 1) := by decide +kernel
theorem dX0_goBack_34 : decode cX0_goBack 34 = .ok (.iconst 1, 1) := by decide +kernel
theorem dX0_goBack_35 : decode cX0_goBack 35 = .ok (.isub, 1) := by decide +kernel
theorem dX0_goBack_36 : decode cX0_goBack 36 = .ok (.iaload, 1) := by decide +kernel
theorem dX0_goBack_37 : decode cX0_goBack 37 = .ok (.isub, 1) := by decide +kernel
theorem dX0_goBack_38 : decode cX0_goBack 38 = .ok (.istore_n 3, 1) := by decide +kernel
theorem dX0_goBack_39 : decode cX0_goBack 39 = .ok (.aload_n 0, 1) := by decide +kernel
theorem dX0_goBack_40 : decode cX0_goBack 40 = .ok (.getfield 15, 3) := by decide +kernel
theorem dX0_goBack_43 : decode cX0_goBack 43 = .ok (.iload_n 1, 1) := by decide +kernel
theorem dX0_goBack_44 : decode cX0_goBack 44 = .ok (.iload_n 3, 1) := by decide +kernel
theorem dX0_goBack_45 : decode cX0_goBack 45 = .ok (.ifCond .le 15, 3) := by decide +kernel
theorem dX0_goBack_48 : decode cX0_goBack 48 = .ok (.aload_n 0, 1) := by decide +kernel
theorem dX0_goBack_49 : decode cX0_goBack 49 = .ok (.getfield 36, 3) := by decide +kernel
theorem dX0_goBack_52 : decode cX0_goBack 52 = .ok (.getfield 119, 3) := by decide +kernel
theorem dX0_goBack_55 : decode cX0_goBack 55 = .ok (.iload_n 3, 1) := by decide +kernel
theorem dX0_goBack_56 : decode cX0_goBack 56 = .ok (.imul, 1) := by decide +kernel
theorem dX0_goBack_57 : decode cX0_goBack 57 = .ok (.goto 4, 3) := by decide +kernel
theorem dX0_goBack_60 : decode cX0_goBack 60 = .ok (.iconst 0, 1) := by decide +kernel
theorem dX0_goBack_61 : decode cX0_goBack 61 = .ok (.iastore, 1) := by decide +kernel
theorem dX0_goBack_62 : decode cX0_goBack 62 = .ok (.aload_n 0, 1) := by decide +kernel
theorem dX0_goBack_63 : decode cX0_goBack 63 = .ok (.getfield 9, 3) := by decide +kernel
theorem dX0_goBack_66 : decode cX0_goBack 66 = .ok (.iload_n 1, 1) := by decide +kernel
theorem dX0_goBack_67 : decode cX0_goBack 67 = .ok (.aload_n 0, 1) := by decide +kernel
theorem dX0_goBack_68 : decode cX0_goBack 68 = .ok (.getfield 15, 3) := by decide +kernel
theorem dX0_goBack_71 : decode cX0_goBack 71 = .ok (.iload_n 1, 1) := by decide +kernel
theorem dX0_goBack_72 : decode cX0_goBack 72 = .ok (.iaload, 1) := by decide +kernel
theorem dX0_goBack_73 : decode cX0_goBack 73 = .ok (.ifCond .le 7, 3) := by decide +kernel
theorem dX0_goBack_76 : decode cX0_goBack 76 = .ok (.iconst 1, 1) := by decide +kernel
theorem dX0_goBack_77 : decode cX0_goBack 77 = .ok (.goto 4, 3) := by decide +kernel
theorem dX0_goBack_80 : decode cX0_goBack 80 = .ok (.iconst 0, 1) := by decide +kernel
theorem dX0_goBack_81 : decode cX0_goBack 81 = .ok (.iastore, 1) := by decide +kernel
theorem dX0_goBack_82 : decode cX0_goBack 82 = .ok (.return_, 1) := by decide +kernel
theorem dX0_startUnit_0 : decode cX0_startUnit 0 = .ok (.aload_n 0, 1) := by decide +kernel
theorem dX0_startUnit_1 : decode cX0_startUnit 1 = .ok (.getfield 36, 3) := by decide +kernel
theorem dX0_startUnit_4 : decode cX0_startUnit 4 = .ok (.iload_n 1, 1) := by decide +kernel
theorem dX0_startUnit_5 : decode cX0_startUnit 5 = .ok (.aload_n 0, 1) := by decide +kernel
theorem dX0_startUnit_6 : decode cX0_startUnit 6 = .ok (.getfield 18, 3) := by decide +kernel
theorem dX0_startUnit_9 : decode cX0_startUnit 9 = .ok (.iload_n 1, 1) := by decide +kernel
theorem dX0_startUnit_10 : decode cX0_startUnit 10 = .ok (.iaload, 1) := by decide +kernel
theorem dX0_startUnit_11 : decode cX0_startUnit 11 = .ok (.invokevirtual 122, 3) := by decide +kernel
theorem dX0_startUnit_14 : decode cX0_startUnit 14 = .ok (.ifCond .eq 14, 3) := by decide +kernel
theorem dX0_startUnit_17 : decode cX0_startUnit 17 = .ok (.aload_n 0, 1) := by decide +kernel
theorem dX0_startUnit_18 : decode cX0_startUnit 18 = .ok (.iload_n 1, 1) := by decide +kernel
theorem dX0_startUnit_19 : decode cX0_startUnit 19 = .ok (.iload_n 1, 1) := by decide +kernel
theorem dX0_startUnit_20 : decode cX0_startUnit 20 = .ok (.iconst 1, 1) := by decide +kernel
theorem dX0_startUnit_21 : decode cX0_startUnit 21 = .ok (.iadd, 1) := by decide +kernel
theorem dX0_startUnit_22 : decode cX0_startUnit 22 = .ok (.invokevirtual 126, 3) := by decide +kernel
theorem dX0_startUnit_25 : decode cX0_startUnit 25 = .ok (.ifCond .eq 5, 3) := by decide +kernel
theorem dX0_startUnit_28 : decode cX0_startUnit 28 = .ok (.iconst 0, 1) := by decide +kernel
theorem dX0_startUnit_29 : decode cX0_startUnit 29 = .ok (.ireturn, 1) := by decide +kernel
theorem dX0_startUnit_30 : decode cX0_startUnit 30 = .ok (.aload_n 0, 1) := by decide +kernel
theorem dX0_startUnit_31 : decode cX0_startUnit 31 = .ok (.getfield 9, 3) := by decide +kernel
theorem dX0_startUnit_34 : decode cX0_startUnit 34 = .ok (.iload_n 1, 1) := by decide +kernel
theorem dX0_startUnit_35 : decode cX0_startUnit 35 = .ok (.iconst 3, 1) := by decide +kernel
theorem dX0_startUnit_36 : decode cX0_startUnit 36 = .ok (.iastore, 1) := by decide +kernel
theorem dX0_startUnit_37 : decode cX0_startUnit 37 = .ok (.aload_n 0, 1) := by decide +kernel
theorem dX0_startUnit_38 : decode cX0_startUnit 38 = .ok (.getfield 15, 3) := by decide +kernel
theorem dX0_startUnit_41 : decode cX0_startUnit 41 = .ok (.iload_n 1, 1) := by decide +kernel
theorem dX0_startUnit_42 : decode cX0_startUnit 42 = .ok (.aload_n 0, 1) := by decide +kernel
theorem dX0_startUnit_43 : decode cX0_startUnit 43 = .ok (.getfield 36, 3) := by decide +kernel
theorem dX0_startUnit_46 : decode cX0_startUnit 46 = .ok (.iload_n 1, 1) := by decide +kernel
theorem dX0_startUnit_47 : decode cX0_startUnit 47 = .ok (.aload_n 0, 1) := by decide +kernel
theorem dX0_startUnit_48 : decode cX0_startUnit 48 = .ok (.getfield 18, 3) := by decide +kernel
theorem dX0_startUnit_51 : decode cX0_startUnit 51 = .ok (.iload_n 1, 1) := by decide +kernel
theorem dX0_startUnit_52 : decode cX0_startUnit 52 = .ok (.iaload, 1) := by decide +kernel
theorem dX0_startUnit_53 : decode cX0_startUnit 53 = .ok (.aload_n 0, 1) := by decide +kernel
theorem dX0_startUnit_54 : decode cX0_startUnit 54 = .ok (.getfield 30, 3) := by decide +kernel
theorem dX0_startUnit_57 : decode cX0_startUnit 57 = .ok (.iload_n 1, 1) := by decide +kernel
theorem dX0_startUnit_58 : decode cX0_startUnit 58 = .ok (.bipush 8, 2) := by decide +kernel
theorem dX0_startUnit_60 : decode cX0_startUnit 60 = .ok (.imul, 1) := by decide +kernel
theorem dX0_startUnit_61 : decode cX0_startUnit 61 = .ok (.aload_n 0, 1) := by decide +kernel
theorem dX0_startUnit_62 : decode cX0_startUnit 62 = .ok (.getfield 18, 3) := by decide +kernel
theorem dX0_startUnit_65 : decode cX0_startUnit 65 = .ok (.iload_n 1, 1) := by decide +kernel
theorem dX0_startUnit_66 : decode cX0_startUnit 66 = .ok (.iaload, 1) := by decide +kernel
theorem dX0_startUnit_67 : decode cX0_startUnit 67 = .ok (.iadd, 1) := by decide +kernel
theorem dX0_startUnit_68 : decode cX0_startUnit 68 = .ok (.iaload, 1) := by decide +kernel
theorem dX0_startUnit_69 : decode cX0_startUnit 69 = .ok (.invokevirtual 129, 3) := by decide +kernel
theorem dX0_startUnit_72 : decode cX0_startUnit 72 = .ok (.iastore, 1) := by decide +kernel
theorem dX0_startUnit_73 : decode cX0_startUnit 73 = .ok (.iconst 1, 1) := by decide +kernel
theorem dX0_startUnit_74 : decode cX0_startUnit 74 = .ok (.ireturn, 1) := by decide +kernel
theorem dX0_isHeldBy_0 : decode cX0_isHeldBy 0 = .ok (.iload_n 2, 1) := by decide +kernel
theorem dX0_isHeldBy_1 : decode cX0_isHeldBy 1 = .ok (.aload_n 0, 1) := by decide +kernel
theorem dX0_isHeldBy_2 : decode cX0_isHeldBy 2 = .ok (.getfield 36, 3) := by decide +kernel
theorem dX0_isHeldBy_5 : decode cX0_isHeldBy 5 = .ok (.getfield 67, 3) := by decide +kernel
theorem dX0_isHeldBy_8 : decode cX0_isHeldBy 8 = .ok (.if_icmp .ge 27, 3) := by decide +kernel
theorem dX0_isHeldBy_11 : decode cX0_isHeldBy 11 = .ok (.aload_n 0, 1) := by decide +kernel
theorem dX0_isHeldBy_12 : decode cX0_isHeldBy 12 = .ok (.getfield 18, 3) := by decide +kernel
theorem dX0_isHeldBy_15 : decode cX0_isHeldBy 15 = .ok (.iload_n 2, 1) := by decide +kernel
theorem dX0_isHeldBy_16 : decode cX0_isHeldBy 16 = .ok (.iaload, 1) := by decide +kernel
theorem dX0_isHeldBy_17 : decode cX0_isHeldBy 17 = .ok (.ifCond .lt 18, 3) := by decide +kernel
theorem dX0_isHeldBy_20 : decode cX0_isHeldBy 20 = .ok (.aload_n 0, 1) := by decide +kernel
theorem dX0_isHeldBy_21 : decode cX0_isHeldBy 21 = .ok (.getfield 18, 3) := by decide +kernel
theorem dX0_isHeldBy_24 : decode cX0_isHeldBy 24 = .ok (.iload_n 2, 1) := by decide +kernel
theorem dX0_isHeldBy_25 : decode cX0_isHeldBy 25 = .ok (.iaload, 1) := by decide +kernel
theorem dX0_isHeldBy_26 : decode cX0_isHeldBy 26 = .ok (.aload_n 0, 1) := by decide +kernel
theorem dX0_isHeldBy_27 : decode cX0_isHeldBy 27 = .ok (.getfield 18, 3) := by decide +kernel
theorem dX0_isHeldBy_30 : decode cX0_isHeldBy 30 = .ok (.iload_n 1, 1) := by decide +kernel
theorem dX0_isHeldBy_31 : decode cX0_isHeldBy 31 = .ok (.iaload, 1) := by decide +kernel
theorem dX0_isHeldBy_32 : decode cX0_isHeldBy 32 = .ok (.if_icmp .le 5, 3) := by decide +kernel
theorem dX0_isHeldBy_35 : decode cX0_isHeldBy 35 = .ok (.iconst 0, 1) := by decide +kernel
theorem dX0_isHeldBy_36 : decode cX0_isHeldBy 36 = .ok (.ireturn, 1) := by decide +kernel
theorem dX0_isHeldBy_37 : decode cX0_isHeldBy 37 = .ok (.aload_n 0, 1) := by decide +kernel
theorem dX0_isHeldBy_38 : decode cX0_isHeldBy 38 = .ok (.getfield 18, 3) := by decide +kernel
theorem dX0_isHeldBy_41 : decode cX0_isHeldBy 41 = .ok (.iload_n 2, 1) := by decide +kernel
theorem dX0_isHeldBy_42 : decode cX0_isHeldBy 42 = .ok (.iaload, 1) := by decide +kernel
theorem dX0_isHeldBy_43 : decode cX0_isHeldBy 43 = .ok (.aload_n 0, 1) := by decide +kernel
theorem dX0_isHeldBy_44 : decode cX0_isHeldBy 44 = .ok (.getfield 18, 3) := by decide +kernel
theorem dX0_isHeldBy_47 : decode cX0_isHeldBy 47 = .ok (.iload_n 1, 1) := by decide +kernel
theorem dX0_isHeldBy_48 : decode cX0_isHeldBy 48 = .ok (.iaload, 1) := by decide +kernel
theorem dX0_isHeldBy_49 : decode cX0_isHeldBy 49 = .ok (.if_icmp .lt 18, 3) := by decide +kernel
theorem dX0_isHeldBy_52 : decode cX0_isHeldBy 52 = .ok (.aload_n 0, 1) := by decide +kernel
theorem dX0_isHeldBy_53 : decode cX0_isHeldBy 53 = .ok (.getfield 21, 3) := by decide +kernel
theorem dX0_isHeldBy_56 : decode cX0_isHeldBy 56 = .ok (.iload_n 2, 1) := by decide +kernel
theorem dX0_isHeldBy_57 : decode cX0_isHeldBy 57 = .ok (.iaload, 1) := by decide +kernel
theorem dX0_isHeldBy_58 : decode cX0_isHeldBy 58 = .ok (.aload_n 0, 1) := by decide +kernel
theorem dX0_isHeldBy_59 : decode cX0_isHeldBy 59 = .ok (.getfield 21, 3) := by decide +kernel
theorem dX0_isHeldBy_62 : decode cX0_isHeldBy 62 = .ok (.iload_n 1, 1) := by decide +kernel
theorem dX0_isHeldBy_63 : decode cX0_isHeldBy 63 = .ok (.iaload, 1) := by decide +kernel
theorem dX0_isHeldBy_64 : decode cX0_isHeldBy 64 = .ok (.if_icmp .gt 7, 3) := by decide +kernel
theorem dX0_isHeldBy_67 : decode cX0_isHeldBy 67 = .ok (.iconst 1, 1) := by decide +kernel
theorem dX0_isHeldBy_68 : decode cX0_isHeldBy 68 = .ok (.goto 4, 3) := by decide +kernel
theorem dX0_isHeldBy_71 : decode cX0_isHeldBy 71 = .ok (.iconst 0, 1) := by decide +kernel
theorem dX0_isHeldBy_72 : decode cX0_isHeldBy 72 = .ok (.ireturn, 1) := by decide +kernel
theorem dX0_leastLeft_0 : decode cX0_leastLeft 0 = .ok (.iconst 0, 1) := by decide +kernel
theorem dX0_leastLeft_1 : decode cX0_leastLeft 1 = .ok (.istore_n 1, 1) := by decide +kernel
theorem dX0_leastLeft_2 : decode cX0_leastLeft 2 = .ok (.iconst 0, 1) := by decide +kernel
theorem dX0_leastLeft_3 : decode cX0_leastLeft 3 = .ok (.istore_n 2, 1) := by decide +kernel
theorem dX0_leastLeft_4 : decode cX0_leastLeft 4 = .ok (.iload_n 2, 1) := by decide +kernel
theorem dX0_leastLeft_5 : decode cX0_leastLeft 5 = .ok (.aload_n 0, 1) := by decide +kernel
theorem dX0_leastLeft_6 : decode cX0_leastLeft 6 = .ok (.getfield 36, 3) := by decide +kernel
theorem dX0_leastLeft_9 : decode cX0_leastLeft 9 = .ok (.getfield 67, 3) := by decide +kernel
theorem dX0_leastLeft_12 : decode cX0_leastLeft 12 = .ok (.if_icmp .ge 39, 3) := by decide +kernel
theorem dX0_leastLeft_15 : decode cX0_leastLeft 15 = .ok (.aload_n 0, 1) := by decide +kernel
theorem dX0_leastLeft_16 : decode cX0_leastLeft 16 = .ok (.getfield 15, 3) := by decide +kernel
theorem dX0_leastLeft_19 : decode cX0_leastLeft 19 = .ok (.iload_n 2, 1) := by decide +kernel
theorem dX0_leastLeft_20 : decode cX0_leastLeft 20 = .ok (.iaload, 1) := by decide +kernel
theorem dX0_leastLeft_21 : decode cX0_leastLeft 21 = .ok (.ifCond .le 24, 3) := by decide +kernel
theorem dX0_leastLeft_24 : decode cX0_leastLeft 24 = .ok (.iload_n 1, 1) := by decide +kernel
theorem dX0_leastLeft_25 : decode cX0_leastLeft 25 = .ok (.ifCond .eq 13, 3) := by decide +kernel
theorem dX0_leastLeft_28 : decode cX0_leastLeft 28 = .ok (.aload_n 0, 1) := by decide +kernel
theorem dX0_leastLeft_29 : decode cX0_leastLeft 29 = .ok (.getfield 15, 3) := by decide +kernel
theorem dX0_leastLeft_32 : decode cX0_leastLeft 32 = .ok (.iload_n 2, 1) := by decide +kernel
theorem dX0_leastLeft_33 : decode cX0_leastLeft 33 = .ok (.iaload, 1) := by decide +kernel
theorem dX0_leastLeft_34 : decode cX0_leastLeft 34 = .ok (.iload_n 1, 1) := by decide +kernel
theorem dX0_leastLeft_35 : decode cX0_leastLeft 35 = .ok (.if_icmp .ge 10, 3) := by decide +kernel
theorem dX0_leastLeft_38 : decode cX0_leastLeft 38 = .ok (.aload_n 0, 1) := by decide +kernel
theorem dX0_leastLeft_39 : decode cX0_leastLeft 39 = .ok (.getfield 15, 3) := by decide +kernel
theorem dX0_leastLeft_42 : decode cX0_leastLeft 42 = .ok (.iload_n 2, 1) := by decide +kernel
theorem dX0_leastLeft_43 : decode cX0_leastLeft 43 = .ok (.iaload, 1) := by decide +kernel
theorem dX0_leastLeft_44 : decode cX0_leastLeft 44 = .ok (.istore_n 1, 1) := by decide +kernel
theorem dX0_leastLeft_45 : decode cX0_leastLeft 45 = .ok (.iinc 2 1, 3) := by decide +kernel
theorem dX0_leastLeft_48 : decode cX0_leastLeft 48 = .ok (.goto (-44), 3) := by decide +kernel
theorem dX0_leastLeft_51 : decode cX0_leastLeft 51 = .ok (.iload_n 1, 1) := by decide +kernel
theorem dX0_leastLeft_52 : decode cX0_leastLeft 52 = .ok (.ireturn, 1) := by decide +kernel
theorem dX0_letPass_0 : decode cX0_letPass 0 = .ok (.aload_n 0, 1) := by decide +kernel
theorem dX0_letPass_1 : decode cX0_letPass 1 = .ok (.dup, 1) := by decide +kernel
theorem dX0_letPass_2 : decode cX0_letPass 2 = .ok (.getfield 44, 3) := by decide +kernel
theorem dX0_letPass_5 : decode cX0_letPass 5 = .ok (.iload_n 1, 1) := by decide +kernel
theorem dX0_letPass_6 : decode cX0_letPass 6 = .ok (.iadd, 1) := by decide +kernel
theorem dX0_letPass_7 : decode cX0_letPass 7 = .ok (.putfield 44, 3) := by decide +kernel
theorem dX0_letPass_10 : decode cX0_letPass 10 = .ok (.iconst 0, 1) := by decide +kernel
theorem dX0_letPass_11 : decode cX0_letPass 11 = .ok (.istore_n 2, 1) := by decide +kernel
theorem dX0_letPass_12 : decode cX0_letPass 12 = .ok (.iload_n 2, 1) := by decide +kernel
theorem dX0_letPass_13 : decode cX0_letPass 13 = .ok (.aload_n 0, 1) := by decide +kernel
theorem dX0_letPass_14 : decode cX0_letPass 14 = .ok (.getfield 36, 3) := by decide +kernel
theorem dX0_letPass_17 : decode cX0_letPass 17 = .ok (.getfield 67, 3) := by decide +kernel
theorem dX0_letPass_20 : decode cX0_letPass 20 = .ok (.if_icmp .ge 92, 3) := by decide +kernel
theorem dX0_letPass_23 : decode cX0_letPass 23 = .ok (.aload_n 0, 1) := by decide +kernel
theorem dX0_letPass_24 : decode cX0_letPass 24 = .ok (.getfield 15, 3) := by decide +kernel
theorem dX0_letPass_27 : decode cX0_letPass 27 = .ok (.iload_n 2, 1) := by decide +kernel
theorem dX0_letPass_28 : decode cX0_letPass 28 = .ok (.iaload, 1) := by decide +kernel
theorem dX0_letPass_29 : decode cX0_letPass 29 = .ok (.ifCond .le 42, 3) := by decide +kernel
theorem dX0_letPass_32 : decode cX0_letPass 32 = .ok (.aload_n 0, 1) := by decide +kernel
theorem dX0_letPass_33 : decode cX0_letPass 33 = .ok (.getfield 15, 3) := by decide +kernel
theorem dX0_letPass_36 : decode cX0_letPass 36 = .ok (.iload_n 2, 1) := by decide +kernel
theorem dX0_letPass_37 : decode cX0_letPass 37 = .ok (.dup2, 1) := by decide +kernel
theorem dX0_letPass_38 : decode cX0_letPass 38 = .ok (.iaload, 1) := by decide +kernel
theorem dX0_letPass_39 : decode cX0_letPass 39 = .ok (.iload_n 1, 1) := by decide +kernel
theorem dX0_letPass_40 : decode cX0_letPass 40 = .ok (.isub, 1) := by decide +kernel
theorem dX0_letPass_41 : decode cX0_letPass 41 = .ok (.iastore, 1) := by decide +kernel
theorem dX0_letPass_42 : decode cX0_letPass 42 = .ok (.aload_n 0, 1) := by decide +kernel
theorem dX0_letPass_43 : decode cX0_letPass 43 = .ok (.getfield 15, 3) := by decide +kernel
theorem dX0_letPass_46 : decode cX0_letPass 46 = .ok (.iload_n 2, 1) := by decide +kernel
theorem dX0_letPass_47 : decode cX0_letPass 47 = .ok (.iaload, 1) := by decide +kernel
theorem dX0_letPass_48 : decode cX0_letPass 48 = .ok (.ifCond .ne 58, 3) := by decide +kernel
theorem dX0_letPass_51 : decode cX0_letPass 51 = .ok (.aload_n 0, 1) := by decide +kernel
theorem dX0_letPass_52 : decode cX0_letPass 52 = .ok (.getfield 9, 3) := by decide +kernel
theorem dX0_letPass_55 : decode cX0_letPass 55 = .ok (.iload_n 2, 1) := by decide +kernel
theorem dX0_letPass_56 : decode cX0_letPass 56 = .ok (.iaload, 1) := by decide +kernel
theorem dX0_letPass_57 : decode cX0_letPass 57 = .ok (.iconst 1, 1) := by decide +kernel
theorem dX0_letPass_58 : decode cX0_letPass 58 = .ok (.if_icmp .ne 48, 3) := by decide +kernel
theorem dX0_letPass_61 : decode cX0_letPass 61 = .ok (.aload_n 0, 1) := by decide +kernel
theorem dX0_letPass_62 : decode cX0_letPass 62 = .ok (.getfield 9, 3) := by decide +kernel
theorem dX0_letPass_65 : decode cX0_letPass 65 = .ok (.iload_n 2, 1) := by decide +kernel
theorem dX0_letPass_66 : decode cX0_letPass 66 = .ok (.iconst 0, 1) := by decide +kernel
theorem dX0_letPass_67 : decode cX0_letPass 67 = .ok (.iastore, 1) := by decide +kernel
theorem dX0_letPass_68 : decode cX0_letPass 68 = .ok (.goto 38, 3) := by decide +kernel
theorem dX0_letPass_71 : decode cX0_letPass 71 = .ok (.aload_n 0, 1) := by decide +kernel
theorem dX0_letPass_72 : decode cX0_letPass 72 = .ok (.getfield 27, 3) := by decide +kernel
theorem dX0_letPass_75 : decode cX0_letPass 75 = .ok (.iload_n 2, 1) := by decide +kernel
theorem dX0_letPass_76 : decode cX0_letPass 76 = .ok (.dup2, 1) := by decide +kernel
theorem dX0_letPass_77 : decode cX0_letPass 77 = .ok (.iaload, 1) := by decide +kernel
theorem dX0_letPass_78 : decode cX0_letPass 78 = .ok (.iload_n 1, 1) := by decide +kernel
theorem dX0_letPass_79 : decode cX0_letPass 79 = .ok (.iadd, 1) := by decide +kernel
theorem dX0_letPass_80 : decode cX0_letPass 80 = .ok (.iastore, 1) := by decide +kernel
theorem dX0_letPass_81 : decode cX0_letPass 81 = .ok (.aload_n 0, 1) := by decide +kernel
theorem dX0_letPass_82 : decode cX0_letPass 82 = .ok (.getfield 9, 3) := by decide +kernel
theorem dX0_letPass_85 : decode cX0_letPass 85 = .ok (.iload_n 2, 1) := by decide +kernel
theorem dX0_letPass_86 : decode cX0_letPass 86 = .ok (.iaload, 1) := by decide +kernel
theorem dX0_letPass_87 : decode cX0_letPass 87 = .ok (.iconst 2, 1) := by decide +kernel
theorem dX0_letPass_88 : decode cX0_letPass 88 = .ok (.if_icmp .ne 18, 3) := by decide +kernel
theorem dX0_letPass_91 : decode cX0_letPass 91 = .ok (.aload_n 0, 1) := by decide +kernel
theorem dX0_letPass_92 : decode cX0_letPass 92 = .ok (.getfield 33, 3) := by decide +kernel
theorem dX0_letPass_95 : decode cX0_letPass 95 = .ok (.aload_n 0, 1) := by decide +kernel
theorem dX0_letPass_96 : decode cX0_letPass 96 = .ok (.getfield 18, 3) := by decide +kernel
theorem dX0_letPass_99 : decode cX0_letPass 99 = .ok (.iload_n 2, 1) := by decide +kernel
theorem dX0_letPass_100 : decode cX0_letPass 100 = .ok (.iaload, 1) := by decide +kernel
theorem dX0_letPass_101 : decode cX0_letPass 101 = .ok (.dup2, 1) := by decide +kernel
theorem dX0_letPass_102 : decode cX0_letPass 102 = .ok (.iaload, 1) := by decide +kernel
theorem dX0_letPass_103 : decode cX0_letPass 103 = .ok (.iload_n 1, 1) := by decide +kernel
theorem dX0_letPass_104 : decode cX0_letPass 104 = .ok (.iadd, 1) := by decide +kernel
theorem dX0_letPass_105 : decode cX0_letPass 105 = .ok (.iastore, 1) := by decide +kernel
theorem dX0_letPass_106 : decode cX0_letPass 106 = .ok (.iinc 2 1, 3) := by decide +kernel
theorem dX0_letPass_109 : decode cX0_letPass 109 = .ok (.goto (-97), 3) := by decide +kernel
theorem dX0_letPass_112 : decode cX0_letPass 112 = .ok (.return_, 1) := by decide +kernel
theorem dX0_inOneNumber_0 : decode cX0_inOneNumber 0 = .ok (.aload_n 0, 1) := by decide +kernel
theorem dX0_inOneNumber_1 : decode cX0_inOneNumber 1 = .ok (.getfield 18, 3) := by decide +kernel
theorem dX0_inOneNumber_4 : decode cX0_inOneNumber 4 = .ok (.iload_n 1, 1) := by decide +kernel
theorem dX0_inOneNumber_5 : decode cX0_inOneNumber 5 = .ok (.iaload, 1) := by decide +kernel
theorem dX0_inOneNumber_6 : decode cX0_inOneNumber 6 = .ok (.ifCond .ge 7, 3) := by decide +kernel
theorem dX0_inOneNumber_9 : decode cX0_inOneNumber 9 = .ok (.iconst 0, 1) := by decide +kernel
theorem dX0_inOneNumber_10 : decode cX0_inOneNumber 10 = .ok (.goto 31, 3) := by decide +kernel
theorem dX0_inOneNumber_13 : decode cX0_inOneNumber 13 = .ok (.aload_n 0, 1) := by decide +kernel
theorem dX0_inOneNumber_14 : decode cX0_inOneNumber 14 = .ok (.getfield 18, 3) := by decide +kernel
theorem dX0_inOneNumber_17 : decode cX0_inOneNumber 17 = .ok (.iload_n 1, 1) := by decide +kernel
theorem dX0_inOneNumber_18 : decode cX0_inOneNumber 18 = .ok (.iaload, 1) := by decide +kernel
theorem dX0_inOneNumber_19 : decode cX0_inOneNumber 19 = .ok (.iconst 1, 1) := by decide +kernel
theorem dX0_inOneNumber_20 : decode cX0_inOneNumber 20 = .ok (.iadd, 1) := by decide +kernel
theorem dX0_inOneNumber_21 : decode cX0_inOneNumber 21 = .ok (.bipush 100, 2) := by decide +kernel
theorem dX0_inOneNumber_23 : decode cX0_inOneNumber 23 = .ok (.imul, 1) := by decide +kernel
theorem dX0_inOneNumber_24 : decode cX0_inOneNumber 24 = .ok (.aload_n 0, 1) := by decide +kernel
theorem dX0_inOneNumber_25 : decode cX0_inOneNumber 25 = .ok (.getfield 21, 3) := by decide +kernel
theorem dX0_inOneNumber_28 : decode cX0_inOneNumber 28 = .ok (.iload_n 1, 1) := by decide +kernel
theorem dX0_inOneNumber_29 : decode cX0_inOneNumber 29 = .ok (.iaload, 1) := by decide +kernel
theorem dX0_inOneNumber_30 : decode cX0_inOneNumber 30 = .ok (.bipush 10, 2) := by decide +kernel
theorem dX0_inOneNumber_32 : decode cX0_inOneNumber 32 = .ok (.imul, 1) := by decide +kernel
theorem dX0_inOneNumber_33 : decode cX0_inOneNumber 33 = .ok (.iadd, 1) := by decide +kernel
theorem dX0_inOneNumber_34 : decode cX0_inOneNumber 34 = .ok (.aload_n 0, 1) := by decide +kernel
theorem dX0_inOneNumber_35 : decode cX0_inOneNumber 35 = .ok (.getfield 24, 3) := by decide +kernel
theorem dX0_inOneNumber_38 : decode cX0_inOneNumber 38 = .ok (.iload_n 1, 1) := by decide +kernel
theorem dX0_inOneNumber_39 : decode cX0_inOneNumber 39 = .ok (.iaload, 1) := by decide +kernel
theorem dX0_inOneNumber_40 : decode cX0_inOneNumber 40 = .ok (.iadd, 1) := by decide +kernel
theorem dX0_inOneNumber_41 : decode cX0_inOneNumber 41 = .ok (.istore_n 2, 1) := by decide +kernel
theorem dX0_inOneNumber_42 : decode cX0_inOneNumber 42 = .ok (.iload_n 2, 1) := by decide +kernel
theorem dX0_inOneNumber_43 : decode cX0_inOneNumber 43 = .ok (.bipush 100, 2) := by decide +kernel
theorem dX0_inOneNumber_45 : decode cX0_inOneNumber 45 = .ok (.imul, 1) := by decide +kernel
theorem dX0_inOneNumber_46 : decode cX0_inOneNumber 46 = .ok (.aload_n 0, 1) := by decide +kernel
theorem dX0_inOneNumber_47 : decode cX0_inOneNumber 47 = .ok (.getfield 15, 3) := by decide +kernel
theorem dX0_inOneNumber_50 : decode cX0_inOneNumber 50 = .ok (.iload_n 1, 1) := by decide +kernel
theorem dX0_inOneNumber_51 : decode cX0_inOneNumber 51 = .ok (.iaload, 1) := by decide +kernel
theorem dX0_inOneNumber_52 : decode cX0_inOneNumber 52 = .ok (.iadd, 1) := by decide +kernel
theorem dX0_inOneNumber_53 : decode cX0_inOneNumber 53 = .ok (.bipush 10, 2) := by decide +kernel
theorem dX0_inOneNumber_55 : decode cX0_inOneNumber 55 = .ok (.imul, 1) := by decide +kernel
theorem dX0_inOneNumber_56 : decode cX0_inOneNumber 56 = .ok (.aload_n 0, 1) := by decide +kernel
theorem dX0_inOneNumber_57 : decode cX0_inOneNumber 57 = .ok (.getfield 9, 3) := by decide +kernel
theorem dX0_inOneNumber_60 : decode cX0_inOneNumber 60 = .ok (.iload_n 1, 1) := by decide +kernel
theorem dX0_inOneNumber_61 : decode cX0_inOneNumber 61 = .ok (.iaload, 1) := by decide +kernel
theorem dX0_inOneNumber_62 : decode cX0_inOneNumber 62 = .ok (.iadd, 1) := by decide +kernel
theorem dX0_inOneNumber_63 : decode cX0_inOneNumber 63 = .ok (.ireturn, 1) := by decide +kernel
theorem dX0_coatsInHand_0 : decode cX0_coatsInHand 0 = .ok (.iconst 0, 1) := by decide +kernel
theorem dX0_coatsInHand_1 : decode cX0_coatsInHand 1 = .ok (.istore_n 1, 1) := by decide +kernel
theorem dX0_coatsInHand_2 : decode cX0_coatsInHand 2 = .ok (.iconst 0, 1) := by decide +kernel
theorem dX0_coatsInHand_3 : decode cX0_coatsInHand 3 = .ok (.istore_n 2, 1) := by decide +kernel
theorem dX0_coatsInHand_4 : decode cX0_coatsInHand 4 = .ok (.iload_n 2, 1) := by decide +kernel
theorem dX0_coatsInHand_5 : decode cX0_coatsInHand 5 = .ok (.aload_n 0, 1) := by decide +kernel
theorem dX0_coatsInHand_6 : decode cX0_coatsInHand 6 = .ok (.getfield 36, 3) := by decide +kernel
theorem dX0_coatsInHand_9 : decode cX0_coatsInHand 9 = .ok (.getfield 67, 3) := by decide +kernel
theorem dX0_coatsInHand_12 : decode cX0_coatsInHand 12 = .ok (.if_icmp .ge 26, 3) := by decide +kernel
theorem dX0_coatsInHand_15 : decode cX0_coatsInHand 15 = .ok (.iload_n 1, 1) := by decide +kernel
theorem dX0_coatsInHand_16 : decode cX0_coatsInHand 16 = .ok (.aload_n 0, 1) := by decide +kernel
theorem dX0_coatsInHand_17 : decode cX0_coatsInHand 17 = .ok (.getfield 18, 3) := by decide +kernel
theorem dX0_coatsInHand_20 : decode cX0_coatsInHand 20 = .ok (.iload_n 2, 1) := by decide +kernel
theorem dX0_coatsInHand_21 : decode cX0_coatsInHand 21 = .ok (.iaload, 1) := by decide +kernel
theorem dX0_coatsInHand_22 : decode cX0_coatsInHand 22 = .ok (.ifCond .lt 7, 3) := by decide +kernel
theorem dX0_coatsInHand_25 : decode cX0_coatsInHand 25 = .ok (.iconst 1, 1) := by decide +kernel
theorem dX0_coatsInHand_26 : decode cX0_coatsInHand 26 = .ok (.goto 4, 3) := by decide +kernel
theorem dX0_coatsInHand_29 : decode cX0_coatsInHand 29 = .ok (.iconst 0, 1) := by decide +kernel
theorem dX0_coatsInHand_30 : decode cX0_coatsInHand 30 = .ok (.iadd, 1) := by decide +kernel
theorem dX0_coatsInHand_31 : decode cX0_coatsInHand 31 = .ok (.istore_n 1, 1) := by decide +kernel
theorem dX0_coatsInHand_32 : decode cX0_coatsInHand 32 = .ok (.iinc 2 1, 3) := by decide +kernel
theorem dX0_coatsInHand_35 : decode cX0_coatsInHand 35 = .ok (.goto (-31), 3) := by decide +kernel
theorem dX0_coatsInHand_38 : decode cX0_coatsInHand 38 = .ok (.iload_n 1, 1) := by decide +kernel
theorem dX0_coatsInHand_39 : decode cX0_coatsInHand 39 = .ok (.ireturn, 1) := by decide +kernel
theorem dX0_waitedByAll_0 : decode cX0_waitedByAll 0 = .ok (.iconst 0, 1) := by decide +kernel
theorem dX0_waitedByAll_1 : decode cX0_waitedByAll 1 = .ok (.istore_n 1, 1) := by decide +kernel
theorem dX0_waitedByAll_2 : decode cX0_waitedByAll 2 = .ok (.iconst 0, 1) := by decide +kernel
theorem dX0_waitedByAll_3 : decode cX0_waitedByAll 3 = .ok (.istore_n 2, 1) := by decide +kernel
theorem dX0_waitedByAll_4 : decode cX0_waitedByAll 4 = .ok (.iload_n 2, 1) := by decide +kernel
theorem dX0_waitedByAll_5 : decode cX0_waitedByAll 5 = .ok (.aload_n 0, 1) := by decide +kernel
theorem dX0_waitedByAll_6 : decode cX0_waitedByAll 6 = .ok (.getfield 36, 3) := by decide +kernel
theorem dX0_waitedByAll_9 : decode cX0_waitedByAll 9 = .ok (.getfield 67, 3) := by decide +kernel
theorem dX0_waitedByAll_12 : decode cX0_waitedByAll 12 = .ok (.if_icmp .ge 18, 3) := by decide +kernel
theorem dX0_waitedByAll_15 : decode cX0_waitedByAll 15 = .ok (.iload_n 1, 1) := by decide +kernel
theorem dX0_waitedByAll_16 : decode cX0_waitedByAll 16 = .ok (.aload_n 0, 1) := by decide +kernel
theorem dX0_waitedByAll_17 : decode cX0_waitedByAll 17 = .ok (.getfield 27, 3) := by decide +kernel
theorem dX0_waitedByAll_20 : decode cX0_waitedByAll 20 = .ok (.iload_n 2, 1) := by decide +kernel
theorem dX0_waitedByAll_21 : decode cX0_waitedByAll 21 = .ok (.iaload, 1) := by decide +kernel
theorem dX0_waitedByAll_22 : decode cX0_waitedByAll 22 = .ok (.iadd, 1) := by decide +kernel
theorem dX0_waitedByAll_23 : decode cX0_waitedByAll 23 = .ok (.istore_n 1, 1) := by decide +kernel
theorem dX0_waitedByAll_24 : decode cX0_waitedByAll 24 = .ok (.iinc 2 1, 3) := by decide +kernel
theorem dX0_waitedByAll_27 : decode cX0_waitedByAll 27 = .ok (.goto (-23), 3) := by decide +kernel
theorem dX0_waitedByAll_30 : decode cX0_waitedByAll 30 = .ok (.iload_n 1, 1) := by decide +kernel
theorem dX0_waitedByAll_31 : decode cX0_waitedByAll 31 = .ok (.ireturn, 1) := by decide +kernel
theorem dX0_mostStoodAt_0 : decode cX0_mostStoodAt 0 = .ok (.iconst 0, 1) := by decide +kernel
theorem dX0_mostStoodAt_1 : decode cX0_mostStoodAt 1 = .ok (.istore_n 1, 1) := by decide +kernel
theorem dX0_mostStoodAt_2 : decode cX0_mostStoodAt 2 = .ok (.iconst 1, 1) := by decide +kernel
theorem dX0_mostStoodAt_3 : decode cX0_mostStoodAt 3 = .ok (.istore_n 2, 1) := by decide +kernel
theorem dX0_mostStoodAt_4 : decode cX0_mostStoodAt 4 = .ok (.iload_n 2, 1) := by decide +kernel
theorem dX0_mostStoodAt_5 : decode cX0_mostStoodAt 5 = .ok (.aload_n 0, 1) := by decide +kernel
theorem dX0_mostStoodAt_6 : decode cX0_mostStoodAt 6 = .ok (.getfield 36, 3) := by decide +kernel
theorem dX0_mostStoodAt_9 : decode cX0_mostStoodAt 9 = .ok (.getfield 96, 3) := by decide +kernel
theorem dX0_mostStoodAt_12 : decode cX0_mostStoodAt 12 = .ok (.if_icmp .ge 26, 3) := by decide +kernel
theorem dX0_mostStoodAt_15 : decode cX0_mostStoodAt 15 = .ok (.aload_n 0, 1) := by decide +kernel
theorem dX0_mostStoodAt_16 : decode cX0_mostStoodAt 16 = .ok (.getfield 33, 3) := by decide +kernel
theorem dX0_mostStoodAt_19 : decode cX0_mostStoodAt 19 = .ok (.iload_n 2, 1) := by decide +kernel
theorem dX0_mostStoodAt_20 : decode cX0_mostStoodAt 20 = .ok (.iaload, 1) := by decide +kernel
theorem dX0_mostStoodAt_21 : decode cX0_mostStoodAt 21 = .ok (.aload_n 0, 1) := by decide +kernel
theorem dX0_mostStoodAt_22 : decode cX0_mostStoodAt 22 = .ok (.getfield 33, 3) := by decide +kernel
theorem dX0_mostStoodAt_25 : decode cX0_mostStoodAt 25 = .ok (.iload_n 1, 1) := by decide +kernel
theorem dX0_mostStoodAt_26 : decode cX0_mostStoodAt 26 = .ok (.iaload, 1) := by decide +kernel
theorem dX0_mostStoodAt_27 : decode cX0_mostStoodAt 27 = .ok (.if_icmp .le 5, 3) := by decide +kernel
theorem dX0_mostStoodAt_30 : decode cX0_mostStoodAt 30 = .ok (.iload_n 2, 1) := by decide +kernel
theorem dX0_mostStoodAt_31 : decode cX0_mostStoodAt 31 = .ok (.istore_n 1, 1) := by decide +kernel
theorem dX0_mostStoodAt_32 : decode cX0_mostStoodAt 32 = .ok (.iinc 2 1, 3) := by decide +kernel
theorem dX0_mostStoodAt_35 : decode cX0_mostStoodAt 35 = .ok (.goto (-31), 3) := by decide +kernel
theorem dX0_mostStoodAt_38 : decode cX0_mostStoodAt 38 = .ok (.aload_n 0, 1) := by decide +kernel
theorem dX0_mostStoodAt_39 : decode cX0_mostStoodAt 39 = .ok (.getfield 33, 3) := by decide +kernel
theorem dX0_mostStoodAt_42 : decode cX0_mostStoodAt 42 = .ok (.iload_n 1, 1) := by decide +kernel
theorem dX0_mostStoodAt_43 : decode cX0_mostStoodAt 43 = .ok (.iaload, 1) := by decide +kernel
theorem dX0_mostStoodAt_44 : decode cX0_mostStoodAt 44 = .ok (.ifCond .le 7, 3) := by decide +kernel
theorem dX0_mostStoodAt_47 : decode cX0_mostStoodAt 47 = .ok (.iload_n 1, 1) := by decide +kernel
theorem dX0_mostStoodAt_48 : decode cX0_mostStoodAt 48 = .ok (.goto 5, 3) := by decide +kernel
theorem dX0_mostStoodAt_51 : decode cX0_mostStoodAt 51 = .ok (.bipush (-4), 2) := by decide +kernel
theorem dX0_mostStoodAt_53 : decode cX0_mostStoodAt 53 = .ok (.ireturn, 1) := by decide +kernel
theorem dX1_init_0 : decode cX1_init 0 = .ok (.aload_n 0, 1) := by decide +kernel
theorem dX1_init_1 : decode cX1_init 1 = .ok (.invokespecial 3, 3) := by decide +kernel
theorem dX1_init_4 : decode cX1_init 4 = .ok (.aload_n 0, 1) := by decide +kernel
theorem dX1_init_5 : decode cX1_init 5 = .ok (.new 9, 3) := by decide +kernel
theorem dX1_init_8 : decode cX1_init 8 = .ok (.dup, 1) := by decide +kernel
theorem dX1_init_9 : decode cX1_init 9 = .ok (.invokespecial 11, 3) := by decide +kernel
theorem dX1_init_12 : decode cX1_init 12 = .ok (.putfield 12, 3) := by decide +kernel
theorem dX1_init_15 : decode cX1_init 15 = .ok (.aload_n 0, 1) := by decide +kernel
theorem dX1_init_16 : decode cX1_init 16 = .ok (.new 18, 3) := by decide +kernel
theorem dX1_init_19 : decode cX1_init 19 = .ok (.dup, 1) := by decide +kernel
theorem dX1_init_20 : decode cX1_init 20 = .ok (.aload_n 1, 1) := by decide +kernel
theorem dX1_init_21 : decode cX1_init 21 = .ok (.aload_n 0, 1) := by decide +kernel
theorem dX1_init_22 : decode cX1_init 22 = .ok (.getfield 12, 3) := by decide +kernel
theorem dX1_init_25 : decode cX1_init 25 = .ok (.invokespecial 20, 3) := by decide +kernel
theorem dX1_init_28 : decode cX1_init 28 = .ok (.putfield 23, 3) := by decide +kernel
theorem dX1_init_31 : decode cX1_init 31 = .ok (.return_, 1) := by decide +kernel
theorem dX1_runFor_0 : decode cX1_runFor 0 = .ok (.aload_n 0, 1) := by decide +kernel
theorem dX1_runFor_1 : decode cX1_runFor 1 = .ok (.getfield 27, 3) := by decide +kernel
theorem dX1_runFor_4 : decode cX1_runFor 4 = .ok (.iload_n 1, 1) := by decide +kernel
theorem dX1_runFor_5 : decode cX1_runFor 5 = .ok (.if_icmp .ne 4, 3) := by decide +kernel
theorem dX1_runFor_8 : decode cX1_runFor 8 = .ok (.return_, 1) := by decide +kernel
theorem dX1_runFor_9 : decode cX1_runFor 9 = .ok (.aload_n 0, 1) := by decide +kernel
theorem dX1_runFor_10 : decode cX1_runFor 10 = .ok (.iload_n 1, 1) := by decide +kernel
theorem dX1_runFor_11 : decode cX1_runFor 11 = .ok (.putfield 27, 3) := by decide +kernel
theorem dX1_runFor_14 : decode cX1_runFor 14 = .ok (.aload_n 0, 1) := by decide +kernel
theorem dX1_runFor_15 : decode cX1_runFor 15 = .ok (.iconst 0, 1) := by decide +kernel
theorem dX1_runFor_16 : decode cX1_runFor 16 = .ok (.putfield 31, 3) := by decide +kernel
theorem dX1_runFor_19 : decode cX1_runFor 19 = .ok (.aload_n 0, 1) := by decide +kernel
theorem dX1_runFor_20 : decode cX1_runFor 20 = .ok (.getfield 12, 3) := by decide +kernel
theorem dX1_runFor_23 : decode cX1_runFor 23 = .ok (.iconst 0, 1) := by decide +kernel
theorem dX1_runFor_24 : decode cX1_runFor 24 = .ok (.putfield 35, 3) := by decide +kernel
theorem dX1_runFor_27 : decode cX1_runFor 27 = .ok (.aload_n 0, 1) := by decide +kernel
theorem dX1_runFor_28 : decode cX1_runFor 28 = .ok (.getfield 23, 3) := by decide +kernel
theorem dX1_runFor_31 : decode cX1_runFor 31 = .ok (.invokevirtual 38, 3) := by decide +kernel
theorem dX1_runFor_34 : decode cX1_runFor 34 = .ok (.aload_n 0, 1) := by decide +kernel
theorem dX1_runFor_35 : decode cX1_runFor 35 = .ok (.getfield 23, 3) := by decide +kernel
theorem dX1_runFor_38 : decode cX1_runFor 38 = .ok (.invokevirtual 41, 3) := by decide +kernel
theorem dX1_runFor_41 : decode cX1_runFor 41 = .ok (.iconst 0, 1) := by decide +kernel
theorem dX1_runFor_42 : decode cX1_runFor 42 = .ok (.istore_n 2, 1) := by decide +kernel
theorem dX1_runFor_43 : decode cX1_runFor 43 = .ok (.iload_n 2, 1) := by decide +kernel
theorem dX1_runFor_44 : decode cX1_runFor 44 = .ok (.ldc 44, 2) := by decide +kernel
theorem dX1_runFor_46 : decode cX1_runFor 46 = .ok (.if_icmp .ge 62, 3) := by decide +kernel
theorem dX1_runFor_49 : decode cX1_runFor 49 = .ok (.aload_n 0, 1) := by decide +kernel
theorem dX1_runFor_50 : decode cX1_runFor 50 = .ok (.getfield 23, 3) := by decide +kernel
theorem dX1_runFor_53 : decode cX1_runFor 53 = .ok (.getfield 45, 3) := by decide +kernel
theorem dX1_runFor_56 : decode cX1_runFor 56 = .ok (.iload_n 1, 1) := by decide +kernel
theorem dX1_runFor_57 : decode cX1_runFor 57 = .ok (.if_icmp .ge 51, 3) := by decide +kernel
theorem dX1_runFor_60 : decode cX1_runFor 60 = .ok (.aload_n 0, 1) := by decide +kernel
theorem dX1_runFor_61 : decode cX1_runFor 61 = .ok (.getfield 31, 3) := by decide +kernel
theorem dX1_runFor_64 : decode cX1_runFor 64 = .ok (.ifCond .ne 44, 3) := by decide +kernel
theorem dX1_runFor_67 : decode cX1_runFor 67 = .ok (.aload_n 0, 1) := by decide +kernel
theorem dX1_runFor_68 : decode cX1_runFor 68 = .ok (.getfield 23, 3) := by decide +kernel
theorem dX1_runFor_71 : decode cX1_runFor 71 = .ok (.invokevirtual 48, 3) := by decide +kernel
theorem dX1_runFor_74 : decode cX1_runFor 74 = .ok (.istore_n 3, 1) := by decide +kernel
theorem dX1_runFor_75 : decode cX1_runFor 75 = .ok (.iload_n 3, 1) := by decide +kernel
theorem dX1_runFor_76 : decode cX1_runFor 76 = .ok (.ifCond .ne 11, 3) := by decide +kernel
theorem dX1_runFor_79 : decode cX1_runFor 79 = .ok (.aload_n 0, 1) := by decide +kernel
theorem dX1_runFor_80 : decode cX1_runFor 80 = .ok (.iconst 1, 1) := by decide +kernel
theorem dX1_runFor_81 : decode cX1_runFor 81 = .ok (.putfield 31, 3) := by decide +kernel
theorem dX1_runFor_84 : decode cX1_runFor 84 = .ok (.goto 18, 3) := by decide +kernel
theorem dX1_runFor_87 : decode cX1_runFor 87 = .ok (.aload_n 0, 1) := by decide +kernel
theorem dX1_runFor_88 : decode cX1_runFor 88 = .ok (.getfield 23, 3) := by decide +kernel
theorem dX1_runFor_91 : decode cX1_runFor 91 = .ok (.iload_n 3, 1) := by decide +kernel
theorem dX1_runFor_92 : decode cX1_runFor 92 = .ok (.invokevirtual 52, 3) := by decide +kernel
theorem dX1_runFor_95 : decode cX1_runFor 95 = .ok (.aload_n 0, 1) := by decide +kernel
theorem dX1_runFor_96 : decode cX1_runFor 96 = .ok (.getfield 23, 3) := by decide +kernel
theorem dX1_runFor_99 : decode cX1_runFor 99 = .ok (.invokevirtual 41, 3) := by decide +kernel
theorem dX1_runFor_102 : decode cX1_runFor 102 = .ok (.iinc 2 1, 3) := by decide +kernel
theorem dX1_runFor_105 : decode cX1_runFor 105 = .ok (.goto (-62), 3) := by decide +kernel
theorem dX1_runFor_108 : decode cX1_runFor 108 = .ok (.return_, 1) := by decide +kernel
theorem dX2_init_0 : decode cX2_init 0 = .ok (.aload_n 0, 1) := by decide +kernel
theorem dX2_init_1 : decode cX2_init 1 = .ok (.invokespecial 3, 3) := by decide +kernel
theorem dX2_init_4 : decode cX2_init 4 = .ok (.aload_n 0, 1) := by decide +kernel
theorem dX2_init_5 : decode cX2_init 5 = .ok (.sipush 3000, 3) := by decide +kernel
theorem dX2_init_8 : decode cX2_init 8 = .ok (.newarray .int, 2) := by decide +kernel
theorem dX2_init_10 : decode cX2_init 10 = .ok (.putfield 11, 3) := by decide +kernel
theorem dX2_init_13 : decode cX2_init 13 = .ok (.return_, 1) := by decide +kernel
theorem dX2_note_0 : decode cX2_note 0 = .ok (.aload_n 0, 1) := by decide +kernel
theorem dX2_note_1 : decode cX2_note 1 = .ok (.getfield 15, 3) := by decide +kernel
theorem dX2_note_4 : decode cX2_note 4 = .ok (.sipush 600, 3) := by decide +kernel
theorem dX2_note_7 : decode cX2_note 7 = .ok (.if_icmp .lt 4, 3) := by decide +kernel
theorem dX2_note_10 : decode cX2_note 10 = .ok (.return_, 1) := by decide +kernel
theorem dX2_note_11 : decode cX2_note 11 = .ok (.aload_n 0, 1) := by decide +kernel
theorem dX2_note_12 : decode cX2_note 12 = .ok (.getfield 15, 3) := by decide +kernel
theorem dX2_note_15 : decode cX2_note 15 = .ok (.iconst 5, 1) := by decide +kernel
theorem dX2_note_16 : decode cX2_note 16 = .ok (.imul, 1) := by decide +kernel
theorem dX2_note_17 : decode cX2_note 17 = .ok (.istore 6, 2) := by decide +kernel
theorem dX2_note_19 : decode cX2_note 19 = .ok (.aload_n 0, 1) := by decide +kernel
theorem dX2_note_20 : decode cX2_note 20 = .ok (.getfield 11, 3) := by decide +kernel
theorem dX2_note_23 : decode cX2_note 23 = .ok (.iload 6, 2) := by decide +kernel
theorem dX2_note_25 : decode cX2_note 25 = .ok (.iconst 0, 1) := by decide +kernel
theorem dX2_note_26 : decode cX2_note 26 = .ok (.iadd, 1) := by decide +kernel
theorem dX2_note_27 : decode cX2_note 27 = .ok (.iload_n 1, 1) := by decide +kernel
theorem dX2_note_28 : decode cX2_note 28 = .ok (.iastore, 1) := by decide +kernel
theorem dX2_note_29 : decode cX2_note 29 = .ok (.aload_n 0, 1) := by decide +kernel
theorem dX2_note_30 : decode cX2_note 30 = .ok (.getfield 11, 3) := by decide +kernel
theorem dX2_note_33 : decode cX2_note 33 = .ok (.iload 6, 2) := by decide +kernel
theorem dX2_note_35 : decode cX2_note 35 = .ok (.iconst 1, 1) := by decide +kernel
theorem dX2_note_36 : decode cX2_note 36 = .ok (.iadd, 1) := by decide +kernel
theorem dX2_note_37 : decode cX2_note 37 = .ok (.iload_n 2, 1) := by decide +kernel
theorem dX2_note_38 : decode cX2_note 38 = .ok (.iastore, 1) := by decide +kernel
theorem dX2_note_39 : decode cX2_note 39 = .ok (.aload_n 0, 1) := by decide +kernel
theorem dX2_note_40 : decode cX2_note 40 = .ok (.getfield 11, 3) := by decide +kernel
theorem dX2_note_43 : decode cX2_note 43 = .ok (.iload 6, 2) := by decide +kernel
theorem dX2_note_45 : decode cX2_note 45 = .ok (.iconst 2, 1) := by decide +kernel
theorem dX2_note_46 : decode cX2_note 46 = .ok (.iadd, 1) := by decide +kernel
theorem dX2_note_47 : decode cX2_note 47 = .ok (.iload_n 3, 1) := by decide +kernel
theorem dX2_note_48 : decode cX2_note 48 = .ok (.iastore, 1) := by decide +kernel
theorem dX2_note_49 : decode cX2_note 49 = .ok (.aload_n 0, 1) := by decide +kernel
theorem dX2_note_50 : decode cX2_note 50 = .ok (.getfield 11, 3) := by decide +kernel
theorem dX2_note_53 : decode cX2_note 53 = .ok (.iload 6, 2) := by decide +kernel
theorem dX2_note_55 : decode cX2_note 55 = .ok (.iconst 3, 1) := by decide +kernel
theorem dX2_note_56 : decode cX2_note 56 = .ok (.iadd, 1) := by decide +kernel
theorem dX2_note_57 : decode cX2_note 57 = .ok (.iload 4, 2) := by decide +kernel
theorem dX2_note_59 : decode cX2_note 59 = .ok (.iastore, 1) := by decide +kernel
theorem dX2_note_60 : decode cX2_note 60 = .ok (.aload_n 0, 1) := by decide +kernel
theorem dX2_note_61 : decode cX2_note 61 = .ok (.getfield 11, 3) := by decide +kernel
theorem dX2_note_64 : decode cX2_note 64 = .ok (.iload 6, 2) := by decide +kernel
theorem dX2_note_66 : decode cX2_note 66 = .ok (.iconst 4, 1) := by decide +kernel
theorem dX2_note_67 : decode cX2_note 67 = .ok (.iadd, 1) := by decide +kernel
theorem dX2_note_68 : decode cX2_note 68 = .ok (.iload 5, 2) := by decide +kernel
theorem dX2_note_70 : decode cX2_note 70 = .ok (.iastore, 1) := by decide +kernel
theorem dX2_note_71 : decode cX2_note 71 = .ok (.aload_n 0, 1) := by decide +kernel
theorem dX2_note_72 : decode cX2_note 72 = .ok (.dup, 1) := by decide +kernel
theorem dX2_note_73 : decode cX2_note 73 = .ok (.getfield 15, 3) := by decide +kernel
theorem dX2_note_76 : decode cX2_note 76 = .ok (.iconst 1, 1) := by decide +kernel
theorem dX2_note_77 : decode cX2_note 77 = .ok (.iadd, 1) := by decide +kernel
theorem dX2_note_78 : decode cX2_note 78 = .ok (.putfield 15, 3) := by decide +kernel
theorem dX2_note_81 : decode cX2_note 81 = .ok (.return_, 1) := by decide +kernel
theorem dX2_valueOf_0 : decode cX2_valueOf 0 = .ok (.aload_n 0, 1) := by decide +kernel
theorem dX2_valueOf_1 : decode cX2_valueOf 1 = .ok (.getfield 11, 3) := by decide +kernel
theorem dX2_valueOf_4 : decode cX2_valueOf 4 = .ok (.iload_n 1, 1) := by decide +kernel
theorem dX2_valueOf_5 : decode cX2_valueOf 5 = .ok (.iconst 5, 1) := by decide +kernel
theorem dX2_valueOf_6 : decode cX2_valueOf 6 = .ok (.imul, 1) := by decide +kernel
theorem dX2_valueOf_7 : decode cX2_valueOf 7 = .ok (.iload_n 2, 1) := by decide +kernel
theorem dX2_valueOf_8 : decode cX2_valueOf 8 = .ok (.iadd, 1) := by decide +kernel
theorem dX2_valueOf_9 : decode cX2_valueOf 9 = .ok (.iaload, 1) := by decide +kernel
theorem dX2_valueOf_10 : decode cX2_valueOf 10 = .ok (.ireturn, 1) := by decide +kernel
theorem dX2_placesOf_0 : decode cX2_placesOf 0 = .ok (.iconst 0, 1) := by decide +kernel
theorem dX2_placesOf_1 : decode cX2_placesOf 1 = .ok (.istore 4, 2) := by decide +kernel
theorem dX2_placesOf_3 : decode cX2_placesOf 3 = .ok (.bipush (-4), 2) := by decide +kernel
theorem dX2_placesOf_5 : decode cX2_placesOf 5 = .ok (.istore 5, 2) := by decide +kernel
theorem dX2_placesOf_7 : decode cX2_placesOf 7 = .ok (.bipush (-4), 2) := by decide +kernel
theorem dX2_placesOf_9 : decode cX2_placesOf 9 = .ok (.istore 6, 2) := by decide +kernel
theorem dX2_placesOf_11 : decode cX2_placesOf 11 = .ok (.iconst 1, 1) := by decide +kernel
theorem dX2_placesOf_12 : decode cX2_placesOf 12 = .ok (.istore 7, 2) := by decide +kernel
theorem dX2_placesOf_14 : decode cX2_placesOf 14 = .ok (.iconst 0, 1) := by decide +kernel
theorem dX2_placesOf_15 : decode cX2_placesOf 15 = .ok (.istore 8, 2) := by decide +kernel
theorem dX2_placesOf_17 : decode cX2_placesOf 17 = .ok (.iload 8, 2) := by decide +kernel
theorem dX2_placesOf_19 : decode cX2_placesOf 19 = .ok (.aload_n 0, 1) := by decide +kernel
theorem dX2_placesOf_20 : decode cX2_placesOf 20 = .ok (.getfield 15, 3) := by decide +kernel
theorem dX2_placesOf_23 : decode cX2_placesOf 23 = .ok (.if_icmp .ge 114, 3) := by decide +kernel
theorem dX2_placesOf_26 : decode cX2_placesOf 26 = .ok (.aload_n 0, 1) := by decide +kernel
theorem dX2_placesOf_27 : decode cX2_placesOf 27 = .ok (.iload 8, 2) := by decide +kernel
theorem dX2_placesOf_29 : decode cX2_placesOf 29 = .ok (.iconst 0, 1) := by decide +kernel
theorem dX2_placesOf_30 : decode cX2_placesOf 30 = .ok (.invokevirtual 19, 3) := by decide +kernel
theorem dX2_placesOf_33 : decode cX2_placesOf 33 = .ok (.istore 9, 2) := by decide +kernel
theorem dX2_placesOf_35 : decode cX2_placesOf 35 = .ok (.aload_n 0, 1) := by decide +kernel
theorem dX2_placesOf_36 : decode cX2_placesOf 36 = .ok (.iload 8, 2) := by decide +kernel
theorem dX2_placesOf_38 : decode cX2_placesOf 38 = .ok (.iconst 1, 1) := by decide +kernel
theorem dX2_placesOf_39 : decode cX2_placesOf 39 = .ok (.invokevirtual 19, 3) := by decide +kernel
theorem dX2_placesOf_42 : decode cX2_placesOf 42 = .ok (.iload_n 1, 1) := by decide +kernel
theorem dX2_placesOf_43 : decode cX2_placesOf 43 = .ok (.if_icmp .ne 88, 3) := by decide +kernel
theorem dX2_placesOf_46 : decode cX2_placesOf 46 = .ok (.iload 9, 2) := by decide +kernel
theorem dX2_placesOf_48 : decode cX2_placesOf 48 = .ok (.aload_n 2, 1) := by decide +kernel
theorem dX2_placesOf_49 : decode cX2_placesOf 49 = .ok (.getfield 23, 3) := by decide +kernel
theorem dX2_placesOf_52 : decode cX2_placesOf 52 = .ok (.if_icmp .le 79, 3) := by decide +kernel
theorem dX2_placesOf_55 : decode cX2_placesOf 55 = .ok (.iload 9, 2) := by decide +kernel
theorem dX2_placesOf_57 : decode cX2_placesOf 57 = .ok (.aload_n 2, 1) := by decide +kernel
theorem dX2_placesOf_58 : decode cX2_placesOf 58 = .ok (.getfield 23, 3) := by decide +kernel
theorem dX2_placesOf_61 : decode cX2_placesOf 61 = .ok (.aload_n 2, 1) := by decide +kernel
theorem dX2_placesOf_62 : decode cX2_placesOf 62 = .ok (.getfield 28, 3) := by decide +kernel
theorem dX2_placesOf_65 : decode cX2_placesOf 65 = .ok (.iadd, 1) := by decide +kernel
theorem dX2_placesOf_66 : decode cX2_placesOf 66 = .ok (.if_icmp .gt 65, 3) := by decide +kernel
theorem dX2_placesOf_69 : decode cX2_placesOf 69 = .ok (.iload 4, 2) := by decide +kernel
theorem dX2_placesOf_71 : decode cX2_placesOf 71 = .ok (.ifCond .ne 21, 3) := by decide +kernel
theorem dX2_placesOf_74 : decode cX2_placesOf 74 = .ok (.aload_n 0, 1) := by decide +kernel
theorem dX2_placesOf_75 : decode cX2_placesOf 75 = .ok (.iload 8, 2) := by decide +kernel
theorem dX2_placesOf_77 : decode cX2_placesOf 77 = .ok (.iconst 2, 1) := by decide +kernel
theorem dX2_placesOf_78 : decode cX2_placesOf 78 = .ok (.invokevirtual 19, 3) := by decide +kernel
theorem dX2_placesOf_81 : decode cX2_placesOf 81 = .ok (.istore 5, 2) := by decide +kernel
theorem dX2_placesOf_83 : decode cX2_placesOf 83 = .ok (.aload_n 0, 1) := by decide +kernel
theorem dX2_placesOf_84 : decode cX2_placesOf 84 = .ok (.iload 8, 2) := by decide +kernel
theorem dX2_placesOf_86 : decode cX2_placesOf 86 = .ok (.iconst 3, 1) := by decide +kernel
theorem dX2_placesOf_87 : decode cX2_placesOf 87 = .ok (.invokevirtual 19, 3) := by decide +kernel
theorem dX2_placesOf_90 : decode cX2_placesOf 90 = .ok (.istore 6, 2) := by decide +kernel
theorem dX2_placesOf_92 : decode cX2_placesOf 92 = .ok (.iload 7, 2) := by decide +kernel
theorem dX2_placesOf_94 : decode cX2_placesOf 94 = .ok (.ifCond .eq 31, 3) := by decide +kernel
theorem dX2_placesOf_97 : decode cX2_placesOf 97 = .ok (.aload_n 0, 1) := by decide +kernel
theorem dX2_placesOf_98 : decode cX2_placesOf 98 = .ok (.iload 8, 2) := by decide +kernel
theorem dX2_placesOf_100 : decode cX2_placesOf 100 = .ok (.iconst 2, 1) := by decide +kernel
theorem dX2_placesOf_101 : decode cX2_placesOf 101 = .ok (.invokevirtual 19, 3) := by decide +kernel
theorem dX2_placesOf_104 : decode cX2_placesOf 104 = .ok (.iload 5, 2) := by decide +kernel
theorem dX2_placesOf_106 : decode cX2_placesOf 106 = .ok (.if_icmp .ne 19, 3) := by decide +kernel
theorem dX2_placesOf_109 : decode cX2_placesOf 109 = .ok (.aload_n 0, 1) := by decide +kernel
theorem dX2_placesOf_110 : decode cX2_placesOf 110 = .ok (.iload 8, 2) := by decide +kernel
theorem dX2_placesOf_112 : decode cX2_placesOf 112 = .ok (.iconst 3, 1) := by decide +kernel
theorem dX2_placesOf_113 : decode cX2_placesOf 113 = .ok (.invokevirtual 19, 3) := by decide +kernel
theorem dX2_placesOf_116 : decode cX2_placesOf 116 = .ok (.iload 6, 2) := by decide +kernel
theorem dX2_placesOf_118 : decode cX2_placesOf 118 = .ok (.if_icmp .ne 7, 3) := by decide +kernel
theorem dX2_placesOf_121 : decode cX2_placesOf 121 = .ok (.iconst 1, 1) := by decide +kernel
theorem dX2_placesOf_122 : decode cX2_placesOf 122 = .ok (.goto 4, 3) := by decide +kernel
theorem dX2_placesOf_125 : decode cX2_placesOf 125 = .ok (.iconst 0, 1) := by decide +kernel
theorem dX2_placesOf_126 : decode cX2_placesOf 126 = .ok (.istore 7, 2) := by decide +kernel
theorem dX2_placesOf_128 : decode cX2_placesOf 128 = .ok (.iinc 4 1, 3) := by decide +kernel
theorem dX2_placesOf_131 : decode cX2_placesOf 131 = .ok (.iinc 8 1, 3) := by decide +kernel
theorem dX2_placesOf_134 : decode cX2_placesOf 134 = .ok (.goto (-117), 3) := by decide +kernel
theorem dX2_placesOf_137 : decode cX2_placesOf 137 = .ok (.iload_n 3, 1) := by decide +kernel
theorem dX2_placesOf_138 : decode cX2_placesOf 138 = .ok (.tableswitch 48 0 2 #[26, 29, 45], 26) := by decide +kernel
theorem dX2_placesOf_164 : decode cX2_placesOf 164 = .ok (.iload 4, 2) := by decide +kernel
theorem dX2_placesOf_166 : decode cX2_placesOf 166 = .ok (.ireturn, 1) := by decide +kernel
theorem dX2_placesOf_167 : decode cX2_placesOf 167 = .ok (.iload 7, 2) := by decide +kernel
theorem dX2_placesOf_169 : decode cX2_placesOf 169 = .ok (.ifCond .eq 12, 3) := by decide +kernel
theorem dX2_placesOf_172 : decode cX2_placesOf 172 = .ok (.iload 4, 2) := by decide +kernel
theorem dX2_placesOf_174 : decode cX2_placesOf 174 = .ok (.ifCond .le 7, 3) := by decide +kernel
theorem dX2_placesOf_177 : decode cX2_placesOf 177 = .ok (.iconst 1, 1) := by decide +kernel
theorem dX2_placesOf_178 : decode cX2_placesOf 178 = .ok (.goto 4, 3) := by decide +kernel
theorem dX2_placesOf_181 : decode cX2_placesOf 181 = .ok (.iconst 0, 1) := by decide +kernel
theorem dX2_placesOf_182 : decode cX2_placesOf 182 = .ok (.ireturn, 1) := by decide +kernel
theorem dX2_placesOf_183 : decode cX2_placesOf 183 = .ok (.iload 5, 2) := by decide +kernel
theorem dX2_placesOf_185 : decode cX2_placesOf 185 = .ok (.ireturn, 1) := by decide +kernel
theorem dX2_placesOf_186 : decode cX2_placesOf 186 = .ok (.iload 6, 2) := by decide +kernel
theorem dX2_placesOf_188 : decode cX2_placesOf 188 = .ok (.ireturn, 1) := by decide +kernel
theorem dX3_init_0 : decode cX3_init 0 = .ok (.aload_n 0, 1) := by decide +kernel
theorem dX3_init_1 : decode cX3_init 1 = .ok (.invokespecial 3, 3) := by decide +kernel
theorem dX3_init_4 : decode cX3_init 4 = .ok (.aload_n 0, 1) := by decide +kernel
theorem dX3_init_5 : decode cX3_init 5 = .ok (.bipush 120, 2) := by decide +kernel
theorem dX3_init_7 : decode cX3_init 7 = .ok (.newarray .int, 2) := by decide +kernel
theorem dX3_init_9 : decode cX3_init 9 = .ok (.putfield 9, 3) := by decide +kernel
theorem dX3_init_12 : decode cX3_init 12 = .ok (.aload_n 0, 1) := by decide +kernel
theorem dX3_init_13 : decode cX3_init 13 = .ok (.bipush 120, 2) := by decide +kernel
theorem dX3_init_15 : decode cX3_init 15 = .ok (.newarray .int, 2) := by decide +kernel
theorem dX3_init_17 : decode cX3_init 17 = .ok (.putfield 15, 3) := by decide +kernel
theorem dX3_init_20 : decode cX3_init 20 = .ok (.aload_n 0, 1) := by decide +kernel
theorem dX3_init_21 : decode cX3_init 21 = .ok (.iconst 5, 1) := by decide +kernel
theorem dX3_init_22 : decode cX3_init 22 = .ok (.newarray .int, 2) := by decide +kernel
theorem dX3_init_24 : decode cX3_init 24 = .ok (.putfield 18, 3) := by decide +kernel
theorem dX3_init_27 : decode cX3_init 27 = .ok (.return_, 1) := by decide +kernel
theorem dX3_forget_0 : decode cX3_forget 0 = .ok (.iconst 0, 1) := by decide +kernel
theorem dX3_forget_1 : decode cX3_forget 1 = .ok (.istore_n 1, 1) := by decide +kernel
theorem dX3_forget_2 : decode cX3_forget 2 = .ok (.iload_n 1, 1) := by decide +kernel
theorem dX3_forget_3 : decode cX3_forget 3 = .ok (.bipush 120, 2) := by decide +kernel
theorem dX3_forget_5 : decode cX3_forget 5 = .ok (.if_icmp .ge 16, 3) := by decide +kernel
theorem dX3_forget_8 : decode cX3_forget 8 = .ok (.aload_n 0, 1) := by decide +kernel
theorem dX3_forget_9 : decode cX3_forget 9 = .ok (.getfield 15, 3) := by decide +kernel
theorem dX3_forget_12 : decode cX3_forget 12 = .ok (.iload_n 1, 1) := by decide +kernel
theorem dX3_forget_13 : decode cX3_forget 13 = .ok (.iconst 0, 1) := by decide +kernel
theorem dX3_forget_14 : decode cX3_forget 14 = .ok (.iastore, 1) := by decide +kernel
theorem dX3_forget_15 : decode cX3_forget 15 = .ok (.iinc 1 1, 3) := by decide +kernel
theorem dX3_forget_18 : decode cX3_forget 18 = .ok (.goto (-16), 3) := by decide +kernel
theorem dX3_forget_21 : decode cX3_forget 21 = .ok (.return_, 1) := by decide +kernel
theorem dX3_standAs_0 : decode cX3_standAs 0 = .ok (.iload_n 1, 1) := by decide +kernel
theorem dX3_standAs_1 : decode cX3_standAs 1 = .ok (.istore_n 3, 1) := by decide +kernel
theorem dX3_standAs_2 : decode cX3_standAs 2 = .ok (.iconst 0, 1) := by decide +kernel
theorem dX3_standAs_3 : decode cX3_standAs 3 = .ok (.istore 4, 2) := by decide +kernel
theorem dX3_standAs_5 : decode cX3_standAs 5 = .ok (.iload_n 2, 1) := by decide +kernel
theorem dX3_standAs_6 : decode cX3_standAs 6 = .ok (.invokestatic 21, 3) := by decide +kernel
theorem dX3_standAs_9 : decode cX3_standAs 9 = .ok (.istore 5, 2) := by decide +kernel
theorem dX3_standAs_11 : decode cX3_standAs 11 = .ok (.iconst 0, 1) := by decide +kernel
theorem dX3_standAs_12 : decode cX3_standAs 12 = .ok (.istore 6, 2) := by decide +kernel
theorem dX3_standAs_14 : decode cX3_standAs 14 = .ok (.iload 6, 2) := by decide +kernel
theorem dX3_standAs_16 : decode cX3_standAs 16 = .ok (.iload_n 2, 1) := by decide +kernel
theorem dX3_standAs_17 : decode cX3_standAs 17 = .ok (.if_icmp .ge 76, 3) := by decide +kernel
theorem dX3_standAs_20 : decode cX3_standAs 20 = .ok (.iload 5, 2) := by decide +kernel
theorem dX3_standAs_22 : decode cX3_standAs 22 = .ok (.iload_n 2, 1) := by decide +kernel
theorem dX3_standAs_23 : decode cX3_standAs 23 = .ok (.iload 6, 2) := by decide +kernel
theorem dX3_standAs_25 : decode cX3_standAs 25 = .ok (.isub, 1) := by decide +kernel
theorem dX3_standAs_26 : decode cX3_standAs 26 = .ok (.idiv, 1) := by decide +kernel
theorem dX3_standAs_27 : decode cX3_standAs 27 = .ok (.istore 5, 2) := by decide +kernel
theorem dX3_standAs_29 : decode cX3_standAs 29 = .ok (.iload 5, 2) := by decide +kernel
theorem dX3_standAs_31 : decode cX3_standAs 31 = .ok (.ifCond .le 10, 3) := by decide +kernel
theorem dX3_standAs_34 : decode cX3_standAs 34 = .ok (.iload_n 3, 1) := by decide +kernel
theorem dX3_standAs_35 : decode cX3_standAs 35 = .ok (.iload 5, 2) := by decide +kernel
theorem dX3_standAs_37 : decode cX3_standAs 37 = .ok (.idiv, 1) := by decide +kernel
theorem dX3_standAs_38 : decode cX3_standAs 38 = .ok (.goto 4, 3) := by decide +kernel
theorem dX3_standAs_41 : decode cX3_standAs 41 = .ok (.iconst 0, 1) := by decide +kernel
theorem dX3_standAs_42 : decode cX3_standAs 42 = .ok (.istore 7, 2) := by decide +kernel
theorem dX3_standAs_44 : decode cX3_standAs 44 = .ok (.iload 5, 2) := by decide +kernel
theorem dX3_standAs_46 : decode cX3_standAs 46 = .ok (.ifCond .le 10, 3) := by decide +kernel
theorem dX3_standAs_49 : decode cX3_standAs 49 = .ok (.iload_n 3, 1) := by decide +kernel
theorem dX3_standAs_50 : decode cX3_standAs 50 = .ok (.iload 5, 2) := by decide +kernel
theorem dX3_standAs_52 : decode cX3_standAs 52 = .ok (.irem, 1) := by decide +kernel
theorem dX3_standAs_53 : decode cX3_standAs 53 = .ok (.goto 4, 3) := by decide +kernel
theorem dX3_standAs_56 : decode cX3_standAs 56 = .ok (.iconst 0, 1) := by decide +kernel
theorem dX3_standAs_57 : decode cX3_standAs 57 = .ok (.istore_n 3, 1) := by decide +kernel
theorem dX3_standAs_58 : decode cX3_standAs 58 = .ok (.aload_n 0, 1) := by decide +kernel
theorem dX3_standAs_59 : decode cX3_standAs 59 = .ok (.iload 4, 2) := by decide +kernel
theorem dX3_standAs_61 : decode cX3_standAs 61 = .ok (.iload 7, 2) := by decide +kernel
theorem dX3_standAs_63 : decode cX3_standAs 63 = .ok (.iload_n 2, 1) := by decide +kernel
theorem dX3_standAs_64 : decode cX3_standAs 64 = .ok (.invokevirtual 25, 3) := by decide +kernel
theorem dX3_standAs_67 : decode cX3_standAs 67 = .ok (.istore 8, 2) := by decide +kernel
theorem dX3_standAs_69 : decode cX3_standAs 69 = .ok (.aload_n 0, 1) := by decide +kernel
theorem dX3_standAs_70 : decode cX3_standAs 70 = .ok (.getfield 18, 3) := by decide +kernel
theorem dX3_standAs_73 : decode cX3_standAs 73 = .ok (.iload 6, 2) := by decide +kernel
theorem dX3_standAs_75 : decode cX3_standAs 75 = .ok (.iload 8, 2) := by decide +kernel
theorem dX3_standAs_77 : decode cX3_standAs 77 = .ok (.iastore, 1) := by decide +kernel
theorem dX3_standAs_78 : decode cX3_standAs 78 = .ok (.iload 4, 2) := by decide +kernel
theorem dX3_standAs_80 : decode cX3_standAs 80 = .ok (.iconst 1, 1) := by decide +kernel
theorem dX3_standAs_81 : decode cX3_standAs 81 = .ok (.iload 8, 2) := by decide +kernel
theorem dX3_standAs_83 : decode cX3_standAs 83 = .ok (.ishl, 1) := by decide +kernel
theorem dX3_standAs_84 : decode cX3_standAs 84 = .ok (.ior, 1) := by decide +kernel
theorem dX3_standAs_85 : decode cX3_standAs 85 = .ok (.istore 4, 2) := by decide +kernel
theorem dX3_standAs_87 : decode cX3_standAs 87 = .ok (.iinc 6 1, 3) := by decide +kernel
theorem dX3_standAs_90 : decode cX3_standAs 90 = .ok (.goto (-76), 3) := by decide +kernel
theorem dX3_standAs_93 : decode cX3_standAs 93 = .ok (.return_, 1) := by decide +kernel
theorem dX3_unusedHand_0 : decode cX3_unusedHand 0 = .ok (.iconst 0, 1) := by decide +kernel
theorem dX3_unusedHand_1 : decode cX3_unusedHand 1 = .ok (.istore 4, 2) := by decide +kernel
theorem dX3_unusedHand_3 : decode cX3_unusedHand 3 = .ok (.iconst 0, 1) := by decide +kernel
theorem dX3_unusedHand_4 : decode cX3_unusedHand 4 = .ok (.istore 5, 2) := by decide +kernel
theorem dX3_unusedHand_6 : decode cX3_unusedHand 6 = .ok (.iload 5, 2) := by decide +kernel
theorem dX3_unusedHand_8 : decode cX3_unusedHand 8 = .ok (.iload_n 3, 1) := by decide +kernel
theorem dX3_unusedHand_9 : decode cX3_unusedHand 9 = .ok (.if_icmp .ge 30, 3) := by decide +kernel
theorem dX3_unusedHand_12 : decode cX3_unusedHand 12 = .ok (.iload_n 1, 1) := by decide +kernel
theorem dX3_unusedHand_13 : decode cX3_unusedHand 13 = .ok (.iload 5, 2) := by decide +kernel
theorem dX3_unusedHand_15 : decode cX3_unusedHand 15 = .ok (.ishr, 1) := by decide +kernel
theorem dX3_unusedHand_16 : decode cX3_unusedHand 16 = .ok (.iconst 1, 1) := by decide +kernel
theorem dX3_unusedHand_17 : decode cX3_unusedHand 17 = .ok (.iand, 1) := by decide +kernel
theorem dX3_unusedHand_18 : decode cX3_unusedHand 18 = .ok (.ifCond .ne 15, 3) := by decide +kernel
theorem dX3_unusedHand_21 : decode cX3_unusedHand 21 = .ok (.iload 4, 2) := by decide +kernel
theorem dX3_unusedHand_23 : decode cX3_unusedHand 23 = .ok (.iload_n 2, 1) := by decide +kernel
theorem dX3_unusedHand_24 : decode cX3_unusedHand 24 = .ok (.if_icmp .ne 6, 3) := by decide +kernel
theorem dX3_unusedHand_27 : decode cX3_unusedHand 27 = .ok (.iload 5, 2) := by decide +kernel
theorem dX3_unusedHand_29 : decode cX3_unusedHand 29 = .ok (.ireturn, 1) := by decide +kernel
theorem dX3_unusedHand_30 : decode cX3_unusedHand 30 = .ok (.iinc 4 1, 3) := by decide +kernel
theorem dX3_unusedHand_33 : decode cX3_unusedHand 33 = .ok (.iinc 5 1, 3) := by decide +kernel
theorem dX3_unusedHand_36 : decode cX3_unusedHand 36 = .ok (.goto (-30), 3) := by decide +kernel
theorem dX3_unusedHand_39 : decode cX3_unusedHand 39 = .ok (.iconst 0, 1) := by decide +kernel
theorem dX3_unusedHand_40 : decode cX3_unusedHand 40 = .ok (.ireturn, 1) := by decide +kernel
theorem dX4_init_0 : decode cX4_init 0 = .ok (.aload_n 0, 1) := by decide +kernel
theorem dX4_init_1 : decode cX4_init 1 = .ok (.invokespecial 3, 3) := by decide +kernel
theorem dX4_init_4 : decode cX4_init 4 = .ok (.aload_n 0, 1) := by decide +kernel
theorem dX4_init_5 : decode cX4_init 5 = .ok (.iconst 5, 1) := by decide +kernel
theorem dX4_init_6 : decode cX4_init 6 = .ok (.newarray .int, 2) := by decide +kernel
theorem dX4_init_8 : decode cX4_init 8 = .ok (.putfield 9, 3) := by decide +kernel
theorem dX4_init_11 : decode cX4_init 11 = .ok (.return_, 1) := by decide +kernel
theorem dX4_takeFrom_0 : decode cX4_takeFrom 0 = .ok (.aload_n 0, 1) := by decide +kernel
theorem dX4_takeFrom_1 : decode cX4_takeFrom 1 = .ok (.aload_n 2, 1) := by decide +kernel
theorem dX4_takeFrom_2 : decode cX4_takeFrom 2 = .ok (.getfield 15, 3) := by decide +kernel
theorem dX4_takeFrom_5 : decode cX4_takeFrom 5 = .ok (.putfield 21, 3) := by decide +kernel
theorem dX4_takeFrom_8 : decode cX4_takeFrom 8 = .ok (.aload_n 0, 1) := by decide +kernel
theorem dX4_takeFrom_9 : decode cX4_takeFrom 9 = .ok (.aload_n 2, 1) := by decide +kernel
theorem dX4_takeFrom_10 : decode cX4_takeFrom 10 = .ok (.getfield 22, 3) := by decide +kernel
theorem dX4_takeFrom_13 : decode cX4_takeFrom 13 = .ok (.putfield 25, 3) := by decide +kernel
theorem dX4_takeFrom_16 : decode cX4_takeFrom 16 = .ok (.aload_n 1, 1) := by decide +kernel
theorem dX4_takeFrom_17 : decode cX4_takeFrom 17 = .ok (.getfield 26, 3) := by decide +kernel
theorem dX4_takeFrom_20 : decode cX4_takeFrom 20 = .ok (.iconst 0, 1) := by decide +kernel
theorem dX4_takeFrom_21 : decode cX4_takeFrom 21 = .ok (.aload_n 0, 1) := by decide +kernel
theorem dX4_takeFrom_22 : decode cX4_takeFrom 22 = .ok (.getfield 9, 3) := by decide +kernel
theorem dX4_takeFrom_25 : decode cX4_takeFrom 25 = .ok (.iconst 0, 1) := by decide +kernel
theorem dX4_takeFrom_26 : decode cX4_takeFrom 26 = .ok (.iconst 5, 1) := by decide +kernel
theorem dX4_takeFrom_27 : decode cX4_takeFrom 27 = .ok (.invokestatic 29, 3) := by decide +kernel
theorem dX4_takeFrom_30 : decode cX4_takeFrom 30 = .ok (.return_, 1) := by decide +kernel
theorem dX5_init_0 : decode cX5_init 0 = .ok (.aload_n 0, 1) := by decide +kernel
theorem dX5_init_1 : decode cX5_init 1 = .ok (.invokespecial 3, 3) := by decide +kernel
theorem dX5_init_4 : decode cX5_init 4 = .ok (.aload_n 0, 1) := by decide +kernel
theorem dX5_init_5 : decode cX5_init 5 = .ok (.new 9, 3) := by decide +kernel
theorem dX5_init_8 : decode cX5_init 8 = .ok (.dup, 1) := by decide +kernel
theorem dX5_init_9 : decode cX5_init 9 = .ok (.invokespecial 11, 3) := by decide +kernel
theorem dX5_init_12 : decode cX5_init 12 = .ok (.putfield 12, 3) := by decide +kernel
theorem dX5_init_15 : decode cX5_init 15 = .ok (.aload_n 0, 1) := by decide +kernel
theorem dX5_init_16 : decode cX5_init 16 = .ok (.sipush 400, 3) := by decide +kernel
theorem dX5_init_19 : decode cX5_init 19 = .ok (.newarray .byte, 2) := by decide +kernel
theorem dX5_init_21 : decode cX5_init 21 = .ok (.putfield 18, 3) := by decide +kernel
theorem dX5_init_24 : decode cX5_init 24 = .ok (.return_, 1) := by decide +kernel
theorem dX5_readAll_0 : decode cX5_readAll 0 = .ok (.aload_n 0, 1) := by decide +kernel
theorem dX5_readAll_1 : decode cX5_readAll 1 = .ok (.iconst 0, 1) := by decide +kernel
theorem dX5_readAll_2 : decode cX5_readAll 2 = .ok (.putfield 22, 3) := by decide +kernel
theorem dX5_readAll_5 : decode cX5_readAll 5 = .ok (.aload_n 0, 1) := by decide +kernel
theorem dX5_readAll_6 : decode cX5_readAll 6 = .ok (.iconst 0, 1) := by decide +kernel
theorem dX5_readAll_7 : decode cX5_readAll 7 = .ok (.putfield 26, 3) := by decide +kernel
theorem dX5_readAll_10 : decode cX5_readAll 10 = .ok (.aload_n 0, 1) := by decide +kernel
theorem dX5_readAll_11 : decode cX5_readAll 11 = .ok (.iconst 0, 1) := by decide +kernel
theorem dX5_readAll_12 : decode cX5_readAll 12 = .ok (.putfield 29, 3) := by decide +kernel
theorem dX5_readAll_15 : decode cX5_readAll 15 = .ok (.aload_n 0, 1) := by decide +kernel
theorem dX5_readAll_16 : decode cX5_readAll 16 = .ok (.iconst 0, 1) := by decide +kernel
theorem dX5_readAll_17 : decode cX5_readAll 17 = .ok (.putfield 32, 3) := by decide +kernel
theorem dX5_readAll_20 : decode cX5_readAll 20 = .ok (.aload_n 0, 1) := by decide +kernel
theorem dX5_readAll_21 : decode cX5_readAll 21 = .ok (.iconst 0, 1) := by decide +kernel
theorem dX5_readAll_22 : decode cX5_readAll 22 = .ok (.putfield 35, 3) := by decide +kernel
theorem dX5_readAll_25 : decode cX5_readAll 25 = .ok (.aload_n 0, 1) := by decide +kernel
theorem dX5_readAll_26 : decode cX5_readAll 26 = .ok (.iconst 0, 1) := by decide +kernel
theorem dX5_readAll_27 : decode cX5_readAll 27 = .ok (.putfield 38, 3) := by decide +kernel
theorem dX5_readAll_30 : decode cX5_readAll 30 = .ok (.aload_n 0, 1) := by decide +kernel
theorem dX5_readAll_31 : decode cX5_readAll 31 = .ok (.iconst 0, 1) := by decide +kernel
theorem dX5_readAll_32 : decode cX5_readAll 32 = .ok (.putfield 41, 3) := by decide +kernel
theorem dX5_readAll_35 : decode cX5_readAll 35 = .ok (.aload_n 0, 1) := by decide +kernel
theorem dX5_readAll_36 : decode cX5_readAll 36 = .ok (.iconst 0, 1) := by decide +kernel
theorem dX5_readAll_37 : decode cX5_readAll 37 = .ok (.putfield 45, 3) := by decide +kernel
theorem dX5_readAll_40 : decode cX5_readAll 40 = .ok (.aload_n 0, 1) := by decide +kernel
theorem dX5_readAll_41 : decode cX5_readAll 41 = .ok (.getfield 12, 3) := by decide +kernel
theorem dX5_readAll_44 : decode cX5_readAll 44 = .ok (.invokevirtual 48, 3) := by decide +kernel
theorem dX5_readAll_47 : decode cX5_readAll 47 = .ok (.iconst 1, 1) := by decide +kernel
theorem dX5_readAll_48 : decode cX5_readAll 48 = .ok (.istore_n 1, 1) := by decide +kernel
theorem dX5_readAll_49 : decode cX5_readAll 49 = .ok (.iconst 0, 1) := by decide +kernel
theorem dX5_readAll_50 : decode cX5_readAll 50 = .ok (.istore_n 2, 1) := by decide +kernel
theorem dX5_readAll_51 : decode cX5_readAll 51 = .ok (.iload_n 2, 1) := by decide +kernel
theorem dX5_readAll_52 : decode cX5_readAll 52 = .ok (.sipush 400, 3) := by decide +kernel
theorem dX5_readAll_55 : decode cX5_readAll 55 = .ok (.if_icmp .gt 40, 3) := by decide +kernel
theorem dX5_readAll_58 : decode cX5_readAll 58 = .ok (.iload_n 1, 1) := by decide +kernel
theorem dX5_readAll_59 : decode cX5_readAll 59 = .ok (.ifCond .eq 36, 3) := by decide +kernel
theorem dX5_readAll_62 : decode cX5_readAll 62 = .ok (.aload_n 0, 1) := by decide +kernel
theorem dX5_readAll_63 : decode cX5_readAll 63 = .ok (.invokevirtual 51, 3) := by decide +kernel
theorem dX5_readAll_66 : decode cX5_readAll 66 = .ok (.ifCond .eq 21, 3) := by decide +kernel
theorem dX5_readAll_69 : decode cX5_readAll 69 = .ok (.aload_n 0, 1) := by decide +kernel
theorem dX5_readAll_70 : decode cX5_readAll 70 = .ok (.getfield 55, 3) := by decide +kernel
theorem dX5_readAll_73 : decode cX5_readAll 73 = .ok (.ifCond .eq 14, 3) := by decide +kernel
theorem dX5_readAll_76 : decode cX5_readAll 76 = .ok (.aload_n 0, 1) := by decide +kernel
theorem dX5_readAll_77 : decode cX5_readAll 77 = .ok (.invokevirtual 58, 3) := by decide +kernel
theorem dX5_readAll_80 : decode cX5_readAll 80 = .ok (.ifCond .eq 7, 3) := by decide +kernel
theorem dX5_readAll_83 : decode cX5_readAll 83 = .ok (.iconst 1, 1) := by decide +kernel
theorem dX5_readAll_84 : decode cX5_readAll 84 = .ok (.goto 4, 3) := by decide +kernel
theorem dX5_readAll_87 : decode cX5_readAll 87 = .ok (.iconst 0, 1) := by decide +kernel
theorem dX5_readAll_88 : decode cX5_readAll 88 = .ok (.istore_n 1, 1) := by decide +kernel
theorem dX5_readAll_89 : decode cX5_readAll 89 = .ok (.iinc 2 1, 3) := by decide +kernel
theorem dX5_readAll_92 : decode cX5_readAll 92 = .ok (.goto (-41), 3) := by decide +kernel
theorem dX5_readAll_95 : decode cX5_readAll 95 = .ok (.aload_n 0, 1) := by decide +kernel
theorem dX5_readAll_96 : decode cX5_readAll 96 = .ok (.getfield 29, 3) := by decide +kernel
theorem dX5_readAll_99 : decode cX5_readAll 99 = .ok (.ifCond .ne 14, 3) := by decide +kernel
theorem dX5_readAll_102 : decode cX5_readAll 102 = .ok (.aload_n 0, 1) := by decide +kernel
theorem dX5_readAll_103 : decode cX5_readAll 103 = .ok (.invokevirtual 61, 3) := by decide +kernel
theorem dX5_readAll_106 : decode cX5_readAll 106 = .ok (.ifCond .eq 7, 3) := by decide +kernel
theorem dX5_readAll_109 : decode cX5_readAll 109 = .ok (.iconst 1, 1) := by decide +kernel
theorem dX5_readAll_110 : decode cX5_readAll 110 = .ok (.goto 4, 3) := by decide +kernel
theorem dX5_readAll_113 : decode cX5_readAll 113 = .ok (.iconst 0, 1) := by decide +kernel
theorem dX5_readAll_114 : decode cX5_readAll 114 = .ok (.ireturn, 1) := by decide +kernel
theorem dX5_refuse_0 : decode cX5_refuse 0 = .ok (.aload_n 0, 1) := by decide +kernel
theorem dX5_refuse_1 : decode cX5_refuse 1 = .ok (.iload_n 1, 1) := by decide +kernel
theorem dX5_refuse_2 : decode cX5_refuse 2 = .ok (.putfield 29, 3) := by decide +kernel
theorem dX5_refuse_5 : decode cX5_refuse 5 = .ok (.aload_n 0, 1) := by decide +kernel
theorem dX5_refuse_6 : decode cX5_refuse 6 = .ok (.iload_n 2, 1) := by decide +kernel
theorem dX5_refuse_7 : decode cX5_refuse 7 = .ok (.putfield 32, 3) := by decide +kernel
theorem dX5_refuse_10 : decode cX5_refuse 10 = .ok (.iconst 0, 1) := by decide +kernel
theorem dX5_refuse_11 : decode cX5_refuse 11 = .ok (.ireturn, 1) := by decide +kernel
theorem dX5_isComplete_0 : decode cX5_isComplete 0 = .ok (.aload_n 0, 1) := by decide +kernel
theorem dX5_isComplete_1 : decode cX5_isComplete 1 = .ok (.getfield 12, 3) := by decide +kernel
theorem dX5_isComplete_4 : decode cX5_isComplete 4 = .ok (.getfield 64, 3) := by decide +kernel
theorem dX5_isComplete_7 : decode cX5_isComplete 7 = .ok (.ifCond .eq 13, 3) := by decide +kernel
theorem dX5_isComplete_10 : decode cX5_isComplete 10 = .ok (.aload_n 0, 1) := by decide +kernel
theorem dX5_isComplete_11 : decode cX5_isComplete 11 = .ok (.getfield 12, 3) := by decide +kernel
theorem dX5_isComplete_14 : decode cX5_isComplete 14 = .ok (.getfield 67, 3) := by decide +kernel
theorem dX5_isComplete_17 : decode cX5_isComplete 17 = .ok (.ifCond .ne 14, 3) := by decide +kernel
theorem dX5_isComplete_20 : decode cX5_isComplete 20 = .ok (.aload_n 0, 1) := by decide +kernel
theorem dX5_isComplete_21 : decode cX5_isComplete 21 = .ok (.bipush 6, 2) := by decide +kernel
theorem dX5_isComplete_23 : decode cX5_isComplete 23 = .ok (.aload_n 0, 1) := by decide +kernel
theorem dX5_isComplete_24 : decode cX5_isComplete 24 = .ok (.getfield 70, 3) := by decide +kernel
theorem dX5_isComplete_27 : decode cX5_isComplete 27 = .ok (.invokevirtual 73, 3) := by decide +kernel
theorem dX5_isComplete_30 : decode cX5_isComplete 30 = .ok (.ireturn, 1) := by decide +kernel
theorem dX5_isComplete_31 : decode cX5_isComplete 31 = .ok (.iconst 0, 1) := by decide +kernel
theorem dX5_isComplete_32 : decode cX5_isComplete 32 = .ok (.istore_n 1, 1) := by decide +kernel
theorem dX5_isComplete_33 : decode cX5_isComplete 33 = .ok (.iload_n 1, 1) := by decide +kernel
theorem dX5_isComplete_34 : decode cX5_isComplete 34 = .ok (.iconst 3, 1) := by decide +kernel
theorem dX5_isComplete_35 : decode cX5_isComplete 35 = .ok (.if_icmp .ge 78, 3) := by decide +kernel
theorem dX5_isComplete_38 : decode cX5_isComplete 38 = .ok (.aload_n 0, 1) := by decide +kernel
theorem dX5_isComplete_39 : decode cX5_isComplete 39 = .ok (.getfield 38, 3) := by decide +kernel
theorem dX5_isComplete_42 : decode cX5_isComplete 42 = .ok (.iload_n 1, 1) := by decide +kernel
theorem dX5_isComplete_43 : decode cX5_isComplete 43 = .ok (.ishr, 1) := by decide +kernel
theorem dX5_isComplete_44 : decode cX5_isComplete 44 = .ok (.iconst 1, 1) := by decide +kernel
theorem dX5_isComplete_45 : decode cX5_isComplete 45 = .ok (.iand, 1) := by decide +kernel
theorem dX5_isComplete_46 : decode cX5_isComplete 46 = .ok (.ifCond .ne 31, 3) := by decide +kernel
theorem dX5_isComplete_49 : decode cX5_isComplete 49 = .ok (.iload_n 1, 1) := by decide +kernel
theorem dX5_isComplete_50 : decode cX5_isComplete 50 = .ok (.ifCond .le 27, 3) := by decide +kernel
theorem dX5_isComplete_53 : decode cX5_isComplete 53 = .ok (.aload_n 0, 1) := by decide +kernel
theorem dX5_isComplete_54 : decode cX5_isComplete 54 = .ok (.getfield 12, 3) := by decide +kernel
theorem dX5_isComplete_57 : decode cX5_isComplete 57 = .ok (.getfield 77, 3) := by decide +kernel
theorem dX5_isComplete_60 : decode cX5_isComplete 60 = .ok (.iconst 0, 1) := by decide +kernel
theorem dX5_isComplete_61 : decode cX5_isComplete 61 = .ok (.aload_n 0, 1) := by decide +kernel
theorem dX5_isComplete_62 : decode cX5_isComplete 62 = .ok (.getfield 12, 3) := by decide +kernel
theorem dX5_isComplete_65 : decode cX5_isComplete 65 = .ok (.getfield 77, 3) := by decide +kernel
theorem dX5_isComplete_68 : decode cX5_isComplete 68 = .ok (.iload_n 1, 1) := by decide +kernel
theorem dX5_isComplete_69 : decode cX5_isComplete 69 = .ok (.bipush 8, 2) := by decide +kernel
theorem dX5_isComplete_71 : decode cX5_isComplete 71 = .ok (.imul, 1) := by decide +kernel
theorem dX5_isComplete_72 : decode cX5_isComplete 72 = .ok (.bipush 8, 2) := by decide +kernel
theorem dX5_isComplete_74 : decode cX5_isComplete 74 = .ok (.invokestatic 81, 3) := by decide +kernel
theorem dX5_isComplete_77 : decode cX5_isComplete 77 = .ok (.aload_n 0, 1) := by decide +kernel
theorem dX5_isComplete_78 : decode cX5_isComplete 78 = .ok (.getfield 12, 3) := by decide +kernel
theorem dX5_isComplete_81 : decode cX5_isComplete 81 = .ok (.iconst 0, 1) := by decide +kernel
theorem dX5_isComplete_82 : decode cX5_isComplete 82 = .ok (.iload_n 1, 1) := by decide +kernel
theorem dX5_isComplete_83 : decode cX5_isComplete 83 = .ok (.invokevirtual 87, 3) := by decide +kernel
theorem dX5_isComplete_86 : decode cX5_isComplete 86 = .ok (.aload_n 0, 1) := by decide +kernel
theorem dX5_isComplete_87 : decode cX5_isComplete 87 = .ok (.getfield 12, 3) := by decide +kernel
theorem dX5_isComplete_90 : decode cX5_isComplete 90 = .ok (.getfield 64, 3) := by decide +kernel
theorem dX5_isComplete_93 : decode cX5_isComplete 93 = .ok (.if_icmp .ne 14, 3) := by decide +kernel
theorem dX5_isComplete_96 : decode cX5_isComplete 96 = .ok (.aload_n 0, 1) := by decide +kernel
theorem dX5_isComplete_97 : decode cX5_isComplete 97 = .ok (.bipush 7, 2) := by decide +kernel
theorem dX5_isComplete_99 : decode cX5_isComplete 99 = .ok (.aload_n 0, 1) := by decide +kernel
theorem dX5_isComplete_100 : decode cX5_isComplete 100 = .ok (.getfield 70, 3) := by decide +kernel
theorem dX5_isComplete_103 : decode cX5_isComplete 103 = .ok (.invokevirtual 73, 3) := by decide +kernel
theorem dX5_isComplete_106 : decode cX5_isComplete 106 = .ok (.ireturn, 1) := by decide +kernel
theorem dX5_isComplete_107 : decode cX5_isComplete 107 = .ok (.iinc 1 1, 3) := by decide +kernel
theorem dX5_isComplete_110 : decode cX5_isComplete 110 = .ok (.goto (-77), 3) := by decide +kernel
theorem dX5_isComplete_113 : decode cX5_isComplete 113 = .ok (.aload_n 0, 1) := by decide +kernel
theorem dX5_isComplete_114 : decode cX5_isComplete 114 = .ok (.getfield 12, 3) := by decide +kernel
theorem dX5_isComplete_117 : decode cX5_isComplete 117 = .ok (.invokevirtual 91, 3) := by decide +kernel
theorem dX5_isComplete_120 : decode cX5_isComplete 120 = .ok (.iconst 1, 1) := by decide +kernel
theorem dX5_isComplete_121 : decode cX5_isComplete 121 = .ok (.ireturn, 1) := by decide +kernel
theorem dX5_readLine_0 : decode cX5_readLine 0 = .ok (.aload_n 0, 1) := by decide +kernel
theorem dX5_readLine_1 : decode cX5_readLine 1 = .ok (.getfield 55, 3) := by decide +kernel
theorem dX5_readLine_4 : decode cX5_readLine 4 = .ok (.iconst 1, 1) := by decide +kernel
theorem dX5_readLine_5 : decode cX5_readLine 5 = .ok (.if_icmp .eq 13, 3) := by decide +kernel
theorem dX5_readLine_8 : decode cX5_readLine 8 = .ok (.aload_n 0, 1) := by decide +kernel
theorem dX5_readLine_9 : decode cX5_readLine 9 = .ok (.iconst 2, 1) := by decide +kernel
theorem dX5_readLine_10 : decode cX5_readLine 10 = .ok (.aload_n 0, 1) := by decide +kernel
theorem dX5_readLine_11 : decode cX5_readLine 11 = .ok (.getfield 94, 3) := by decide +kernel
theorem dX5_readLine_14 : decode cX5_readLine 14 = .ok (.invokevirtual 73, 3) := by decide +kernel
theorem dX5_readLine_17 : decode cX5_readLine 17 = .ok (.ireturn, 1) := by decide +kernel
theorem dX5_readLine_18 : decode cX5_readLine 18 = .ok (.aload_n 0, 1) := by decide +kernel
theorem dX5_readLine_19 : decode cX5_readLine 19 = .ok (.dup, 1) := by decide +kernel
theorem dX5_readLine_20 : decode cX5_readLine 20 = .ok (.getfield 26, 3) := by decide +kernel
theorem dX5_readLine_23 : decode cX5_readLine 23 = .ok (.iconst 1, 1) := by decide +kernel
theorem dX5_readLine_24 : decode cX5_readLine 24 = .ok (.iadd, 1) := by decide +kernel
theorem dX5_readLine_25 : decode cX5_readLine 25 = .ok (.putfield 26, 3) := by decide +kernel
theorem dX5_readLine_28 : decode cX5_readLine 28 = .ok (.aload_n 0, 1) := by decide +kernel
theorem dX5_readLine_29 : decode cX5_readLine 29 = .ok (.getfield 97, 3) := by decide +kernel
theorem dX5_readLine_32 : decode cX5_readLine 32 = .ok (.tableswitch 208 0 9 #[56, 61, 66, 76, 71, 97, 118, 140, 162, 185], 56) := by decide +kernel
theorem dX5_readLine_88 : decode cX5_readLine 88 = .ok (.aload_n 0, 1) := by decide +kernel
theorem dX5_readLine_89 : decode cX5_readLine 89 = .ok (.invokevirtual 100, 3) := by decide +kernel
theorem dX5_readLine_92 : decode cX5_readLine 92 = .ok (.ireturn, 1) := by decide +kernel
theorem dX5_readLine_93 : decode cX5_readLine 93 = .ok (.aload_n 0, 1) := by decide +kernel
theorem dX5_readLine_94 : decode cX5_readLine 94 = .ok (.invokevirtual 103, 3) := by decide +kernel
theorem dX5_readLine_97 : decode cX5_readLine 97 = .ok (.ireturn, 1) := by decide +kernel
theorem dX5_readLine_98 : decode cX5_readLine 98 = .ok (.aload_n 0, 1) := by decide +kernel
theorem dX5_readLine_99 : decode cX5_readLine 99 = .ok (.invokevirtual 106, 3) := by decide +kernel
theorem dX5_readLine_102 : decode cX5_readLine 102 = .ok (.ireturn, 1) := by decide +kernel
theorem dX5_readLine_103 : decode cX5_readLine 103 = .ok (.aload_n 0, 1) := by decide +kernel
theorem dX5_readLine_104 : decode cX5_readLine 104 = .ok (.invokevirtual 109, 3) := by decide +kernel
theorem dX5_readLine_107 : decode cX5_readLine 107 = .ok (.ireturn, 1) := by decide +kernel
theorem dX5_readLine_108 : decode cX5_readLine 108 = .ok (.aload_n 0, 1) := by decide +kernel
theorem dX5_readLine_109 : decode cX5_readLine 109 = .ok (.iconst 3, 1) := by decide +kernel
theorem dX5_readLine_110 : decode cX5_readLine 110 = .ok (.invokevirtual 112, 3) := by decide +kernel
theorem dX5_readLine_113 : decode cX5_readLine 113 = .ok (.ifCond .eq 14, 3) := by decide +kernel
theorem dX5_readLine_116 : decode cX5_readLine 116 = .ok (.aload_n 0, 1) := by decide +kernel
theorem dX5_readLine_117 : decode cX5_readLine 117 = .ok (.invokevirtual 116, 3) := by decide +kernel
theorem dX5_readLine_120 : decode cX5_readLine 120 = .ok (.ifCond .eq 7, 3) := by decide +kernel
theorem dX5_readLine_123 : decode cX5_readLine 123 = .ok (.iconst 1, 1) := by decide +kernel
theorem dX5_readLine_124 : decode cX5_readLine 124 = .ok (.goto 4, 3) := by decide +kernel
theorem dX5_readLine_127 : decode cX5_readLine 127 = .ok (.iconst 0, 1) := by decide +kernel
theorem dX5_readLine_128 : decode cX5_readLine 128 = .ok (.ireturn, 1) := by decide +kernel
theorem dX5_readLine_129 : decode cX5_readLine 129 = .ok (.aload_n 0, 1) := by decide +kernel
theorem dX5_readLine_130 : decode cX5_readLine 130 = .ok (.iconst 5, 1) := by decide +kernel
theorem dX5_readLine_131 : decode cX5_readLine 131 = .ok (.invokevirtual 112, 3) := by decide +kernel
theorem dX5_readLine_134 : decode cX5_readLine 134 = .ok (.ifCond .eq 14, 3) := by decide +kernel
theorem dX5_readLine_137 : decode cX5_readLine 137 = .ok (.aload_n 0, 1) := by decide +kernel
theorem dX5_readLine_138 : decode cX5_readLine 138 = .ok (.invokevirtual 119, 3) := by decide +kernel
theorem dX5_readLine_141 : decode cX5_readLine 141 = .ok (.ifCond .eq 7, 3) := by decide +kernel
theorem dX5_readLine_144 : decode cX5_readLine 144 = .ok (.iconst 1, 1) := by decide +kernel
theorem dX5_readLine_145 : decode cX5_readLine 145 = .ok (.goto 4, 3) := by decide +kernel
theorem dX5_readLine_148 : decode cX5_readLine 148 = .ok (.iconst 0, 1) := by decide +kernel
theorem dX5_readLine_149 : decode cX5_readLine 149 = .ok (.ireturn, 1) := by decide +kernel
theorem dX5_readLine_150 : decode cX5_readLine 150 = .ok (.aload_n 0, 1) := by decide +kernel
theorem dX5_readLine_151 : decode cX5_readLine 151 = .ok (.bipush 6, 2) := by decide +kernel
theorem dX5_readLine_153 : decode cX5_readLine 153 = .ok (.invokevirtual 112, 3) := by decide +kernel
theorem dX5_readLine_156 : decode cX5_readLine 156 = .ok (.ifCond .eq 14, 3) := by decide +kernel
theorem dX5_readLine_159 : decode cX5_readLine 159 = .ok (.aload_n 0, 1) := by decide +kernel
theorem dX5_readLine_160 : decode cX5_readLine 160 = .ok (.invokevirtual 122, 3) := by decide +kernel
theorem dX5_readLine_163 : decode cX5_readLine 163 = .ok (.ifCond .eq 7, 3) := by decide +kernel
theorem dX5_readLine_166 : decode cX5_readLine 166 = .ok (.iconst 1, 1) := by decide +kernel
theorem dX5_readLine_167 : decode cX5_readLine 167 = .ok (.goto 4, 3) := by decide +kernel
theorem dX5_readLine_170 : decode cX5_readLine 170 = .ok (.iconst 0, 1) := by decide +kernel
theorem dX5_readLine_171 : decode cX5_readLine 171 = .ok (.ireturn, 1) := by decide +kernel
theorem dX5_readLine_172 : decode cX5_readLine 172 = .ok (.aload_n 0, 1) := by decide +kernel
theorem dX5_readLine_173 : decode cX5_readLine 173 = .ok (.bipush 7, 2) := by decide +kernel
theorem dX5_readLine_175 : decode cX5_readLine 175 = .ok (.invokevirtual 112, 3) := by decide +kernel
theorem dX5_readLine_178 : decode cX5_readLine 178 = .ok (.ifCond .eq 14, 3) := by decide +kernel
theorem dX5_readLine_181 : decode cX5_readLine 181 = .ok (.aload_n 0, 1) := by decide +kernel
theorem dX5_readLine_182 : decode cX5_readLine 182 = .ok (.invokevirtual 125, 3) := by decide +kernel
theorem dX5_readLine_185 : decode cX5_readLine 185 = .ok (.ifCond .eq 7, 3) := by decide +kernel
theorem dX5_readLine_188 : decode cX5_readLine 188 = .ok (.iconst 1, 1) := by decide +kernel
theorem dX5_readLine_189 : decode cX5_readLine 189 = .ok (.goto 4, 3) := by decide +kernel
theorem dX5_readLine_192 : decode cX5_readLine 192 = .ok (.iconst 0, 1) := by decide +kernel
theorem dX5_readLine_193 : decode cX5_readLine 193 = .ok (.ireturn, 1) := by decide +kernel
theorem dX5_readLine_194 : decode cX5_readLine 194 = .ok (.aload_n 0, 1) := by decide +kernel
theorem dX5_readLine_195 : decode cX5_readLine 195 = .ok (.bipush 7, 2) := by decide +kernel
theorem dX5_readLine_197 : decode cX5_readLine 197 = .ok (.invokevirtual 112, 3) := by decide +kernel
theorem dX5_readLine_200 : decode cX5_readLine 200 = .ok (.ifCond .eq 15, 3) := by decide +kernel
theorem dX5_readLine_203 : decode cX5_readLine 203 = .ok (.aload_n 0, 1) := by decide +kernel
theorem dX5_readLine_204 : decode cX5_readLine 204 = .ok (.iconst 1, 1) := by decide +kernel
theorem dX5_readLine_205 : decode cX5_readLine 205 = .ok (.invokevirtual 128, 3) := by decide +kernel
theorem dX5_readLine_208 : decode cX5_readLine 208 = .ok (.ifCond .eq 7, 3) := by decide +kernel
theorem dX5_readLine_211 : decode cX5_readLine 211 = .ok (.iconst 1, 1) := by decide +kernel
theorem dX5_readLine_212 : decode cX5_readLine 212 = .ok (.goto 4, 3) := by decide +kernel
theorem dX5_readLine_215 : decode cX5_readLine 215 = .ok (.iconst 0, 1) := by decide +kernel
theorem dX5_readLine_216 : decode cX5_readLine 216 = .ok (.ireturn, 1) := by decide +kernel
theorem dX5_readLine_217 : decode cX5_readLine 217 = .ok (.aload_n 0, 1) := by decide +kernel
theorem dX5_readLine_218 : decode cX5_readLine 218 = .ok (.bipush 7, 2) := by decide +kernel
theorem dX5_readLine_220 : decode cX5_readLine 220 = .ok (.invokevirtual 112, 3) := by decide +kernel
theorem dX5_readLine_223 : decode cX5_readLine 223 = .ok (.ifCond .eq 15, 3) := by decide +kernel
theorem dX5_readLine_226 : decode cX5_readLine 226 = .ok (.aload_n 0, 1) := by decide +kernel
theorem dX5_readLine_227 : decode cX5_readLine 227 = .ok (.iconst 2, 1) := by decide +kernel
theorem dX5_readLine_228 : decode cX5_readLine 228 = .ok (.invokevirtual 128, 3) := by decide +kernel
theorem dX5_readLine_231 : decode cX5_readLine 231 = .ok (.ifCond .eq 7, 3) := by decide +kernel
theorem dX5_readLine_234 : decode cX5_readLine 234 = .ok (.iconst 1, 1) := by decide +kernel
theorem dX5_readLine_235 : decode cX5_readLine 235 = .ok (.goto 4, 3) := by decide +kernel
theorem dX5_readLine_238 : decode cX5_readLine 238 = .ok (.iconst 0, 1) := by decide +kernel
theorem dX5_readLine_239 : decode cX5_readLine 239 = .ok (.ireturn, 1) := by decide +kernel
theorem dX5_readLine_240 : decode cX5_readLine 240 = .ok (.aload_n 0, 1) := by decide +kernel
theorem dX5_readLine_241 : decode cX5_readLine 241 = .ok (.iconst 1, 1) := by decide +kernel
theorem dX5_readLine_242 : decode cX5_readLine 242 = .ok (.aload_n 0, 1) := by decide +kernel
theorem dX5_readLine_243 : decode cX5_readLine 243 = .ok (.getfield 94, 3) := by decide +kernel
theorem dX5_readLine_246 : decode cX5_readLine 246 = .ok (.invokevirtual 73, 3) := by decide +kernel
theorem dX5_readLine_249 : decode cX5_readLine 249 = .ok (.ireturn, 1) := by decide +kernel
theorem dX5_readOnce_0 : decode cX5_readOnce 0 = .ok (.aload_n 0, 1) := by decide +kernel
theorem dX5_readOnce_1 : decode cX5_readOnce 1 = .ok (.getfield 35, 3) := by decide +kernel
theorem dX5_readOnce_4 : decode cX5_readOnce 4 = .ok (.iload_n 1, 1) := by decide +kernel
theorem dX5_readOnce_5 : decode cX5_readOnce 5 = .ok (.ishr, 1) := by decide +kernel
theorem dX5_readOnce_6 : decode cX5_readOnce 6 = .ok (.iconst 1, 1) := by decide +kernel
theorem dX5_readOnce_7 : decode cX5_readOnce 7 = .ok (.iand, 1) := by decide +kernel
theorem dX5_readOnce_8 : decode cX5_readOnce 8 = .ok (.iconst 1, 1) := by decide +kernel
theorem dX5_readOnce_9 : decode cX5_readOnce 9 = .ok (.if_icmp .ne 13, 3) := by decide +kernel
theorem dX5_readOnce_12 : decode cX5_readOnce 12 = .ok (.aload_n 0, 1) := by decide +kernel
theorem dX5_readOnce_13 : decode cX5_readOnce 13 = .ok (.iconst 4, 1) := by decide +kernel
theorem dX5_readOnce_14 : decode cX5_readOnce 14 = .ok (.aload_n 0, 1) := by decide +kernel
theorem dX5_readOnce_15 : decode cX5_readOnce 15 = .ok (.getfield 94, 3) := by decide +kernel
theorem dX5_readOnce_18 : decode cX5_readOnce 18 = .ok (.invokevirtual 73, 3) := by decide +kernel
theorem dX5_readOnce_21 : decode cX5_readOnce 21 = .ok (.ireturn, 1) := by decide +kernel
theorem dX5_readOnce_22 : decode cX5_readOnce 22 = .ok (.aload_n 0, 1) := by decide +kernel
theorem dX5_readOnce_23 : decode cX5_readOnce 23 = .ok (.dup, 1) := by decide +kernel
theorem dX5_readOnce_24 : decode cX5_readOnce 24 = .ok (.getfield 35, 3) := by decide +kernel
theorem dX5_readOnce_27 : decode cX5_readOnce 27 = .ok (.iconst 1, 1) := by decide +kernel
theorem dX5_readOnce_28 : decode cX5_readOnce 28 = .ok (.iload_n 1, 1) := by decide +kernel
theorem dX5_readOnce_29 : decode cX5_readOnce 29 = .ok (.ishl, 1) := by decide +kernel
theorem dX5_readOnce_30 : decode cX5_readOnce 30 = .ok (.ior, 1) := by decide +kernel
theorem dX5_readOnce_31 : decode cX5_readOnce 31 = .ok (.putfield 35, 3) := by decide +kernel
theorem dX5_readOnce_34 : decode cX5_readOnce 34 = .ok (.iconst 1, 1) := by decide +kernel
theorem dX5_readOnce_35 : decode cX5_readOnce 35 = .ok (.ireturn, 1) := by decide +kernel
theorem dX5_readPiece_0 : decode cX5_readPiece 0 = .ok (.aload_n 0, 1) := by decide +kernel
theorem dX5_readPiece_1 : decode cX5_readPiece 1 = .ok (.getfield 41, 3) := by decide +kernel
theorem dX5_readPiece_4 : decode cX5_readPiece 4 = .ok (.ifCond .ne 15, 3) := by decide +kernel
theorem dX5_readPiece_7 : decode cX5_readPiece 7 = .ok (.aload_n 0, 1) := by decide +kernel
theorem dX5_readPiece_8 : decode cX5_readPiece 8 = .ok (.getfield 12, 3) := by decide +kernel
theorem dX5_readPiece_11 : decode cX5_readPiece 11 = .ok (.getfield 64, 3) := by decide +kernel
theorem dX5_readPiece_14 : decode cX5_readPiece 14 = .ok (.bipush 8, 2) := by decide +kernel
theorem dX5_readPiece_16 : decode cX5_readPiece 16 = .ok (.if_icmp .lt 13, 3) := by decide +kernel
theorem dX5_readPiece_19 : decode cX5_readPiece 19 = .ok (.aload_n 0, 1) := by decide +kernel
theorem dX5_readPiece_20 : decode cX5_readPiece 20 = .ok (.iconst 5, 1) := by decide +kernel
theorem dX5_readPiece_21 : decode cX5_readPiece 21 = .ok (.aload_n 0, 1) := by decide +kernel
theorem dX5_readPiece_22 : decode cX5_readPiece 22 = .ok (.getfield 94, 3) := by decide +kernel
theorem dX5_readPiece_25 : decode cX5_readPiece 25 = .ok (.invokevirtual 73, 3) := by decide +kernel
theorem dX5_readPiece_28 : decode cX5_readPiece 28 = .ok (.ireturn, 1) := by decide +kernel
theorem dX5_readPiece_29 : decode cX5_readPiece 29 = .ok (.aload_n 0, 1) := by decide +kernel
theorem dX5_readPiece_30 : decode cX5_readPiece 30 = .ok (.iconst 0, 1) := by decide +kernel
theorem dX5_readPiece_31 : decode cX5_readPiece 31 = .ok (.bipush 6, 2) := by decide +kernel
theorem dX5_readPiece_33 : decode cX5_readPiece 33 = .ok (.invokevirtual 131, 3) := by decide +kernel
theorem dX5_readPiece_36 : decode cX5_readPiece 36 = .ok (.ifCond .ne 5, 3) := by decide +kernel
theorem dX5_readPiece_39 : decode cX5_readPiece 39 = .ok (.iconst 0, 1) := by decide +kernel
theorem dX5_readPiece_40 : decode cX5_readPiece 40 = .ok (.ireturn, 1) := by decide +kernel
theorem dX5_readPiece_41 : decode cX5_readPiece 41 = .ok (.aload_n 0, 1) := by decide +kernel
theorem dX5_readPiece_42 : decode cX5_readPiece 42 = .ok (.getfield 12, 3) := by decide +kernel
theorem dX5_readPiece_45 : decode cX5_readPiece 45 = .ok (.getfield 77, 3) := by decide +kernel
theorem dX5_readPiece_48 : decode cX5_readPiece 48 = .ok (.aload_n 0, 1) := by decide +kernel
theorem dX5_readPiece_49 : decode cX5_readPiece 49 = .ok (.getfield 12, 3) := by decide +kernel
theorem dX5_readPiece_52 : decode cX5_readPiece 52 = .ok (.getfield 64, 3) := by decide +kernel
theorem dX5_readPiece_55 : decode cX5_readPiece 55 = .ok (.aload_n 0, 1) := by decide +kernel
theorem dX5_readPiece_56 : decode cX5_readPiece 56 = .ok (.getfield 97, 3) := by decide +kernel
theorem dX5_readPiece_59 : decode cX5_readPiece 59 = .ok (.iastore, 1) := by decide +kernel
theorem dX5_readPiece_60 : decode cX5_readPiece 60 = .ok (.aload_n 0, 1) := by decide +kernel
theorem dX5_readPiece_61 : decode cX5_readPiece 61 = .ok (.getfield 12, 3) := by decide +kernel
theorem dX5_readPiece_64 : decode cX5_readPiece 64 = .ok (.dup, 1) := by decide +kernel
theorem dX5_readPiece_65 : decode cX5_readPiece 65 = .ok (.getfield 64, 3) := by decide +kernel
theorem dX5_readPiece_68 : decode cX5_readPiece 68 = .ok (.iconst 1, 1) := by decide +kernel
theorem dX5_readPiece_69 : decode cX5_readPiece 69 = .ok (.iadd, 1) := by decide +kernel
theorem dX5_readPiece_70 : decode cX5_readPiece 70 = .ok (.putfield 64, 3) := by decide +kernel
theorem dX5_readPiece_73 : decode cX5_readPiece 73 = .ok (.aload_n 0, 1) := by decide +kernel
theorem dX5_readPiece_74 : decode cX5_readPiece 74 = .ok (.invokevirtual 125, 3) := by decide +kernel
theorem dX5_readPiece_77 : decode cX5_readPiece 77 = .ok (.ireturn, 1) := by decide +kernel
theorem dX5_readWhole_0 : decode cX5_readWhole 0 = .ok (.aload_n 0, 1) := by decide +kernel
theorem dX5_readWhole_1 : decode cX5_readWhole 1 = .ok (.iconst 0, 1) := by decide +kernel
theorem dX5_readWhole_2 : decode cX5_readWhole 2 = .ok (.aload_n 0, 1) := by decide +kernel
theorem dX5_readWhole_3 : decode cX5_readWhole 3 = .ok (.getfield 12, 3) := by decide +kernel
theorem dX5_readWhole_6 : decode cX5_readWhole 6 = .ok (.getfield 64, 3) := by decide +kernel
theorem dX5_readWhole_9 : decode cX5_readWhole 9 = .ok (.iconst 1, 1) := by decide +kernel
theorem dX5_readWhole_10 : decode cX5_readWhole 10 = .ok (.isub, 1) := by decide +kernel
theorem dX5_readWhole_11 : decode cX5_readWhole 11 = .ok (.invokevirtual 131, 3) := by decide +kernel
theorem dX5_readWhole_14 : decode cX5_readWhole 14 = .ok (.ifCond .ne 5, 3) := by decide +kernel
theorem dX5_readWhole_17 : decode cX5_readWhole 17 = .ok (.iconst 0, 1) := by decide +kernel
theorem dX5_readWhole_18 : decode cX5_readWhole 18 = .ok (.ireturn, 1) := by decide +kernel
theorem dX5_readWhole_19 : decode cX5_readWhole 19 = .ok (.aload_n 0, 1) := by decide +kernel
theorem dX5_readWhole_20 : decode cX5_readWhole 20 = .ok (.getfield 12, 3) := by decide +kernel
theorem dX5_readWhole_23 : decode cX5_readWhole 23 = .ok (.getfield 134, 3) := by decide +kernel
theorem dX5_readWhole_26 : decode cX5_readWhole 26 = .ok (.aload_n 0, 1) := by decide +kernel
theorem dX5_readWhole_27 : decode cX5_readWhole 27 = .ok (.getfield 97, 3) := by decide +kernel
theorem dX5_readWhole_30 : decode cX5_readWhole 30 = .ok (.ishr, 1) := by decide +kernel
theorem dX5_readWhole_31 : decode cX5_readWhole 31 = .ok (.iconst 1, 1) := by decide +kernel
theorem dX5_readWhole_32 : decode cX5_readWhole 32 = .ok (.iand, 1) := by decide +kernel
theorem dX5_readWhole_33 : decode cX5_readWhole 33 = .ok (.iconst 1, 1) := by decide +kernel
theorem dX5_readWhole_34 : decode cX5_readWhole 34 = .ok (.if_icmp .ne 13, 3) := by decide +kernel
theorem dX5_readWhole_37 : decode cX5_readWhole 37 = .ok (.aload_n 0, 1) := by decide +kernel
theorem dX5_readWhole_38 : decode cX5_readWhole 38 = .ok (.iconst 4, 1) := by decide +kernel
theorem dX5_readWhole_39 : decode cX5_readWhole 39 = .ok (.aload_n 0, 1) := by decide +kernel
theorem dX5_readWhole_40 : decode cX5_readWhole 40 = .ok (.getfield 94, 3) := by decide +kernel
theorem dX5_readWhole_43 : decode cX5_readWhole 43 = .ok (.invokevirtual 73, 3) := by decide +kernel
theorem dX5_readWhole_46 : decode cX5_readWhole 46 = .ok (.ireturn, 1) := by decide +kernel
theorem dX5_readWhole_47 : decode cX5_readWhole 47 = .ok (.aload_n 0, 1) := by decide +kernel
theorem dX5_readWhole_48 : decode cX5_readWhole 48 = .ok (.getfield 12, 3) := by decide +kernel
theorem dX5_readWhole_51 : decode cX5_readWhole 51 = .ok (.dup, 1) := by decide +kernel
theorem dX5_readWhole_52 : decode cX5_readWhole 52 = .ok (.getfield 134, 3) := by decide +kernel
theorem dX5_readWhole_55 : decode cX5_readWhole 55 = .ok (.iconst 1, 1) := by decide +kernel
theorem dX5_readWhole_56 : decode cX5_readWhole 56 = .ok (.aload_n 0, 1) := by decide +kernel
theorem dX5_readWhole_57 : decode cX5_readWhole 57 = .ok (.getfield 97, 3) := by decide +kernel
theorem dX5_readWhole_60 : decode cX5_readWhole 60 = .ok (.ishl, 1) := by decide +kernel
theorem dX5_readWhole_61 : decode cX5_readWhole 61 = .ok (.ior, 1) := by decide +kernel
theorem dX5_readWhole_62 : decode cX5_readWhole 62 = .ok (.putfield 134, 3) := by decide +kernel
theorem dX5_readWhole_65 : decode cX5_readWhole 65 = .ok (.aload_n 0, 1) := by decide +kernel
theorem dX5_readWhole_66 : decode cX5_readWhole 66 = .ok (.invokevirtual 125, 3) := by decide +kernel
theorem dX5_readWhole_69 : decode cX5_readWhole 69 = .ok (.ireturn, 1) := by decide +kernel
theorem dX5_readSort_0 : decode cX5_readSort 0 = .ok (.aload_n 0, 1) := by decide +kernel
theorem dX5_readSort_1 : decode cX5_readSort 1 = .ok (.iconst 1, 1) := by decide +kernel
theorem dX5_readSort_2 : decode cX5_readSort 2 = .ok (.putfield 41, 3) := by decide +kernel
theorem dX5_readSort_5 : decode cX5_readSort 5 = .ok (.aload_n 0, 1) := by decide +kernel
theorem dX5_readSort_6 : decode cX5_readSort 6 = .ok (.iconst 1, 1) := by decide +kernel
theorem dX5_readSort_7 : decode cX5_readSort 7 = .ok (.iconst 2, 1) := by decide +kernel
theorem dX5_readSort_8 : decode cX5_readSort 8 = .ok (.invokevirtual 131, 3) := by decide +kernel
theorem dX5_readSort_11 : decode cX5_readSort 11 = .ok (.ifCond .ne 5, 3) := by decide +kernel
theorem dX5_readSort_14 : decode cX5_readSort 14 = .ok (.iconst 0, 1) := by decide +kernel
theorem dX5_readSort_15 : decode cX5_readSort 15 = .ok (.ireturn, 1) := by decide +kernel
theorem dX5_readSort_16 : decode cX5_readSort 16 = .ok (.aload_n 0, 1) := by decide +kernel
theorem dX5_readSort_17 : decode cX5_readSort 17 = .ok (.getfield 97, 3) := by decide +kernel
theorem dX5_readSort_20 : decode cX5_readSort 20 = .ok (.istore_n 1, 1) := by decide +kernel
theorem dX5_readSort_21 : decode cX5_readSort 21 = .ok (.aload_n 0, 1) := by decide +kernel
theorem dX5_readSort_22 : decode cX5_readSort 22 = .ok (.getfield 38, 3) := by decide +kernel
theorem dX5_readSort_25 : decode cX5_readSort 25 = .ok (.iload_n 1, 1) := by decide +kernel
theorem dX5_readSort_26 : decode cX5_readSort 26 = .ok (.ishr, 1) := by decide +kernel
theorem dX5_readSort_27 : decode cX5_readSort 27 = .ok (.iconst 1, 1) := by decide +kernel
theorem dX5_readSort_28 : decode cX5_readSort 28 = .ok (.iand, 1) := by decide +kernel
theorem dX5_readSort_29 : decode cX5_readSort 29 = .ok (.iconst 1, 1) := by decide +kernel
theorem dX5_readSort_30 : decode cX5_readSort 30 = .ok (.if_icmp .ne 13, 3) := by decide +kernel
theorem dX5_readSort_33 : decode cX5_readSort 33 = .ok (.aload_n 0, 1) := by decide +kernel
theorem dX5_readSort_34 : decode cX5_readSort 34 = .ok (.iconst 4, 1) := by decide +kernel
theorem dX5_readSort_35 : decode cX5_readSort 35 = .ok (.aload_n 0, 1) := by decide +kernel
theorem dX5_readSort_36 : decode cX5_readSort 36 = .ok (.getfield 94, 3) := by decide +kernel
theorem dX5_readSort_39 : decode cX5_readSort 39 = .ok (.invokevirtual 73, 3) := by decide +kernel
theorem dX5_readSort_42 : decode cX5_readSort 42 = .ok (.ireturn, 1) := by decide +kernel
theorem dX5_readSort_43 : decode cX5_readSort 43 = .ok (.aload_n 0, 1) := by decide +kernel
theorem dX5_readSort_44 : decode cX5_readSort 44 = .ok (.dup, 1) := by decide +kernel
theorem dX5_readSort_45 : decode cX5_readSort 45 = .ok (.getfield 38, 3) := by decide +kernel
theorem dX5_readSort_48 : decode cX5_readSort 48 = .ok (.iconst 1, 1) := by decide +kernel
theorem dX5_readSort_49 : decode cX5_readSort 49 = .ok (.iload_n 1, 1) := by decide +kernel
theorem dX5_readSort_50 : decode cX5_readSort 50 = .ok (.ishl, 1) := by decide +kernel
theorem dX5_readSort_51 : decode cX5_readSort 51 = .ok (.ior, 1) := by decide +kernel
theorem dX5_readSort_52 : decode cX5_readSort 52 = .ok (.putfield 38, 3) := by decide +kernel
theorem dX5_readSort_55 : decode cX5_readSort 55 = .ok (.iconst 0, 1) := by decide +kernel
theorem dX5_readSort_56 : decode cX5_readSort 56 = .ok (.istore_n 2, 1) := by decide +kernel
theorem dX5_readSort_57 : decode cX5_readSort 57 = .ok (.iload_n 2, 1) := by decide +kernel
theorem dX5_readSort_58 : decode cX5_readSort 58 = .ok (.aload_n 0, 1) := by decide +kernel
theorem dX5_readSort_59 : decode cX5_readSort 59 = .ok (.getfield 12, 3) := by decide +kernel
theorem dX5_readSort_62 : decode cX5_readSort 62 = .ok (.getfield 64, 3) := by decide +kernel
theorem dX5_readSort_65 : decode cX5_readSort 65 = .ok (.if_icmp .ge 39, 3) := by decide +kernel
theorem dX5_readSort_68 : decode cX5_readSort 68 = .ok (.aload_n 0, 1) := by decide +kernel
theorem dX5_readSort_69 : decode cX5_readSort 69 = .ok (.iconst 0, 1) := by decide +kernel
theorem dX5_readSort_70 : decode cX5_readSort 70 = .ok (.bipush 6, 2) := by decide +kernel
theorem dX5_readSort_72 : decode cX5_readSort 72 = .ok (.invokevirtual 131, 3) := by decide +kernel
theorem dX5_readSort_75 : decode cX5_readSort 75 = .ok (.ifCond .ne 5, 3) := by decide +kernel
theorem dX5_readSort_78 : decode cX5_readSort 78 = .ok (.iconst 0, 1) := by decide +kernel
theorem dX5_readSort_79 : decode cX5_readSort 79 = .ok (.ireturn, 1) := by decide +kernel
theorem dX5_readSort_80 : decode cX5_readSort 80 = .ok (.aload_n 0, 1) := by decide +kernel
theorem dX5_readSort_81 : decode cX5_readSort 81 = .ok (.getfield 12, 3) := by decide +kernel
theorem dX5_readSort_84 : decode cX5_readSort 84 = .ok (.getfield 77, 3) := by decide +kernel
theorem dX5_readSort_87 : decode cX5_readSort 87 = .ok (.iload_n 1, 1) := by decide +kernel
theorem dX5_readSort_88 : decode cX5_readSort 88 = .ok (.bipush 8, 2) := by decide +kernel
theorem dX5_readSort_90 : decode cX5_readSort 90 = .ok (.imul, 1) := by decide +kernel
theorem dX5_readSort_91 : decode cX5_readSort 91 = .ok (.iload_n 2, 1) := by decide +kernel
theorem dX5_readSort_92 : decode cX5_readSort 92 = .ok (.iadd, 1) := by decide +kernel
theorem dX5_readSort_93 : decode cX5_readSort 93 = .ok (.aload_n 0, 1) := by decide +kernel
theorem dX5_readSort_94 : decode cX5_readSort 94 = .ok (.getfield 97, 3) := by decide +kernel
theorem dX5_readSort_97 : decode cX5_readSort 97 = .ok (.iastore, 1) := by decide +kernel
theorem dX5_readSort_98 : decode cX5_readSort 98 = .ok (.iinc 2 1, 3) := by decide +kernel
theorem dX5_readSort_101 : decode cX5_readSort 101 = .ok (.goto (-44), 3) := by decide +kernel
theorem dX5_readSort_104 : decode cX5_readSort 104 = .ok (.aload_n 0, 1) := by decide +kernel
theorem dX5_readSort_105 : decode cX5_readSort 105 = .ok (.invokevirtual 125, 3) := by decide +kernel
theorem dX5_readSort_108 : decode cX5_readSort 108 = .ok (.ireturn, 1) := by decide +kernel
theorem dX5_readRow_0 : decode cX5_readRow 0 = .ok (.aload_n 0, 1) := by decide +kernel
theorem dX5_readRow_1 : decode cX5_readRow 1 = .ok (.iconst 0, 1) := by decide +kernel
theorem dX5_readRow_2 : decode cX5_readRow 2 = .ok (.iconst 2, 1) := by decide +kernel
theorem dX5_readRow_3 : decode cX5_readRow 3 = .ok (.invokevirtual 131, 3) := by decide +kernel
theorem dX5_readRow_6 : decode cX5_readRow 6 = .ok (.ifCond .ne 5, 3) := by decide +kernel
theorem dX5_readRow_9 : decode cX5_readRow 9 = .ok (.iconst 0, 1) := by decide +kernel
theorem dX5_readRow_10 : decode cX5_readRow 10 = .ok (.ireturn, 1) := by decide +kernel
theorem dX5_readRow_11 : decode cX5_readRow 11 = .ok (.aload_n 0, 1) := by decide +kernel
theorem dX5_readRow_12 : decode cX5_readRow 12 = .ok (.getfield 12, 3) := by decide +kernel
theorem dX5_readRow_15 : decode cX5_readRow 15 = .ok (.getfield 137, 3) := by decide +kernel
theorem dX5_readRow_18 : decode cX5_readRow 18 = .ok (.iconst 0, 1) := by decide +kernel
theorem dX5_readRow_19 : decode cX5_readRow 19 = .ok (.aload_n 0, 1) := by decide +kernel
theorem dX5_readRow_20 : decode cX5_readRow 20 = .ok (.getfield 97, 3) := by decide +kernel
theorem dX5_readRow_23 : decode cX5_readRow 23 = .ok (.iastore, 1) := by decide +kernel
theorem dX5_readRow_24 : decode cX5_readRow 24 = .ok (.aload_n 0, 1) := by decide +kernel
theorem dX5_readRow_25 : decode cX5_readRow 25 = .ok (.invokevirtual 51, 3) := by decide +kernel
theorem dX5_readRow_28 : decode cX5_readRow 28 = .ok (.istore_n 1, 1) := by decide +kernel
theorem dX5_readRow_29 : decode cX5_readRow 29 = .ok (.iconst 1, 1) := by decide +kernel
theorem dX5_readRow_30 : decode cX5_readRow 30 = .ok (.istore_n 2, 1) := by decide +kernel
theorem dX5_readRow_31 : decode cX5_readRow 31 = .ok (.iload_n 2, 1) := by decide +kernel
theorem dX5_readRow_32 : decode cX5_readRow 32 = .ok (.bipush 6, 2) := by decide +kernel
theorem dX5_readRow_34 : decode cX5_readRow 34 = .ok (.if_icmp .ge 60, 3) := by decide +kernel
theorem dX5_readRow_37 : decode cX5_readRow 37 = .ok (.iload_n 1, 1) := by decide +kernel
theorem dX5_readRow_38 : decode cX5_readRow 38 = .ok (.ifCond .eq 56, 3) := by decide +kernel
theorem dX5_readRow_41 : decode cX5_readRow 41 = .ok (.aload_n 0, 1) := by decide +kernel
theorem dX5_readRow_42 : decode cX5_readRow 42 = .ok (.getfield 55, 3) := by decide +kernel
theorem dX5_readRow_45 : decode cX5_readRow 45 = .ok (.iconst 2, 1) := by decide +kernel
theorem dX5_readRow_46 : decode cX5_readRow 46 = .ok (.if_icmp .ne 48, 3) := by decide +kernel
theorem dX5_readRow_49 : decode cX5_readRow 49 = .ok (.aload_n 0, 1) := by decide +kernel
theorem dX5_readRow_50 : decode cX5_readRow 50 = .ok (.iconst 0, 1) := by decide +kernel
theorem dX5_readRow_51 : decode cX5_readRow 51 = .ok (.iconst 2, 1) := by decide +kernel
theorem dX5_readRow_52 : decode cX5_readRow 52 = .ok (.invokevirtual 140, 3) := by decide +kernel
theorem dX5_readRow_55 : decode cX5_readRow 55 = .ok (.ifCond .ne 5, 3) := by decide +kernel
theorem dX5_readRow_58 : decode cX5_readRow 58 = .ok (.iconst 0, 1) := by decide +kernel
theorem dX5_readRow_59 : decode cX5_readRow 59 = .ok (.ireturn, 1) := by decide +kernel
theorem dX5_readRow_60 : decode cX5_readRow 60 = .ok (.aload_n 0, 1) := by decide +kernel
theorem dX5_readRow_61 : decode cX5_readRow 61 = .ok (.getfield 12, 3) := by decide +kernel
theorem dX5_readRow_64 : decode cX5_readRow 64 = .ok (.getfield 137, 3) := by decide +kernel
theorem dX5_readRow_67 : decode cX5_readRow 67 = .ok (.iload_n 2, 1) := by decide +kernel
theorem dX5_readRow_68 : decode cX5_readRow 68 = .ok (.aload_n 0, 1) := by decide +kernel
theorem dX5_readRow_69 : decode cX5_readRow 69 = .ok (.getfield 97, 3) := by decide +kernel
theorem dX5_readRow_72 : decode cX5_readRow 72 = .ok (.iastore, 1) := by decide +kernel
theorem dX5_readRow_73 : decode cX5_readRow 73 = .ok (.aload_n 0, 1) := by decide +kernel
theorem dX5_readRow_74 : decode cX5_readRow 74 = .ok (.getfield 12, 3) := by decide +kernel
theorem dX5_readRow_77 : decode cX5_readRow 77 = .ok (.iload_n 2, 1) := by decide +kernel
theorem dX5_readRow_78 : decode cX5_readRow 78 = .ok (.iconst 1, 1) := by decide +kernel
theorem dX5_readRow_79 : decode cX5_readRow 79 = .ok (.iadd, 1) := by decide +kernel
theorem dX5_readRow_80 : decode cX5_readRow 80 = .ok (.putfield 143, 3) := by decide +kernel
theorem dX5_readRow_83 : decode cX5_readRow 83 = .ok (.aload_n 0, 1) := by decide +kernel
theorem dX5_readRow_84 : decode cX5_readRow 84 = .ok (.invokevirtual 51, 3) := by decide +kernel
theorem dX5_readRow_87 : decode cX5_readRow 87 = .ok (.istore_n 1, 1) := by decide +kernel
theorem dX5_readRow_88 : decode cX5_readRow 88 = .ok (.iinc 2 1, 3) := by decide +kernel
theorem dX5_readRow_91 : decode cX5_readRow 91 = .ok (.goto (-60), 3) := by decide +kernel
theorem dX5_readRow_94 : decode cX5_readRow 94 = .ok (.iload_n 1, 1) := by decide +kernel
theorem dX5_readRow_95 : decode cX5_readRow 95 = .ok (.ifCond .eq 21, 3) := by decide +kernel
theorem dX5_readRow_98 : decode cX5_readRow 98 = .ok (.aload_n 0, 1) := by decide +kernel
theorem dX5_readRow_99 : decode cX5_readRow 99 = .ok (.getfield 55, 3) := by decide +kernel
theorem dX5_readRow_102 : decode cX5_readRow 102 = .ok (.iconst 2, 1) := by decide +kernel
theorem dX5_readRow_103 : decode cX5_readRow 103 = .ok (.if_icmp .ne 13, 3) := by decide +kernel
theorem dX5_readRow_106 : decode cX5_readRow 106 = .ok (.aload_n 0, 1) := by decide +kernel
theorem dX5_readRow_107 : decode cX5_readRow 107 = .ok (.iconst 5, 1) := by decide +kernel
theorem dX5_readRow_108 : decode cX5_readRow 108 = .ok (.aload_n 0, 1) := by decide +kernel
theorem dX5_readRow_109 : decode cX5_readRow 109 = .ok (.getfield 94, 3) := by decide +kernel
theorem dX5_readRow_112 : decode cX5_readRow 112 = .ok (.invokevirtual 73, 3) := by decide +kernel
theorem dX5_readRow_115 : decode cX5_readRow 115 = .ok (.ireturn, 1) := by decide +kernel
theorem dX5_readRow_116 : decode cX5_readRow 116 = .ok (.iload_n 1, 1) := by decide +kernel
theorem dX5_readRow_117 : decode cX5_readRow 117 = .ok (.ifCond .eq 14, 3) := by decide +kernel
theorem dX5_readRow_120 : decode cX5_readRow 120 = .ok (.aload_n 0, 1) := by decide +kernel
theorem dX5_readRow_121 : decode cX5_readRow 121 = .ok (.invokevirtual 146, 3) := by decide +kernel
theorem dX5_readRow_124 : decode cX5_readRow 124 = .ok (.ifCond .eq 7, 3) := by decide +kernel
theorem dX5_readRow_127 : decode cX5_readRow 127 = .ok (.iconst 1, 1) := by decide +kernel
theorem dX5_readRow_128 : decode cX5_readRow 128 = .ok (.goto 4, 3) := by decide +kernel
theorem dX5_readRow_131 : decode cX5_readRow 131 = .ok (.iconst 0, 1) := by decide +kernel
theorem dX5_readRow_132 : decode cX5_readRow 132 = .ok (.ireturn, 1) := by decide +kernel
theorem dX5_readHand_0 : decode cX5_readHand 0 = .ok (.aload_n 0, 1) := by decide +kernel
theorem dX5_readHand_1 : decode cX5_readHand 1 = .ok (.getfield 45, 3) := by decide +kernel
theorem dX5_readHand_4 : decode cX5_readHand 4 = .ok (.ifCond .ne 14, 3) := by decide +kernel
theorem dX5_readHand_7 : decode cX5_readHand 7 = .ok (.aload_n 0, 1) := by decide +kernel
theorem dX5_readHand_8 : decode cX5_readHand 8 = .ok (.getfield 12, 3) := by decide +kernel
theorem dX5_readHand_11 : decode cX5_readHand 11 = .ok (.getfield 67, 3) := by decide +kernel
theorem dX5_readHand_14 : decode cX5_readHand 14 = .ok (.iconst 5, 1) := by decide +kernel
theorem dX5_readHand_15 : decode cX5_readHand 15 = .ok (.if_icmp .lt 13, 3) := by decide +kernel
theorem dX5_readHand_18 : decode cX5_readHand 18 = .ok (.aload_n 0, 1) := by decide +kernel
theorem dX5_readHand_19 : decode cX5_readHand 19 = .ok (.iconst 5, 1) := by decide +kernel
theorem dX5_readHand_20 : decode cX5_readHand 20 = .ok (.aload_n 0, 1) := by decide +kernel
theorem dX5_readHand_21 : decode cX5_readHand 21 = .ok (.getfield 94, 3) := by decide +kernel
theorem dX5_readHand_24 : decode cX5_readHand 24 = .ok (.invokevirtual 73, 3) := by decide +kernel
theorem dX5_readHand_27 : decode cX5_readHand 27 = .ok (.ireturn, 1) := by decide +kernel
theorem dX5_readHand_28 : decode cX5_readHand 28 = .ok (.aload_n 0, 1) := by decide +kernel
theorem dX5_readHand_29 : decode cX5_readHand 29 = .ok (.iconst 1, 1) := by decide +kernel
theorem dX5_readHand_30 : decode cX5_readHand 30 = .ok (.putfield 41, 3) := by decide +kernel
theorem dX5_readHand_33 : decode cX5_readHand 33 = .ok (.iconst 0, 1) := by decide +kernel
theorem dX5_readHand_34 : decode cX5_readHand 34 = .ok (.istore_n 1, 1) := by decide +kernel
theorem dX5_readHand_35 : decode cX5_readHand 35 = .ok (.iload_n 1, 1) := by decide +kernel
theorem dX5_readHand_36 : decode cX5_readHand 36 = .ok (.aload_n 0, 1) := by decide +kernel
theorem dX5_readHand_37 : decode cX5_readHand 37 = .ok (.getfield 12, 3) := by decide +kernel
theorem dX5_readHand_40 : decode cX5_readHand 40 = .ok (.getfield 64, 3) := by decide +kernel
theorem dX5_readHand_43 : decode cX5_readHand 43 = .ok (.if_icmp .ge 45, 3) := by decide +kernel
theorem dX5_readHand_46 : decode cX5_readHand 46 = .ok (.aload_n 0, 1) := by decide +kernel
theorem dX5_readHand_47 : decode cX5_readHand 47 = .ok (.iconst 1, 1) := by decide +kernel
theorem dX5_readHand_48 : decode cX5_readHand 48 = .ok (.bipush 9, 2) := by decide +kernel
theorem dX5_readHand_50 : decode cX5_readHand 50 = .ok (.invokevirtual 131, 3) := by decide +kernel
theorem dX5_readHand_53 : decode cX5_readHand 53 = .ok (.ifCond .ne 5, 3) := by decide +kernel
theorem dX5_readHand_56 : decode cX5_readHand 56 = .ok (.iconst 0, 1) := by decide +kernel
theorem dX5_readHand_57 : decode cX5_readHand 57 = .ok (.ireturn, 1) := by decide +kernel
theorem dX5_readHand_58 : decode cX5_readHand 58 = .ok (.aload_n 0, 1) := by decide +kernel
theorem dX5_readHand_59 : decode cX5_readHand 59 = .ok (.getfield 12, 3) := by decide +kernel
theorem dX5_readHand_62 : decode cX5_readHand 62 = .ok (.getfield 149, 3) := by decide +kernel
theorem dX5_readHand_65 : decode cX5_readHand 65 = .ok (.aload_n 0, 1) := by decide +kernel
theorem dX5_readHand_66 : decode cX5_readHand 66 = .ok (.getfield 12, 3) := by decide +kernel
theorem dX5_readHand_69 : decode cX5_readHand 69 = .ok (.getfield 67, 3) := by decide +kernel
theorem dX5_readHand_72 : decode cX5_readHand 72 = .ok (.bipush 8, 2) := by decide +kernel
theorem dX5_readHand_74 : decode cX5_readHand 74 = .ok (.imul, 1) := by decide +kernel
theorem dX5_readHand_75 : decode cX5_readHand 75 = .ok (.iload_n 1, 1) := by decide +kernel
theorem dX5_readHand_76 : decode cX5_readHand 76 = .ok (.iadd, 1) := by decide +kernel
theorem dX5_readHand_77 : decode cX5_readHand 77 = .ok (.aload_n 0, 1) := by decide +kernel
theorem dX5_readHand_78 : decode cX5_readHand 78 = .ok (.getfield 97, 3) := by decide +kernel
theorem dX5_readHand_81 : decode cX5_readHand 81 = .ok (.iastore, 1) := by decide +kernel
theorem dX5_readHand_82 : decode cX5_readHand 82 = .ok (.iinc 1 1, 3) := by decide +kernel
theorem dX5_readHand_85 : decode cX5_readHand 85 = .ok (.goto (-50), 3) := by decide +kernel
theorem dX5_readHand_88 : decode cX5_readHand 88 = .ok (.aload_n 0, 1) := by decide +kernel
theorem dX5_readHand_89 : decode cX5_readHand 89 = .ok (.getfield 12, 3) := by decide +kernel
theorem dX5_readHand_92 : decode cX5_readHand 92 = .ok (.dup, 1) := by decide +kernel
theorem dX5_readHand_93 : decode cX5_readHand 93 = .ok (.getfield 67, 3) := by decide +kernel
theorem dX5_readHand_96 : decode cX5_readHand 96 = .ok (.iconst 1, 1) := by decide +kernel
theorem dX5_readHand_97 : decode cX5_readHand 97 = .ok (.iadd, 1) := by decide +kernel
theorem dX5_readHand_98 : decode cX5_readHand 98 = .ok (.putfield 67, 3) := by decide +kernel
theorem dX5_readHand_101 : decode cX5_readHand 101 = .ok (.aload_n 0, 1) := by decide +kernel
theorem dX5_readHand_102 : decode cX5_readHand 102 = .ok (.invokevirtual 125, 3) := by decide +kernel
theorem dX5_readHand_105 : decode cX5_readHand 105 = .ok (.ireturn, 1) := by decide +kernel
theorem dX5_readWalk_0 : decode cX5_readWalk 0 = .ok (.aload_n 0, 1) := by decide +kernel
theorem dX5_readWalk_1 : decode cX5_readWalk 1 = .ok (.iconst 0, 1) := by decide +kernel
theorem dX5_readWalk_2 : decode cX5_readWalk 2 = .ok (.iconst 5, 1) := by decide +kernel
theorem dX5_readWalk_3 : decode cX5_readWalk 3 = .ok (.invokevirtual 131, 3) := by decide +kernel
theorem dX5_readWalk_6 : decode cX5_readWalk 6 = .ok (.ifCond .ne 5, 3) := by decide +kernel
theorem dX5_readWalk_9 : decode cX5_readWalk 9 = .ok (.iconst 0, 1) := by decide +kernel
theorem dX5_readWalk_10 : decode cX5_readWalk 10 = .ok (.ireturn, 1) := by decide +kernel
theorem dX5_readWalk_11 : decode cX5_readWalk 11 = .ok (.aload_n 0, 1) := by decide +kernel
theorem dX5_readWalk_12 : decode cX5_readWalk 12 = .ok (.getfield 12, 3) := by decide +kernel
theorem dX5_readWalk_15 : decode cX5_readWalk 15 = .ok (.aload_n 0, 1) := by decide +kernel
theorem dX5_readWalk_16 : decode cX5_readWalk 16 = .ok (.getfield 97, 3) := by decide +kernel
theorem dX5_readWalk_19 : decode cX5_readWalk 19 = .ok (.putfield 152, 3) := by decide +kernel
theorem dX5_readWalk_22 : decode cX5_readWalk 22 = .ok (.aload_n 0, 1) := by decide +kernel
theorem dX5_readWalk_23 : decode cX5_readWalk 23 = .ok (.invokevirtual 125, 3) := by decide +kernel
theorem dX5_readWalk_26 : decode cX5_readWalk 26 = .ok (.ireturn, 1) := by decide +kernel
theorem dX5_readLearn_0 : decode cX5_readLearn 0 = .ok (.aload_n 0, 1) := by decide +kernel
theorem dX5_readLearn_1 : decode cX5_readLearn 1 = .ok (.iconst 0, 1) := by decide +kernel
theorem dX5_readLearn_2 : decode cX5_readLearn 2 = .ok (.bipush 99, 2) := by decide +kernel
theorem dX5_readLearn_4 : decode cX5_readLearn 4 = .ok (.invokevirtual 131, 3) := by decide +kernel
theorem dX5_readLearn_7 : decode cX5_readLearn 7 = .ok (.ifCond .ne 5, 3) := by decide +kernel
theorem dX5_readLearn_10 : decode cX5_readLearn 10 = .ok (.iconst 0, 1) := by decide +kernel
theorem dX5_readLearn_11 : decode cX5_readLearn 11 = .ok (.ireturn, 1) := by decide +kernel
theorem dX5_readLearn_12 : decode cX5_readLearn 12 = .ok (.aload_n 0, 1) := by decide +kernel
theorem dX5_readLearn_13 : decode cX5_readLearn 13 = .ok (.getfield 12, 3) := by decide +kernel
theorem dX5_readLearn_16 : decode cX5_readLearn 16 = .ok (.aload_n 0, 1) := by decide +kernel
theorem dX5_readLearn_17 : decode cX5_readLearn 17 = .ok (.getfield 97, 3) := by decide +kernel
theorem dX5_readLearn_20 : decode cX5_readLearn 20 = .ok (.putfield 155, 3) := by decide +kernel
theorem dX5_readLearn_23 : decode cX5_readLearn 23 = .ok (.aload_n 0, 1) := by decide +kernel
theorem dX5_readLearn_24 : decode cX5_readLearn 24 = .ok (.invokevirtual 125, 3) := by decide +kernel
theorem dX5_readLearn_27 : decode cX5_readLearn 27 = .ok (.ireturn, 1) := by decide +kernel
theorem dX5_readEnds_0 : decode cX5_readEnds 0 = .ok (.aload_n 0, 1) := by decide +kernel
theorem dX5_readEnds_1 : decode cX5_readEnds 1 = .ok (.iconst 1, 1) := by decide +kernel
theorem dX5_readEnds_2 : decode cX5_readEnds 2 = .ok (.putfield 41, 3) := by decide +kernel
theorem dX5_readEnds_5 : decode cX5_readEnds 5 = .ok (.aload_n 0, 1) := by decide +kernel
theorem dX5_readEnds_6 : decode cX5_readEnds 6 = .ok (.iconst 1, 1) := by decide +kernel
theorem dX5_readEnds_7 : decode cX5_readEnds 7 = .ok (.putfield 45, 3) := by decide +kernel
theorem dX5_readEnds_10 : decode cX5_readEnds 10 = .ok (.aload_n 0, 1) := by decide +kernel
theorem dX5_readEnds_11 : decode cX5_readEnds 11 = .ok (.getfield 12, 3) := by decide +kernel
theorem dX5_readEnds_14 : decode cX5_readEnds 14 = .ok (.iload_n 1, 1) := by decide +kernel
theorem dX5_readEnds_15 : decode cX5_readEnds 15 = .ok (.putfield 158, 3) := by decide +kernel
theorem dX5_readEnds_18 : decode cX5_readEnds 18 = .ok (.iconst 1, 1) := by decide +kernel
theorem dX5_readEnds_19 : decode cX5_readEnds 19 = .ok (.istore_n 2, 1) := by decide +kernel
theorem dX5_readEnds_20 : decode cX5_readEnds 20 = .ok (.iconst 0, 1) := by decide +kernel
theorem dX5_readEnds_21 : decode cX5_readEnds 21 = .ok (.istore_n 3, 1) := by decide +kernel
theorem dX5_readEnds_22 : decode cX5_readEnds 22 = .ok (.iload_n 3, 1) := by decide +kernel
theorem dX5_readEnds_23 : decode cX5_readEnds 23 = .ok (.aload_n 0, 1) := by decide +kernel
theorem dX5_readEnds_24 : decode cX5_readEnds 24 = .ok (.getfield 12, 3) := by decide +kernel
theorem dX5_readEnds_27 : decode cX5_readEnds 27 = .ok (.getfield 67, 3) := by decide +kernel
theorem dX5_readEnds_30 : decode cX5_readEnds 30 = .ok (.iconst 1, 1) := by decide +kernel
theorem dX5_readEnds_31 : decode cX5_readEnds 31 = .ok (.isub, 1) := by decide +kernel
theorem dX5_readEnds_32 : decode cX5_readEnds 32 = .ok (.if_icmp .ge 44, 3) := by decide +kernel
