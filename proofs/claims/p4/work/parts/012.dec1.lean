theorem dX5_readEnds_35 : decode cX5_readEnds 35 = .ok (.aload_n 0, 1) := by decide +kernel
theorem dX5_readEnds_36 : decode cX5_readEnds 36 = .ok (.iload_n 2, 1) := by decide +kernel
theorem dX5_readEnds_37 : decode cX5_readEnds 37 = .ok (.aload_n 0, 1) := by decide +kernel
theorem dX5_readEnds_38 : decode cX5_readEnds 38 = .ok (.getfield 12, 3) := by decide +kernel
theorem dX5_readEnds_41 : decode cX5_readEnds 41 = .ok (.getfield 64, 3) := by decide +kernel
theorem dX5_readEnds_44 : decode cX5_readEnds 44 = .ok (.invokevirtual 131, 3) := by decide +kernel
theorem dX5_readEnds_47 : decode cX5_readEnds 47 = .ok (.ifCond .ne 5, 3) := by decide +kernel
theorem dX5_readEnds_50 : decode cX5_readEnds 50 = .ok (.iconst 0, 1) := by decide +kernel
theorem dX5_readEnds_51 : decode cX5_readEnds 51 = .ok (.ireturn, 1) := by decide +kernel
theorem dX5_readEnds_52 : decode cX5_readEnds 52 = .ok (.aload_n 0, 1) := by decide +kernel
theorem dX5_readEnds_53 : decode cX5_readEnds 53 = .ok (.getfield 97, 3) := by decide +kernel
theorem dX5_readEnds_56 : decode cX5_readEnds 56 = .ok (.istore_n 2, 1) := by decide +kernel
theorem dX5_readEnds_57 : decode cX5_readEnds 57 = .ok (.aload_n 0, 1) := by decide +kernel
theorem dX5_readEnds_58 : decode cX5_readEnds 58 = .ok (.getfield 12, 3) := by decide +kernel
theorem dX5_readEnds_61 : decode cX5_readEnds 61 = .ok (.getfield 159, 3) := by decide +kernel
theorem dX5_readEnds_64 : decode cX5_readEnds 64 = .ok (.iload_n 3, 1) := by decide +kernel
theorem dX5_readEnds_65 : decode cX5_readEnds 65 = .ok (.aload_n 0, 1) := by decide +kernel
theorem dX5_readEnds_66 : decode cX5_readEnds 66 = .ok (.getfield 97, 3) := by decide +kernel
theorem dX5_readEnds_69 : decode cX5_readEnds 69 = .ok (.iastore, 1) := by decide +kernel
theorem dX5_readEnds_70 : decode cX5_readEnds 70 = .ok (.iinc 3 1, 3) := by decide +kernel
theorem dX5_readEnds_73 : decode cX5_readEnds 73 = .ok (.goto (-51), 3) := by decide +kernel
theorem dX5_readEnds_76 : decode cX5_readEnds 76 = .ok (.aload_n 0, 1) := by decide +kernel
theorem dX5_readEnds_77 : decode cX5_readEnds 77 = .ok (.invokevirtual 125, 3) := by decide +kernel
theorem dX5_readEnds_80 : decode cX5_readEnds 80 = .ok (.ireturn, 1) := by decide +kernel
theorem dX5_readNumber_0 : decode cX5_readNumber 0 = .ok (.aload_n 0, 1) := by decide +kernel
theorem dX5_readNumber_1 : decode cX5_readNumber 1 = .ok (.invokevirtual 51, 3) := by decide +kernel
theorem dX5_readNumber_4 : decode cX5_readNumber 4 = .ok (.ifCond .ne 5, 3) := by decide +kernel
theorem dX5_readNumber_7 : decode cX5_readNumber 7 = .ok (.iconst 0, 1) := by decide +kernel
theorem dX5_readNumber_8 : decode cX5_readNumber 8 = .ok (.ireturn, 1) := by decide +kernel
theorem dX5_readNumber_9 : decode cX5_readNumber 9 = .ok (.aload_n 0, 1) := by decide +kernel
theorem dX5_readNumber_10 : decode cX5_readNumber 10 = .ok (.getfield 55, 3) := by decide +kernel
theorem dX5_readNumber_13 : decode cX5_readNumber 13 = .ok (.iconst 2, 1) := by decide +kernel
theorem dX5_readNumber_14 : decode cX5_readNumber 14 = .ok (.if_icmp .eq 13, 3) := by decide +kernel
theorem dX5_readNumber_17 : decode cX5_readNumber 17 = .ok (.aload_n 0, 1) := by decide +kernel
theorem dX5_readNumber_18 : decode cX5_readNumber 18 = .ok (.iconst 2, 1) := by decide +kernel
theorem dX5_readNumber_19 : decode cX5_readNumber 19 = .ok (.aload_n 0, 1) := by decide +kernel
theorem dX5_readNumber_20 : decode cX5_readNumber 20 = .ok (.getfield 94, 3) := by decide +kernel
theorem dX5_readNumber_23 : decode cX5_readNumber 23 = .ok (.invokevirtual 73, 3) := by decide +kernel
theorem dX5_readNumber_26 : decode cX5_readNumber 26 = .ok (.ireturn, 1) := by decide +kernel
theorem dX5_readNumber_27 : decode cX5_readNumber 27 = .ok (.aload_n 0, 1) := by decide +kernel
theorem dX5_readNumber_28 : decode cX5_readNumber 28 = .ok (.iload_n 1, 1) := by decide +kernel
theorem dX5_readNumber_29 : decode cX5_readNumber 29 = .ok (.iload_n 2, 1) := by decide +kernel
theorem dX5_readNumber_30 : decode cX5_readNumber 30 = .ok (.invokevirtual 140, 3) := by decide +kernel
theorem dX5_readNumber_33 : decode cX5_readNumber 33 = .ok (.ireturn, 1) := by decide +kernel
theorem dX5_isWithin_0 : decode cX5_isWithin 0 = .ok (.aload_n 0, 1) := by decide +kernel
theorem dX5_isWithin_1 : decode cX5_isWithin 1 = .ok (.getfield 97, 3) := by decide +kernel
theorem dX5_isWithin_4 : decode cX5_isWithin 4 = .ok (.iload_n 1, 1) := by decide +kernel
theorem dX5_isWithin_5 : decode cX5_isWithin 5 = .ok (.if_icmp .lt 11, 3) := by decide +kernel
theorem dX5_isWithin_8 : decode cX5_isWithin 8 = .ok (.aload_n 0, 1) := by decide +kernel
theorem dX5_isWithin_9 : decode cX5_isWithin 9 = .ok (.getfield 97, 3) := by decide +kernel
theorem dX5_isWithin_12 : decode cX5_isWithin 12 = .ok (.iload_n 2, 1) := by decide +kernel
theorem dX5_isWithin_13 : decode cX5_isWithin 13 = .ok (.if_icmp .le 13, 3) := by decide +kernel
theorem dX5_isWithin_16 : decode cX5_isWithin 16 = .ok (.aload_n 0, 1) := by decide +kernel
theorem dX5_isWithin_17 : decode cX5_isWithin 17 = .ok (.iconst 3, 1) := by decide +kernel
theorem dX5_isWithin_18 : decode cX5_isWithin 18 = .ok (.aload_n 0, 1) := by decide +kernel
theorem dX5_isWithin_19 : decode cX5_isWithin 19 = .ok (.getfield 94, 3) := by decide +kernel
theorem dX5_isWithin_22 : decode cX5_isWithin 22 = .ok (.invokevirtual 73, 3) := by decide +kernel
theorem dX5_isWithin_25 : decode cX5_isWithin 25 = .ok (.ireturn, 1) := by decide +kernel
theorem dX5_isWithin_26 : decode cX5_isWithin 26 = .ok (.iconst 1, 1) := by decide +kernel
theorem dX5_isWithin_27 : decode cX5_isWithin 27 = .ok (.ireturn, 1) := by decide +kernel
theorem dX5_readSign_0 : decode cX5_readSign 0 = .ok (.aload_n 0, 1) := by decide +kernel
theorem dX5_readSign_1 : decode cX5_readSign 1 = .ok (.invokevirtual 51, 3) := by decide +kernel
theorem dX5_readSign_4 : decode cX5_readSign 4 = .ok (.ifCond .eq 14, 3) := by decide +kernel
theorem dX5_readSign_7 : decode cX5_readSign 7 = .ok (.aload_n 0, 1) := by decide +kernel
theorem dX5_readSign_8 : decode cX5_readSign 8 = .ok (.invokevirtual 146, 3) := by decide +kernel
theorem dX5_readSign_11 : decode cX5_readSign 11 = .ok (.ifCond .eq 7, 3) := by decide +kernel
theorem dX5_readSign_14 : decode cX5_readSign 14 = .ok (.iconst 1, 1) := by decide +kernel
theorem dX5_readSign_15 : decode cX5_readSign 15 = .ok (.goto 4, 3) := by decide +kernel
theorem dX5_readSign_18 : decode cX5_readSign 18 = .ok (.iconst 0, 1) := by decide +kernel
theorem dX5_readSign_19 : decode cX5_readSign 19 = .ok (.ireturn, 1) := by decide +kernel
theorem dX5_isSign_0 : decode cX5_isSign 0 = .ok (.aload_n 0, 1) := by decide +kernel
theorem dX5_isSign_1 : decode cX5_isSign 1 = .ok (.getfield 55, 3) := by decide +kernel
theorem dX5_isSign_4 : decode cX5_isSign 4 = .ok (.iconst 3, 1) := by decide +kernel
theorem dX5_isSign_5 : decode cX5_isSign 5 = .ok (.if_icmp .eq 15, 3) := by decide +kernel
theorem dX5_isSign_8 : decode cX5_isSign 8 = .ok (.aload_n 0, 1) := by decide +kernel
theorem dX5_isSign_9 : decode cX5_isSign 9 = .ok (.iconst 2, 1) := by decide +kernel
theorem dX5_isSign_10 : decode cX5_isSign 10 = .ok (.aload_n 0, 1) := by decide +kernel
theorem dX5_isSign_11 : decode cX5_isSign 11 = .ok (.getfield 94, 3) := by decide +kernel
theorem dX5_isSign_14 : decode cX5_isSign 14 = .ok (.invokevirtual 73, 3) := by decide +kernel
theorem dX5_isSign_17 : decode cX5_isSign 17 = .ok (.ifCond .eq 7, 3) := by decide +kernel
theorem dX5_isSign_20 : decode cX5_isSign 20 = .ok (.iconst 1, 1) := by decide +kernel
theorem dX5_isSign_21 : decode cX5_isSign 21 = .ok (.goto 4, 3) := by decide +kernel
theorem dX5_isSign_24 : decode cX5_isSign 24 = .ok (.iconst 0, 1) := by decide +kernel
theorem dX5_isSign_25 : decode cX5_isSign 25 = .ok (.ireturn, 1) := by decide +kernel
theorem dX5_readToken_0 : decode cX5_readToken 0 = .ok (.aload_n 0, 1) := by decide +kernel
theorem dX5_readToken_1 : decode cX5_readToken 1 = .ok (.getfield 22, 3) := by decide +kernel
theorem dX5_readToken_4 : decode cX5_readToken 4 = .ok (.aload_n 0, 1) := by decide +kernel
theorem dX5_readToken_5 : decode cX5_readToken 5 = .ok (.getfield 70, 3) := by decide +kernel
theorem dX5_readToken_8 : decode cX5_readToken 8 = .ok (.if_icmp .ge 30, 3) := by decide +kernel
theorem dX5_readToken_11 : decode cX5_readToken 11 = .ok (.aload_n 0, 1) := by decide +kernel
theorem dX5_readToken_12 : decode cX5_readToken 12 = .ok (.getfield 18, 3) := by decide +kernel
theorem dX5_readToken_15 : decode cX5_readToken 15 = .ok (.aload_n 0, 1) := by decide +kernel
theorem dX5_readToken_16 : decode cX5_readToken 16 = .ok (.getfield 22, 3) := by decide +kernel
theorem dX5_readToken_19 : decode cX5_readToken 19 = .ok (.baload, 1) := by decide +kernel
theorem dX5_readToken_20 : decode cX5_readToken 20 = .ok (.bipush 32, 2) := by decide +kernel
theorem dX5_readToken_22 : decode cX5_readToken 22 = .ok (.if_icmp .ne 16, 3) := by decide +kernel
theorem dX5_readToken_25 : decode cX5_readToken 25 = .ok (.aload_n 0, 1) := by decide +kernel
theorem dX5_readToken_26 : decode cX5_readToken 26 = .ok (.dup, 1) := by decide +kernel
theorem dX5_readToken_27 : decode cX5_readToken 27 = .ok (.getfield 22, 3) := by decide +kernel
theorem dX5_readToken_30 : decode cX5_readToken 30 = .ok (.iconst 1, 1) := by decide +kernel
theorem dX5_readToken_31 : decode cX5_readToken 31 = .ok (.iadd, 1) := by decide +kernel
theorem dX5_readToken_32 : decode cX5_readToken 32 = .ok (.putfield 22, 3) := by decide +kernel
theorem dX5_readToken_35 : decode cX5_readToken 35 = .ok (.goto (-35), 3) := by decide +kernel
theorem dX5_readToken_38 : decode cX5_readToken 38 = .ok (.aload_n 0, 1) := by decide +kernel
theorem dX5_readToken_39 : decode cX5_readToken 39 = .ok (.aload_n 0, 1) := by decide +kernel
theorem dX5_readToken_40 : decode cX5_readToken 40 = .ok (.getfield 22, 3) := by decide +kernel
theorem dX5_readToken_43 : decode cX5_readToken 43 = .ok (.putfield 94, 3) := by decide +kernel
theorem dX5_readToken_46 : decode cX5_readToken 46 = .ok (.aload_n 0, 1) := by decide +kernel
theorem dX5_readToken_47 : decode cX5_readToken 47 = .ok (.getfield 22, 3) := by decide +kernel
theorem dX5_readToken_50 : decode cX5_readToken 50 = .ok (.aload_n 0, 1) := by decide +kernel
theorem dX5_readToken_51 : decode cX5_readToken 51 = .ok (.getfield 70, 3) := by decide +kernel
theorem dX5_readToken_54 : decode cX5_readToken 54 = .ok (.if_icmp .lt 10, 3) := by decide +kernel
theorem dX5_readToken_57 : decode cX5_readToken 57 = .ok (.aload_n 0, 1) := by decide +kernel
theorem dX5_readToken_58 : decode cX5_readToken 58 = .ok (.iconst 0, 1) := by decide +kernel
theorem dX5_readToken_59 : decode cX5_readToken 59 = .ok (.putfield 55, 3) := by decide +kernel
theorem dX5_readToken_62 : decode cX5_readToken 62 = .ok (.iconst 1, 1) := by decide +kernel
theorem dX5_readToken_63 : decode cX5_readToken 63 = .ok (.ireturn, 1) := by decide +kernel
theorem dX5_readToken_64 : decode cX5_readToken 64 = .ok (.aload_n 0, 1) := by decide +kernel
theorem dX5_readToken_65 : decode cX5_readToken 65 = .ok (.getfield 18, 3) := by decide +kernel
theorem dX5_readToken_68 : decode cX5_readToken 68 = .ok (.aload_n 0, 1) := by decide +kernel
theorem dX5_readToken_69 : decode cX5_readToken 69 = .ok (.getfield 22, 3) := by decide +kernel
theorem dX5_readToken_72 : decode cX5_readToken 72 = .ok (.baload, 1) := by decide +kernel
theorem dX5_readToken_73 : decode cX5_readToken 73 = .ok (.bipush 59, 2) := by decide +kernel
theorem dX5_readToken_75 : decode cX5_readToken 75 = .ok (.if_icmp .ne 20, 3) := by decide +kernel
theorem dX5_readToken_78 : decode cX5_readToken 78 = .ok (.aload_n 0, 1) := by decide +kernel
theorem dX5_readToken_79 : decode cX5_readToken 79 = .ok (.iconst 3, 1) := by decide +kernel
theorem dX5_readToken_80 : decode cX5_readToken 80 = .ok (.putfield 55, 3) := by decide +kernel
theorem dX5_readToken_83 : decode cX5_readToken 83 = .ok (.aload_n 0, 1) := by decide +kernel
theorem dX5_readToken_84 : decode cX5_readToken 84 = .ok (.dup, 1) := by decide +kernel
theorem dX5_readToken_85 : decode cX5_readToken 85 = .ok (.getfield 22, 3) := by decide +kernel
theorem dX5_readToken_88 : decode cX5_readToken 88 = .ok (.iconst 1, 1) := by decide +kernel
theorem dX5_readToken_89 : decode cX5_readToken 89 = .ok (.iadd, 1) := by decide +kernel
theorem dX5_readToken_90 : decode cX5_readToken 90 = .ok (.putfield 22, 3) := by decide +kernel
theorem dX5_readToken_93 : decode cX5_readToken 93 = .ok (.iconst 1, 1) := by decide +kernel
theorem dX5_readToken_94 : decode cX5_readToken 94 = .ok (.ireturn, 1) := by decide +kernel
theorem dX5_readToken_95 : decode cX5_readToken 95 = .ok (.aload_n 0, 1) := by decide +kernel
theorem dX5_readToken_96 : decode cX5_readToken 96 = .ok (.aload_n 0, 1) := by decide +kernel
theorem dX5_readToken_97 : decode cX5_readToken 97 = .ok (.getfield 22, 3) := by decide +kernel
theorem dX5_readToken_100 : decode cX5_readToken 100 = .ok (.invokevirtual 162, 3) := by decide +kernel
theorem dX5_readToken_103 : decode cX5_readToken 103 = .ok (.ifCond .eq 8, 3) := by decide +kernel
theorem dX5_readToken_106 : decode cX5_readToken 106 = .ok (.aload_n 0, 1) := by decide +kernel
theorem dX5_readToken_107 : decode cX5_readToken 107 = .ok (.invokevirtual 165, 3) := by decide +kernel
theorem dX5_readToken_110 : decode cX5_readToken 110 = .ok (.ireturn, 1) := by decide +kernel
theorem dX5_readToken_111 : decode cX5_readToken 111 = .ok (.aload_n 0, 1) := by decide +kernel
theorem dX5_readToken_112 : decode cX5_readToken 112 = .ok (.aload_n 0, 1) := by decide +kernel
theorem dX5_readToken_113 : decode cX5_readToken 113 = .ok (.getfield 22, 3) := by decide +kernel
theorem dX5_readToken_116 : decode cX5_readToken 116 = .ok (.invokevirtual 168, 3) := by decide +kernel
theorem dX5_readToken_119 : decode cX5_readToken 119 = .ok (.ifCond .eq 8, 3) := by decide +kernel
theorem dX5_readToken_122 : decode cX5_readToken 122 = .ok (.aload_n 0, 1) := by decide +kernel
theorem dX5_readToken_123 : decode cX5_readToken 123 = .ok (.invokevirtual 171, 3) := by decide +kernel
theorem dX5_readToken_126 : decode cX5_readToken 126 = .ok (.ireturn, 1) := by decide +kernel
theorem dX5_readToken_127 : decode cX5_readToken 127 = .ok (.aload_n 0, 1) := by decide +kernel
theorem dX5_readToken_128 : decode cX5_readToken 128 = .ok (.iconst 1, 1) := by decide +kernel
theorem dX5_readToken_129 : decode cX5_readToken 129 = .ok (.aload_n 0, 1) := by decide +kernel
theorem dX5_readToken_130 : decode cX5_readToken 130 = .ok (.getfield 94, 3) := by decide +kernel
theorem dX5_readToken_133 : decode cX5_readToken 133 = .ok (.invokevirtual 73, 3) := by decide +kernel
theorem dX5_readToken_136 : decode cX5_readToken 136 = .ok (.ireturn, 1) := by decide +kernel
theorem dX5_readName_0 : decode cX5_readName 0 = .ok (.aload_n 0, 1) := by decide +kernel
theorem dX5_readName_1 : decode cX5_readName 1 = .ok (.iconst 1, 1) := by decide +kernel
theorem dX5_readName_2 : decode cX5_readName 2 = .ok (.putfield 55, 3) := by decide +kernel
theorem dX5_readName_5 : decode cX5_readName 5 = .ok (.aload_n 0, 1) := by decide +kernel
theorem dX5_readName_6 : decode cX5_readName 6 = .ok (.getfield 22, 3) := by decide +kernel
theorem dX5_readName_9 : decode cX5_readName 9 = .ok (.aload_n 0, 1) := by decide +kernel
theorem dX5_readName_10 : decode cX5_readName 10 = .ok (.getfield 70, 3) := by decide +kernel
theorem dX5_readName_13 : decode cX5_readName 13 = .ok (.if_icmp .ge 27, 3) := by decide +kernel
theorem dX5_readName_16 : decode cX5_readName 16 = .ok (.aload_n 0, 1) := by decide +kernel
theorem dX5_readName_17 : decode cX5_readName 17 = .ok (.aload_n 0, 1) := by decide +kernel
theorem dX5_readName_18 : decode cX5_readName 18 = .ok (.getfield 22, 3) := by decide +kernel
theorem dX5_readName_21 : decode cX5_readName 21 = .ok (.invokevirtual 162, 3) := by decide +kernel
theorem dX5_readName_24 : decode cX5_readName 24 = .ok (.ifCond .eq 16, 3) := by decide +kernel
theorem dX5_readName_27 : decode cX5_readName 27 = .ok (.aload_n 0, 1) := by decide +kernel
theorem dX5_readName_28 : decode cX5_readName 28 = .ok (.dup, 1) := by decide +kernel
theorem dX5_readName_29 : decode cX5_readName 29 = .ok (.getfield 22, 3) := by decide +kernel
theorem dX5_readName_32 : decode cX5_readName 32 = .ok (.iconst 1, 1) := by decide +kernel
theorem dX5_readName_33 : decode cX5_readName 33 = .ok (.iadd, 1) := by decide +kernel
theorem dX5_readName_34 : decode cX5_readName 34 = .ok (.putfield 22, 3) := by decide +kernel
theorem dX5_readName_37 : decode cX5_readName 37 = .ok (.goto (-32), 3) := by decide +kernel
theorem dX5_readName_40 : decode cX5_readName 40 = .ok (.aload_n 0, 1) := by decide +kernel
theorem dX5_readName_41 : decode cX5_readName 41 = .ok (.iconst (-1), 1) := by decide +kernel
theorem dX5_readName_42 : decode cX5_readName 42 = .ok (.putfield 97, 3) := by decide +kernel
theorem dX5_readName_45 : decode cX5_readName 45 = .ok (.iconst 0, 1) := by decide +kernel
theorem dX5_readName_46 : decode cX5_readName 46 = .ok (.istore_n 1, 1) := by decide +kernel
theorem dX5_readName_47 : decode cX5_readName 47 = .ok (.iload_n 1, 1) := by decide +kernel
theorem dX5_readName_48 : decode cX5_readName 48 = .ok (.bipush 10, 2) := by decide +kernel
theorem dX5_readName_50 : decode cX5_readName 50 = .ok (.if_icmp .ge 96, 3) := by decide +kernel
theorem dX5_readName_53 : decode cX5_readName 53 = .ok (.aload_n 0, 1) := by decide +kernel
theorem dX5_readName_54 : decode cX5_readName 54 = .ok (.getfield 97, 3) := by decide +kernel
theorem dX5_readName_57 : decode cX5_readName 57 = .ok (.iconst (-1), 1) := by decide +kernel
theorem dX5_readName_58 : decode cX5_readName 58 = .ok (.if_icmp .ne 88, 3) := by decide +kernel
theorem dX5_readName_61 : decode cX5_readName 61 = .ok (.iload_n 1, 1) := by decide +kernel
theorem dX5_readName_62 : decode cX5_readName 62 = .ok (.invokestatic 174, 3) := by decide +kernel
theorem dX5_readName_65 : decode cX5_readName 65 = .ok (.astore_n 2, 1) := by decide +kernel
theorem dX5_readName_66 : decode cX5_readName 66 = .ok (.iconst 0, 1) := by decide +kernel
theorem dX5_readName_67 : decode cX5_readName 67 = .ok (.istore_n 3, 1) := by decide +kernel
theorem dX5_readName_68 : decode cX5_readName 68 = .ok (.iload_n 3, 1) := by decide +kernel
theorem dX5_readName_69 : decode cX5_readName 69 = .ok (.aload_n 2, 1) := by decide +kernel
theorem dX5_readName_70 : decode cX5_readName 70 = .ok (.invokevirtual 178, 3) := by decide +kernel
theorem dX5_readName_73 : decode cX5_readName 73 = .ok (.if_icmp .ge 41, 3) := by decide +kernel
theorem dX5_readName_76 : decode cX5_readName 76 = .ok (.aload_n 0, 1) := by decide +kernel
theorem dX5_readName_77 : decode cX5_readName 77 = .ok (.getfield 94, 3) := by decide +kernel
theorem dX5_readName_80 : decode cX5_readName 80 = .ok (.iload_n 3, 1) := by decide +kernel
theorem dX5_readName_81 : decode cX5_readName 81 = .ok (.iadd, 1) := by decide +kernel
theorem dX5_readName_82 : decode cX5_readName 82 = .ok (.aload_n 0, 1) := by decide +kernel
theorem dX5_readName_83 : decode cX5_readName 83 = .ok (.getfield 22, 3) := by decide +kernel
theorem dX5_readName_86 : decode cX5_readName 86 = .ok (.if_icmp .ge 28, 3) := by decide +kernel
theorem dX5_readName_89 : decode cX5_readName 89 = .ok (.aload_n 0, 1) := by decide +kernel
theorem dX5_readName_90 : decode cX5_readName 90 = .ok (.getfield 18, 3) := by decide +kernel
theorem dX5_readName_93 : decode cX5_readName 93 = .ok (.aload_n 0, 1) := by decide +kernel
theorem dX5_readName_94 : decode cX5_readName 94 = .ok (.getfield 94, 3) := by decide +kernel
theorem dX5_readName_97 : decode cX5_readName 97 = .ok (.iload_n 3, 1) := by decide +kernel
theorem dX5_readName_98 : decode cX5_readName 98 = .ok (.iadd, 1) := by decide +kernel
theorem dX5_readName_99 : decode cX5_readName 99 = .ok (.baload, 1) := by decide +kernel
theorem dX5_readName_100 : decode cX5_readName 100 = .ok (.aload_n 2, 1) := by decide +kernel
theorem dX5_readName_101 : decode cX5_readName 101 = .ok (.iload_n 3, 1) := by decide +kernel
theorem dX5_readName_102 : decode cX5_readName 102 = .ok (.invokevirtual 183, 3) := by decide +kernel
theorem dX5_readName_105 : decode cX5_readName 105 = .ok (.if_icmp .ne 9, 3) := by decide +kernel
theorem dX5_readName_108 : decode cX5_readName 108 = .ok (.iinc 3 1, 3) := by decide +kernel
theorem dX5_readName_111 : decode cX5_readName 111 = .ok (.goto (-43), 3) := by decide +kernel
theorem dX5_readName_114 : decode cX5_readName 114 = .ok (.iload_n 3, 1) := by decide +kernel
theorem dX5_readName_115 : decode cX5_readName 115 = .ok (.aload_n 2, 1) := by decide +kernel
theorem dX5_readName_116 : decode cX5_readName 116 = .ok (.invokevirtual 178, 3) := by decide +kernel
theorem dX5_readName_119 : decode cX5_readName 119 = .ok (.if_icmp .ne 21, 3) := by decide +kernel
theorem dX5_readName_122 : decode cX5_readName 122 = .ok (.aload_n 0, 1) := by decide +kernel
theorem dX5_readName_123 : decode cX5_readName 123 = .ok (.getfield 94, 3) := by decide +kernel
theorem dX5_readName_126 : decode cX5_readName 126 = .ok (.iload_n 3, 1) := by decide +kernel
theorem dX5_readName_127 : decode cX5_readName 127 = .ok (.iadd, 1) := by decide +kernel
theorem dX5_readName_128 : decode cX5_readName 128 = .ok (.aload_n 0, 1) := by decide +kernel
theorem dX5_readName_129 : decode cX5_readName 129 = .ok (.getfield 22, 3) := by decide +kernel
theorem dX5_readName_132 : decode cX5_readName 132 = .ok (.if_icmp .ne 8, 3) := by decide +kernel
theorem dX5_readName_135 : decode cX5_readName 135 = .ok (.aload_n 0, 1) := by decide +kernel
theorem dX5_readName_136 : decode cX5_readName 136 = .ok (.iload_n 1, 1) := by decide +kernel
theorem dX5_readName_137 : decode cX5_readName 137 = .ok (.putfield 97, 3) := by decide +kernel
theorem dX5_readName_140 : decode cX5_readName 140 = .ok (.iinc 1 1, 3) := by decide +kernel
theorem dX5_readName_143 : decode cX5_readName 143 = .ok (.goto (-96), 3) := by decide +kernel
theorem dX5_readName_146 : decode cX5_readName 146 = .ok (.aload_n 0, 1) := by decide +kernel
theorem dX5_readName_147 : decode cX5_readName 147 = .ok (.getfield 97, 3) := by decide +kernel
theorem dX5_readName_150 : decode cX5_readName 150 = .ok (.iconst (-1), 1) := by decide +kernel
theorem dX5_readName_151 : decode cX5_readName 151 = .ok (.if_icmp .ne 15, 3) := by decide +kernel
theorem dX5_readName_154 : decode cX5_readName 154 = .ok (.aload_n 0, 1) := by decide +kernel
theorem dX5_readName_155 : decode cX5_readName 155 = .ok (.iconst 1, 1) := by decide +kernel
theorem dX5_readName_156 : decode cX5_readName 156 = .ok (.aload_n 0, 1) := by decide +kernel
theorem dX5_readName_157 : decode cX5_readName 157 = .ok (.getfield 94, 3) := by decide +kernel
theorem dX5_readName_160 : decode cX5_readName 160 = .ok (.invokevirtual 73, 3) := by decide +kernel
theorem dX5_readName_163 : decode cX5_readName 163 = .ok (.ifCond .eq 7, 3) := by decide +kernel
theorem dX5_readName_166 : decode cX5_readName 166 = .ok (.iconst 1, 1) := by decide +kernel
theorem dX5_readName_167 : decode cX5_readName 167 = .ok (.goto 4, 3) := by decide +kernel
theorem dX5_readName_170 : decode cX5_readName 170 = .ok (.iconst 0, 1) := by decide +kernel
theorem dX5_readName_171 : decode cX5_readName 171 = .ok (.ireturn, 1) := by decide +kernel
theorem dX5_readFigures_0 : decode cX5_readFigures 0 = .ok (.aload_n 0, 1) := by decide +kernel
theorem dX5_readFigures_1 : decode cX5_readFigures 1 = .ok (.iconst 2, 1) := by decide +kernel
theorem dX5_readFigures_2 : decode cX5_readFigures 2 = .ok (.putfield 55, 3) := by decide +kernel
theorem dX5_readFigures_5 : decode cX5_readFigures 5 = .ok (.aload_n 0, 1) := by decide +kernel
theorem dX5_readFigures_6 : decode cX5_readFigures 6 = .ok (.iconst 0, 1) := by decide +kernel
theorem dX5_readFigures_7 : decode cX5_readFigures 7 = .ok (.putfield 97, 3) := by decide +kernel
theorem dX5_readFigures_10 : decode cX5_readFigures 10 = .ok (.aload_n 0, 1) := by decide +kernel
theorem dX5_readFigures_11 : decode cX5_readFigures 11 = .ok (.getfield 22, 3) := by decide +kernel
theorem dX5_readFigures_14 : decode cX5_readFigures 14 = .ok (.aload_n 0, 1) := by decide +kernel
theorem dX5_readFigures_15 : decode cX5_readFigures 15 = .ok (.getfield 70, 3) := by decide +kernel
theorem dX5_readFigures_18 : decode cX5_readFigures 18 = .ok (.if_icmp .ge 71, 3) := by decide +kernel
theorem dX5_readFigures_21 : decode cX5_readFigures 21 = .ok (.aload_n 0, 1) := by decide +kernel
theorem dX5_readFigures_22 : decode cX5_readFigures 22 = .ok (.aload_n 0, 1) := by decide +kernel
theorem dX5_readFigures_23 : decode cX5_readFigures 23 = .ok (.getfield 22, 3) := by decide +kernel
theorem dX5_readFigures_26 : decode cX5_readFigures 26 = .ok (.invokevirtual 168, 3) := by decide +kernel
theorem dX5_readFigures_29 : decode cX5_readFigures 29 = .ok (.ifCond .eq 60, 3) := by decide +kernel
theorem dX5_readFigures_32 : decode cX5_readFigures 32 = .ok (.aload_n 0, 1) := by decide +kernel
theorem dX5_readFigures_33 : decode cX5_readFigures 33 = .ok (.aload_n 0, 1) := by decide +kernel
theorem dX5_readFigures_34 : decode cX5_readFigures 34 = .ok (.getfield 22, 3) := by decide +kernel
theorem dX5_readFigures_37 : decode cX5_readFigures 37 = .ok (.aload_n 0, 1) := by decide +kernel
theorem dX5_readFigures_38 : decode cX5_readFigures 38 = .ok (.getfield 94, 3) := by decide +kernel
theorem dX5_readFigures_41 : decode cX5_readFigures 41 = .ok (.isub, 1) := by decide +kernel
theorem dX5_readFigures_42 : decode cX5_readFigures 42 = .ok (.iconst 2, 1) := by decide +kernel
theorem dX5_readFigures_43 : decode cX5_readFigures 43 = .ok (.if_icmp .ge 26, 3) := by decide +kernel
theorem dX5_readFigures_46 : decode cX5_readFigures 46 = .ok (.aload_n 0, 1) := by decide +kernel
theorem dX5_readFigures_47 : decode cX5_readFigures 47 = .ok (.getfield 97, 3) := by decide +kernel
theorem dX5_readFigures_50 : decode cX5_readFigures 50 = .ok (.bipush 10, 2) := by decide +kernel
theorem dX5_readFigures_52 : decode cX5_readFigures 52 = .ok (.imul, 1) := by decide +kernel
theorem dX5_readFigures_53 : decode cX5_readFigures 53 = .ok (.aload_n 0, 1) := by decide +kernel
theorem dX5_readFigures_54 : decode cX5_readFigures 54 = .ok (.getfield 18, 3) := by decide +kernel
theorem dX5_readFigures_57 : decode cX5_readFigures 57 = .ok (.aload_n 0, 1) := by decide +kernel
theorem dX5_readFigures_58 : decode cX5_readFigures 58 = .ok (.getfield 22, 3) := by decide +kernel
theorem dX5_readFigures_61 : decode cX5_readFigures 61 = .ok (.baload, 1) := by decide +kernel
theorem dX5_readFigures_62 : decode cX5_readFigures 62 = .ok (.iadd, 1) := by decide +kernel
theorem dX5_readFigures_63 : decode cX5_readFigures 63 = .ok (.bipush 48, 2) := by decide +kernel
theorem dX5_readFigures_65 : decode cX5_readFigures 65 = .ok (.isub, 1) := by decide +kernel
theorem dX5_readFigures_66 : decode cX5_readFigures 66 = .ok (.goto 7, 3) := by decide +kernel
theorem dX5_readFigures_69 : decode cX5_readFigures 69 = .ok (.aload_n 0, 1) := by decide +kernel
theorem dX5_readFigures_70 : decode cX5_readFigures 70 = .ok (.getfield 97, 3) := by decide +kernel
theorem dX5_readFigures_73 : decode cX5_readFigures 73 = .ok (.putfield 97, 3) := by decide +kernel
theorem dX5_readFigures_76 : decode cX5_readFigures 76 = .ok (.aload_n 0, 1) := by decide +kernel
theorem dX5_readFigures_77 : decode cX5_readFigures 77 = .ok (.dup, 1) := by decide +kernel
theorem dX5_readFigures_78 : decode cX5_readFigures 78 = .ok (.getfield 22, 3) := by decide +kernel
theorem dX5_readFigures_81 : decode cX5_readFigures 81 = .ok (.iconst 1, 1) := by decide +kernel
theorem dX5_readFigures_82 : decode cX5_readFigures 82 = .ok (.iadd, 1) := by decide +kernel
theorem dX5_readFigures_83 : decode cX5_readFigures 83 = .ok (.putfield 22, 3) := by decide +kernel
theorem dX5_readFigures_86 : decode cX5_readFigures 86 = .ok (.goto (-76), 3) := by decide +kernel
theorem dX5_readFigures_89 : decode cX5_readFigures 89 = .ok (.aload_n 0, 1) := by decide +kernel
theorem dX5_readFigures_90 : decode cX5_readFigures 90 = .ok (.getfield 22, 3) := by decide +kernel
theorem dX5_readFigures_93 : decode cX5_readFigures 93 = .ok (.aload_n 0, 1) := by decide +kernel
theorem dX5_readFigures_94 : decode cX5_readFigures 94 = .ok (.getfield 94, 3) := by decide +kernel
theorem dX5_readFigures_97 : decode cX5_readFigures 97 = .ok (.isub, 1) := by decide +kernel
theorem dX5_readFigures_98 : decode cX5_readFigures 98 = .ok (.iconst 2, 1) := by decide +kernel
theorem dX5_readFigures_99 : decode cX5_readFigures 99 = .ok (.if_icmp .le 15, 3) := by decide +kernel
theorem dX5_readFigures_102 : decode cX5_readFigures 102 = .ok (.aload_n 0, 1) := by decide +kernel
theorem dX5_readFigures_103 : decode cX5_readFigures 103 = .ok (.iconst 1, 1) := by decide +kernel
theorem dX5_readFigures_104 : decode cX5_readFigures 104 = .ok (.aload_n 0, 1) := by decide +kernel
theorem dX5_readFigures_105 : decode cX5_readFigures 105 = .ok (.getfield 94, 3) := by decide +kernel
theorem dX5_readFigures_108 : decode cX5_readFigures 108 = .ok (.invokevirtual 73, 3) := by decide +kernel
theorem dX5_readFigures_111 : decode cX5_readFigures 111 = .ok (.ifCond .eq 7, 3) := by decide +kernel
theorem dX5_readFigures_114 : decode cX5_readFigures 114 = .ok (.iconst 1, 1) := by decide +kernel
theorem dX5_readFigures_115 : decode cX5_readFigures 115 = .ok (.goto 4, 3) := by decide +kernel
theorem dX5_readFigures_118 : decode cX5_readFigures 118 = .ok (.iconst 0, 1) := by decide +kernel
theorem dX5_readFigures_119 : decode cX5_readFigures 119 = .ok (.ireturn, 1) := by decide +kernel
theorem dX5_isLetter_0 : decode cX5_isLetter 0 = .ok (.aload_n 0, 1) := by decide +kernel
theorem dX5_isLetter_1 : decode cX5_isLetter 1 = .ok (.getfield 18, 3) := by decide +kernel
theorem dX5_isLetter_4 : decode cX5_isLetter 4 = .ok (.iload_n 1, 1) := by decide +kernel
theorem dX5_isLetter_5 : decode cX5_isLetter 5 = .ok (.baload, 1) := by decide +kernel
theorem dX5_isLetter_6 : decode cX5_isLetter 6 = .ok (.bipush 97, 2) := by decide +kernel
theorem dX5_isLetter_8 : decode cX5_isLetter 8 = .ok (.if_icmp .lt 18, 3) := by decide +kernel
theorem dX5_isLetter_11 : decode cX5_isLetter 11 = .ok (.aload_n 0, 1) := by decide +kernel
theorem dX5_isLetter_12 : decode cX5_isLetter 12 = .ok (.getfield 18, 3) := by decide +kernel
theorem dX5_isLetter_15 : decode cX5_isLetter 15 = .ok (.iload_n 1, 1) := by decide +kernel
theorem dX5_isLetter_16 : decode cX5_isLetter 16 = .ok (.baload, 1) := by decide +kernel
theorem dX5_isLetter_17 : decode cX5_isLetter 17 = .ok (.bipush 122, 2) := by decide +kernel
theorem dX5_isLetter_19 : decode cX5_isLetter 19 = .ok (.if_icmp .gt 7, 3) := by decide +kernel
theorem dX5_isLetter_22 : decode cX5_isLetter 22 = .ok (.iconst 1, 1) := by decide +kernel
theorem dX5_isLetter_23 : decode cX5_isLetter 23 = .ok (.goto 4, 3) := by decide +kernel
theorem dX5_isLetter_26 : decode cX5_isLetter 26 = .ok (.iconst 0, 1) := by decide +kernel
theorem dX5_isLetter_27 : decode cX5_isLetter 27 = .ok (.ireturn, 1) := by decide +kernel
theorem dX5_isFigure_0 : decode cX5_isFigure 0 = .ok (.aload_n 0, 1) := by decide +kernel
theorem dX5_isFigure_1 : decode cX5_isFigure 1 = .ok (.getfield 18, 3) := by decide +kernel
theorem dX5_isFigure_4 : decode cX5_isFigure 4 = .ok (.iload_n 1, 1) := by decide +kernel
theorem dX5_isFigure_5 : decode cX5_isFigure 5 = .ok (.baload, 1) := by decide +kernel
theorem dX5_isFigure_6 : decode cX5_isFigure 6 = .ok (.bipush 48, 2) := by decide +kernel
theorem dX5_isFigure_8 : decode cX5_isFigure 8 = .ok (.if_icmp .lt 18, 3) := by decide +kernel
theorem dX5_isFigure_11 : decode cX5_isFigure 11 = .ok (.aload_n 0, 1) := by decide +kernel
theorem dX5_isFigure_12 : decode cX5_isFigure 12 = .ok (.getfield 18, 3) := by decide +kernel
theorem dX5_isFigure_15 : decode cX5_isFigure 15 = .ok (.iload_n 1, 1) := by decide +kernel
theorem dX5_isFigure_16 : decode cX5_isFigure 16 = .ok (.baload, 1) := by decide +kernel
theorem dX5_isFigure_17 : decode cX5_isFigure 17 = .ok (.bipush 57, 2) := by decide +kernel
theorem dX5_isFigure_19 : decode cX5_isFigure 19 = .ok (.if_icmp .gt 7, 3) := by decide +kernel
theorem dX5_isFigure_22 : decode cX5_isFigure 22 = .ok (.iconst 1, 1) := by decide +kernel
theorem dX5_isFigure_23 : decode cX5_isFigure 23 = .ok (.goto 4, 3) := by decide +kernel
theorem dX5_isFigure_26 : decode cX5_isFigure 26 = .ok (.iconst 0, 1) := by decide +kernel
theorem dX5_isFigure_27 : decode cX5_isFigure 27 = .ok (.ireturn, 1) := by decide +kernel
theorem dX5_wordOf_0 : decode cX5_wordOf 0 = .ok (.iload_n 0, 1) := by decide +kernel
theorem dX5_wordOf_1 : decode cX5_wordOf 1 = .ok (.tableswitch 85 0 9 #[55, 58, 61, 64, 67, 70, 73, 76, 79, 82], 55) := by decide +kernel
theorem dX5_wordOf_56 : decode cX5_wordOf 56 = .ok (.ldc 187, 2) := by decide +kernel
theorem dX5_wordOf_58 : decode cX5_wordOf 58 = .ok (.areturn, 1) := by decide +kernel
theorem dX5_wordOf_59 : decode cX5_wordOf 59 = .ok (.ldc 189, 2) := by decide +kernel
theorem dX5_wordOf_61 : decode cX5_wordOf 61 = .ok (.areturn, 1) := by decide +kernel
theorem dX5_wordOf_62 : decode cX5_wordOf 62 = .ok (.ldc 190, 2) := by decide +kernel
theorem dX5_wordOf_64 : decode cX5_wordOf 64 = .ok (.areturn, 1) := by decide +kernel
theorem dX5_wordOf_65 : decode cX5_wordOf 65 = .ok (.ldc 192, 2) := by decide +kernel
theorem dX5_wordOf_67 : decode cX5_wordOf 67 = .ok (.areturn, 1) := by decide +kernel
theorem dX5_wordOf_68 : decode cX5_wordOf 68 = .ok (.ldc 193, 2) := by decide +kernel
theorem dX5_wordOf_70 : decode cX5_wordOf 70 = .ok (.areturn, 1) := by decide +kernel
theorem dX5_wordOf_71 : decode cX5_wordOf 71 = .ok (.ldc 195, 2) := by decide +kernel
theorem dX5_wordOf_73 : decode cX5_wordOf 73 = .ok (.areturn, 1) := by decide +kernel
theorem dX5_wordOf_74 : decode cX5_wordOf 74 = .ok (.ldc 196, 2) := by decide +kernel
theorem dX5_wordOf_76 : decode cX5_wordOf 76 = .ok (.areturn, 1) := by decide +kernel
theorem dX5_wordOf_77 : decode cX5_wordOf 77 = .ok (.ldc 197, 2) := by decide +kernel
theorem dX5_wordOf_79 : decode cX5_wordOf 79 = .ok (.areturn, 1) := by decide +kernel
theorem dX5_wordOf_80 : decode cX5_wordOf 80 = .ok (.ldc 199, 2) := by decide +kernel
theorem dX5_wordOf_82 : decode cX5_wordOf 82 = .ok (.areturn, 1) := by decide +kernel
theorem dX5_wordOf_83 : decode cX5_wordOf 83 = .ok (.ldc 201, 2) := by decide +kernel
theorem dX5_wordOf_85 : decode cX5_wordOf 85 = .ok (.areturn, 1) := by decide +kernel
theorem dX5_wordOf_86 : decode cX5_wordOf 86 = .ok (.ldc 203, 2) := by decide +kernel
theorem dX5_wordOf_88 : decode cX5_wordOf 88 = .ok (.areturn, 1) := by decide +kernel
theorem dX6_init_0 : decode cX6_init 0 = .ok (.aload_n 0, 1) := by decide +kernel
theorem dX6_init_1 : decode cX6_init 1 = .ok (.invokespecial 1, 3) := by decide +kernel
theorem dX6_init_4 : decode cX6_init 4 = .ok (.return_, 1) := by decide +kernel
theorem dX6_lose_0 : decode cX6_lose 0 = .ok (.aload_n 0, 1) := by decide +kernel
theorem dX6_lose_1 : decode cX6_lose 1 = .ok (.iconst 1, 1) := by decide +kernel
theorem dX6_lose_2 : decode cX6_lose 2 = .ok (.putfield 7, 3) := by decide +kernel
theorem dX6_lose_5 : decode cX6_lose 5 = .ok (.aload_n 0, 1) := by decide +kernel
theorem dX6_lose_6 : decode cX6_lose 6 = .ok (.iconst 0, 1) := by decide +kernel
theorem dX6_lose_7 : decode cX6_lose 7 = .ok (.putfield 13, 3) := by decide +kernel
theorem dX6_lose_10 : decode cX6_lose 10 = .ok (.aload_n 0, 1) := by decide +kernel
theorem dX6_lose_11 : decode cX6_lose 11 = .ok (.iconst 0, 1) := by decide +kernel
theorem dX6_lose_12 : decode cX6_lose 12 = .ok (.putfield 16, 3) := by decide +kernel
theorem dX6_lose_15 : decode cX6_lose 15 = .ok (.aload_n 0, 1) := by decide +kernel
theorem dX6_lose_16 : decode cX6_lose 16 = .ok (.iconst 1, 1) := by decide +kernel
theorem dX6_lose_17 : decode cX6_lose 17 = .ok (.putfield 20, 3) := by decide +kernel
theorem dX6_lose_20 : decode cX6_lose 20 = .ok (.return_, 1) := by decide +kernel
theorem dX6_close_0 : decode cX6_close 0 = .ok (.aload_n 0, 1) := by decide +kernel
theorem dX6_close_1 : decode cX6_close 1 = .ok (.iconst 1, 1) := by decide +kernel
theorem dX6_close_2 : decode cX6_close 2 = .ok (.putfield 13, 3) := by decide +kernel
theorem dX6_close_5 : decode cX6_close 5 = .ok (.aload_n 0, 1) := by decide +kernel
theorem dX6_close_6 : decode cX6_close 6 = .ok (.iload_n 1, 1) := by decide +kernel
theorem dX6_close_7 : decode cX6_close 7 = .ok (.putfield 23, 3) := by decide +kernel
theorem dX6_close_10 : decode cX6_close 10 = .ok (.aload_n 0, 1) := by decide +kernel
theorem dX6_close_11 : decode cX6_close 11 = .ok (.iload_n 2, 1) := by decide +kernel
theorem dX6_close_12 : decode cX6_close 12 = .ok (.putfield 26, 3) := by decide +kernel
theorem dX6_close_15 : decode cX6_close 15 = .ok (.aload_n 0, 1) := by decide +kernel
theorem dX6_close_16 : decode cX6_close 16 = .ok (.iload_n 3, 1) := by decide +kernel
theorem dX6_close_17 : decode cX6_close 17 = .ok (.iload_n 1, 1) := by decide +kernel
theorem dX6_close_18 : decode cX6_close 18 = .ok (.isub, 1) := by decide +kernel
theorem dX6_close_19 : decode cX6_close 19 = .ok (.putfield 29, 3) := by decide +kernel
theorem dX6_close_22 : decode cX6_close 22 = .ok (.aload_n 0, 1) := by decide +kernel
theorem dX6_close_23 : decode cX6_close 23 = .ok (.iload 4, 2) := by decide +kernel
theorem dX6_close_25 : decode cX6_close 25 = .ok (.iload_n 2, 1) := by decide +kernel
theorem dX6_close_26 : decode cX6_close 26 = .ok (.isub, 1) := by decide +kernel
theorem dX6_close_27 : decode cX6_close 27 = .ok (.putfield 32, 3) := by decide +kernel
theorem dX6_close_30 : decode cX6_close 30 = .ok (.aload_n 0, 1) := by decide +kernel
theorem dX6_close_31 : decode cX6_close 31 = .ok (.getfield 29, 3) := by decide +kernel
theorem dX6_close_34 : decode cX6_close 34 = .ok (.i2l, 1) := by decide +kernel
theorem dX6_close_35 : decode cX6_close 35 = .ok (.aload_n 0, 1) := by decide +kernel
theorem dX6_close_36 : decode cX6_close 36 = .ok (.getfield 32, 3) := by decide +kernel
theorem dX6_close_39 : decode cX6_close 39 = .ok (.i2l, 1) := by decide +kernel
theorem dX6_close_40 : decode cX6_close 40 = .ok (.invokestatic 35, 3) := by decide +kernel
theorem dX6_close_43 : decode cX6_close 43 = .ok (.l2i, 1) := by decide +kernel
theorem dX6_close_44 : decode cX6_close 44 = .ok (.istore 5, 2) := by decide +kernel
theorem dX6_close_46 : decode cX6_close 46 = .ok (.aload_n 0, 1) := by decide +kernel
theorem dX6_close_47 : decode cX6_close 47 = .ok (.iload 5, 2) := by decide +kernel
theorem dX6_close_49 : decode cX6_close 49 = .ok (.ifCond .le 13, 3) := by decide +kernel
theorem dX6_close_52 : decode cX6_close 52 = .ok (.aload_n 0, 1) := by decide +kernel
theorem dX6_close_53 : decode cX6_close 53 = .ok (.getfield 29, 3) := by decide +kernel
theorem dX6_close_56 : decode cX6_close 56 = .ok (.iload 5, 2) := by decide +kernel
theorem dX6_close_58 : decode cX6_close 58 = .ok (.idiv, 1) := by decide +kernel
theorem dX6_close_59 : decode cX6_close 59 = .ok (.goto 7, 3) := by decide +kernel
theorem dX6_close_62 : decode cX6_close 62 = .ok (.aload_n 0, 1) := by decide +kernel
theorem dX6_close_63 : decode cX6_close 63 = .ok (.getfield 29, 3) := by decide +kernel
theorem dX6_close_66 : decode cX6_close 66 = .ok (.putfield 16, 3) := by decide +kernel
theorem dX6_close_69 : decode cX6_close 69 = .ok (.aload_n 0, 1) := by decide +kernel
theorem dX6_close_70 : decode cX6_close 70 = .ok (.iload 5, 2) := by decide +kernel
theorem dX6_close_72 : decode cX6_close 72 = .ok (.ifCond .le 13, 3) := by decide +kernel
theorem dX6_close_75 : decode cX6_close 75 = .ok (.aload_n 0, 1) := by decide +kernel
theorem dX6_close_76 : decode cX6_close 76 = .ok (.getfield 32, 3) := by decide +kernel
theorem dX6_close_79 : decode cX6_close 79 = .ok (.iload 5, 2) := by decide +kernel
theorem dX6_close_81 : decode cX6_close 81 = .ok (.idiv, 1) := by decide +kernel
theorem dX6_close_82 : decode cX6_close 82 = .ok (.goto 7, 3) := by decide +kernel
theorem dX6_close_85 : decode cX6_close 85 = .ok (.aload_n 0, 1) := by decide +kernel
theorem dX6_close_86 : decode cX6_close 86 = .ok (.getfield 32, 3) := by decide +kernel
theorem dX6_close_89 : decode cX6_close 89 = .ok (.putfield 20, 3) := by decide +kernel
theorem dX6_close_92 : decode cX6_close 92 = .ok (.return_, 1) := by decide +kernel
theorem dX7_init_0 : decode cX7_init 0 = .ok (.aload_n 0, 1) := by decide +kernel
theorem dX7_init_1 : decode cX7_init 1 = .ok (.invokespecial 3, 3) := by decide +kernel
theorem dX7_init_4 : decode cX7_init 4 = .ok (.aload_n 0, 1) := by decide +kernel
theorem dX7_init_5 : decode cX7_init 5 = .ok (.sipush 5520, 3) := by decide +kernel
theorem dX7_init_8 : decode cX7_init 8 = .ok (.newarray .int, 2) := by decide +kernel
theorem dX7_init_10 : decode cX7_init 10 = .ok (.putfield 11, 3) := by decide +kernel
theorem dX7_init_13 : decode cX7_init 13 = .ok (.aload_n 0, 1) := by decide +kernel
theorem dX7_init_14 : decode cX7_init 14 = .ok (.bipush 120, 2) := by decide +kernel
theorem dX7_init_16 : decode cX7_init 16 = .ok (.newarray .int, 2) := by decide +kernel
theorem dX7_init_18 : decode cX7_init 18 = .ok (.putfield 15, 3) := by decide +kernel
theorem dX7_init_21 : decode cX7_init 21 = .ok (.aload_n 0, 1) := by decide +kernel
theorem dX7_init_22 : decode cX7_init 22 = .ok (.bipush 120, 2) := by decide +kernel
theorem dX7_init_24 : decode cX7_init 24 = .ok (.newarray .int, 2) := by decide +kernel
theorem dX7_init_26 : decode cX7_init 26 = .ok (.putfield 18, 3) := by decide +kernel
theorem dX7_init_29 : decode cX7_init 29 = .ok (.aload_n 0, 1) := by decide +kernel
theorem dX7_init_30 : decode cX7_init 30 = .ok (.new 21, 3) := by decide +kernel
theorem dX7_init_33 : decode cX7_init 33 = .ok (.dup, 1) := by decide +kernel
theorem dX7_init_34 : decode cX7_init 34 = .ok (.aload_n 1, 1) := by decide +kernel
theorem dX7_init_35 : decode cX7_init 35 = .ok (.aconst_null, 1) := by decide +kernel
theorem dX7_init_36 : decode cX7_init 36 = .ok (.invokespecial 23, 3) := by decide +kernel
theorem dX7_init_39 : decode cX7_init 39 = .ok (.putfield 26, 3) := by decide +kernel
theorem dX7_init_42 : decode cX7_init 42 = .ok (.return_, 1) := by decide +kernel
theorem dX7_settle_0 : decode cX7_settle 0 = .ok (.aload_n 2, 1) := by decide +kernel
theorem dX7_settle_1 : decode cX7_settle 1 = .ok (.invokevirtual 30, 3) := by decide +kernel
theorem dX7_settle_4 : decode cX7_settle 4 = .ok (.aload_n 0, 1) := by decide +kernel
theorem dX7_settle_5 : decode cX7_settle 5 = .ok (.iconst 0, 1) := by decide +kernel
theorem dX7_settle_6 : decode cX7_settle 6 = .ok (.putfield 35, 3) := by decide +kernel
theorem dX7_settle_9 : decode cX7_settle 9 = .ok (.aload_n 0, 1) := by decide +kernel
theorem dX7_settle_10 : decode cX7_settle 10 = .ok (.getfield 26, 3) := by decide +kernel
theorem dX7_settle_13 : decode cX7_settle 13 = .ok (.aload_n 1, 1) := by decide +kernel
theorem dX7_settle_14 : decode cX7_settle 14 = .ok (.putfield 39, 3) := by decide +kernel
theorem dX7_settle_17 : decode cX7_settle 17 = .ok (.aload_n 0, 1) := by decide +kernel
theorem dX7_settle_18 : decode cX7_settle 18 = .ok (.getfield 26, 3) := by decide +kernel
theorem dX7_settle_21 : decode cX7_settle 21 = .ok (.invokevirtual 43, 3) := by decide +kernel
theorem dX7_settle_24 : decode cX7_settle 24 = .ok (.aload_n 0, 1) := by decide +kernel
theorem dX7_settle_25 : decode cX7_settle 25 = .ok (.getfield 26, 3) := by decide +kernel
theorem dX7_settle_28 : decode cX7_settle 28 = .ok (.invokevirtual 46, 3) := by decide +kernel
theorem dX7_settle_31 : decode cX7_settle 31 = .ok (.aload_n 0, 1) := by decide +kernel
theorem dX7_settle_32 : decode cX7_settle 32 = .ok (.getfield 26, 3) := by decide +kernel
theorem dX7_settle_35 : decode cX7_settle 35 = .ok (.invokevirtual 49, 3) := by decide +kernel
theorem dX7_settle_38 : decode cX7_settle 38 = .ok (.istore_n 3, 1) := by decide +kernel
theorem dX7_settle_39 : decode cX7_settle 39 = .ok (.iconst 0, 1) := by decide +kernel
theorem dX7_settle_40 : decode cX7_settle 40 = .ok (.istore 4, 2) := by decide +kernel
theorem dX7_settle_42 : decode cX7_settle 42 = .ok (.iload 4, 2) := by decide +kernel
theorem dX7_settle_44 : decode cX7_settle 44 = .ok (.ldc 53, 2) := by decide +kernel
theorem dX7_settle_46 : decode cX7_settle 46 = .ok (.if_icmp .ge 143, 3) := by decide +kernel
theorem dX7_settle_49 : decode cX7_settle 49 = .ok (.iload_n 3, 1) := by decide +kernel
theorem dX7_settle_50 : decode cX7_settle 50 = .ok (.ifCond .le 139, 3) := by decide +kernel
theorem dX7_settle_53 : decode cX7_settle 53 = .ok (.aload_n 0, 1) := by decide +kernel
theorem dX7_settle_54 : decode cX7_settle 54 = .ok (.getfield 26, 3) := by decide +kernel
theorem dX7_settle_57 : decode cX7_settle 57 = .ok (.getfield 54, 3) := by decide +kernel
theorem dX7_settle_60 : decode cX7_settle 60 = .ok (.bipush 120, 2) := by decide +kernel
theorem dX7_settle_62 : decode cX7_settle 62 = .ok (.if_icmp .ge 127, 3) := by decide +kernel
theorem dX7_settle_65 : decode cX7_settle 65 = .ok (.aload_n 2, 1) := by decide +kernel
theorem dX7_settle_66 : decode cX7_settle 66 = .ok (.getfield 57, 3) := by decide +kernel
theorem dX7_settle_69 : decode cX7_settle 69 = .ok (.ifCond .ne 120, 3) := by decide +kernel
theorem dX7_settle_72 : decode cX7_settle 72 = .ok (.aload_n 0, 1) := by decide +kernel
theorem dX7_settle_73 : decode cX7_settle 73 = .ok (.getfield 26, 3) := by decide +kernel
theorem dX7_settle_76 : decode cX7_settle 76 = .ok (.getfield 54, 3) := by decide +kernel
theorem dX7_settle_79 : decode cX7_settle 79 = .ok (.istore 5, 2) := by decide +kernel
theorem dX7_settle_81 : decode cX7_settle 81 = .ok (.aload_n 0, 1) := by decide +kernel
theorem dX7_settle_82 : decode cX7_settle 82 = .ok (.getfield 26, 3) := by decide +kernel
theorem dX7_settle_85 : decode cX7_settle 85 = .ok (.iload_n 3, 1) := by decide +kernel
theorem dX7_settle_86 : decode cX7_settle 86 = .ok (.invokevirtual 61, 3) := by decide +kernel
theorem dX7_settle_89 : decode cX7_settle 89 = .ok (.aload_n 0, 1) := by decide +kernel
theorem dX7_settle_90 : decode cX7_settle 90 = .ok (.getfield 26, 3) := by decide +kernel
theorem dX7_settle_93 : decode cX7_settle 93 = .ok (.invokevirtual 46, 3) := by decide +kernel
theorem dX7_settle_96 : decode cX7_settle 96 = .ok (.aload_n 0, 1) := by decide +kernel
theorem dX7_settle_97 : decode cX7_settle 97 = .ok (.getfield 26, 3) := by decide +kernel
theorem dX7_settle_100 : decode cX7_settle 100 = .ok (.getfield 54, 3) := by decide +kernel
theorem dX7_settle_103 : decode cX7_settle 103 = .ok (.iload 5, 2) := by decide +kernel
theorem dX7_settle_105 : decode cX7_settle 105 = .ok (.if_icmp .le 70, 3) := by decide +kernel
theorem dX7_settle_108 : decode cX7_settle 108 = .ok (.aload_n 0, 1) := by decide +kernel
theorem dX7_settle_109 : decode cX7_settle 109 = .ok (.getfield 35, 3) := by decide +kernel
theorem dX7_settle_112 : decode cX7_settle 112 = .ok (.bipush 120, 2) := by decide +kernel
theorem dX7_settle_114 : decode cX7_settle 114 = .ok (.if_icmp .ge 61, 3) := by decide +kernel
theorem dX7_settle_117 : decode cX7_settle 117 = .ok (.aload_n 0, 1) := by decide +kernel
theorem dX7_settle_118 : decode cX7_settle 118 = .ok (.aload_n 1, 1) := by decide +kernel
theorem dX7_settle_119 : decode cX7_settle 119 = .ok (.invokevirtual 65, 3) := by decide +kernel
theorem dX7_settle_122 : decode cX7_settle 122 = .ok (.aload_n 0, 1) := by decide +kernel
theorem dX7_settle_123 : decode cX7_settle 123 = .ok (.invokevirtual 69, 3) := by decide +kernel
theorem dX7_settle_126 : decode cX7_settle 126 = .ok (.istore 6, 2) := by decide +kernel
theorem dX7_settle_128 : decode cX7_settle 128 = .ok (.iload 6, 2) := by decide +kernel
theorem dX7_settle_130 : decode cX7_settle 130 = .ok (.ifCond .lt 35, 3) := by decide +kernel
theorem dX7_settle_133 : decode cX7_settle 133 = .ok (.aload_n 2, 1) := by decide +kernel
theorem dX7_settle_134 : decode cX7_settle 134 = .ok (.aload_n 0, 1) := by decide +kernel
theorem dX7_settle_135 : decode cX7_settle 135 = .ok (.getfield 15, 3) := by decide +kernel
theorem dX7_settle_138 : decode cX7_settle 138 = .ok (.iload 6, 2) := by decide +kernel
theorem dX7_settle_140 : decode cX7_settle 140 = .ok (.iaload, 1) := by decide +kernel
theorem dX7_settle_141 : decode cX7_settle 141 = .ok (.aload_n 0, 1) := by decide +kernel
theorem dX7_settle_142 : decode cX7_settle 142 = .ok (.getfield 18, 3) := by decide +kernel
theorem dX7_settle_145 : decode cX7_settle 145 = .ok (.iload 6, 2) := by decide +kernel
theorem dX7_settle_147 : decode cX7_settle 147 = .ok (.iaload, 1) := by decide +kernel
theorem dX7_settle_148 : decode cX7_settle 148 = .ok (.aload_n 0, 1) := by decide +kernel
theorem dX7_settle_149 : decode cX7_settle 149 = .ok (.getfield 26, 3) := by decide +kernel
theorem dX7_settle_152 : decode cX7_settle 152 = .ok (.getfield 54, 3) := by decide +kernel
theorem dX7_settle_155 : decode cX7_settle 155 = .ok (.aload_n 0, 1) := by decide +kernel
theorem dX7_settle_156 : decode cX7_settle 156 = .ok (.getfield 26, 3) := by decide +kernel
theorem dX7_settle_159 : decode cX7_settle 159 = .ok (.getfield 72, 3) := by decide +kernel
theorem dX7_settle_162 : decode cX7_settle 162 = .ok (.invokevirtual 75, 3) := by decide +kernel
theorem dX7_settle_165 : decode cX7_settle 165 = .ok (.aload_n 0, 1) := by decide +kernel
theorem dX7_settle_166 : decode cX7_settle 166 = .ok (.dup, 1) := by decide +kernel
theorem dX7_settle_167 : decode cX7_settle 167 = .ok (.getfield 35, 3) := by decide +kernel
theorem dX7_settle_170 : decode cX7_settle 170 = .ok (.iconst 1, 1) := by decide +kernel
theorem dX7_settle_171 : decode cX7_settle 171 = .ok (.iadd, 1) := by decide +kernel
theorem dX7_settle_172 : decode cX7_settle 172 = .ok (.putfield 35, 3) := by decide +kernel
theorem dX7_settle_175 : decode cX7_settle 175 = .ok (.aload_n 0, 1) := by decide +kernel
theorem dX7_settle_176 : decode cX7_settle 176 = .ok (.getfield 26, 3) := by decide +kernel
theorem dX7_settle_179 : decode cX7_settle 179 = .ok (.invokevirtual 49, 3) := by decide +kernel
theorem dX7_settle_182 : decode cX7_settle 182 = .ok (.istore_n 3, 1) := by decide +kernel
theorem dX7_settle_183 : decode cX7_settle 183 = .ok (.iinc 4 1, 3) := by decide +kernel
theorem dX7_settle_186 : decode cX7_settle 186 = .ok (.goto (-144), 3) := by decide +kernel
theorem dX7_settle_189 : decode cX7_settle 189 = .ok (.return_, 1) := by decide +kernel
theorem dX7_writeDown_0 : decode cX7_writeDown 0 = .ok (.aload_n 0, 1) := by decide +kernel
theorem dX7_writeDown_1 : decode cX7_writeDown 1 = .ok (.getfield 35, 3) := by decide +kernel
theorem dX7_writeDown_4 : decode cX7_writeDown 4 = .ok (.bipush 46, 2) := by decide +kernel
theorem dX7_writeDown_6 : decode cX7_writeDown 6 = .ok (.imul, 1) := by decide +kernel
theorem dX7_writeDown_7 : decode cX7_writeDown 7 = .ok (.istore_n 2, 1) := by decide +kernel
theorem dX7_writeDown_8 : decode cX7_writeDown 8 = .ok (.aload_n 0, 1) := by decide +kernel
theorem dX7_writeDown_9 : decode cX7_writeDown 9 = .ok (.getfield 15, 3) := by decide +kernel
theorem dX7_writeDown_12 : decode cX7_writeDown 12 = .ok (.aload_n 0, 1) := by decide +kernel
theorem dX7_writeDown_13 : decode cX7_writeDown 13 = .ok (.getfield 35, 3) := by decide +kernel
theorem dX7_writeDown_16 : decode cX7_writeDown 16 = .ok (.aload_n 0, 1) := by decide +kernel
theorem dX7_writeDown_17 : decode cX7_writeDown 17 = .ok (.getfield 26, 3) := by decide +kernel
theorem dX7_writeDown_20 : decode cX7_writeDown 20 = .ok (.getfield 54, 3) := by decide +kernel
theorem dX7_writeDown_23 : decode cX7_writeDown 23 = .ok (.iastore, 1) := by decide +kernel
theorem dX7_writeDown_24 : decode cX7_writeDown 24 = .ok (.aload_n 0, 1) := by decide +kernel
theorem dX7_writeDown_25 : decode cX7_writeDown 25 = .ok (.getfield 18, 3) := by decide +kernel
theorem dX7_writeDown_28 : decode cX7_writeDown 28 = .ok (.aload_n 0, 1) := by decide +kernel
theorem dX7_writeDown_29 : decode cX7_writeDown 29 = .ok (.getfield 35, 3) := by decide +kernel
theorem dX7_writeDown_32 : decode cX7_writeDown 32 = .ok (.aload_n 0, 1) := by decide +kernel
theorem dX7_writeDown_33 : decode cX7_writeDown 33 = .ok (.getfield 26, 3) := by decide +kernel
theorem dX7_writeDown_36 : decode cX7_writeDown 36 = .ok (.getfield 72, 3) := by decide +kernel
theorem dX7_writeDown_39 : decode cX7_writeDown 39 = .ok (.iastore, 1) := by decide +kernel
theorem dX7_writeDown_40 : decode cX7_writeDown 40 = .ok (.aload_n 0, 1) := by decide +kernel
theorem dX7_writeDown_41 : decode cX7_writeDown 41 = .ok (.getfield 11, 3) := by decide +kernel
theorem dX7_writeDown_44 : decode cX7_writeDown 44 = .ok (.iload_n 2, 1) := by decide +kernel
theorem dX7_writeDown_45 : decode cX7_writeDown 45 = .ok (.aload_n 0, 1) := by decide +kernel
theorem dX7_writeDown_46 : decode cX7_writeDown 46 = .ok (.getfield 26, 3) := by decide +kernel
theorem dX7_writeDown_49 : decode cX7_writeDown 49 = .ok (.getfield 79, 3) := by decide +kernel
theorem dX7_writeDown_52 : decode cX7_writeDown 52 = .ok (.iastore, 1) := by decide +kernel
theorem dX7_writeDown_53 : decode cX7_writeDown 53 = .ok (.iconst 0, 1) := by decide +kernel
theorem dX7_writeDown_54 : decode cX7_writeDown 54 = .ok (.istore_n 3, 1) := by decide +kernel
theorem dX7_writeDown_55 : decode cX7_writeDown 55 = .ok (.iload_n 3, 1) := by decide +kernel
theorem dX7_writeDown_56 : decode cX7_writeDown 56 = .ok (.aload_n 1, 1) := by decide +kernel
theorem dX7_writeDown_57 : decode cX7_writeDown 57 = .ok (.getfield 82, 3) := by decide +kernel
theorem dX7_writeDown_60 : decode cX7_writeDown 60 = .ok (.if_icmp .ge 84, 3) := by decide +kernel
theorem dX7_writeDown_63 : decode cX7_writeDown 63 = .ok (.aload_n 0, 1) := by decide +kernel
theorem dX7_writeDown_64 : decode cX7_writeDown 64 = .ok (.getfield 11, 3) := by decide +kernel
theorem dX7_writeDown_67 : decode cX7_writeDown 67 = .ok (.iload_n 2, 1) := by decide +kernel
theorem dX7_writeDown_68 : decode cX7_writeDown 68 = .ok (.iconst 1, 1) := by decide +kernel
theorem dX7_writeDown_69 : decode cX7_writeDown 69 = .ok (.iadd, 1) := by decide +kernel
theorem dX7_writeDown_70 : decode cX7_writeDown 70 = .ok (.iload_n 3, 1) := by decide +kernel
theorem dX7_writeDown_71 : decode cX7_writeDown 71 = .ok (.iadd, 1) := by decide +kernel
theorem dX7_writeDown_72 : decode cX7_writeDown 72 = .ok (.aload_n 0, 1) := by decide +kernel
theorem dX7_writeDown_73 : decode cX7_writeDown 73 = .ok (.getfield 26, 3) := by decide +kernel
theorem dX7_writeDown_76 : decode cX7_writeDown 76 = .ok (.iload_n 3, 1) := by decide +kernel
theorem dX7_writeDown_77 : decode cX7_writeDown 77 = .ok (.invokevirtual 87, 3) := by decide +kernel
theorem dX7_writeDown_80 : decode cX7_writeDown 80 = .ok (.iastore, 1) := by decide +kernel
theorem dX7_writeDown_81 : decode cX7_writeDown 81 = .ok (.iconst 0, 1) := by decide +kernel
theorem dX7_writeDown_82 : decode cX7_writeDown 82 = .ok (.istore 4, 2) := by decide +kernel
theorem dX7_writeDown_84 : decode cX7_writeDown 84 = .ok (.iload 4, 2) := by decide +kernel
theorem dX7_writeDown_86 : decode cX7_writeDown 86 = .ok (.aload_n 1, 1) := by decide +kernel
theorem dX7_writeDown_87 : decode cX7_writeDown 87 = .ok (.getfield 91, 3) := by decide +kernel
theorem dX7_writeDown_90 : decode cX7_writeDown 90 = .ok (.if_icmp .ge 48, 3) := by decide +kernel
theorem dX7_writeDown_93 : decode cX7_writeDown 93 = .ok (.iload_n 3, 1) := by decide +kernel
theorem dX7_writeDown_94 : decode cX7_writeDown 94 = .ok (.bipush 8, 2) := by decide +kernel
theorem dX7_writeDown_96 : decode cX7_writeDown 96 = .ok (.imul, 1) := by decide +kernel
theorem dX7_writeDown_97 : decode cX7_writeDown 97 = .ok (.iload 4, 2) := by decide +kernel
theorem dX7_writeDown_99 : decode cX7_writeDown 99 = .ok (.iadd, 1) := by decide +kernel
theorem dX7_writeDown_100 : decode cX7_writeDown 100 = .ok (.istore 5, 2) := by decide +kernel
theorem dX7_writeDown_102 : decode cX7_writeDown 102 = .ok (.aload_n 0, 1) := by decide +kernel
theorem dX7_writeDown_103 : decode cX7_writeDown 103 = .ok (.getfield 11, 3) := by decide +kernel
theorem dX7_writeDown_106 : decode cX7_writeDown 106 = .ok (.iload_n 2, 1) := by decide +kernel
theorem dX7_writeDown_107 : decode cX7_writeDown 107 = .ok (.iconst 1, 1) := by decide +kernel
theorem dX7_writeDown_108 : decode cX7_writeDown 108 = .ok (.iadd, 1) := by decide +kernel
theorem dX7_writeDown_109 : decode cX7_writeDown 109 = .ok (.iconst 5, 1) := by decide +kernel
theorem dX7_writeDown_110 : decode cX7_writeDown 110 = .ok (.iadd, 1) := by decide +kernel
theorem dX7_writeDown_111 : decode cX7_writeDown 111 = .ok (.iload 5, 2) := by decide +kernel
theorem dX7_writeDown_113 : decode cX7_writeDown 113 = .ok (.iadd, 1) := by decide +kernel
theorem dX7_writeDown_114 : decode cX7_writeDown 114 = .ok (.aload_n 1, 1) := by decide +kernel
theorem dX7_writeDown_115 : decode cX7_writeDown 115 = .ok (.iload_n 3, 1) := by decide +kernel
theorem dX7_writeDown_116 : decode cX7_writeDown 116 = .ok (.iload 4, 2) := by decide +kernel
theorem dX7_writeDown_118 : decode cX7_writeDown 118 = .ok (.aload_n 0, 1) := by decide +kernel
theorem dX7_writeDown_119 : decode cX7_writeDown 119 = .ok (.getfield 26, 3) := by decide +kernel
theorem dX7_writeDown_122 : decode cX7_writeDown 122 = .ok (.getfield 94, 3) := by decide +kernel
theorem dX7_writeDown_125 : decode cX7_writeDown 125 = .ok (.iload 5, 2) := by decide +kernel
theorem dX7_writeDown_127 : decode cX7_writeDown 127 = .ok (.iaload, 1) := by decide +kernel
theorem dX7_writeDown_128 : decode cX7_writeDown 128 = .ok (.invokevirtual 97, 3) := by decide +kernel
theorem dX7_writeDown_131 : decode cX7_writeDown 131 = .ok (.iastore, 1) := by decide +kernel
theorem dX7_writeDown_132 : decode cX7_writeDown 132 = .ok (.iinc 4 1, 3) := by decide +kernel
theorem dX7_writeDown_135 : decode cX7_writeDown 135 = .ok (.goto (-51), 3) := by decide +kernel
theorem dX7_writeDown_138 : decode cX7_writeDown 138 = .ok (.iinc 3 1, 3) := by decide +kernel
theorem dX7_writeDown_141 : decode cX7_writeDown 141 = .ok (.goto (-86), 3) := by decide +kernel
theorem dX7_writeDown_144 : decode cX7_writeDown 144 = .ok (.aload_n 0, 1) := by decide +kernel
theorem dX7_writeDown_145 : decode cX7_writeDown 145 = .ok (.iload_n 2, 1) := by decide +kernel
theorem dX7_writeDown_146 : decode cX7_writeDown 146 = .ok (.aload_n 1, 1) := by decide +kernel
theorem dX7_writeDown_147 : decode cX7_writeDown 147 = .ok (.invokevirtual 101, 3) := by decide +kernel
theorem dX7_writeDown_150 : decode cX7_writeDown 150 = .ok (.return_, 1) := by decide +kernel
theorem dX7_clearOthers_0 : decode cX7_clearOthers 0 = .ok (.iconst 0, 1) := by decide +kernel
theorem dX7_clearOthers_1 : decode cX7_clearOthers 1 = .ok (.istore_n 3, 1) := by decide +kernel
theorem dX7_clearOthers_2 : decode cX7_clearOthers 2 = .ok (.iload_n 3, 1) := by decide +kernel
theorem dX7_clearOthers_3 : decode cX7_clearOthers 3 = .ok (.iconst 5, 1) := by decide +kernel
theorem dX7_clearOthers_4 : decode cX7_clearOthers 4 = .ok (.if_icmp .ge 80, 3) := by decide +kernel
theorem dX7_clearOthers_7 : decode cX7_clearOthers 7 = .ok (.iload_n 3, 1) := by decide +kernel
theorem dX7_clearOthers_8 : decode cX7_clearOthers 8 = .ok (.aload_n 2, 1) := by decide +kernel
theorem dX7_clearOthers_9 : decode cX7_clearOthers 9 = .ok (.getfield 82, 3) := by decide +kernel
theorem dX7_clearOthers_12 : decode cX7_clearOthers 12 = .ok (.if_icmp .lt 14, 3) := by decide +kernel
theorem dX7_clearOthers_15 : decode cX7_clearOthers 15 = .ok (.aload_n 0, 1) := by decide +kernel
theorem dX7_clearOthers_16 : decode cX7_clearOthers 16 = .ok (.getfield 11, 3) := by decide +kernel
theorem dX7_clearOthers_19 : decode cX7_clearOthers 19 = .ok (.iload_n 1, 1) := by decide +kernel
theorem dX7_clearOthers_20 : decode cX7_clearOthers 20 = .ok (.iconst 1, 1) := by decide +kernel
theorem dX7_clearOthers_21 : decode cX7_clearOthers 21 = .ok (.iadd, 1) := by decide +kernel
theorem dX7_clearOthers_22 : decode cX7_clearOthers 22 = .ok (.iload_n 3, 1) := by decide +kernel
theorem dX7_clearOthers_23 : decode cX7_clearOthers 23 = .ok (.iadd, 1) := by decide +kernel
theorem dX7_clearOthers_24 : decode cX7_clearOthers 24 = .ok (.iconst 0, 1) := by decide +kernel
theorem dX7_clearOthers_25 : decode cX7_clearOthers 25 = .ok (.iastore, 1) := by decide +kernel
theorem dX7_clearOthers_26 : decode cX7_clearOthers 26 = .ok (.iconst 0, 1) := by decide +kernel
theorem dX7_clearOthers_27 : decode cX7_clearOthers 27 = .ok (.istore 4, 2) := by decide +kernel
theorem dX7_clearOthers_29 : decode cX7_clearOthers 29 = .ok (.iload 4, 2) := by decide +kernel
theorem dX7_clearOthers_31 : decode cX7_clearOthers 31 = .ok (.bipush 8, 2) := by decide +kernel
theorem dX7_clearOthers_33 : decode cX7_clearOthers 33 = .ok (.if_icmp .ge 45, 3) := by decide +kernel
theorem dX7_clearOthers_36 : decode cX7_clearOthers 36 = .ok (.iload_n 3, 1) := by decide +kernel
theorem dX7_clearOthers_37 : decode cX7_clearOthers 37 = .ok (.aload_n 2, 1) := by decide +kernel
theorem dX7_clearOthers_38 : decode cX7_clearOthers 38 = .ok (.getfield 82, 3) := by decide +kernel
theorem dX7_clearOthers_41 : decode cX7_clearOthers 41 = .ok (.if_icmp .ge 12, 3) := by decide +kernel
theorem dX7_clearOthers_44 : decode cX7_clearOthers 44 = .ok (.iload 4, 2) := by decide +kernel
theorem dX7_clearOthers_46 : decode cX7_clearOthers 46 = .ok (.aload_n 2, 1) := by decide +kernel
theorem dX7_clearOthers_47 : decode cX7_clearOthers 47 = .ok (.getfield 91, 3) := by decide +kernel
theorem dX7_clearOthers_50 : decode cX7_clearOthers 50 = .ok (.if_icmp .lt 22, 3) := by decide +kernel
theorem dX7_clearOthers_53 : decode cX7_clearOthers 53 = .ok (.aload_n 0, 1) := by decide +kernel
theorem dX7_clearOthers_54 : decode cX7_clearOthers 54 = .ok (.getfield 11, 3) := by decide +kernel
theorem dX7_clearOthers_57 : decode cX7_clearOthers 57 = .ok (.iload_n 1, 1) := by decide +kernel
theorem dX7_clearOthers_58 : decode cX7_clearOthers 58 = .ok (.iconst 1, 1) := by decide +kernel
theorem dX7_clearOthers_59 : decode cX7_clearOthers 59 = .ok (.iadd, 1) := by decide +kernel
theorem dX7_clearOthers_60 : decode cX7_clearOthers 60 = .ok (.iconst 5, 1) := by decide +kernel
theorem dX7_clearOthers_61 : decode cX7_clearOthers 61 = .ok (.iadd, 1) := by decide +kernel
theorem dX7_clearOthers_62 : decode cX7_clearOthers 62 = .ok (.iload_n 3, 1) := by decide +kernel
theorem dX7_clearOthers_63 : decode cX7_clearOthers 63 = .ok (.bipush 8, 2) := by decide +kernel
theorem dX7_clearOthers_65 : decode cX7_clearOthers 65 = .ok (.imul, 1) := by decide +kernel
theorem dX7_clearOthers_66 : decode cX7_clearOthers 66 = .ok (.iadd, 1) := by decide +kernel
theorem dX7_clearOthers_67 : decode cX7_clearOthers 67 = .ok (.iload 4, 2) := by decide +kernel
theorem dX7_clearOthers_69 : decode cX7_clearOthers 69 = .ok (.iadd, 1) := by decide +kernel
theorem dX7_clearOthers_70 : decode cX7_clearOthers 70 = .ok (.iconst 0, 1) := by decide +kernel
theorem dX7_clearOthers_71 : decode cX7_clearOthers 71 = .ok (.iastore, 1) := by decide +kernel
theorem dX7_clearOthers_72 : decode cX7_clearOthers 72 = .ok (.iinc 4 1, 3) := by decide +kernel
theorem dX7_clearOthers_75 : decode cX7_clearOthers 75 = .ok (.goto (-46), 3) := by decide +kernel
theorem dX7_clearOthers_78 : decode cX7_clearOthers 78 = .ok (.iinc 3 1, 3) := by decide +kernel
theorem dX7_clearOthers_81 : decode cX7_clearOthers 81 = .ok (.goto (-79), 3) := by decide +kernel
theorem dX7_clearOthers_84 : decode cX7_clearOthers 84 = .ok (.return_, 1) := by decide +kernel
theorem dX7_earlierAlike_0 : decode cX7_earlierAlike 0 = .ok (.aload_n 0, 1) := by decide +kernel
theorem dX7_earlierAlike_1 : decode cX7_earlierAlike 1 = .ok (.getfield 35, 3) := by decide +kernel
theorem dX7_earlierAlike_4 : decode cX7_earlierAlike 4 = .ok (.bipush 46, 2) := by decide +kernel
theorem dX7_earlierAlike_6 : decode cX7_earlierAlike 6 = .ok (.imul, 1) := by decide +kernel
theorem dX7_earlierAlike_7 : decode cX7_earlierAlike 7 = .ok (.istore_n 1, 1) := by decide +kernel
theorem dX7_earlierAlike_8 : decode cX7_earlierAlike 8 = .ok (.iconst 0, 1) := by decide +kernel
theorem dX7_earlierAlike_9 : decode cX7_earlierAlike 9 = .ok (.istore_n 2, 1) := by decide +kernel
theorem dX7_earlierAlike_10 : decode cX7_earlierAlike 10 = .ok (.iload_n 2, 1) := by decide +kernel
theorem dX7_earlierAlike_11 : decode cX7_earlierAlike 11 = .ok (.aload_n 0, 1) := by decide +kernel
theorem dX7_earlierAlike_12 : decode cX7_earlierAlike 12 = .ok (.getfield 35, 3) := by decide +kernel
theorem dX7_earlierAlike_15 : decode cX7_earlierAlike 15 = .ok (.if_icmp .ge 53, 3) := by decide +kernel
theorem dX7_earlierAlike_18 : decode cX7_earlierAlike 18 = .ok (.iconst 0, 1) := by decide +kernel
theorem dX7_earlierAlike_19 : decode cX7_earlierAlike 19 = .ok (.istore_n 3, 1) := by decide +kernel
theorem dX7_earlierAlike_20 : decode cX7_earlierAlike 20 = .ok (.iload_n 3, 1) := by decide +kernel
theorem dX7_earlierAlike_21 : decode cX7_earlierAlike 21 = .ok (.bipush 46, 2) := by decide +kernel
theorem dX7_earlierAlike_23 : decode cX7_earlierAlike 23 = .ok (.if_icmp .ge 31, 3) := by decide +kernel
theorem dX7_earlierAlike_26 : decode cX7_earlierAlike 26 = .ok (.aload_n 0, 1) := by decide +kernel
theorem dX7_earlierAlike_27 : decode cX7_earlierAlike 27 = .ok (.getfield 11, 3) := by decide +kernel
theorem dX7_earlierAlike_30 : decode cX7_earlierAlike 30 = .ok (.iload_n 2, 1) := by decide +kernel
theorem dX7_earlierAlike_31 : decode cX7_earlierAlike 31 = .ok (.bipush 46, 2) := by decide +kernel
theorem dX7_earlierAlike_33 : decode cX7_earlierAlike 33 = .ok (.imul, 1) := by decide +kernel
theorem dX7_earlierAlike_34 : decode cX7_earlierAlike 34 = .ok (.iload_n 3, 1) := by decide +kernel
theorem dX7_earlierAlike_35 : decode cX7_earlierAlike 35 = .ok (.iadd, 1) := by decide +kernel
theorem dX7_earlierAlike_36 : decode cX7_earlierAlike 36 = .ok (.iaload, 1) := by decide +kernel
theorem dX7_earlierAlike_37 : decode cX7_earlierAlike 37 = .ok (.aload_n 0, 1) := by decide +kernel
theorem dX7_earlierAlike_38 : decode cX7_earlierAlike 38 = .ok (.getfield 11, 3) := by decide +kernel
theorem dX7_earlierAlike_41 : decode cX7_earlierAlike 41 = .ok (.iload_n 1, 1) := by decide +kernel
theorem dX7_earlierAlike_42 : decode cX7_earlierAlike 42 = .ok (.iload_n 3, 1) := by decide +kernel
theorem dX7_earlierAlike_43 : decode cX7_earlierAlike 43 = .ok (.iadd, 1) := by decide +kernel
theorem dX7_earlierAlike_44 : decode cX7_earlierAlike 44 = .ok (.iaload, 1) := by decide +kernel
theorem dX7_earlierAlike_45 : decode cX7_earlierAlike 45 = .ok (.if_icmp .ne 9, 3) := by decide +kernel
theorem dX7_earlierAlike_48 : decode cX7_earlierAlike 48 = .ok (.iinc 3 1, 3) := by decide +kernel
theorem dX7_earlierAlike_51 : decode cX7_earlierAlike 51 = .ok (.goto (-31), 3) := by decide +kernel
theorem dX7_earlierAlike_54 : decode cX7_earlierAlike 54 = .ok (.iload_n 3, 1) := by decide +kernel
theorem dX7_earlierAlike_55 : decode cX7_earlierAlike 55 = .ok (.bipush 46, 2) := by decide +kernel
theorem dX7_earlierAlike_57 : decode cX7_earlierAlike 57 = .ok (.if_icmp .ne 5, 3) := by decide +kernel
theorem dX7_earlierAlike_60 : decode cX7_earlierAlike 60 = .ok (.iload_n 2, 1) := by decide +kernel
theorem dX7_earlierAlike_61 : decode cX7_earlierAlike 61 = .ok (.ireturn, 1) := by decide +kernel
theorem dX7_earlierAlike_62 : decode cX7_earlierAlike 62 = .ok (.iinc 2 1, 3) := by decide +kernel
theorem dX7_earlierAlike_65 : decode cX7_earlierAlike 65 = .ok (.goto (-55), 3) := by decide +kernel
theorem dX7_earlierAlike_68 : decode cX7_earlierAlike 68 = .ok (.iconst (-1), 1) := by decide +kernel
theorem dX7_earlierAlike_69 : decode cX7_earlierAlike 69 = .ok (.ireturn, 1) := by decide +kernel
theorem dX8_init_0 : decode cX8_init 0 = .ok (.aload_n 0, 1) := by decide +kernel
theorem dX8_init_1 : decode cX8_init 1 = .ok (.invokespecial 3, 3) := by decide +kernel
theorem dX8_init_4 : decode cX8_init 4 = .ok (.aload_n 0, 1) := by decide +kernel
theorem dX8_init_5 : decode cX8_init 5 = .ok (.iconst (-1), 1) := by decide +kernel
theorem dX8_init_6 : decode cX8_init 6 = .ok (.putfield 11, 3) := by decide +kernel
theorem dX8_init_9 : decode cX8_init 9 = .ok (.aload_n 0, 1) := by decide +kernel
theorem dX8_init_10 : decode cX8_init 10 = .ok (.bipush 40, 2) := by decide +kernel
theorem dX8_init_12 : decode cX8_init 12 = .ok (.newarray .int, 2) := by decide +kernel
theorem dX8_init_14 : decode cX8_init 14 = .ok (.putfield 15, 3) := by decide +kernel
theorem dX8_init_17 : decode cX8_init 17 = .ok (.return_, 1) := by decide +kernel
theorem dX8_makeNew_0 : decode cX8_makeNew 0 = .ok (.aload_n 0, 1) := by decide +kernel
theorem dX8_makeNew_1 : decode cX8_makeNew 1 = .ok (.iload_n 1, 1) := by decide +kernel
theorem dX8_makeNew_2 : decode cX8_makeNew 2 = .ok (.putfield 11, 3) := by decide +kernel
theorem dX8_makeNew_5 : decode cX8_makeNew 5 = .ok (.aload_n 0, 1) := by decide +kernel
theorem dX8_makeNew_6 : decode cX8_makeNew 6 = .ok (.iload_n 2, 1) := by decide +kernel
theorem dX8_makeNew_7 : decode cX8_makeNew 7 = .ok (.putfield 19, 3) := by decide +kernel
theorem dX8_makeNew_10 : decode cX8_makeNew 10 = .ok (.iconst 0, 1) := by decide +kernel
theorem dX8_makeNew_11 : decode cX8_makeNew 11 = .ok (.istore_n 3, 1) := by decide +kernel
theorem dX8_makeNew_12 : decode cX8_makeNew 12 = .ok (.iload_n 3, 1) := by decide +kernel
theorem dX8_makeNew_13 : decode cX8_makeNew 13 = .ok (.bipush 40, 2) := by decide +kernel
theorem dX8_makeNew_15 : decode cX8_makeNew 15 = .ok (.if_icmp .ge 16, 3) := by decide +kernel
theorem dX8_makeNew_18 : decode cX8_makeNew 18 = .ok (.aload_n 0, 1) := by decide +kernel
theorem dX8_makeNew_19 : decode cX8_makeNew 19 = .ok (.getfield 15, 3) := by decide +kernel
theorem dX8_makeNew_22 : decode cX8_makeNew 22 = .ok (.iload_n 3, 1) := by decide +kernel
theorem dX8_makeNew_23 : decode cX8_makeNew 23 = .ok (.iconst 0, 1) := by decide +kernel
theorem dX8_makeNew_24 : decode cX8_makeNew 24 = .ok (.iastore, 1) := by decide +kernel
theorem dX8_makeNew_25 : decode cX8_makeNew 25 = .ok (.iinc 3 1, 3) := by decide +kernel
theorem dX8_makeNew_28 : decode cX8_makeNew 28 = .ok (.goto (-16), 3) := by decide +kernel
theorem dX8_makeNew_31 : decode cX8_makeNew 31 = .ok (.return_, 1) := by decide +kernel
theorem dX8_put_0 : decode cX8_put 0 = .ok (.aload_n 0, 1) := by decide +kernel
theorem dX8_put_1 : decode cX8_put 1 = .ok (.getfield 15, 3) := by decide +kernel
theorem dX8_put_4 : decode cX8_put 4 = .ok (.iload_n 1, 1) := by decide +kernel
theorem dX8_put_5 : decode cX8_put 5 = .ok (.aload_n 0, 1) := by decide +kernel
theorem dX8_put_6 : decode cX8_put 6 = .ok (.getfield 11, 3) := by decide +kernel
theorem dX8_put_9 : decode cX8_put 9 = .ok (.ifCond .ne 8, 3) := by decide +kernel
theorem dX8_put_12 : decode cX8_put 12 = .ok (.iload_n 2, 1) := by decide +kernel
theorem dX8_put_13 : decode cX8_put 13 = .ok (.i2b, 1) := by decide +kernel
theorem dX8_put_14 : decode cX8_put 14 = .ok (.goto 17, 3) := by decide +kernel
theorem dX8_put_17 : decode cX8_put 17 = .ok (.aload_n 0, 1) := by decide +kernel
theorem dX8_put_18 : decode cX8_put 18 = .ok (.getfield 11, 3) := by decide +kernel
theorem dX8_put_21 : decode cX8_put 21 = .ok (.iconst 1, 1) := by decide +kernel
theorem dX8_put_22 : decode cX8_put 22 = .ok (.if_icmp .ne 8, 3) := by decide +kernel
theorem dX8_put_25 : decode cX8_put 25 = .ok (.iload_n 2, 1) := by decide +kernel
theorem dX8_put_26 : decode cX8_put 26 = .ok (.i2s, 1) := by decide +kernel
theorem dX8_put_27 : decode cX8_put 27 = .ok (.goto 4, 3) := by decide +kernel
theorem dX8_put_30 : decode cX8_put 30 = .ok (.iload_n 2, 1) := by decide +kernel
theorem dX8_put_31 : decode cX8_put 31 = .ok (.iastore, 1) := by decide +kernel
theorem dX8_put_32 : decode cX8_put 32 = .ok (.return_, 1) := by decide +kernel
theorem dX8_faultAs_0 : decode cX8_faultAs 0 = .ok (.aload_n 0, 1) := by decide +kernel
theorem dX8_faultAs_1 : decode cX8_faultAs 1 = .ok (.getfield 11, 3) := by decide +kernel
theorem dX8_faultAs_4 : decode cX8_faultAs 4 = .ok (.iconst (-1), 1) := by decide +kernel
theorem dX8_faultAs_5 : decode cX8_faultAs 5 = .ok (.if_icmp .ne 5, 3) := by decide +kernel
theorem dX8_faultAs_8 : decode cX8_faultAs 8 = .ok (.iconst 1, 1) := by decide +kernel
theorem dX8_faultAs_9 : decode cX8_faultAs 9 = .ok (.ireturn, 1) := by decide +kernel
theorem dX8_faultAs_10 : decode cX8_faultAs 10 = .ok (.aload_n 0, 1) := by decide +kernel
theorem dX8_faultAs_11 : decode cX8_faultAs 11 = .ok (.getfield 11, 3) := by decide +kernel
theorem dX8_faultAs_14 : decode cX8_faultAs 14 = .ok (.iload_n 1, 1) := by decide +kernel
theorem dX8_faultAs_15 : decode cX8_faultAs 15 = .ok (.if_icmp .eq 7, 3) := by decide +kernel
theorem dX8_faultAs_18 : decode cX8_faultAs 18 = .ok (.iconst 3, 1) := by decide +kernel
theorem dX8_faultAs_19 : decode cX8_faultAs 19 = .ok (.goto 4, 3) := by decide +kernel
theorem dX8_faultAs_22 : decode cX8_faultAs 22 = .ok (.iconst 0, 1) := by decide +kernel
theorem dX8_faultAs_23 : decode cX8_faultAs 23 = .ok (.ireturn, 1) := by decide +kernel
theorem dX8_wholeRows_0 : decode cX8_wholeRows 0 = .ok (.iload_n 1, 1) := by decide +kernel
theorem dX8_wholeRows_1 : decode cX8_wholeRows 1 = .ok (.ifCond .lt 16, 3) := by decide +kernel
theorem dX8_wholeRows_4 : decode cX8_wholeRows 4 = .ok (.iload_n 1, 1) := by decide +kernel
theorem dX8_wholeRows_5 : decode cX8_wholeRows 5 = .ok (.aload_n 0, 1) := by decide +kernel
theorem dX8_wholeRows_6 : decode cX8_wholeRows 6 = .ok (.getfield 19, 3) := by decide +kernel
theorem dX8_wholeRows_9 : decode cX8_wholeRows 9 = .ok (.if_icmp .ge 8, 3) := by decide +kernel
theorem dX8_wholeRows_12 : decode cX8_wholeRows 12 = .ok (.iload_n 2, 1) := by decide +kernel
theorem dX8_wholeRows_13 : decode cX8_wholeRows 13 = .ok (.iconst 1, 1) := by decide +kernel
theorem dX8_wholeRows_14 : decode cX8_wholeRows 14 = .ok (.if_icmp .ge 5, 3) := by decide +kernel
theorem dX8_wholeRows_17 : decode cX8_wholeRows 17 = .ok (.iconst 0, 1) := by decide +kernel
theorem dX8_wholeRows_18 : decode cX8_wholeRows 18 = .ok (.ireturn, 1) := by decide +kernel
theorem dX8_wholeRows_19 : decode cX8_wholeRows 19 = .ok (.aload_n 0, 1) := by decide +kernel
theorem dX8_wholeRows_20 : decode cX8_wholeRows 20 = .ok (.getfield 19, 3) := by decide +kernel
theorem dX8_wholeRows_23 : decode cX8_wholeRows 23 = .ok (.iload_n 1, 1) := by decide +kernel
theorem dX8_wholeRows_24 : decode cX8_wholeRows 24 = .ok (.isub, 1) := by decide +kernel
theorem dX8_wholeRows_25 : decode cX8_wholeRows 25 = .ok (.iload_n 2, 1) := by decide +kernel
theorem dX8_wholeRows_26 : decode cX8_wholeRows 26 = .ok (.idiv, 1) := by decide +kernel
theorem dX8_wholeRows_27 : decode cX8_wholeRows 27 = .ok (.istore 4, 2) := by decide +kernel
theorem dX8_wholeRows_29 : decode cX8_wholeRows 29 = .ok (.iload 4, 2) := by decide +kernel
theorem dX8_wholeRows_31 : decode cX8_wholeRows 31 = .ok (.iload_n 3, 1) := by decide +kernel
theorem dX8_wholeRows_32 : decode cX8_wholeRows 32 = .ok (.if_icmp .ge 8, 3) := by decide +kernel
theorem dX8_wholeRows_35 : decode cX8_wholeRows 35 = .ok (.iload 4, 2) := by decide +kernel
theorem dX8_wholeRows_37 : decode cX8_wholeRows 37 = .ok (.goto 4, 3) := by decide +kernel
theorem dX8_wholeRows_40 : decode cX8_wholeRows 40 = .ok (.iload_n 3, 1) := by decide +kernel
theorem dX8_wholeRows_41 : decode cX8_wholeRows 41 = .ok (.ireturn, 1) := by decide +kernel
theorem dX9_init_0 : decode cX9_init 0 = .ok (.aload_n 0, 1) := by decide +kernel
theorem dX9_init_1 : decode cX9_init 1 = .ok (.invokespecial 3, 3) := by decide +kernel
theorem dX9_init_4 : decode cX9_init 4 = .ok (.aload_n 0, 1) := by decide +kernel
theorem dX9_init_5 : decode cX9_init 5 = .ok (.bipush 6, 2) := by decide +kernel
theorem dX9_init_7 : decode cX9_init 7 = .ok (.newarray .int, 2) := by decide +kernel
theorem dX9_init_9 : decode cX9_init 9 = .ok (.putfield 9, 3) := by decide +kernel
theorem dX9_init_12 : decode cX9_init 12 = .ok (.aload_n 0, 1) := by decide +kernel
theorem dX9_init_13 : decode cX9_init 13 = .ok (.bipush 24, 2) := by decide +kernel
theorem dX9_init_15 : decode cX9_init 15 = .ok (.newarray .int, 2) := by decide +kernel
theorem dX9_init_17 : decode cX9_init 17 = .ok (.putfield 15, 3) := by decide +kernel
theorem dX9_init_20 : decode cX9_init 20 = .ok (.aload_n 0, 1) := by decide +kernel
theorem dX9_init_21 : decode cX9_init 21 = .ok (.bipush 40, 2) := by decide +kernel
theorem dX9_init_23 : decode cX9_init 23 = .ok (.newarray .int, 2) := by decide +kernel
theorem dX9_init_25 : decode cX9_init 25 = .ok (.putfield 18, 3) := by decide +kernel
theorem dX9_init_28 : decode cX9_init 28 = .ok (.aload_n 0, 1) := by decide +kernel
theorem dX9_init_29 : decode cX9_init 29 = .ok (.iconst 5, 1) := by decide +kernel
theorem dX9_init_30 : decode cX9_init 30 = .ok (.newarray .int, 2) := by decide +kernel
theorem dX9_init_32 : decode cX9_init 32 = .ok (.putfield 21, 3) := by decide +kernel
theorem dX9_init_35 : decode cX9_init 35 = .ok (.return_, 1) := by decide +kernel
theorem dX9_clear_0 : decode cX9_clear 0 = .ok (.aload_n 0, 1) := by decide +kernel
theorem dX9_clear_1 : decode cX9_clear 1 = .ok (.iconst 0, 1) := by decide +kernel
theorem dX9_clear_2 : decode cX9_clear 2 = .ok (.putfield 24, 3) := by decide +kernel
theorem dX9_clear_5 : decode cX9_clear 5 = .ok (.aload_n 0, 1) := by decide +kernel
theorem dX9_clear_6 : decode cX9_clear 6 = .ok (.iconst 0, 1) := by decide +kernel
theorem dX9_clear_7 : decode cX9_clear 7 = .ok (.putfield 28, 3) := by decide +kernel
theorem dX9_clear_10 : decode cX9_clear 10 = .ok (.aload_n 0, 1) := by decide +kernel
theorem dX9_clear_11 : decode cX9_clear 11 = .ok (.iconst 0, 1) := by decide +kernel
theorem dX9_clear_12 : decode cX9_clear 12 = .ok (.putfield 31, 3) := by decide +kernel
theorem dX9_clear_15 : decode cX9_clear 15 = .ok (.aload_n 0, 1) := by decide +kernel
theorem dX9_clear_16 : decode cX9_clear 16 = .ok (.iconst 0, 1) := by decide +kernel
theorem dX9_clear_17 : decode cX9_clear 17 = .ok (.putfield 34, 3) := by decide +kernel
theorem dX9_clear_20 : decode cX9_clear 20 = .ok (.aload_n 0, 1) := by decide +kernel
theorem dX9_clear_21 : decode cX9_clear 21 = .ok (.iconst 0, 1) := by decide +kernel
theorem dX9_clear_22 : decode cX9_clear 22 = .ok (.putfield 37, 3) := by decide +kernel
theorem dX9_clear_25 : decode cX9_clear 25 = .ok (.aload_n 0, 1) := by decide +kernel
theorem dX9_clear_26 : decode cX9_clear 26 = .ok (.iconst 0, 1) := by decide +kernel
theorem dX9_clear_27 : decode cX9_clear 27 = .ok (.putfield 40, 3) := by decide +kernel
theorem dX9_clear_30 : decode cX9_clear 30 = .ok (.aload_n 0, 1) := by decide +kernel
theorem dX9_clear_31 : decode cX9_clear 31 = .ok (.iconst 1, 1) := by decide +kernel
theorem dX9_clear_32 : decode cX9_clear 32 = .ok (.putfield 43, 3) := by decide +kernel
theorem dX9_clear_35 : decode cX9_clear 35 = .ok (.aload_n 0, 1) := by decide +kernel
theorem dX9_clear_36 : decode cX9_clear 36 = .ok (.getfield 9, 3) := by decide +kernel
theorem dX9_clear_39 : decode cX9_clear 39 = .ok (.iconst 0, 1) := by decide +kernel
theorem dX9_clear_40 : decode cX9_clear 40 = .ok (.iconst 0, 1) := by decide +kernel
theorem dX9_clear_41 : decode cX9_clear 41 = .ok (.iastore, 1) := by decide +kernel
theorem dX9_clear_42 : decode cX9_clear 42 = .ok (.return_, 1) := by decide +kernel
theorem dX9_tellAsAtFirst_0 : decode cX9_tellAsAtFirst 0 = .ok (.aload_n 0, 1) := by decide +kernel
theorem dX9_tellAsAtFirst_1 : decode cX9_tellAsAtFirst 1 = .ok (.invokevirtual 46, 3) := by decide +kernel
theorem dX9_tellAsAtFirst_4 : decode cX9_tellAsAtFirst 4 = .ok (.aload_n 0, 1) := by decide +kernel
theorem dX9_tellAsAtFirst_5 : decode cX9_tellAsAtFirst 5 = .ok (.iconst 3, 1) := by decide +kernel
theorem dX9_tellAsAtFirst_6 : decode cX9_tellAsAtFirst 6 = .ok (.putfield 24, 3) := by decide +kernel
theorem dX9_tellAsAtFirst_9 : decode cX9_tellAsAtFirst 9 = .ok (.aload_n 0, 1) := by decide +kernel
theorem dX9_tellAsAtFirst_10 : decode cX9_tellAsAtFirst 10 = .ok (.iconst 3, 1) := by decide +kernel
theorem dX9_tellAsAtFirst_11 : decode cX9_tellAsAtFirst 11 = .ok (.putfield 28, 3) := by decide +kernel
theorem dX9_tellAsAtFirst_14 : decode cX9_tellAsAtFirst 14 = .ok (.iconst 0, 1) := by decide +kernel
theorem dX9_tellAsAtFirst_15 : decode cX9_tellAsAtFirst 15 = .ok (.istore_n 1, 1) := by decide +kernel
theorem dX9_tellAsAtFirst_16 : decode cX9_tellAsAtFirst 16 = .ok (.iload_n 1, 1) := by decide +kernel
theorem dX9_tellAsAtFirst_17 : decode cX9_tellAsAtFirst 17 = .ok (.aload_n 0, 1) := by decide +kernel
theorem dX9_tellAsAtFirst_18 : decode cX9_tellAsAtFirst 18 = .ok (.getfield 24, 3) := by decide +kernel
theorem dX9_tellAsAtFirst_21 : decode cX9_tellAsAtFirst 21 = .ok (.if_icmp .ge 64, 3) := by decide +kernel
theorem dX9_tellAsAtFirst_24 : decode cX9_tellAsAtFirst 24 = .ok (.iconst 0, 1) := by decide +kernel
theorem dX9_tellAsAtFirst_25 : decode cX9_tellAsAtFirst 25 = .ok (.istore_n 2, 1) := by decide +kernel
theorem dX9_tellAsAtFirst_26 : decode cX9_tellAsAtFirst 26 = .ok (.iload_n 2, 1) := by decide +kernel
theorem dX9_tellAsAtFirst_27 : decode cX9_tellAsAtFirst 27 = .ok (.iconst 3, 1) := by decide +kernel
theorem dX9_tellAsAtFirst_28 : decode cX9_tellAsAtFirst 28 = .ok (.if_icmp .ge 21, 3) := by decide +kernel
theorem dX9_tellAsAtFirst_31 : decode cX9_tellAsAtFirst 31 = .ok (.aload_n 0, 1) := by decide +kernel
theorem dX9_tellAsAtFirst_32 : decode cX9_tellAsAtFirst 32 = .ok (.getfield 15, 3) := by decide +kernel
theorem dX9_tellAsAtFirst_35 : decode cX9_tellAsAtFirst 35 = .ok (.iload_n 2, 1) := by decide +kernel
theorem dX9_tellAsAtFirst_36 : decode cX9_tellAsAtFirst 36 = .ok (.bipush 8, 2) := by decide +kernel
theorem dX9_tellAsAtFirst_38 : decode cX9_tellAsAtFirst 38 = .ok (.imul, 1) := by decide +kernel
theorem dX9_tellAsAtFirst_39 : decode cX9_tellAsAtFirst 39 = .ok (.iload_n 1, 1) := by decide +kernel
theorem dX9_tellAsAtFirst_40 : decode cX9_tellAsAtFirst 40 = .ok (.iadd, 1) := by decide +kernel
theorem dX9_tellAsAtFirst_41 : decode cX9_tellAsAtFirst 41 = .ok (.iconst 2, 1) := by decide +kernel
theorem dX9_tellAsAtFirst_42 : decode cX9_tellAsAtFirst 42 = .ok (.iastore, 1) := by decide +kernel
theorem dX9_tellAsAtFirst_43 : decode cX9_tellAsAtFirst 43 = .ok (.iinc 2 1, 3) := by decide +kernel
theorem dX9_tellAsAtFirst_46 : decode cX9_tellAsAtFirst 46 = .ok (.goto (-20), 3) := by decide +kernel
theorem dX9_tellAsAtFirst_49 : decode cX9_tellAsAtFirst 49 = .ok (.iconst 0, 1) := by decide +kernel
theorem dX9_tellAsAtFirst_50 : decode cX9_tellAsAtFirst 50 = .ok (.istore_n 2, 1) := by decide +kernel
theorem dX9_tellAsAtFirst_51 : decode cX9_tellAsAtFirst 51 = .ok (.iload_n 2, 1) := by decide +kernel
theorem dX9_tellAsAtFirst_52 : decode cX9_tellAsAtFirst 52 = .ok (.aload_n 0, 1) := by decide +kernel
theorem dX9_tellAsAtFirst_53 : decode cX9_tellAsAtFirst 53 = .ok (.getfield 28, 3) := by decide +kernel
theorem dX9_tellAsAtFirst_56 : decode cX9_tellAsAtFirst 56 = .ok (.if_icmp .ge 23, 3) := by decide +kernel
theorem dX9_tellAsAtFirst_59 : decode cX9_tellAsAtFirst 59 = .ok (.aload_n 0, 1) := by decide +kernel
theorem dX9_tellAsAtFirst_60 : decode cX9_tellAsAtFirst 60 = .ok (.getfield 18, 3) := by decide +kernel
theorem dX9_tellAsAtFirst_63 : decode cX9_tellAsAtFirst 63 = .ok (.iload_n 2, 1) := by decide +kernel
theorem dX9_tellAsAtFirst_64 : decode cX9_tellAsAtFirst 64 = .ok (.bipush 8, 2) := by decide +kernel
theorem dX9_tellAsAtFirst_66 : decode cX9_tellAsAtFirst 66 = .ok (.imul, 1) := by decide +kernel
theorem dX9_tellAsAtFirst_67 : decode cX9_tellAsAtFirst 67 = .ok (.iload_n 1, 1) := by decide +kernel
theorem dX9_tellAsAtFirst_68 : decode cX9_tellAsAtFirst 68 = .ok (.iadd, 1) := by decide +kernel
theorem dX9_tellAsAtFirst_69 : decode cX9_tellAsAtFirst 69 = .ok (.iconst 3, 1) := by decide +kernel
theorem dX9_tellAsAtFirst_70 : decode cX9_tellAsAtFirst 70 = .ok (.iload_n 2, 1) := by decide +kernel
theorem dX9_tellAsAtFirst_71 : decode cX9_tellAsAtFirst 71 = .ok (.isub, 1) := by decide +kernel
theorem dX9_tellAsAtFirst_72 : decode cX9_tellAsAtFirst 72 = .ok (.iastore, 1) := by decide +kernel
theorem dX9_tellAsAtFirst_73 : decode cX9_tellAsAtFirst 73 = .ok (.iinc 2 1, 3) := by decide +kernel
theorem dX9_tellAsAtFirst_76 : decode cX9_tellAsAtFirst 76 = .ok (.goto (-25), 3) := by decide +kernel
theorem dX9_tellAsAtFirst_79 : decode cX9_tellAsAtFirst 79 = .ok (.iinc 1 1, 3) := by decide +kernel
theorem dX9_tellAsAtFirst_82 : decode cX9_tellAsAtFirst 82 = .ok (.goto (-66), 3) := by decide +kernel
theorem dX9_tellAsAtFirst_85 : decode cX9_tellAsAtFirst 85 = .ok (.aload_n 0, 1) := by decide +kernel
theorem dX9_tellAsAtFirst_86 : decode cX9_tellAsAtFirst 86 = .ok (.invokevirtual 49, 3) := by decide +kernel
theorem dX9_tellAsAtFirst_89 : decode cX9_tellAsAtFirst 89 = .ok (.return_, 1) := by decide +kernel
theorem dX9_copyFrom_0 : decode cX9_copyFrom 0 = .ok (.aload_n 0, 1) := by decide +kernel
theorem dX9_copyFrom_1 : decode cX9_copyFrom 1 = .ok (.aload_n 1, 1) := by decide +kernel
theorem dX9_copyFrom_2 : decode cX9_copyFrom 2 = .ok (.getfield 24, 3) := by decide +kernel
theorem dX9_copyFrom_5 : decode cX9_copyFrom 5 = .ok (.putfield 24, 3) := by decide +kernel
theorem dX9_copyFrom_8 : decode cX9_copyFrom 8 = .ok (.aload_n 0, 1) := by decide +kernel
theorem dX9_copyFrom_9 : decode cX9_copyFrom 9 = .ok (.aload_n 1, 1) := by decide +kernel
theorem dX9_copyFrom_10 : decode cX9_copyFrom 10 = .ok (.getfield 28, 3) := by decide +kernel
theorem dX9_copyFrom_13 : decode cX9_copyFrom 13 = .ok (.putfield 28, 3) := by decide +kernel
theorem dX9_copyFrom_16 : decode cX9_copyFrom 16 = .ok (.aload_n 0, 1) := by decide +kernel
theorem dX9_copyFrom_17 : decode cX9_copyFrom 17 = .ok (.aload_n 1, 1) := by decide +kernel
theorem dX9_copyFrom_18 : decode cX9_copyFrom 18 = .ok (.getfield 31, 3) := by decide +kernel
theorem dX9_copyFrom_21 : decode cX9_copyFrom 21 = .ok (.putfield 31, 3) := by decide +kernel
theorem dX9_copyFrom_24 : decode cX9_copyFrom 24 = .ok (.aload_n 0, 1) := by decide +kernel
theorem dX9_copyFrom_25 : decode cX9_copyFrom 25 = .ok (.aload_n 1, 1) := by decide +kernel
theorem dX9_copyFrom_26 : decode cX9_copyFrom 26 = .ok (.getfield 34, 3) := by decide +kernel
theorem dX9_copyFrom_29 : decode cX9_copyFrom 29 = .ok (.putfield 34, 3) := by decide +kernel
theorem dX9_copyFrom_32 : decode cX9_copyFrom 32 = .ok (.aload_n 0, 1) := by decide +kernel
theorem dX9_copyFrom_33 : decode cX9_copyFrom 33 = .ok (.aload_n 1, 1) := by decide +kernel
theorem dX9_copyFrom_34 : decode cX9_copyFrom 34 = .ok (.getfield 37, 3) := by decide +kernel
theorem dX9_copyFrom_37 : decode cX9_copyFrom 37 = .ok (.putfield 37, 3) := by decide +kernel
theorem dX9_copyFrom_40 : decode cX9_copyFrom 40 = .ok (.aload_n 0, 1) := by decide +kernel
theorem dX9_copyFrom_41 : decode cX9_copyFrom 41 = .ok (.aload_n 1, 1) := by decide +kernel
theorem dX9_copyFrom_42 : decode cX9_copyFrom 42 = .ok (.getfield 40, 3) := by decide +kernel
theorem dX9_copyFrom_45 : decode cX9_copyFrom 45 = .ok (.putfield 40, 3) := by decide +kernel
theorem dX9_copyFrom_48 : decode cX9_copyFrom 48 = .ok (.aload_n 0, 1) := by decide +kernel
theorem dX9_copyFrom_49 : decode cX9_copyFrom 49 = .ok (.aload_n 1, 1) := by decide +kernel
theorem dX9_copyFrom_50 : decode cX9_copyFrom 50 = .ok (.getfield 43, 3) := by decide +kernel
theorem dX9_copyFrom_53 : decode cX9_copyFrom 53 = .ok (.putfield 43, 3) := by decide +kernel
theorem dX9_copyFrom_56 : decode cX9_copyFrom 56 = .ok (.aload_n 1, 1) := by decide +kernel
theorem dX9_copyFrom_57 : decode cX9_copyFrom 57 = .ok (.getfield 9, 3) := by decide +kernel
theorem dX9_copyFrom_60 : decode cX9_copyFrom 60 = .ok (.iconst 0, 1) := by decide +kernel
theorem dX9_copyFrom_61 : decode cX9_copyFrom 61 = .ok (.aload_n 0, 1) := by decide +kernel
theorem dX9_copyFrom_62 : decode cX9_copyFrom 62 = .ok (.getfield 9, 3) := by decide +kernel
theorem dX9_copyFrom_65 : decode cX9_copyFrom 65 = .ok (.iconst 0, 1) := by decide +kernel
theorem dX9_copyFrom_66 : decode cX9_copyFrom 66 = .ok (.bipush 6, 2) := by decide +kernel
theorem dX9_copyFrom_68 : decode cX9_copyFrom 68 = .ok (.invokestatic 52, 3) := by decide +kernel
theorem dX9_copyFrom_71 : decode cX9_copyFrom 71 = .ok (.aload_n 1, 1) := by decide +kernel
theorem dX9_copyFrom_72 : decode cX9_copyFrom 72 = .ok (.getfield 15, 3) := by decide +kernel
theorem dX9_copyFrom_75 : decode cX9_copyFrom 75 = .ok (.iconst 0, 1) := by decide +kernel
theorem dX9_copyFrom_76 : decode cX9_copyFrom 76 = .ok (.aload_n 0, 1) := by decide +kernel
theorem dX9_copyFrom_77 : decode cX9_copyFrom 77 = .ok (.getfield 15, 3) := by decide +kernel
theorem dX9_copyFrom_80 : decode cX9_copyFrom 80 = .ok (.iconst 0, 1) := by decide +kernel
theorem dX9_copyFrom_81 : decode cX9_copyFrom 81 = .ok (.bipush 24, 2) := by decide +kernel
theorem dX9_copyFrom_83 : decode cX9_copyFrom 83 = .ok (.invokestatic 52, 3) := by decide +kernel
theorem dX9_copyFrom_86 : decode cX9_copyFrom 86 = .ok (.aload_n 1, 1) := by decide +kernel
theorem dX9_copyFrom_87 : decode cX9_copyFrom 87 = .ok (.getfield 18, 3) := by decide +kernel
theorem dX9_copyFrom_90 : decode cX9_copyFrom 90 = .ok (.iconst 0, 1) := by decide +kernel
theorem dX9_copyFrom_91 : decode cX9_copyFrom 91 = .ok (.aload_n 0, 1) := by decide +kernel
theorem dX9_copyFrom_92 : decode cX9_copyFrom 92 = .ok (.getfield 18, 3) := by decide +kernel
theorem dX9_copyFrom_95 : decode cX9_copyFrom 95 = .ok (.iconst 0, 1) := by decide +kernel
theorem dX9_copyFrom_96 : decode cX9_copyFrom 96 = .ok (.bipush 40, 2) := by decide +kernel
theorem dX9_copyFrom_98 : decode cX9_copyFrom 98 = .ok (.invokestatic 52, 3) := by decide +kernel
theorem dX9_copyFrom_101 : decode cX9_copyFrom 101 = .ok (.aload_n 1, 1) := by decide +kernel
theorem dX9_copyFrom_102 : decode cX9_copyFrom 102 = .ok (.getfield 21, 3) := by decide +kernel
theorem dX9_copyFrom_105 : decode cX9_copyFrom 105 = .ok (.iconst 0, 1) := by decide +kernel
theorem dX9_copyFrom_106 : decode cX9_copyFrom 106 = .ok (.aload_n 0, 1) := by decide +kernel
theorem dX9_copyFrom_107 : decode cX9_copyFrom 107 = .ok (.getfield 21, 3) := by decide +kernel
theorem dX9_copyFrom_110 : decode cX9_copyFrom 110 = .ok (.iconst 0, 1) := by decide +kernel
theorem dX9_copyFrom_111 : decode cX9_copyFrom 111 = .ok (.iconst 5, 1) := by decide +kernel
theorem dX9_copyFrom_112 : decode cX9_copyFrom 112 = .ok (.invokestatic 52, 3) := by decide +kernel
theorem dX9_copyFrom_115 : decode cX9_copyFrom 115 = .ok (.return_, 1) := by decide +kernel
theorem dX9_copyPacesOf_0 : decode cX9_copyPacesOf 0 = .ok (.aload_n 1, 1) := by decide +kernel
theorem dX9_copyPacesOf_1 : decode cX9_copyPacesOf 1 = .ok (.getfield 18, 3) := by decide +kernel
theorem dX9_copyPacesOf_4 : decode cX9_copyPacesOf 4 = .ok (.iload_n 2, 1) := by decide +kernel
theorem dX9_copyPacesOf_5 : decode cX9_copyPacesOf 5 = .ok (.bipush 8, 2) := by decide +kernel
theorem dX9_copyPacesOf_7 : decode cX9_copyPacesOf 7 = .ok (.imul, 1) := by decide +kernel
theorem dX9_copyPacesOf_8 : decode cX9_copyPacesOf 8 = .ok (.aload_n 0, 1) := by decide +kernel
theorem dX9_copyPacesOf_9 : decode cX9_copyPacesOf 9 = .ok (.getfield 18, 3) := by decide +kernel
theorem dX9_copyPacesOf_12 : decode cX9_copyPacesOf 12 = .ok (.iload_n 3, 1) := by decide +kernel
theorem dX9_copyPacesOf_13 : decode cX9_copyPacesOf 13 = .ok (.bipush 8, 2) := by decide +kernel
theorem dX9_copyPacesOf_15 : decode cX9_copyPacesOf 15 = .ok (.imul, 1) := by decide +kernel
theorem dX9_copyPacesOf_16 : decode cX9_copyPacesOf 16 = .ok (.bipush 8, 2) := by decide +kernel
theorem dX9_copyPacesOf_18 : decode cX9_copyPacesOf 18 = .ok (.invokestatic 52, 3) := by decide +kernel
theorem dX9_copyPacesOf_21 : decode cX9_copyPacesOf 21 = .ok (.return_, 1) := by decide +kernel
theorem dX9_fillEnds_0 : decode cX9_fillEnds 0 = .ok (.iconst 0, 1) := by decide +kernel
theorem dX9_fillEnds_1 : decode cX9_fillEnds 1 = .ok (.istore_n 1, 1) := by decide +kernel
theorem dX9_fillEnds_2 : decode cX9_fillEnds 2 = .ok (.iload_n 1, 1) := by decide +kernel
theorem dX9_fillEnds_3 : decode cX9_fillEnds 3 = .ok (.aload_n 0, 1) := by decide +kernel
theorem dX9_fillEnds_4 : decode cX9_fillEnds 4 = .ok (.getfield 28, 3) := by decide +kernel
theorem dX9_fillEnds_7 : decode cX9_fillEnds 7 = .ok (.if_icmp .ge 36, 3) := by decide +kernel
theorem dX9_fillEnds_10 : decode cX9_fillEnds 10 = .ok (.aload_n 0, 1) := by decide +kernel
theorem dX9_fillEnds_11 : decode cX9_fillEnds 11 = .ok (.getfield 37, 3) := by decide +kernel
theorem dX9_fillEnds_14 : decode cX9_fillEnds 14 = .ok (.ifCond .eq 13, 3) := by decide +kernel
theorem dX9_fillEnds_17 : decode cX9_fillEnds 17 = .ok (.iload_n 1, 1) := by decide +kernel
theorem dX9_fillEnds_18 : decode cX9_fillEnds 18 = .ok (.aload_n 0, 1) := by decide +kernel
theorem dX9_fillEnds_19 : decode cX9_fillEnds 19 = .ok (.getfield 28, 3) := by decide +kernel
theorem dX9_fillEnds_22 : decode cX9_fillEnds 22 = .ok (.iconst 1, 1) := by decide +kernel
theorem dX9_fillEnds_23 : decode cX9_fillEnds 23 = .ok (.isub, 1) := by decide +kernel
theorem dX9_fillEnds_24 : decode cX9_fillEnds 24 = .ok (.if_icmp .ne 13, 3) := by decide +kernel
theorem dX9_fillEnds_27 : decode cX9_fillEnds 27 = .ok (.aload_n 0, 1) := by decide +kernel
theorem dX9_fillEnds_28 : decode cX9_fillEnds 28 = .ok (.getfield 21, 3) := by decide +kernel
theorem dX9_fillEnds_31 : decode cX9_fillEnds 31 = .ok (.iload_n 1, 1) := by decide +kernel
theorem dX9_fillEnds_32 : decode cX9_fillEnds 32 = .ok (.aload_n 0, 1) := by decide +kernel
theorem dX9_fillEnds_33 : decode cX9_fillEnds 33 = .ok (.getfield 24, 3) := by decide +kernel
theorem dX9_fillEnds_36 : decode cX9_fillEnds 36 = .ok (.iastore, 1) := by decide +kernel
theorem dX9_fillEnds_37 : decode cX9_fillEnds 37 = .ok (.iinc 1 1, 3) := by decide +kernel
theorem dX9_fillEnds_40 : decode cX9_fillEnds 40 = .ok (.goto (-38), 3) := by decide +kernel
theorem dX9_fillEnds_43 : decode cX9_fillEnds 43 = .ok (.return_, 1) := by decide +kernel
theorem dX9_dropHand_0 : decode cX9_dropHand 0 = .ok (.iload_n 1, 1) := by decide +kernel
theorem dX9_dropHand_1 : decode cX9_dropHand 1 = .ok (.istore_n 2, 1) := by decide +kernel
theorem dX9_dropHand_2 : decode cX9_dropHand 2 = .ok (.iload_n 2, 1) := by decide +kernel
theorem dX9_dropHand_3 : decode cX9_dropHand 3 = .ok (.aload_n 0, 1) := by decide +kernel
theorem dX9_dropHand_4 : decode cX9_dropHand 4 = .ok (.getfield 28, 3) := by decide +kernel
theorem dX9_dropHand_7 : decode cX9_dropHand 7 = .ok (.iconst 1, 1) := by decide +kernel
theorem dX9_dropHand_8 : decode cX9_dropHand 8 = .ok (.isub, 1) := by decide +kernel
theorem dX9_dropHand_9 : decode cX9_dropHand 9 = .ok (.if_icmp .ge 32, 3) := by decide +kernel
theorem dX9_dropHand_12 : decode cX9_dropHand 12 = .ok (.aload_n 0, 1) := by decide +kernel
theorem dX9_dropHand_13 : decode cX9_dropHand 13 = .ok (.aload_n 0, 1) := by decide +kernel
theorem dX9_dropHand_14 : decode cX9_dropHand 14 = .ok (.iload_n 2, 1) := by decide +kernel
theorem dX9_dropHand_15 : decode cX9_dropHand 15 = .ok (.iconst 1, 1) := by decide +kernel
theorem dX9_dropHand_16 : decode cX9_dropHand 16 = .ok (.iadd, 1) := by decide +kernel
theorem dX9_dropHand_17 : decode cX9_dropHand 17 = .ok (.iload_n 2, 1) := by decide +kernel
theorem dX9_dropHand_18 : decode cX9_dropHand 18 = .ok (.invokevirtual 58, 3) := by decide +kernel
theorem dX9_dropHand_21 : decode cX9_dropHand 21 = .ok (.aload_n 0, 1) := by decide +kernel
theorem dX9_dropHand_22 : decode cX9_dropHand 22 = .ok (.getfield 21, 3) := by decide +kernel
theorem dX9_dropHand_25 : decode cX9_dropHand 25 = .ok (.iload_n 2, 1) := by decide +kernel
theorem dX9_dropHand_26 : decode cX9_dropHand 26 = .ok (.aload_n 0, 1) := by decide +kernel
theorem dX9_dropHand_27 : decode cX9_dropHand 27 = .ok (.getfield 21, 3) := by decide +kernel
theorem dX9_dropHand_30 : decode cX9_dropHand 30 = .ok (.iload_n 2, 1) := by decide +kernel
theorem dX9_dropHand_31 : decode cX9_dropHand 31 = .ok (.iconst 1, 1) := by decide +kernel
theorem dX9_dropHand_32 : decode cX9_dropHand 32 = .ok (.iadd, 1) := by decide +kernel
theorem dX9_dropHand_33 : decode cX9_dropHand 33 = .ok (.iaload, 1) := by decide +kernel
theorem dX9_dropHand_34 : decode cX9_dropHand 34 = .ok (.iastore, 1) := by decide +kernel
theorem dX9_dropHand_35 : decode cX9_dropHand 35 = .ok (.iinc 2 1, 3) := by decide +kernel
theorem dX9_dropHand_38 : decode cX9_dropHand 38 = .ok (.goto (-36), 3) := by decide +kernel
theorem dX9_dropHand_41 : decode cX9_dropHand 41 = .ok (.aload_n 0, 1) := by decide +kernel
theorem dX9_dropHand_42 : decode cX9_dropHand 42 = .ok (.dup, 1) := by decide +kernel
theorem dX9_dropHand_43 : decode cX9_dropHand 43 = .ok (.getfield 28, 3) := by decide +kernel
theorem dX9_dropHand_46 : decode cX9_dropHand 46 = .ok (.iconst 1, 1) := by decide +kernel
theorem dX9_dropHand_47 : decode cX9_dropHand 47 = .ok (.isub, 1) := by decide +kernel
theorem dX9_dropHand_48 : decode cX9_dropHand 48 = .ok (.putfield 28, 3) := by decide +kernel
theorem dX9_dropHand_51 : decode cX9_dropHand 51 = .ok (.aload_n 0, 1) := by decide +kernel
theorem dX9_dropHand_52 : decode cX9_dropHand 52 = .ok (.invokevirtual 49, 3) := by decide +kernel
theorem dX9_dropHand_55 : decode cX9_dropHand 55 = .ok (.return_, 1) := by decide +kernel
theorem dX9_moveEnds_0 : decode cX9_moveEnds 0 = .ok (.aload_n 0, 1) := by decide +kernel
theorem dX9_moveEnds_1 : decode cX9_moveEnds 1 = .ok (.getfield 28, 3) := by decide +kernel
theorem dX9_moveEnds_4 : decode cX9_moveEnds 4 = .ok (.iconst 2, 1) := by decide +kernel
theorem dX9_moveEnds_5 : decode cX9_moveEnds 5 = .ok (.isub, 1) := by decide +kernel
theorem dX9_moveEnds_6 : decode cX9_moveEnds 6 = .ok (.istore_n 1, 1) := by decide +kernel
theorem dX9_moveEnds_7 : decode cX9_moveEnds 7 = .ok (.iload_n 1, 1) := by decide +kernel
theorem dX9_moveEnds_8 : decode cX9_moveEnds 8 = .ok (.ifCond .lt 81, 3) := by decide +kernel
theorem dX9_moveEnds_11 : decode cX9_moveEnds 11 = .ok (.aload_n 0, 1) := by decide +kernel
theorem dX9_moveEnds_12 : decode cX9_moveEnds 12 = .ok (.getfield 24, 3) := by decide +kernel
theorem dX9_moveEnds_15 : decode cX9_moveEnds 15 = .ok (.aload_n 0, 1) := by decide +kernel
theorem dX9_moveEnds_16 : decode cX9_moveEnds 16 = .ok (.getfield 28, 3) := by decide +kernel
theorem dX9_moveEnds_19 : decode cX9_moveEnds 19 = .ok (.iconst 1, 1) := by decide +kernel
theorem dX9_moveEnds_20 : decode cX9_moveEnds 20 = .ok (.isub, 1) := by decide +kernel
theorem dX9_moveEnds_21 : decode cX9_moveEnds 21 = .ok (.iload_n 1, 1) := by decide +kernel
theorem dX9_moveEnds_22 : decode cX9_moveEnds 22 = .ok (.isub, 1) := by decide +kernel
theorem dX9_moveEnds_23 : decode cX9_moveEnds 23 = .ok (.isub, 1) := by decide +kernel
theorem dX9_moveEnds_24 : decode cX9_moveEnds 24 = .ok (.istore_n 2, 1) := by decide +kernel
theorem dX9_moveEnds_25 : decode cX9_moveEnds 25 = .ok (.aload_n 0, 1) := by decide +kernel
theorem dX9_moveEnds_26 : decode cX9_moveEnds 26 = .ok (.getfield 21, 3) := by decide +kernel
theorem dX9_moveEnds_29 : decode cX9_moveEnds 29 = .ok (.iload_n 1, 1) := by decide +kernel
theorem dX9_moveEnds_30 : decode cX9_moveEnds 30 = .ok (.iaload, 1) := by decide +kernel
theorem dX9_moveEnds_31 : decode cX9_moveEnds 31 = .ok (.iload_n 2, 1) := by decide +kernel
theorem dX9_moveEnds_32 : decode cX9_moveEnds 32 = .ok (.if_icmp .ge 51, 3) := by decide +kernel
theorem dX9_moveEnds_35 : decode cX9_moveEnds 35 = .ok (.aload_n 0, 1) := by decide +kernel
theorem dX9_moveEnds_36 : decode cX9_moveEnds 36 = .ok (.getfield 21, 3) := by decide +kernel
theorem dX9_moveEnds_39 : decode cX9_moveEnds 39 = .ok (.iload_n 1, 1) := by decide +kernel
theorem dX9_moveEnds_40 : decode cX9_moveEnds 40 = .ok (.dup2, 1) := by decide +kernel
theorem dX9_moveEnds_41 : decode cX9_moveEnds 41 = .ok (.iaload, 1) := by decide +kernel
theorem dX9_moveEnds_42 : decode cX9_moveEnds 42 = .ok (.iconst 1, 1) := by decide +kernel
theorem dX9_moveEnds_43 : decode cX9_moveEnds 43 = .ok (.iadd, 1) := by decide +kernel
theorem dX9_moveEnds_44 : decode cX9_moveEnds 44 = .ok (.iastore, 1) := by decide +kernel
theorem dX9_moveEnds_45 : decode cX9_moveEnds 45 = .ok (.iload_n 1, 1) := by decide +kernel
theorem dX9_moveEnds_46 : decode cX9_moveEnds 46 = .ok (.iconst 1, 1) := by decide +kernel
theorem dX9_moveEnds_47 : decode cX9_moveEnds 47 = .ok (.iadd, 1) := by decide +kernel
theorem dX9_moveEnds_48 : decode cX9_moveEnds 48 = .ok (.istore_n 3, 1) := by decide +kernel
theorem dX9_moveEnds_49 : decode cX9_moveEnds 49 = .ok (.iload_n 3, 1) := by decide +kernel
theorem dX9_moveEnds_50 : decode cX9_moveEnds 50 = .ok (.aload_n 0, 1) := by decide +kernel
theorem dX9_moveEnds_51 : decode cX9_moveEnds 51 = .ok (.getfield 28, 3) := by decide +kernel
theorem dX9_moveEnds_54 : decode cX9_moveEnds 54 = .ok (.iconst 1, 1) := by decide +kernel
theorem dX9_moveEnds_55 : decode cX9_moveEnds 55 = .ok (.isub, 1) := by decide +kernel
theorem dX9_moveEnds_56 : decode cX9_moveEnds 56 = .ok (.if_icmp .ge 25, 3) := by decide +kernel
theorem dX9_moveEnds_59 : decode cX9_moveEnds 59 = .ok (.aload_n 0, 1) := by decide +kernel
theorem dX9_moveEnds_60 : decode cX9_moveEnds 60 = .ok (.getfield 21, 3) := by decide +kernel
theorem dX9_moveEnds_63 : decode cX9_moveEnds 63 = .ok (.iload_n 3, 1) := by decide +kernel
theorem dX9_moveEnds_64 : decode cX9_moveEnds 64 = .ok (.aload_n 0, 1) := by decide +kernel
theorem dX9_moveEnds_65 : decode cX9_moveEnds 65 = .ok (.getfield 21, 3) := by decide +kernel
theorem dX9_moveEnds_68 : decode cX9_moveEnds 68 = .ok (.iload_n 3, 1) := by decide +kernel
theorem dX9_moveEnds_69 : decode cX9_moveEnds 69 = .ok (.iconst 1, 1) := by decide +kernel
theorem dX9_moveEnds_70 : decode cX9_moveEnds 70 = .ok (.isub, 1) := by decide +kernel
theorem dX9_moveEnds_71 : decode cX9_moveEnds 71 = .ok (.iaload, 1) := by decide +kernel
theorem dX9_moveEnds_72 : decode cX9_moveEnds 72 = .ok (.iconst 1, 1) := by decide +kernel
theorem dX9_moveEnds_73 : decode cX9_moveEnds 73 = .ok (.iadd, 1) := by decide +kernel
theorem dX9_moveEnds_74 : decode cX9_moveEnds 74 = .ok (.iastore, 1) := by decide +kernel
theorem dX9_moveEnds_75 : decode cX9_moveEnds 75 = .ok (.iinc 3 1, 3) := by decide +kernel
theorem dX9_moveEnds_78 : decode cX9_moveEnds 78 = .ok (.goto (-29), 3) := by decide +kernel
theorem dX9_moveEnds_81 : decode cX9_moveEnds 81 = .ok (.iconst 1, 1) := by decide +kernel
theorem dX9_moveEnds_82 : decode cX9_moveEnds 82 = .ok (.ireturn, 1) := by decide +kernel
theorem dX9_moveEnds_83 : decode cX9_moveEnds 83 = .ok (.iinc 1 (-1), 3) := by decide +kernel
theorem dX9_moveEnds_86 : decode cX9_moveEnds 86 = .ok (.goto (-79), 3) := by decide +kernel
theorem dX9_moveEnds_89 : decode cX9_moveEnds 89 = .ok (.iconst 0, 1) := by decide +kernel
theorem dX9_moveEnds_90 : decode cX9_moveEnds 90 = .ok (.ireturn, 1) := by decide +kernel
theorem dX9_unitsOf_0 : decode cX9_unitsOf 0 = .ok (.aload_n 0, 1) := by decide +kernel
theorem dX9_unitsOf_1 : decode cX9_unitsOf 1 = .ok (.getfield 15, 3) := by decide +kernel
theorem dX9_unitsOf_4 : decode cX9_unitsOf 4 = .ok (.iload_n 1, 1) := by decide +kernel
theorem dX9_unitsOf_5 : decode cX9_unitsOf 5 = .ok (.bipush 8, 2) := by decide +kernel
theorem dX9_unitsOf_7 : decode cX9_unitsOf 7 = .ok (.imul, 1) := by decide +kernel
theorem dX9_unitsOf_8 : decode cX9_unitsOf 8 = .ok (.iload_n 2, 1) := by decide +kernel
theorem dX9_unitsOf_9 : decode cX9_unitsOf 9 = .ok (.iadd, 1) := by decide +kernel
theorem dX9_unitsOf_10 : decode cX9_unitsOf 10 = .ok (.iaload, 1) := by decide +kernel
theorem dX9_unitsOf_11 : decode cX9_unitsOf 11 = .ok (.ireturn, 1) := by decide +kernel
theorem dX9_paceOf_0 : decode cX9_paceOf 0 = .ok (.aload_n 0, 1) := by decide +kernel
theorem dX9_paceOf_1 : decode cX9_paceOf 1 = .ok (.getfield 18, 3) := by decide +kernel
theorem dX9_paceOf_4 : decode cX9_paceOf 4 = .ok (.iload_n 1, 1) := by decide +kernel
theorem dX9_paceOf_5 : decode cX9_paceOf 5 = .ok (.bipush 8, 2) := by decide +kernel
theorem dX9_paceOf_7 : decode cX9_paceOf 7 = .ok (.imul, 1) := by decide +kernel
theorem dX9_paceOf_8 : decode cX9_paceOf 8 = .ok (.iload_n 2, 1) := by decide +kernel
theorem dX9_paceOf_9 : decode cX9_paceOf 9 = .ok (.iadd, 1) := by decide +kernel
theorem dX9_paceOf_10 : decode cX9_paceOf 10 = .ok (.iaload, 1) := by decide +kernel
theorem dX9_paceOf_11 : decode cX9_paceOf 11 = .ok (.ireturn, 1) := by decide +kernel
theorem dX9_pieceFrom_0 : decode cX9_pieceFrom 0 = .ok (.iload_n 1, 1) := by decide +kernel
theorem dX9_pieceFrom_1 : decode cX9_pieceFrom 1 = .ok (.istore_n 3, 1) := by decide +kernel
theorem dX9_pieceFrom_2 : decode cX9_pieceFrom 2 = .ok (.iload_n 3, 1) := by decide +kernel
theorem dX9_pieceFrom_3 : decode cX9_pieceFrom 3 = .ok (.aload_n 0, 1) := by decide +kernel
theorem dX9_pieceFrom_4 : decode cX9_pieceFrom 4 = .ok (.getfield 24, 3) := by decide +kernel
theorem dX9_pieceFrom_7 : decode cX9_pieceFrom 7 = .ok (.if_icmp .ge 25, 3) := by decide +kernel
theorem dX9_pieceFrom_10 : decode cX9_pieceFrom 10 = .ok (.aload_n 0, 1) := by decide +kernel
theorem dX9_pieceFrom_11 : decode cX9_pieceFrom 11 = .ok (.getfield 15, 3) := by decide +kernel
theorem dX9_pieceFrom_14 : decode cX9_pieceFrom 14 = .ok (.iload_n 2, 1) := by decide +kernel
theorem dX9_pieceFrom_15 : decode cX9_pieceFrom 15 = .ok (.bipush 8, 2) := by decide +kernel
theorem dX9_pieceFrom_17 : decode cX9_pieceFrom 17 = .ok (.imul, 1) := by decide +kernel
theorem dX9_pieceFrom_18 : decode cX9_pieceFrom 18 = .ok (.iload_n 3, 1) := by decide +kernel
theorem dX9_pieceFrom_19 : decode cX9_pieceFrom 19 = .ok (.iadd, 1) := by decide +kernel
theorem dX9_pieceFrom_20 : decode cX9_pieceFrom 20 = .ok (.iaload, 1) := by decide +kernel
theorem dX9_pieceFrom_21 : decode cX9_pieceFrom 21 = .ok (.ifCond .le 5, 3) := by decide +kernel
theorem dX9_pieceFrom_24 : decode cX9_pieceFrom 24 = .ok (.iload_n 3, 1) := by decide +kernel
theorem dX9_pieceFrom_25 : decode cX9_pieceFrom 25 = .ok (.ireturn, 1) := by decide +kernel
theorem dX9_pieceFrom_26 : decode cX9_pieceFrom 26 = .ok (.iinc 3 1, 3) := by decide +kernel
theorem dX9_pieceFrom_29 : decode cX9_pieceFrom 29 = .ok (.goto (-27), 3) := by decide +kernel
theorem dX9_pieceFrom_32 : decode cX9_pieceFrom 32 = .ok (.aload_n 0, 1) := by decide +kernel
theorem dX9_pieceFrom_33 : decode cX9_pieceFrom 33 = .ok (.getfield 24, 3) := by decide +kernel
theorem dX9_pieceFrom_36 : decode cX9_pieceFrom 36 = .ok (.ireturn, 1) := by decide +kernel
theorem dX9_mayBegin_0 : decode cX9_mayBegin 0 = .ok (.iload_n 2, 1) := by decide +kernel
theorem dX9_mayBegin_1 : decode cX9_mayBegin 1 = .ok (.aload_n 0, 1) := by decide +kernel
theorem dX9_mayBegin_2 : decode cX9_mayBegin 2 = .ok (.getfield 21, 3) := by decide +kernel
theorem dX9_mayBegin_5 : decode cX9_mayBegin 5 = .ok (.iload_n 1, 1) := by decide +kernel
theorem dX9_mayBegin_6 : decode cX9_mayBegin 6 = .ok (.iaload, 1) := by decide +kernel
theorem dX9_mayBegin_7 : decode cX9_mayBegin 7 = .ok (.if_icmp .ge 7, 3) := by decide +kernel
theorem dX9_mayBegin_10 : decode cX9_mayBegin 10 = .ok (.iconst 1, 1) := by decide +kernel
theorem dX9_mayBegin_11 : decode cX9_mayBegin 11 = .ok (.goto 4, 3) := by decide +kernel
theorem dX9_mayBegin_14 : decode cX9_mayBegin 14 = .ok (.iconst 0, 1) := by decide +kernel
theorem dX9_mayBegin_15 : decode cX9_mayBegin 15 = .ok (.ireturn, 1) := by decide +kernel
theorem dX9_mayBeLeft_0 : decode cX9_mayBeLeft 0 = .ok (.iload_n 3, 1) := by decide +kernel
theorem dX9_mayBeLeft_1 : decode cX9_mayBeLeft 1 = .ok (.ifCond .le 17, 3) := by decide +kernel
theorem dX9_mayBeLeft_4 : decode cX9_mayBeLeft 4 = .ok (.aload_n 0, 1) := by decide +kernel
theorem dX9_mayBeLeft_5 : decode cX9_mayBeLeft 5 = .ok (.getfield 40, 3) := by decide +kernel
theorem dX9_mayBeLeft_8 : decode cX9_mayBeLeft 8 = .ok (.iload_n 2, 1) := by decide +kernel
theorem dX9_mayBeLeft_9 : decode cX9_mayBeLeft 9 = .ok (.ishr, 1) := by decide +kernel
theorem dX9_mayBeLeft_10 : decode cX9_mayBeLeft 10 = .ok (.iconst 1, 1) := by decide +kernel
theorem dX9_mayBeLeft_11 : decode cX9_mayBeLeft 11 = .ok (.iand, 1) := by decide +kernel
theorem dX9_mayBeLeft_12 : decode cX9_mayBeLeft 12 = .ok (.iconst 1, 1) := by decide +kernel
theorem dX9_mayBeLeft_13 : decode cX9_mayBeLeft 13 = .ok (.if_icmp .ne 5, 3) := by decide +kernel
theorem dX9_mayBeLeft_16 : decode cX9_mayBeLeft 16 = .ok (.iconst 0, 1) := by decide +kernel
theorem dX9_mayBeLeft_17 : decode cX9_mayBeLeft 17 = .ok (.ireturn, 1) := by decide +kernel
theorem dX9_mayBeLeft_18 : decode cX9_mayBeLeft 18 = .ok (.aload_n 0, 1) := by decide +kernel
theorem dX9_mayBeLeft_19 : decode cX9_mayBeLeft 19 = .ok (.getfield 37, 3) := by decide +kernel
theorem dX9_mayBeLeft_22 : decode cX9_mayBeLeft 22 = .ok (.iconst 2, 1) := by decide +kernel
theorem dX9_mayBeLeft_23 : decode cX9_mayBeLeft 23 = .ok (.if_icmp .ne 13, 3) := by decide +kernel
theorem dX9_mayBeLeft_26 : decode cX9_mayBeLeft 26 = .ok (.iload_n 2, 1) := by decide +kernel
theorem dX9_mayBeLeft_27 : decode cX9_mayBeLeft 27 = .ok (.aload_n 0, 1) := by decide +kernel
theorem dX9_mayBeLeft_28 : decode cX9_mayBeLeft 28 = .ok (.getfield 21, 3) := by decide +kernel
theorem dX9_mayBeLeft_31 : decode cX9_mayBeLeft 31 = .ok (.iload_n 1, 1) := by decide +kernel
theorem dX9_mayBeLeft_32 : decode cX9_mayBeLeft 32 = .ok (.iaload, 1) := by decide +kernel
theorem dX9_mayBeLeft_33 : decode cX9_mayBeLeft 33 = .ok (.if_icmp .lt 7, 3) := by decide +kernel
theorem dX9_mayBeLeft_36 : decode cX9_mayBeLeft 36 = .ok (.iconst 1, 1) := by decide +kernel
theorem dX9_mayBeLeft_37 : decode cX9_mayBeLeft 37 = .ok (.goto 4, 3) := by decide +kernel
theorem dX9_mayBeLeft_40 : decode cX9_mayBeLeft 40 = .ok (.iconst 0, 1) := by decide +kernel
theorem dX9_mayBeLeft_41 : decode cX9_mayBeLeft 41 = .ok (.ireturn, 1) := by decide +kernel
theorem dX9_ticksOf_0 : decode cX9_ticksOf 0 = .ok (.aload_n 0, 1) := by decide +kernel
theorem dX9_ticksOf_1 : decode cX9_ticksOf 1 = .ok (.getfield 18, 3) := by decide +kernel
theorem dX9_ticksOf_4 : decode cX9_ticksOf 4 = .ok (.iload_n 1, 1) := by decide +kernel
theorem dX9_ticksOf_5 : decode cX9_ticksOf 5 = .ok (.bipush 8, 2) := by decide +kernel
theorem dX9_ticksOf_7 : decode cX9_ticksOf 7 = .ok (.imul, 1) := by decide +kernel
theorem dX9_ticksOf_8 : decode cX9_ticksOf 8 = .ok (.iload_n 2, 1) := by decide +kernel
theorem dX9_ticksOf_9 : decode cX9_ticksOf 9 = .ok (.iadd, 1) := by decide +kernel
theorem dX9_ticksOf_10 : decode cX9_ticksOf 10 = .ok (.iaload, 1) := by decide +kernel
theorem dX9_ticksOf_11 : decode cX9_ticksOf 11 = .ok (.istore 4, 2) := by decide +kernel
theorem dX9_ticksOf_13 : decode cX9_ticksOf 13 = .ok (.aload_n 0, 1) := by decide +kernel
theorem dX9_ticksOf_14 : decode cX9_ticksOf 14 = .ok (.getfield 34, 3) := by decide +kernel
theorem dX9_ticksOf_17 : decode cX9_ticksOf 17 = .ok (.ifCond .le 14, 3) := by decide +kernel
theorem dX9_ticksOf_20 : decode cX9_ticksOf 20 = .ok (.iload 4, 2) := by decide +kernel
theorem dX9_ticksOf_22 : decode cX9_ticksOf 22 = .ok (.iload_n 3, 1) := by decide +kernel
theorem dX9_ticksOf_23 : decode cX9_ticksOf 23 = .ok (.aload_n 0, 1) := by decide +kernel
theorem dX9_ticksOf_24 : decode cX9_ticksOf 24 = .ok (.getfield 34, 3) := by decide +kernel
theorem dX9_ticksOf_27 : decode cX9_ticksOf 27 = .ok (.idiv, 1) := by decide +kernel
theorem dX9_ticksOf_28 : decode cX9_ticksOf 28 = .ok (.isub, 1) := by decide +kernel
theorem dX9_ticksOf_29 : decode cX9_ticksOf 29 = .ok (.istore 4, 2) := by decide +kernel
theorem dX9_ticksOf_31 : decode cX9_ticksOf 31 = .ok (.iload 4, 2) := by decide +kernel
theorem dX9_ticksOf_33 : decode cX9_ticksOf 33 = .ok (.iconst 1, 1) := by decide +kernel
theorem dX9_ticksOf_34 : decode cX9_ticksOf 34 = .ok (.if_icmp .ge 7, 3) := by decide +kernel
theorem dX9_ticksOf_37 : decode cX9_ticksOf 37 = .ok (.iconst 1, 1) := by decide +kernel
theorem dX9_ticksOf_38 : decode cX9_ticksOf 38 = .ok (.goto 5, 3) := by decide +kernel
theorem dX9_ticksOf_41 : decode cX9_ticksOf 41 = .ok (.iload 4, 2) := by decide +kernel
theorem dX9_ticksOf_43 : decode cX9_ticksOf 43 = .ok (.ireturn, 1) := by decide +kernel
theorem dX9_learnedThatCounts_0 : decode cX9_learnedThatCounts 0 = .ok (.aload_n 0, 1) := by decide +kernel
theorem dX9_learnedThatCounts_1 : decode cX9_learnedThatCounts 1 = .ok (.getfield 34, 3) := by decide +kernel
theorem dX9_learnedThatCounts_4 : decode cX9_learnedThatCounts 4 = .ok (.aload_n 0, 1) := by decide +kernel
theorem dX9_learnedThatCounts_5 : decode cX9_learnedThatCounts 5 = .ok (.iload_n 1, 1) := by decide +kernel
theorem dX9_learnedThatCounts_6 : decode cX9_learnedThatCounts 6 = .ok (.iload_n 2, 1) := by decide +kernel
theorem dX9_learnedThatCounts_7 : decode cX9_learnedThatCounts 7 = .ok (.invokevirtual 62, 3) := by decide +kernel
theorem dX9_learnedThatCounts_10 : decode cX9_learnedThatCounts 10 = .ok (.iconst 1, 1) := by decide +kernel
theorem dX9_learnedThatCounts_11 : decode cX9_learnedThatCounts 11 = .ok (.isub, 1) := by decide +kernel
theorem dX9_learnedThatCounts_12 : decode cX9_learnedThatCounts 12 = .ok (.imul, 1) := by decide +kernel
theorem dX9_learnedThatCounts_13 : decode cX9_learnedThatCounts 13 = .ok (.istore 4, 2) := by decide +kernel
theorem dX9_learnedThatCounts_15 : decode cX9_learnedThatCounts 15 = .ok (.iload_n 3, 1) := by decide +kernel
theorem dX9_learnedThatCounts_16 : decode cX9_learnedThatCounts 16 = .ok (.iload 4, 2) := by decide +kernel
theorem dX9_learnedThatCounts_18 : decode cX9_learnedThatCounts 18 = .ok (.if_icmp .ge 7, 3) := by decide +kernel
theorem dX9_learnedThatCounts_21 : decode cX9_learnedThatCounts 21 = .ok (.iload_n 3, 1) := by decide +kernel
theorem dX9_learnedThatCounts_22 : decode cX9_learnedThatCounts 22 = .ok (.goto 5, 3) := by decide +kernel
theorem dX9_learnedThatCounts_25 : decode cX9_learnedThatCounts 25 = .ok (.iload 4, 2) := by decide +kernel
theorem dX9_learnedThatCounts_27 : decode cX9_learnedThatCounts 27 = .ok (.ireturn, 1) := by decide +kernel
theorem dX9_ticksAlone_0 : decode cX9_ticksAlone 0 = .ok (.lconst 0, 1) := by decide +kernel
theorem dX9_ticksAlone_1 : decode cX9_ticksAlone 1 = .ok (.lstore_n 2, 1) := by decide +kernel
theorem dX9_ticksAlone_2 : decode cX9_ticksAlone 2 = .ok (.iconst 0, 1) := by decide +kernel
theorem dX9_ticksAlone_3 : decode cX9_ticksAlone 3 = .ok (.istore 4, 2) := by decide +kernel
theorem dX9_ticksAlone_5 : decode cX9_ticksAlone 5 = .ok (.iload 4, 2) := by decide +kernel
theorem dX9_ticksAlone_7 : decode cX9_ticksAlone 7 = .ok (.aload_n 0, 1) := by decide +kernel
theorem dX9_ticksAlone_8 : decode cX9_ticksAlone 8 = .ok (.getfield 43, 3) := by decide +kernel
theorem dX9_ticksAlone_11 : decode cX9_ticksAlone 11 = .ok (.if_icmp .ge 52, 3) := by decide +kernel
theorem dX9_ticksAlone_14 : decode cX9_ticksAlone 14 = .ok (.iconst 0, 1) := by decide +kernel
theorem dX9_ticksAlone_15 : decode cX9_ticksAlone 15 = .ok (.istore 5, 2) := by decide +kernel
theorem dX9_ticksAlone_17 : decode cX9_ticksAlone 17 = .ok (.iload 5, 2) := by decide +kernel
theorem dX9_ticksAlone_19 : decode cX9_ticksAlone 19 = .ok (.aload_n 0, 1) := by decide +kernel
theorem dX9_ticksAlone_20 : decode cX9_ticksAlone 20 = .ok (.getfield 24, 3) := by decide +kernel
theorem dX9_ticksAlone_23 : decode cX9_ticksAlone 23 = .ok (.if_icmp .ge 34, 3) := by decide +kernel
theorem dX9_ticksAlone_26 : decode cX9_ticksAlone 26 = .ok (.lload_n 2, 1) := by decide +kernel
theorem dX9_ticksAlone_27 : decode cX9_ticksAlone 27 = .ok (.aload_n 0, 1) := by decide +kernel
theorem dX9_ticksAlone_28 : decode cX9_ticksAlone 28 = .ok (.aload_n 0, 1) := by decide +kernel
theorem dX9_ticksAlone_29 : decode cX9_ticksAlone 29 = .ok (.getfield 9, 3) := by decide +kernel
theorem dX9_ticksAlone_32 : decode cX9_ticksAlone 32 = .ok (.iload 4, 2) := by decide +kernel
theorem dX9_ticksAlone_34 : decode cX9_ticksAlone 34 = .ok (.iaload, 1) := by decide +kernel
theorem dX9_ticksAlone_35 : decode cX9_ticksAlone 35 = .ok (.iload 5, 2) := by decide +kernel
theorem dX9_ticksAlone_37 : decode cX9_ticksAlone 37 = .ok (.invokevirtual 66, 3) := by decide +kernel
theorem dX9_ticksAlone_40 : decode cX9_ticksAlone 40 = .ok (.aload_n 0, 1) := by decide +kernel
theorem dX9_ticksAlone_41 : decode cX9_ticksAlone 41 = .ok (.iload_n 1, 1) := by decide +kernel
theorem dX9_ticksAlone_42 : decode cX9_ticksAlone 42 = .ok (.iload 5, 2) := by decide +kernel
theorem dX9_ticksAlone_44 : decode cX9_ticksAlone 44 = .ok (.invokevirtual 62, 3) := by decide +kernel
theorem dX9_ticksAlone_47 : decode cX9_ticksAlone 47 = .ok (.imul, 1) := by decide +kernel
theorem dX9_ticksAlone_48 : decode cX9_ticksAlone 48 = .ok (.i2l, 1) := by decide +kernel
theorem dX9_ticksAlone_49 : decode cX9_ticksAlone 49 = .ok (.ladd, 1) := by decide +kernel
theorem dX9_ticksAlone_50 : decode cX9_ticksAlone 50 = .ok (.lstore_n 2, 1) := by decide +kernel
theorem dX9_ticksAlone_51 : decode cX9_ticksAlone 51 = .ok (.iinc 5 1, 3) := by decide +kernel
theorem dX9_ticksAlone_54 : decode cX9_ticksAlone 54 = .ok (.goto (-37), 3) := by decide +kernel
theorem dX9_ticksAlone_57 : decode cX9_ticksAlone 57 = .ok (.iinc 4 1, 3) := by decide +kernel
theorem dX9_ticksAlone_60 : decode cX9_ticksAlone 60 = .ok (.goto (-55), 3) := by decide +kernel
theorem dX9_ticksAlone_63 : decode cX9_ticksAlone 63 = .ok (.lload_n 2, 1) := by decide +kernel
theorem dX9_ticksAlone_64 : decode cX9_ticksAlone 64 = .ok (.lreturn, 1) := by decide +kernel
theorem dX10_init_0 : decode cX10_init 0 = .ok (.aload_n 0, 1) := by decide +kernel
theorem dX10_init_1 : decode cX10_init 1 = .ok (.invokespecial 1, 3) := by decide +kernel
theorem dX10_init_4 : decode cX10_init 4 = .ok (.aload_n 0, 1) := by decide +kernel
theorem dX10_init_5 : decode cX10_init 5 = .ok (.new 7, 3) := by decide +kernel
theorem dX10_init_8 : decode cX10_init 8 = .ok (.dup, 1) := by decide +kernel
theorem dX10_init_9 : decode cX10_init 9 = .ok (.invokespecial 9, 3) := by decide +kernel
theorem dX10_init_12 : decode cX10_init 12 = .ok (.putfield 10, 3) := by decide +kernel
theorem dX10_init_15 : decode cX10_init 15 = .ok (.aload_n 0, 1) := by decide +kernel
theorem dX10_init_16 : decode cX10_init 16 = .ok (.new 7, 3) := by decide +kernel
theorem dX10_init_19 : decode cX10_init 19 = .ok (.dup, 1) := by decide +kernel
theorem dX10_init_20 : decode cX10_init 20 = .ok (.invokespecial 9, 3) := by decide +kernel
theorem dX10_init_23 : decode cX10_init 23 = .ok (.putfield 16, 3) := by decide +kernel
theorem dX10_init_26 : decode cX10_init 26 = .ok (.aload_n 0, 1) := by decide +kernel
theorem dX10_init_27 : decode cX10_init 27 = .ok (.new 19, 3) := by decide +kernel
theorem dX10_init_30 : decode cX10_init 30 = .ok (.dup, 1) := by decide +kernel
theorem dX10_init_31 : decode cX10_init 31 = .ok (.invokespecial 21, 3) := by decide +kernel
theorem dX10_init_34 : decode cX10_init 34 = .ok (.putfield 22, 3) := by decide +kernel
theorem dX10_init_37 : decode cX10_init 37 = .ok (.aload_n 0, 1) := by decide +kernel
theorem dX10_init_38 : decode cX10_init 38 = .ok (.new 26, 3) := by decide +kernel
theorem dX10_init_41 : decode cX10_init 41 = .ok (.dup, 1) := by decide +kernel
theorem dX10_init_42 : decode cX10_init 42 = .ok (.aload_n 0, 1) := by decide +kernel
theorem dX10_init_43 : decode cX10_init 43 = .ok (.getfield 10, 3) := by decide +kernel
theorem dX10_init_46 : decode cX10_init 46 = .ok (.aconst_null, 1) := by decide +kernel
theorem dX10_init_47 : decode cX10_init 47 = .ok (.invokespecial 28, 3) := by decide +kernel
theorem dX10_init_50 : decode cX10_init 50 = .ok (.putfield 31, 3) := by decide +kernel
theorem dX10_init_53 : decode cX10_init 53 = .ok (.aload_n 0, 1) := by decide +kernel
theorem dX10_init_54 : decode cX10_init 54 = .ok (.iconst 2, 1) := by decide +kernel
theorem dX10_init_55 : decode cX10_init 55 = .ok (.anewarray 26, 3) := by decide +kernel
theorem dX10_init_58 : decode cX10_init 58 = .ok (.putfield 35, 3) := by decide +kernel
theorem dX10_init_61 : decode cX10_init 61 = .ok (.aload_n 0, 1) := by decide +kernel
theorem dX10_init_62 : decode cX10_init 62 = .ok (.iconst 2, 1) := by decide +kernel
theorem dX10_init_63 : decode cX10_init 63 = .ok (.newarray .boolean, 2) := by decide +kernel
theorem dX10_init_65 : decode cX10_init 65 = .ok (.putfield 39, 3) := by decide +kernel
theorem dX10_init_68 : decode cX10_init 68 = .ok (.aload_n 0, 1) := by decide +kernel
theorem dX10_init_69 : decode cX10_init 69 = .ok (.new 43, 3) := by decide +kernel
theorem dX10_init_72 : decode cX10_init 72 = .ok (.dup, 1) := by decide +kernel
theorem dX10_init_73 : decode cX10_init 73 = .ok (.aload_n 0, 1) := by decide +kernel
theorem dX10_init_74 : decode cX10_init 74 = .ok (.getfield 10, 3) := by decide +kernel
theorem dX10_init_77 : decode cX10_init 77 = .ok (.invokespecial 45, 3) := by decide +kernel
theorem dX10_init_80 : decode cX10_init 80 = .ok (.putfield 48, 3) := by decide +kernel
theorem dX10_init_83 : decode cX10_init 83 = .ok (.aload_n 0, 1) := by decide +kernel
theorem dX10_init_84 : decode cX10_init 84 = .ok (.new 52, 3) := by decide +kernel
theorem dX10_init_87 : decode cX10_init 87 = .ok (.dup, 1) := by decide +kernel
theorem dX10_init_88 : decode cX10_init 88 = .ok (.aload_n 0, 1) := by decide +kernel
theorem dX10_init_89 : decode cX10_init 89 = .ok (.getfield 16, 3) := by decide +kernel
theorem dX10_init_92 : decode cX10_init 92 = .ok (.invokespecial 54, 3) := by decide +kernel
theorem dX10_init_95 : decode cX10_init 95 = .ok (.putfield 55, 3) := by decide +kernel
theorem dX10_init_98 : decode cX10_init 98 = .ok (.aload_n 0, 1) := by decide +kernel
theorem dX10_init_99 : decode cX10_init 99 = .ok (.new 59, 3) := by decide +kernel
theorem dX10_init_102 : decode cX10_init 102 = .ok (.dup, 1) := by decide +kernel
theorem dX10_init_103 : decode cX10_init 103 = .ok (.invokespecial 61, 3) := by decide +kernel
theorem dX10_init_106 : decode cX10_init 106 = .ok (.putfield 62, 3) := by decide +kernel
theorem dX10_init_109 : decode cX10_init 109 = .ok (.aload_n 0, 1) := by decide +kernel
theorem dX10_init_110 : decode cX10_init 110 = .ok (.new 59, 3) := by decide +kernel
theorem dX10_init_113 : decode cX10_init 113 = .ok (.dup, 1) := by decide +kernel
theorem dX10_init_114 : decode cX10_init 114 = .ok (.invokespecial 61, 3) := by decide +kernel
theorem dX10_init_117 : decode cX10_init 117 = .ok (.putfield 66, 3) := by decide +kernel
theorem dX10_init_120 : decode cX10_init 120 = .ok (.aload_n 0, 1) := by decide +kernel
theorem dX10_init_121 : decode cX10_init 121 = .ok (.new 69, 3) := by decide +kernel
theorem dX10_init_124 : decode cX10_init 124 = .ok (.dup, 1) := by decide +kernel
theorem dX10_init_125 : decode cX10_init 125 = .ok (.invokespecial 71, 3) := by decide +kernel
theorem dX10_init_128 : decode cX10_init 128 = .ok (.putfield 72, 3) := by decide +kernel
theorem dX10_init_131 : decode cX10_init 131 = .ok (.aload_n 0, 1) := by decide +kernel
theorem dX10_init_132 : decode cX10_init 132 = .ok (.new 76, 3) := by decide +kernel
theorem dX10_init_135 : decode cX10_init 135 = .ok (.dup, 1) := by decide +kernel
theorem dX10_init_136 : decode cX10_init 136 = .ok (.invokespecial 78, 3) := by decide +kernel
theorem dX10_init_139 : decode cX10_init 139 = .ok (.putfield 79, 3) := by decide +kernel
theorem dX10_init_142 : decode cX10_init 142 = .ok (.aload_n 0, 1) := by decide +kernel
theorem dX10_init_143 : decode cX10_init 143 = .ok (.iconst 4, 1) := by decide +kernel
theorem dX10_init_144 : decode cX10_init 144 = .ok (.anewarray 83, 3) := by decide +kernel
theorem dX10_init_147 : decode cX10_init 147 = .ok (.putfield 85, 3) := by decide +kernel
theorem dX10_init_150 : decode cX10_init 150 = .ok (.aload_n 0, 1) := by decide +kernel
theorem dX10_init_151 : decode cX10_init 151 = .ok (.getfield 10, 3) := by decide +kernel
theorem dX10_init_154 : decode cX10_init 154 = .ok (.invokevirtual 89, 3) := by decide +kernel
theorem dX10_init_157 : decode cX10_init 157 = .ok (.iconst 0, 1) := by decide +kernel
theorem dX10_init_158 : decode cX10_init 158 = .ok (.istore_n 1, 1) := by decide +kernel
theorem dX10_init_159 : decode cX10_init 159 = .ok (.iload_n 1, 1) := by decide +kernel
theorem dX10_init_160 : decode cX10_init 160 = .ok (.iconst 2, 1) := by decide +kernel
theorem dX10_init_161 : decode cX10_init 161 = .ok (.if_icmp .ge 27, 3) := by decide +kernel
theorem dX10_init_164 : decode cX10_init 164 = .ok (.aload_n 0, 1) := by decide +kernel
theorem dX10_init_165 : decode cX10_init 165 = .ok (.getfield 35, 3) := by decide +kernel
theorem dX10_init_168 : decode cX10_init 168 = .ok (.iload_n 1, 1) := by decide +kernel
theorem dX10_init_169 : decode cX10_init 169 = .ok (.new 26, 3) := by decide +kernel
theorem dX10_init_172 : decode cX10_init 172 = .ok (.dup, 1) := by decide +kernel
theorem dX10_init_173 : decode cX10_init 173 = .ok (.aload_n 0, 1) := by decide +kernel
theorem dX10_init_174 : decode cX10_init 174 = .ok (.getfield 10, 3) := by decide +kernel
theorem dX10_init_177 : decode cX10_init 177 = .ok (.aconst_null, 1) := by decide +kernel
theorem dX10_init_178 : decode cX10_init 178 = .ok (.invokespecial 28, 3) := by decide +kernel
theorem dX10_init_181 : decode cX10_init 181 = .ok (.aastore, 1) := by decide +kernel
theorem dX10_init_182 : decode cX10_init 182 = .ok (.iinc 1 1, 3) := by decide +kernel
theorem dX10_init_185 : decode cX10_init 185 = .ok (.goto (-26), 3) := by decide +kernel
theorem dX10_init_188 : decode cX10_init 188 = .ok (.iconst 0, 1) := by decide +kernel
theorem dX10_init_189 : decode cX10_init 189 = .ok (.istore_n 1, 1) := by decide +kernel
theorem dX10_init_190 : decode cX10_init 190 = .ok (.iload_n 1, 1) := by decide +kernel
theorem dX10_init_191 : decode cX10_init 191 = .ok (.iconst 4, 1) := by decide +kernel
theorem dX10_init_192 : decode cX10_init 192 = .ok (.if_icmp .ge 22, 3) := by decide +kernel
theorem dX10_init_195 : decode cX10_init 195 = .ok (.aload_n 0, 1) := by decide +kernel
theorem dX10_init_196 : decode cX10_init 196 = .ok (.getfield 85, 3) := by decide +kernel
theorem dX10_init_199 : decode cX10_init 199 = .ok (.iload_n 1, 1) := by decide +kernel
theorem dX10_init_200 : decode cX10_init 200 = .ok (.new 83, 3) := by decide +kernel
theorem dX10_init_203 : decode cX10_init 203 = .ok (.dup, 1) := by decide +kernel
theorem dX10_init_204 : decode cX10_init 204 = .ok (.invokespecial 92, 3) := by decide +kernel
theorem dX10_init_207 : decode cX10_init 207 = .ok (.aastore, 1) := by decide +kernel
theorem dX10_init_208 : decode cX10_init 208 = .ok (.iinc 1 1, 3) := by decide +kernel
theorem dX10_init_211 : decode cX10_init 211 = .ok (.goto (-21), 3) := by decide +kernel
theorem dX10_init_214 : decode cX10_init 214 = .ok (.aload_n 0, 1) := by decide +kernel
theorem dX10_init_215 : decode cX10_init 215 = .ok (.getfield 31, 3) := by decide +kernel
theorem dX10_init_218 : decode cX10_init 218 = .ok (.invokevirtual 93, 3) := by decide +kernel
theorem dX10_init_221 : decode cX10_init 221 = .ok (.aload_n 0, 1) := by decide +kernel
theorem dX10_init_222 : decode cX10_init 222 = .ok (.getfield 31, 3) := by decide +kernel
theorem dX10_init_225 : decode cX10_init 225 = .ok (.invokevirtual 96, 3) := by decide +kernel
theorem dX10_init_228 : decode cX10_init 228 = .ok (.return_, 1) := by decide +kernel
theorem dX10_feed_0 : decode cX10_feed 0 = .ok (.aload_n 0, 1) := by decide +kernel
theorem dX10_feed_1 : decode cX10_feed 1 = .ok (.getfield 22, 3) := by decide +kernel
theorem dX10_feed_4 : decode cX10_feed 4 = .ok (.getfield 99, 3) := by decide +kernel
theorem dX10_feed_7 : decode cX10_feed 7 = .ok (.sipush 392, 3) := by decide +kernel
theorem dX10_feed_10 : decode cX10_feed 10 = .ok (.if_icmp .le 6, 3) := by decide +kernel
theorem dX10_feed_13 : decode cX10_feed 13 = .ok (.bipush (-3), 2) := by decide +kernel
theorem dX10_feed_15 : decode cX10_feed 15 = .ok (.ireturn, 1) := by decide +kernel
theorem dX10_feed_16 : decode cX10_feed 16 = .ok (.iconst 0, 1) := by decide +kernel
theorem dX10_feed_17 : decode cX10_feed 17 = .ok (.istore_n 3, 1) := by decide +kernel
theorem dX10_feed_18 : decode cX10_feed 18 = .ok (.iload_n 3, 1) := by decide +kernel
theorem dX10_feed_19 : decode cX10_feed 19 = .ok (.bipush 8, 2) := by decide +kernel
theorem dX10_feed_21 : decode cX10_feed 21 = .ok (.if_icmp .ge 48, 3) := by decide +kernel
theorem dX10_feed_24 : decode cX10_feed 24 = .ok (.aload_n 0, 1) := by decide +kernel
theorem dX10_feed_25 : decode cX10_feed 25 = .ok (.getfield 22, 3) := by decide +kernel
theorem dX10_feed_28 : decode cX10_feed 28 = .ok (.getfield 103, 3) := by decide +kernel
theorem dX10_feed_31 : decode cX10_feed 31 = .ok (.aload_n 0, 1) := by decide +kernel
theorem dX10_feed_32 : decode cX10_feed 32 = .ok (.getfield 22, 3) := by decide +kernel
theorem dX10_feed_35 : decode cX10_feed 35 = .ok (.getfield 99, 3) := by decide +kernel
theorem dX10_feed_38 : decode cX10_feed 38 = .ok (.lload_n 1, 1) := by decide +kernel
theorem dX10_feed_39 : decode cX10_feed 39 = .ok (.bipush 8, 2) := by decide +kernel
theorem dX10_feed_41 : decode cX10_feed 41 = .ok (.bipush 7, 2) := by decide +kernel
theorem dX10_feed_43 : decode cX10_feed 43 = .ok (.iload_n 3, 1) := by decide +kernel
theorem dX10_feed_44 : decode cX10_feed 44 = .ok (.isub, 1) := by decide +kernel
theorem dX10_feed_45 : decode cX10_feed 45 = .ok (.imul, 1) := by decide +kernel
theorem dX10_feed_46 : decode cX10_feed 46 = .ok (.lshr, 1) := by decide +kernel
theorem dX10_feed_47 : decode cX10_feed 47 = .ok (.l2i, 1) := by decide +kernel
theorem dX10_feed_48 : decode cX10_feed 48 = .ok (.i2b, 1) := by decide +kernel
theorem dX10_feed_49 : decode cX10_feed 49 = .ok (.bastore, 1) := by decide +kernel
theorem dX10_feed_50 : decode cX10_feed 50 = .ok (.aload_n 0, 1) := by decide +kernel
theorem dX10_feed_51 : decode cX10_feed 51 = .ok (.getfield 22, 3) := by decide +kernel
theorem dX10_feed_54 : decode cX10_feed 54 = .ok (.dup, 1) := by decide +kernel
theorem dX10_feed_55 : decode cX10_feed 55 = .ok (.getfield 99, 3) := by decide +kernel
theorem dX10_feed_58 : decode cX10_feed 58 = .ok (.iconst 1, 1) := by decide +kernel
theorem dX10_feed_59 : decode cX10_feed 59 = .ok (.iadd, 1) := by decide +kernel
theorem dX10_feed_60 : decode cX10_feed 60 = .ok (.putfield 99, 3) := by decide +kernel
theorem dX10_feed_63 : decode cX10_feed 63 = .ok (.iinc 3 1, 3) := by decide +kernel
theorem dX10_feed_66 : decode cX10_feed 66 = .ok (.goto (-48), 3) := by decide +kernel
theorem dX10_feed_69 : decode cX10_feed 69 = .ok (.aload_n 0, 1) := by decide +kernel
theorem dX10_feed_70 : decode cX10_feed 70 = .ok (.getfield 22, 3) := by decide +kernel
theorem dX10_feed_73 : decode cX10_feed 73 = .ok (.getfield 99, 3) := by decide +kernel
theorem dX10_feed_76 : decode cX10_feed 76 = .ok (.ireturn, 1) := by decide +kernel
theorem dX10_end_0 : decode cX10_end 0 = .ok (.iload_n 1, 1) := by decide +kernel
theorem dX10_end_1 : decode cX10_end 1 = .ok (.ifCond .lt 14, 3) := by decide +kernel
theorem dX10_end_4 : decode cX10_end 4 = .ok (.iload_n 1, 1) := by decide +kernel
theorem dX10_end_5 : decode cX10_end 5 = .ok (.aload_n 0, 1) := by decide +kernel
theorem dX10_end_6 : decode cX10_end 6 = .ok (.getfield 22, 3) := by decide +kernel
theorem dX10_end_9 : decode cX10_end 9 = .ok (.getfield 99, 3) := by decide +kernel
theorem dX10_end_12 : decode cX10_end 12 = .ok (.if_icmp .le 5, 3) := by decide +kernel
theorem dX10_end_15 : decode cX10_end 15 = .ok (.iconst (-1), 1) := by decide +kernel
theorem dX10_end_16 : decode cX10_end 16 = .ok (.ireturn, 1) := by decide +kernel
theorem dX10_end_17 : decode cX10_end 17 = .ok (.aload_n 0, 1) := by decide +kernel
theorem dX10_end_18 : decode cX10_end 18 = .ok (.getfield 22, 3) := by decide +kernel
theorem dX10_end_21 : decode cX10_end 21 = .ok (.getfield 99, 3) := by decide +kernel
theorem dX10_end_24 : decode cX10_end 24 = .ok (.istore_n 2, 1) := by decide +kernel
theorem dX10_end_25 : decode cX10_end 25 = .ok (.aload_n 0, 1) := by decide +kernel
theorem dX10_end_26 : decode cX10_end 26 = .ok (.getfield 22, 3) := by decide +kernel
theorem dX10_end_29 : decode cX10_end 29 = .ok (.iload_n 1, 1) := by decide +kernel
theorem dX10_end_30 : decode cX10_end 30 = .ok (.putfield 99, 3) := by decide +kernel
theorem dX10_end_33 : decode cX10_end 33 = .ok (.iload_n 2, 1) := by decide +kernel
theorem dX10_end_34 : decode cX10_end 34 = .ok (.ireturn, 1) := by decide +kernel
theorem dX10_text_0 : decode cX10_text 0 = .ok (.aload_n 0, 1) := by decide +kernel
theorem dX10_text_1 : decode cX10_text 1 = .ok (.getfield 22, 3) := by decide +kernel
theorem dX10_text_4 : decode cX10_text 4 = .ok (.invokevirtual 107, 3) := by decide +kernel
theorem dX10_text_7 : decode cX10_text 7 = .ok (.istore_n 1, 1) := by decide +kernel
theorem dX10_text_8 : decode cX10_text 8 = .ok (.aload_n 0, 1) := by decide +kernel
theorem dX10_text_9 : decode cX10_text 9 = .ok (.getfield 22, 3) := by decide +kernel
theorem dX10_text_12 : decode cX10_text 12 = .ok (.iconst 0, 1) := by decide +kernel
theorem dX10_text_13 : decode cX10_text 13 = .ok (.putfield 99, 3) := by decide +kernel
theorem dX10_text_16 : decode cX10_text 16 = .ok (.iload_n 1, 1) := by decide +kernel
theorem dX10_text_17 : decode cX10_text 17 = .ok (.ifCond .ne 14, 3) := by decide +kernel
theorem dX10_text_20 : decode cX10_text 20 = .ok (.bipush (-10), 2) := by decide +kernel
theorem dX10_text_22 : decode cX10_text 22 = .ok (.aload_n 0, 1) := by decide +kernel
theorem dX10_text_23 : decode cX10_text 23 = .ok (.getfield 22, 3) := by decide +kernel
theorem dX10_text_26 : decode cX10_text 26 = .ok (.getfield 111, 3) := by decide +kernel
theorem dX10_text_29 : decode cX10_text 29 = .ok (.isub, 1) := by decide +kernel
theorem dX10_text_30 : decode cX10_text 30 = .ok (.ireturn, 1) := by decide +kernel
theorem dX10_text_31 : decode cX10_text 31 = .ok (.aload_n 0, 1) := by decide +kernel
theorem dX10_text_32 : decode cX10_text 32 = .ok (.getfield 10, 3) := by decide +kernel
theorem dX10_text_35 : decode cX10_text 35 = .ok (.aload_n 0, 1) := by decide +kernel
theorem dX10_text_36 : decode cX10_text 36 = .ok (.getfield 22, 3) := by decide +kernel
theorem dX10_text_39 : decode cX10_text 39 = .ok (.getfield 114, 3) := by decide +kernel
theorem dX10_text_42 : decode cX10_text 42 = .ok (.invokevirtual 117, 3) := by decide +kernel
theorem dX10_text_45 : decode cX10_text 45 = .ok (.aload_n 0, 1) := by decide +kernel
theorem dX10_text_46 : decode cX10_text 46 = .ok (.getfield 31, 3) := by decide +kernel
theorem dX10_text_49 : decode cX10_text 49 = .ok (.invokevirtual 93, 3) := by decide +kernel
theorem dX10_text_52 : decode cX10_text 52 = .ok (.aload_n 0, 1) := by decide +kernel
theorem dX10_text_53 : decode cX10_text 53 = .ok (.getfield 31, 3) := by decide +kernel
theorem dX10_text_56 : decode cX10_text 56 = .ok (.invokevirtual 96, 3) := by decide +kernel
theorem dX10_text_59 : decode cX10_text 59 = .ok (.iconst 0, 1) := by decide +kernel
theorem dX10_text_60 : decode cX10_text 60 = .ok (.istore_n 2, 1) := by decide +kernel
theorem dX10_text_61 : decode cX10_text 61 = .ok (.iload_n 2, 1) := by decide +kernel
theorem dX10_text_62 : decode cX10_text 62 = .ok (.iconst 2, 1) := by decide +kernel
theorem dX10_text_63 : decode cX10_text 63 = .ok (.if_icmp .ge 16, 3) := by decide +kernel
theorem dX10_text_66 : decode cX10_text 66 = .ok (.aload_n 0, 1) := by decide +kernel
theorem dX10_text_67 : decode cX10_text 67 = .ok (.getfield 39, 3) := by decide +kernel
theorem dX10_text_70 : decode cX10_text 70 = .ok (.iload_n 2, 1) := by decide +kernel
theorem dX10_text_71 : decode cX10_text 71 = .ok (.iconst 0, 1) := by decide +kernel
theorem dX10_text_72 : decode cX10_text 72 = .ok (.bastore, 1) := by decide +kernel
theorem dX10_text_73 : decode cX10_text 73 = .ok (.iinc 2 1, 3) := by decide +kernel
theorem dX10_text_76 : decode cX10_text 76 = .ok (.goto (-15), 3) := by decide +kernel
theorem dX10_text_79 : decode cX10_text 79 = .ok (.aload_n 0, 1) := by decide +kernel
theorem dX10_text_80 : decode cX10_text 80 = .ok (.invokevirtual 120, 3) := by decide +kernel
theorem dX10_text_83 : decode cX10_text 83 = .ok (.aload_n 0, 1) := by decide +kernel
theorem dX10_text_84 : decode cX10_text 84 = .ok (.getfield 22, 3) := by decide +kernel
theorem dX10_text_87 : decode cX10_text 87 = .ok (.getfield 123, 3) := by decide +kernel
theorem dX10_text_90 : decode cX10_text 90 = .ok (.ireturn, 1) := by decide +kernel
theorem dX10_fault_0 : decode cX10_fault 0 = .ok (.aload_n 0, 1) := by decide +kernel
theorem dX10_fault_1 : decode cX10_fault 1 = .ok (.getfield 22, 3) := by decide +kernel
theorem dX10_fault_4 : decode cX10_fault 4 = .ok (.getfield 126, 3) := by decide +kernel
theorem dX10_fault_7 : decode cX10_fault 7 = .ok (.ireturn, 1) := by decide +kernel
theorem dX10_rule_0 : decode cX10_rule 0 = .ok (.iload_n 1, 1) := by decide +kernel
theorem dX10_rule_1 : decode cX10_rule 1 = .ok (.bipush 10, 2) := by decide +kernel
theorem dX10_rule_3 : decode cX10_rule 3 = .ok (.if_icmp .lt 30, 3) := by decide +kernel
theorem dX10_rule_6 : decode cX10_rule 6 = .ok (.iload_n 1, 1) := by decide +kernel
theorem dX10_rule_7 : decode cX10_rule 7 = .ok (.bipush 10, 2) := by decide +kernel
theorem dX10_rule_9 : decode cX10_rule 9 = .ok (.aload_n 0, 1) := by decide +kernel
theorem dX10_rule_10 : decode cX10_rule 10 = .ok (.getfield 10, 3) := by decide +kernel
theorem dX10_rule_13 : decode cX10_rule 13 = .ok (.getfield 129, 3) := by decide +kernel
theorem dX10_rule_16 : decode cX10_rule 16 = .ok (.iadd, 1) := by decide +kernel
theorem dX10_rule_17 : decode cX10_rule 17 = .ok (.if_icmp .ge 16, 3) := by decide +kernel
theorem dX10_rule_20 : decode cX10_rule 20 = .ok (.aload_n 0, 1) := by decide +kernel
theorem dX10_rule_21 : decode cX10_rule 21 = .ok (.getfield 10, 3) := by decide +kernel
theorem dX10_rule_24 : decode cX10_rule 24 = .ok (.getfield 132, 3) := by decide +kernel
theorem dX10_rule_27 : decode cX10_rule 27 = .ok (.iload_n 1, 1) := by decide +kernel
theorem dX10_rule_28 : decode cX10_rule 28 = .ok (.bipush 10, 2) := by decide +kernel
theorem dX10_rule_30 : decode cX10_rule 30 = .ok (.isub, 1) := by decide +kernel
theorem dX10_rule_31 : decode cX10_rule 31 = .ok (.iaload, 1) := by decide +kernel
theorem dX10_rule_32 : decode cX10_rule 32 = .ok (.ireturn, 1) := by decide +kernel
theorem dX10_rule_33 : decode cX10_rule 33 = .ok (.iload_n 1, 1) := by decide +kernel
theorem dX10_rule_34 : decode cX10_rule 34 = .ok (.bipush 20, 2) := by decide +kernel
theorem dX10_rule_36 : decode cX10_rule 36 = .ok (.if_icmp .lt 30, 3) := by decide +kernel
theorem dX10_rule_39 : decode cX10_rule 39 = .ok (.iload_n 1, 1) := by decide +kernel
theorem dX10_rule_40 : decode cX10_rule 40 = .ok (.bipush 20, 2) := by decide +kernel
theorem dX10_rule_42 : decode cX10_rule 42 = .ok (.aload_n 0, 1) := by decide +kernel
theorem dX10_rule_43 : decode cX10_rule 43 = .ok (.getfield 10, 3) := by decide +kernel
theorem dX10_rule_46 : decode cX10_rule 46 = .ok (.getfield 136, 3) := by decide +kernel
theorem dX10_rule_49 : decode cX10_rule 49 = .ok (.iadd, 1) := by decide +kernel
theorem dX10_rule_50 : decode cX10_rule 50 = .ok (.if_icmp .ge 16, 3) := by decide +kernel
theorem dX10_rule_53 : decode cX10_rule 53 = .ok (.aload_n 0, 1) := by decide +kernel
theorem dX10_rule_54 : decode cX10_rule 54 = .ok (.getfield 10, 3) := by decide +kernel
theorem dX10_rule_57 : decode cX10_rule 57 = .ok (.getfield 139, 3) := by decide +kernel
theorem dX10_rule_60 : decode cX10_rule 60 = .ok (.iload_n 1, 1) := by decide +kernel
theorem dX10_rule_61 : decode cX10_rule 61 = .ok (.bipush 20, 2) := by decide +kernel
theorem dX10_rule_63 : decode cX10_rule 63 = .ok (.isub, 1) := by decide +kernel
theorem dX10_rule_64 : decode cX10_rule 64 = .ok (.iaload, 1) := by decide +kernel
theorem dX10_rule_65 : decode cX10_rule 65 = .ok (.ireturn, 1) := by decide +kernel
theorem dX10_rule_66 : decode cX10_rule 66 = .ok (.iload_n 1, 1) := by decide +kernel
theorem dX10_rule_67 : decode cX10_rule 67 = .ok (.tableswitch 97 0 6 #[41, 49, 57, 65, 73, 81, 89], 41) := by decide +kernel
theorem dX10_rule_108 : decode cX10_rule 108 = .ok (.aload_n 0, 1) := by decide +kernel
theorem dX10_rule_109 : decode cX10_rule 109 = .ok (.getfield 10, 3) := by decide +kernel
theorem dX10_rule_112 : decode cX10_rule 112 = .ok (.getfield 142, 3) := by decide +kernel
theorem dX10_rule_115 : decode cX10_rule 115 = .ok (.ireturn, 1) := by decide +kernel
theorem dX10_rule_116 : decode cX10_rule 116 = .ok (.aload_n 0, 1) := by decide +kernel
theorem dX10_rule_117 : decode cX10_rule 117 = .ok (.getfield 10, 3) := by decide +kernel
theorem dX10_rule_120 : decode cX10_rule 120 = .ok (.getfield 136, 3) := by decide +kernel
theorem dX10_rule_123 : decode cX10_rule 123 = .ok (.ireturn, 1) := by decide +kernel
theorem dX10_rule_124 : decode cX10_rule 124 = .ok (.aload_n 0, 1) := by decide +kernel
theorem dX10_rule_125 : decode cX10_rule 125 = .ok (.getfield 10, 3) := by decide +kernel
theorem dX10_rule_128 : decode cX10_rule 128 = .ok (.getfield 145, 3) := by decide +kernel
theorem dX10_rule_131 : decode cX10_rule 131 = .ok (.ireturn, 1) := by decide +kernel
theorem dX10_rule_132 : decode cX10_rule 132 = .ok (.aload_n 0, 1) := by decide +kernel
theorem dX10_rule_133 : decode cX10_rule 133 = .ok (.getfield 10, 3) := by decide +kernel
theorem dX10_rule_136 : decode cX10_rule 136 = .ok (.getfield 148, 3) := by decide +kernel
theorem dX10_rule_139 : decode cX10_rule 139 = .ok (.ireturn, 1) := by decide +kernel
theorem dX10_rule_140 : decode cX10_rule 140 = .ok (.aload_n 0, 1) := by decide +kernel
theorem dX10_rule_141 : decode cX10_rule 141 = .ok (.getfield 10, 3) := by decide +kernel
theorem dX10_rule_144 : decode cX10_rule 144 = .ok (.getfield 151, 3) := by decide +kernel
theorem dX10_rule_147 : decode cX10_rule 147 = .ok (.ireturn, 1) := by decide +kernel
theorem dX10_rule_148 : decode cX10_rule 148 = .ok (.aload_n 0, 1) := by decide +kernel
theorem dX10_rule_149 : decode cX10_rule 149 = .ok (.getfield 10, 3) := by decide +kernel
theorem dX10_rule_152 : decode cX10_rule 152 = .ok (.getfield 154, 3) := by decide +kernel
theorem dX10_rule_155 : decode cX10_rule 155 = .ok (.ireturn, 1) := by decide +kernel
theorem dX10_rule_156 : decode cX10_rule 156 = .ok (.aload_n 0, 1) := by decide +kernel
theorem dX10_rule_157 : decode cX10_rule 157 = .ok (.getfield 10, 3) := by decide +kernel
theorem dX10_rule_160 : decode cX10_rule 160 = .ok (.getfield 129, 3) := by decide +kernel
theorem dX10_rule_163 : decode cX10_rule 163 = .ok (.ireturn, 1) := by decide +kernel
theorem dX10_rule_164 : decode cX10_rule 164 = .ok (.iconst (-1), 1) := by decide +kernel
theorem dX10_rule_165 : decode cX10_rule 165 = .ok (.ireturn, 1) := by decide +kernel
theorem dX10_units_0 : decode cX10_units 0 = .ok (.iload_n 1, 1) := by decide +kernel
theorem dX10_units_1 : decode cX10_units 1 = .ok (.ifCond .lt 16, 3) := by decide +kernel
theorem dX10_units_4 : decode cX10_units 4 = .ok (.iload_n 1, 1) := by decide +kernel
theorem dX10_units_5 : decode cX10_units 5 = .ok (.iconst 3, 1) := by decide +kernel
theorem dX10_units_6 : decode cX10_units 6 = .ok (.if_icmp .ge 11, 3) := by decide +kernel
theorem dX10_units_9 : decode cX10_units 9 = .ok (.aload_n 0, 1) := by decide +kernel
theorem dX10_units_10 : decode cX10_units 10 = .ok (.iload_n 2, 1) := by decide +kernel
theorem dX10_units_11 : decode cX10_units 11 = .ok (.invokevirtual 157, 3) := by decide +kernel
theorem dX10_units_14 : decode cX10_units 14 = .ok (.ifCond .ne 5, 3) := by decide +kernel
theorem dX10_units_17 : decode cX10_units 17 = .ok (.iconst (-1), 1) := by decide +kernel
theorem dX10_units_18 : decode cX10_units 18 = .ok (.ireturn, 1) := by decide +kernel
theorem dX10_units_19 : decode cX10_units 19 = .ok (.aload_n 0, 1) := by decide +kernel
theorem dX10_units_20 : decode cX10_units 20 = .ok (.getfield 10, 3) := by decide +kernel
theorem dX10_units_23 : decode cX10_units 23 = .ok (.iload_n 1, 1) := by decide +kernel
theorem dX10_units_24 : decode cX10_units 24 = .ok (.iload_n 2, 1) := by decide +kernel
theorem dX10_units_25 : decode cX10_units 25 = .ok (.invokevirtual 161, 3) := by decide +kernel
theorem dX10_units_28 : decode cX10_units 28 = .ok (.ireturn, 1) := by decide +kernel
theorem dX10_pace_0 : decode cX10_pace 0 = .ok (.aload_n 0, 1) := by decide +kernel
theorem dX10_pace_1 : decode cX10_pace 1 = .ok (.iload_n 1, 1) := by decide +kernel
theorem dX10_pace_2 : decode cX10_pace 2 = .ok (.invokevirtual 165, 3) := by decide +kernel
theorem dX10_pace_5 : decode cX10_pace 5 = .ok (.ifCond .eq 11, 3) := by decide +kernel
theorem dX10_pace_8 : decode cX10_pace 8 = .ok (.aload_n 0, 1) := by decide +kernel
theorem dX10_pace_9 : decode cX10_pace 9 = .ok (.iload_n 2, 1) := by decide +kernel
theorem dX10_pace_10 : decode cX10_pace 10 = .ok (.invokevirtual 157, 3) := by decide +kernel
theorem dX10_pace_13 : decode cX10_pace 13 = .ok (.ifCond .ne 5, 3) := by decide +kernel
theorem dX10_pace_16 : decode cX10_pace 16 = .ok (.iconst (-1), 1) := by decide +kernel
theorem dX10_pace_17 : decode cX10_pace 17 = .ok (.ireturn, 1) := by decide +kernel
theorem dX10_pace_18 : decode cX10_pace 18 = .ok (.aload_n 0, 1) := by decide +kernel
theorem dX10_pace_19 : decode cX10_pace 19 = .ok (.getfield 10, 3) := by decide +kernel
theorem dX10_pace_22 : decode cX10_pace 22 = .ok (.iload_n 1, 1) := by decide +kernel
theorem dX10_pace_23 : decode cX10_pace 23 = .ok (.iload_n 2, 1) := by decide +kernel
theorem dX10_pace_24 : decode cX10_pace 24 = .ok (.invokevirtual 168, 3) := by decide +kernel
theorem dX10_pace_27 : decode cX10_pace 27 = .ok (.ireturn, 1) := by decide +kernel
theorem dX10_setPace_0 : decode cX10_setPace 0 = .ok (.aload_n 0, 1) := by decide +kernel
theorem dX10_setPace_1 : decode cX10_setPace 1 = .ok (.iload_n 1, 1) := by decide +kernel
theorem dX10_setPace_2 : decode cX10_setPace 2 = .ok (.invokevirtual 165, 3) := by decide +kernel
theorem dX10_setPace_5 : decode cX10_setPace 5 = .ok (.ifCond .eq 18, 3) := by decide +kernel
theorem dX10_setPace_8 : decode cX10_setPace 8 = .ok (.aload_n 0, 1) := by decide +kernel
theorem dX10_setPace_9 : decode cX10_setPace 9 = .ok (.iload_n 2, 1) := by decide +kernel
theorem dX10_setPace_10 : decode cX10_setPace 10 = .ok (.invokevirtual 157, 3) := by decide +kernel
theorem dX10_setPace_13 : decode cX10_setPace 13 = .ok (.ifCond .eq 10, 3) := by decide +kernel
theorem dX10_setPace_16 : decode cX10_setPace 16 = .ok (.iload_n 3, 1) := by decide +kernel
theorem dX10_setPace_17 : decode cX10_setPace 17 = .ok (.invokestatic 171, 3) := by decide +kernel
theorem dX10_setPace_20 : decode cX10_setPace 20 = .ok (.ifCond .ne 5, 3) := by decide +kernel
theorem dX10_setPace_23 : decode cX10_setPace 23 = .ok (.iconst (-1), 1) := by decide +kernel
theorem dX10_setPace_24 : decode cX10_setPace 24 = .ok (.ireturn, 1) := by decide +kernel
theorem dX10_setPace_25 : decode cX10_setPace 25 = .ok (.aload_n 0, 1) := by decide +kernel
theorem dX10_setPace_26 : decode cX10_setPace 26 = .ok (.getfield 10, 3) := by decide +kernel
theorem dX10_setPace_29 : decode cX10_setPace 29 = .ok (.iload_n 1, 1) := by decide +kernel
theorem dX10_setPace_30 : decode cX10_setPace 30 = .ok (.iload_n 2, 1) := by decide +kernel
theorem dX10_setPace_31 : decode cX10_setPace 31 = .ok (.invokevirtual 168, 3) := by decide +kernel
theorem dX10_setPace_34 : decode cX10_setPace 34 = .ok (.istore 4, 2) := by decide +kernel
theorem dX10_setPace_36 : decode cX10_setPace 36 = .ok (.aload_n 0, 1) := by decide +kernel
theorem dX10_setPace_37 : decode cX10_setPace 37 = .ok (.getfield 10, 3) := by decide +kernel
theorem dX10_setPace_40 : decode cX10_setPace 40 = .ok (.getfield 174, 3) := by decide +kernel
theorem dX10_setPace_43 : decode cX10_setPace 43 = .ok (.iload_n 1, 1) := by decide +kernel
theorem dX10_setPace_44 : decode cX10_setPace 44 = .ok (.bipush 8, 2) := by decide +kernel
theorem dX10_setPace_46 : decode cX10_setPace 46 = .ok (.imul, 1) := by decide +kernel
theorem dX10_setPace_47 : decode cX10_setPace 47 = .ok (.iload_n 2, 1) := by decide +kernel
theorem dX10_setPace_48 : decode cX10_setPace 48 = .ok (.iadd, 1) := by decide +kernel
theorem dX10_setPace_49 : decode cX10_setPace 49 = .ok (.iload_n 3, 1) := by decide +kernel
theorem dX10_setPace_50 : decode cX10_setPace 50 = .ok (.iastore, 1) := by decide +kernel
theorem dX10_setPace_51 : decode cX10_setPace 51 = .ok (.aload_n 0, 1) := by decide +kernel
theorem dX10_setPace_52 : decode cX10_setPace 52 = .ok (.invokevirtual 120, 3) := by decide +kernel
theorem dX10_setPace_55 : decode cX10_setPace 55 = .ok (.iload 4, 2) := by decide +kernel
theorem dX10_setPace_57 : decode cX10_setPace 57 = .ok (.ireturn, 1) := by decide +kernel
theorem dX10_begin_0 : decode cX10_begin 0 = .ok (.aload_n 0, 1) := by decide +kernel
theorem dX10_begin_1 : decode cX10_begin 1 = .ok (.getfield 31, 3) := by decide +kernel
theorem dX10_begin_4 : decode cX10_begin 4 = .ok (.getfield 177, 3) := by decide +kernel
theorem dX10_begin_7 : decode cX10_begin 7 = .ok (.istore_n 1, 1) := by decide +kernel
theorem dX10_begin_8 : decode cX10_begin 8 = .ok (.aload_n 0, 1) := by decide +kernel
theorem dX10_begin_9 : decode cX10_begin 9 = .ok (.getfield 31, 3) := by decide +kernel
theorem dX10_begin_12 : decode cX10_begin 12 = .ok (.invokevirtual 93, 3) := by decide +kernel
theorem dX10_begin_15 : decode cX10_begin 15 = .ok (.aload_n 0, 1) := by decide +kernel
theorem dX10_begin_16 : decode cX10_begin 16 = .ok (.getfield 31, 3) := by decide +kernel
theorem dX10_begin_19 : decode cX10_begin 19 = .ok (.invokevirtual 96, 3) := by decide +kernel
theorem dX10_begin_22 : decode cX10_begin 22 = .ok (.iload_n 1, 1) := by decide +kernel
theorem dX10_begin_23 : decode cX10_begin 23 = .ok (.ireturn, 1) := by decide +kernel
theorem dX10_go_0 : decode cX10_go 0 = .ok (.iload_n 1, 1) := by decide +kernel
theorem dX10_go_1 : decode cX10_go 1 = .ok (.iconst 1, 1) := by decide +kernel
theorem dX10_go_2 : decode cX10_go 2 = .ok (.if_icmp .lt 10, 3) := by decide +kernel
theorem dX10_go_5 : decode cX10_go 5 = .ok (.iload_n 1, 1) := by decide +kernel
theorem dX10_go_6 : decode cX10_go 6 = .ok (.sipush 9999, 3) := by decide +kernel
theorem dX10_go_9 : decode cX10_go 9 = .ok (.if_icmp .le 5, 3) := by decide +kernel
theorem dX10_go_12 : decode cX10_go 12 = .ok (.iconst (-1), 1) := by decide +kernel
theorem dX10_go_13 : decode cX10_go 13 = .ok (.ireturn, 1) := by decide +kernel
theorem dX10_go_14 : decode cX10_go 14 = .ok (.aload_n 0, 1) := by decide +kernel
theorem dX10_go_15 : decode cX10_go 15 = .ok (.getfield 31, 3) := by decide +kernel
theorem dX10_go_18 : decode cX10_go 18 = .ok (.getfield 177, 3) := by decide +kernel
theorem dX10_go_21 : decode cX10_go 21 = .ok (.istore_n 2, 1) := by decide +kernel
theorem dX10_go_22 : decode cX10_go 22 = .ok (.iload_n 1, 1) := by decide +kernel
theorem dX10_go_23 : decode cX10_go 23 = .ok (.istore_n 3, 1) := by decide +kernel
theorem dX10_go_24 : decode cX10_go 24 = .ok (.iconst 0, 1) := by decide +kernel
theorem dX10_go_25 : decode cX10_go 25 = .ok (.istore 4, 2) := by decide +kernel
theorem dX10_go_27 : decode cX10_go 27 = .ok (.iload 4, 2) := by decide +kernel
theorem dX10_go_29 : decode cX10_go 29 = .ok (.iload_n 1, 1) := by decide +kernel
theorem dX10_go_30 : decode cX10_go 30 = .ok (.if_icmp .ge 62, 3) := by decide +kernel
theorem dX10_go_33 : decode cX10_go 33 = .ok (.iload_n 3, 1) := by decide +kernel
theorem dX10_go_34 : decode cX10_go 34 = .ok (.ifCond .le 58, 3) := by decide +kernel
theorem dX10_go_37 : decode cX10_go 37 = .ok (.aload_n 0, 1) := by decide +kernel
theorem dX10_go_38 : decode cX10_go 38 = .ok (.getfield 31, 3) := by decide +kernel
theorem dX10_go_41 : decode cX10_go 41 = .ok (.invokevirtual 180, 3) := by decide +kernel
theorem dX10_go_44 : decode cX10_go 44 = .ok (.istore 5, 2) := by decide +kernel
theorem dX10_go_46 : decode cX10_go 46 = .ok (.iload 5, 2) := by decide +kernel
theorem dX10_go_48 : decode cX10_go 48 = .ok (.ifCond .eq 9, 3) := by decide +kernel
theorem dX10_go_51 : decode cX10_go 51 = .ok (.iload 5, 2) := by decide +kernel
theorem dX10_go_53 : decode cX10_go 53 = .ok (.iload_n 3, 1) := by decide +kernel
theorem dX10_go_54 : decode cX10_go 54 = .ok (.if_icmp .le 7, 3) := by decide +kernel
theorem dX10_go_57 : decode cX10_go 57 = .ok (.iload_n 3, 1) := by decide +kernel
theorem dX10_go_58 : decode cX10_go 58 = .ok (.goto 5, 3) := by decide +kernel
theorem dX10_go_61 : decode cX10_go 61 = .ok (.iload 5, 2) := by decide +kernel
theorem dX10_go_63 : decode cX10_go 63 = .ok (.istore 6, 2) := by decide +kernel
theorem dX10_go_65 : decode cX10_go 65 = .ok (.aload_n 0, 1) := by decide +kernel
theorem dX10_go_66 : decode cX10_go 66 = .ok (.getfield 31, 3) := by decide +kernel
theorem dX10_go_69 : decode cX10_go 69 = .ok (.iload 6, 2) := by decide +kernel
theorem dX10_go_71 : decode cX10_go 71 = .ok (.invokevirtual 184, 3) := by decide +kernel
theorem dX10_go_74 : decode cX10_go 74 = .ok (.aload_n 0, 1) := by decide +kernel
theorem dX10_go_75 : decode cX10_go 75 = .ok (.getfield 31, 3) := by decide +kernel
theorem dX10_go_78 : decode cX10_go 78 = .ok (.invokevirtual 96, 3) := by decide +kernel
theorem dX10_go_81 : decode cX10_go 81 = .ok (.iload_n 3, 1) := by decide +kernel
theorem dX10_go_82 : decode cX10_go 82 = .ok (.iload 6, 2) := by decide +kernel
theorem dX10_go_84 : decode cX10_go 84 = .ok (.isub, 1) := by decide +kernel
theorem dX10_go_85 : decode cX10_go 85 = .ok (.istore_n 3, 1) := by decide +kernel
theorem dX10_go_86 : decode cX10_go 86 = .ok (.iinc 4 1, 3) := by decide +kernel
theorem dX10_go_89 : decode cX10_go 89 = .ok (.goto (-62), 3) := by decide +kernel
theorem dX10_go_92 : decode cX10_go 92 = .ok (.aload_n 0, 1) := by decide +kernel
theorem dX10_go_93 : decode cX10_go 93 = .ok (.getfield 31, 3) := by decide +kernel
theorem dX10_go_96 : decode cX10_go 96 = .ok (.getfield 177, 3) := by decide +kernel
theorem dX10_go_99 : decode cX10_go 99 = .ok (.iload_n 2, 1) := by decide +kernel
theorem dX10_go_100 : decode cX10_go 100 = .ok (.isub, 1) := by decide +kernel
theorem dX10_go_101 : decode cX10_go 101 = .ok (.ireturn, 1) := by decide +kernel
theorem dX10_night_0 : decode cX10_night 0 = .ok (.aload_n 0, 1) := by decide +kernel
theorem dX10_night_1 : decode cX10_night 1 = .ok (.getfield 31, 3) := by decide +kernel
theorem dX10_night_4 : decode cX10_night 4 = .ok (.invokevirtual 188, 3) := by decide +kernel
theorem dX10_night_7 : decode cX10_night 7 = .ok (.istore_n 1, 1) := by decide +kernel
theorem dX10_night_8 : decode cX10_night 8 = .ok (.aload_n 0, 1) := by decide +kernel
theorem dX10_night_9 : decode cX10_night 9 = .ok (.getfield 31, 3) := by decide +kernel
theorem dX10_night_12 : decode cX10_night 12 = .ok (.invokevirtual 191, 3) := by decide +kernel
theorem dX10_night_15 : decode cX10_night 15 = .ok (.aload_n 0, 1) := by decide +kernel
theorem dX10_night_16 : decode cX10_night 16 = .ok (.getfield 31, 3) := by decide +kernel
theorem dX10_night_19 : decode cX10_night 19 = .ok (.invokevirtual 96, 3) := by decide +kernel
theorem dX10_night_22 : decode cX10_night 22 = .ok (.iload_n 1, 1) := by decide +kernel
theorem dX10_night_23 : decode cX10_night 23 = .ok (.ireturn, 1) := by decide +kernel
theorem dX10_now_0 : decode cX10_now 0 = .ok (.iload_n 1, 1) := by decide +kernel
theorem dX10_now_1 : decode cX10_now 1 = .ok (.tableswitch 83 0 4 #[35, 43, 51, 59, 75], 35) := by decide +kernel
theorem dX10_now_36 : decode cX10_now 36 = .ok (.aload_n 0, 1) := by decide +kernel
theorem dX10_now_37 : decode cX10_now 37 = .ok (.getfield 31, 3) := by decide +kernel
theorem dX10_now_40 : decode cX10_now 40 = .ok (.getfield 194, 3) := by decide +kernel
theorem dX10_now_43 : decode cX10_now 43 = .ok (.ireturn, 1) := by decide +kernel
theorem dX10_now_44 : decode cX10_now 44 = .ok (.aload_n 0, 1) := by decide +kernel
theorem dX10_now_45 : decode cX10_now 45 = .ok (.getfield 31, 3) := by decide +kernel
theorem dX10_now_48 : decode cX10_now 48 = .ok (.getfield 177, 3) := by decide +kernel
theorem dX10_now_51 : decode cX10_now 51 = .ok (.ireturn, 1) := by decide +kernel
theorem dX10_now_52 : decode cX10_now 52 = .ok (.aload_n 0, 1) := by decide +kernel
theorem dX10_now_53 : decode cX10_now 53 = .ok (.getfield 31, 3) := by decide +kernel
theorem dX10_now_56 : decode cX10_now 56 = .ok (.getfield 197, 3) := by decide +kernel
theorem dX10_now_59 : decode cX10_now 59 = .ok (.ireturn, 1) := by decide +kernel
theorem dX10_now_60 : decode cX10_now 60 = .ok (.aload_n 0, 1) := by decide +kernel
theorem dX10_now_61 : decode cX10_now 61 = .ok (.getfield 31, 3) := by decide +kernel
theorem dX10_now_64 : decode cX10_now 64 = .ok (.invokevirtual 180, 3) := by decide +kernel
theorem dX10_now_67 : decode cX10_now 67 = .ok (.ifCond .ne 7, 3) := by decide +kernel
theorem dX10_now_70 : decode cX10_now 70 = .ok (.iconst 1, 1) := by decide +kernel
theorem dX10_now_71 : decode cX10_now 71 = .ok (.goto 4, 3) := by decide +kernel
theorem dX10_now_74 : decode cX10_now 74 = .ok (.iconst 0, 1) := by decide +kernel
theorem dX10_now_75 : decode cX10_now 75 = .ok (.ireturn, 1) := by decide +kernel
theorem dX10_now_76 : decode cX10_now 76 = .ok (.aload_n 0, 1) := by decide +kernel
theorem dX10_now_77 : decode cX10_now 77 = .ok (.getfield 31, 3) := by decide +kernel
theorem dX10_now_80 : decode cX10_now 80 = .ok (.getfield 200, 3) := by decide +kernel
theorem dX10_now_83 : decode cX10_now 83 = .ok (.ireturn, 1) := by decide +kernel
theorem dX10_now_84 : decode cX10_now 84 = .ok (.iconst (-1), 1) := by decide +kernel
theorem dX10_now_85 : decode cX10_now 85 = .ok (.ireturn, 1) := by decide +kernel
theorem dX10_hand_0 : decode cX10_hand 0 = .ok (.aload_n 0, 1) := by decide +kernel
theorem dX10_hand_1 : decode cX10_hand 1 = .ok (.iload_n 1, 1) := by decide +kernel
theorem dX10_hand_2 : decode cX10_hand 2 = .ok (.invokevirtual 165, 3) := by decide +kernel
theorem dX10_hand_5 : decode cX10_hand 5 = .ok (.ifCond .ne 5, 3) := by decide +kernel
theorem dX10_hand_8 : decode cX10_hand 8 = .ok (.iconst (-1), 1) := by decide +kernel
theorem dX10_hand_9 : decode cX10_hand 9 = .ok (.ireturn, 1) := by decide +kernel
theorem dX10_hand_10 : decode cX10_hand 10 = .ok (.aload_n 0, 1) := by decide +kernel
theorem dX10_hand_11 : decode cX10_hand 11 = .ok (.getfield 31, 3) := by decide +kernel
theorem dX10_hand_14 : decode cX10_hand 14 = .ok (.getfield 203, 3) := by decide +kernel
theorem dX10_hand_17 : decode cX10_hand 17 = .ok (.iload_n 1, 1) := by decide +kernel
theorem dX10_hand_18 : decode cX10_hand 18 = .ok (.iaload, 1) := by decide +kernel
theorem dX10_hand_19 : decode cX10_hand 19 = .ok (.ifCond .lt 7, 3) := by decide +kernel
theorem dX10_hand_22 : decode cX10_hand 22 = .ok (.iconst 1, 1) := by decide +kernel
theorem dX10_hand_23 : decode cX10_hand 23 = .ok (.goto 4, 3) := by decide +kernel
theorem dX10_hand_26 : decode cX10_hand 26 = .ok (.iconst 0, 1) := by decide +kernel
theorem dX10_hand_27 : decode cX10_hand 27 = .ok (.istore_n 3, 1) := by decide +kernel
theorem dX10_hand_28 : decode cX10_hand 28 = .ok (.iload_n 2, 1) := by decide +kernel
theorem dX10_hand_29 : decode cX10_hand 29 = .ok (.tableswitch 126 0 5 #[39, 49, 59, 78, 97, 116], 39) := by decide +kernel
theorem dX10_hand_68 : decode cX10_hand 68 = .ok (.aload_n 0, 1) := by decide +kernel
theorem dX10_hand_69 : decode cX10_hand 69 = .ok (.getfield 31, 3) := by decide +kernel
theorem dX10_hand_72 : decode cX10_hand 72 = .ok (.getfield 206, 3) := by decide +kernel
theorem dX10_hand_75 : decode cX10_hand 75 = .ok (.iload_n 1, 1) := by decide +kernel
theorem dX10_hand_76 : decode cX10_hand 76 = .ok (.iaload, 1) := by decide +kernel
theorem dX10_hand_77 : decode cX10_hand 77 = .ok (.ireturn, 1) := by decide +kernel
theorem dX10_hand_78 : decode cX10_hand 78 = .ok (.aload_n 0, 1) := by decide +kernel
theorem dX10_hand_79 : decode cX10_hand 79 = .ok (.getfield 31, 3) := by decide +kernel
theorem dX10_hand_82 : decode cX10_hand 82 = .ok (.getfield 209, 3) := by decide +kernel
theorem dX10_hand_85 : decode cX10_hand 85 = .ok (.iload_n 1, 1) := by decide +kernel
theorem dX10_hand_86 : decode cX10_hand 86 = .ok (.iaload, 1) := by decide +kernel
theorem dX10_hand_87 : decode cX10_hand 87 = .ok (.ireturn, 1) := by decide +kernel
theorem dX10_hand_88 : decode cX10_hand 88 = .ok (.iload_n 3, 1) := by decide +kernel
theorem dX10_hand_89 : decode cX10_hand 89 = .ok (.ifCond .eq 15, 3) := by decide +kernel
theorem dX10_hand_92 : decode cX10_hand 92 = .ok (.aload_n 0, 1) := by decide +kernel
theorem dX10_hand_93 : decode cX10_hand 93 = .ok (.getfield 31, 3) := by decide +kernel
theorem dX10_hand_96 : decode cX10_hand 96 = .ok (.getfield 203, 3) := by decide +kernel
theorem dX10_hand_99 : decode cX10_hand 99 = .ok (.iload_n 1, 1) := by decide +kernel
theorem dX10_hand_100 : decode cX10_hand 100 = .ok (.iaload, 1) := by decide +kernel
theorem dX10_hand_101 : decode cX10_hand 101 = .ok (.goto 5, 3) := by decide +kernel
theorem dX10_hand_104 : decode cX10_hand 104 = .ok (.bipush (-4), 2) := by decide +kernel
theorem dX10_hand_106 : decode cX10_hand 106 = .ok (.ireturn, 1) := by decide +kernel
theorem dX10_hand_107 : decode cX10_hand 107 = .ok (.iload_n 3, 1) := by decide +kernel
theorem dX10_hand_108 : decode cX10_hand 108 = .ok (.ifCond .eq 15, 3) := by decide +kernel
theorem dX10_hand_111 : decode cX10_hand 111 = .ok (.aload_n 0, 1) := by decide +kernel
theorem dX10_hand_112 : decode cX10_hand 112 = .ok (.getfield 31, 3) := by decide +kernel
theorem dX10_hand_115 : decode cX10_hand 115 = .ok (.getfield 212, 3) := by decide +kernel
theorem dX10_hand_118 : decode cX10_hand 118 = .ok (.iload_n 1, 1) := by decide +kernel
theorem dX10_hand_119 : decode cX10_hand 119 = .ok (.iaload, 1) := by decide +kernel
theorem dX10_hand_120 : decode cX10_hand 120 = .ok (.goto 5, 3) := by decide +kernel
theorem dX10_hand_123 : decode cX10_hand 123 = .ok (.bipush (-4), 2) := by decide +kernel
theorem dX10_hand_125 : decode cX10_hand 125 = .ok (.ireturn, 1) := by decide +kernel
theorem dX10_hand_126 : decode cX10_hand 126 = .ok (.iload_n 3, 1) := by decide +kernel
theorem dX10_hand_127 : decode cX10_hand 127 = .ok (.ifCond .eq 15, 3) := by decide +kernel
theorem dX10_hand_130 : decode cX10_hand 130 = .ok (.aload_n 0, 1) := by decide +kernel
theorem dX10_hand_131 : decode cX10_hand 131 = .ok (.getfield 31, 3) := by decide +kernel
theorem dX10_hand_134 : decode cX10_hand 134 = .ok (.getfield 215, 3) := by decide +kernel
theorem dX10_hand_137 : decode cX10_hand 137 = .ok (.iload_n 1, 1) := by decide +kernel
theorem dX10_hand_138 : decode cX10_hand 138 = .ok (.iaload, 1) := by decide +kernel
theorem dX10_hand_139 : decode cX10_hand 139 = .ok (.goto 5, 3) := by decide +kernel
theorem dX10_hand_142 : decode cX10_hand 142 = .ok (.bipush (-4), 2) := by decide +kernel
theorem dX10_hand_144 : decode cX10_hand 144 = .ok (.ireturn, 1) := by decide +kernel
theorem dX10_hand_145 : decode cX10_hand 145 = .ok (.aload_n 0, 1) := by decide +kernel
theorem dX10_hand_146 : decode cX10_hand 146 = .ok (.getfield 31, 3) := by decide +kernel
theorem dX10_hand_149 : decode cX10_hand 149 = .ok (.getfield 218, 3) := by decide +kernel
theorem dX10_hand_152 : decode cX10_hand 152 = .ok (.iload_n 1, 1) := by decide +kernel
theorem dX10_hand_153 : decode cX10_hand 153 = .ok (.iaload, 1) := by decide +kernel
theorem dX10_hand_154 : decode cX10_hand 154 = .ok (.ireturn, 1) := by decide +kernel
theorem dX10_hand_155 : decode cX10_hand 155 = .ok (.iconst (-1), 1) := by decide +kernel
theorem dX10_hand_156 : decode cX10_hand 156 = .ok (.ireturn, 1) := by decide +kernel
theorem dX10_learnt_0 : decode cX10_learnt 0 = .ok (.aload_n 0, 1) := by decide +kernel
theorem dX10_learnt_1 : decode cX10_learnt 1 = .ok (.iload_n 1, 1) := by decide +kernel
theorem dX10_learnt_2 : decode cX10_learnt 2 = .ok (.invokevirtual 165, 3) := by decide +kernel
theorem dX10_learnt_5 : decode cX10_learnt 5 = .ok (.ifCond .eq 11, 3) := by decide +kernel
theorem dX10_learnt_8 : decode cX10_learnt 8 = .ok (.aload_n 0, 1) := by decide +kernel
theorem dX10_learnt_9 : decode cX10_learnt 9 = .ok (.iload_n 2, 1) := by decide +kernel
theorem dX10_learnt_10 : decode cX10_learnt 10 = .ok (.invokevirtual 157, 3) := by decide +kernel
