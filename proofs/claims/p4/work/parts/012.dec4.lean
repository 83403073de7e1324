theorem dX11_mayBegin_18 : decode cX11_mayBegin 18 = .ok (.iconst 1, 1) := by decide +kernel
theorem dX11_mayBegin_19 : decode cX11_mayBegin 19 = .ok (.ireturn, 1) := by decide +kernel
theorem dX11_mayBegin_20 : decode cX11_mayBegin 20 = .ok (.aload_n 0, 1) := by decide +kernel
theorem dX11_mayBegin_21 : decode cX11_mayBegin 21 = .ok (.getfield 192, 3) := by decide +kernel
theorem dX11_mayBegin_24 : decode cX11_mayBegin 24 = .ok (.ifCond .eq 13, 3) := by decide +kernel
theorem dX11_mayBegin_27 : decode cX11_mayBegin 27 = .ok (.iload_n 3, 1) := by decide +kernel
theorem dX11_mayBegin_28 : decode cX11_mayBegin 28 = .ok (.aload_n 0, 1) := by decide +kernel
theorem dX11_mayBegin_29 : decode cX11_mayBegin 29 = .ok (.getfield 35, 3) := by decide +kernel
theorem dX11_mayBegin_32 : decode cX11_mayBegin 32 = .ok (.iload_n 2, 1) := by decide +kernel
theorem dX11_mayBegin_33 : decode cX11_mayBegin 33 = .ok (.iaload, 1) := by decide +kernel
theorem dX11_mayBegin_34 : decode cX11_mayBegin 34 = .ok (.if_icmp .ge 7, 3) := by decide +kernel
theorem dX11_mayBegin_37 : decode cX11_mayBegin 37 = .ok (.iconst 1, 1) := by decide +kernel
theorem dX11_mayBegin_38 : decode cX11_mayBegin 38 = .ok (.goto 4, 3) := by decide +kernel
theorem dX11_mayBegin_41 : decode cX11_mayBegin 41 = .ok (.iconst 0, 1) := by decide +kernel
theorem dX11_mayBegin_42 : decode cX11_mayBegin 42 = .ok (.istore 4, 2) := by decide +kernel
theorem dX11_mayBegin_44 : decode cX11_mayBegin 44 = .ok (.aload_n 0, 1) := by decide +kernel
theorem dX11_mayBegin_45 : decode cX11_mayBegin 45 = .ok (.iload_n 1, 1) := by decide +kernel
theorem dX11_mayBegin_46 : decode cX11_mayBegin 46 = .ok (.iload_n 2, 1) := by decide +kernel
theorem dX11_mayBegin_47 : decode cX11_mayBegin 47 = .ok (.iconst 1, 1) := by decide +kernel
theorem dX11_mayBegin_48 : decode cX11_mayBegin 48 = .ok (.iadd, 1) := by decide +kernel
theorem dX11_mayBegin_49 : decode cX11_mayBegin 49 = .ok (.iconst 2, 1) := by decide +kernel
theorem dX11_mayBegin_50 : decode cX11_mayBegin 50 = .ok (.invokevirtual 195, 3) := by decide +kernel
theorem dX11_mayBegin_53 : decode cX11_mayBegin 53 = .ok (.istore 5, 2) := by decide +kernel
theorem dX11_mayBegin_55 : decode cX11_mayBegin 55 = .ok (.iload 4, 2) := by decide +kernel
theorem dX11_mayBegin_57 : decode cX11_mayBegin 57 = .ok (.ifCond .eq 45, 3) := by decide +kernel
theorem dX11_mayBegin_60 : decode cX11_mayBegin 60 = .ok (.iload 5, 2) := by decide +kernel
theorem dX11_mayBegin_62 : decode cX11_mayBegin 62 = .ok (.bipush (-4), 2) := by decide +kernel
theorem dX11_mayBegin_64 : decode cX11_mayBegin 64 = .ok (.if_icmp .eq 34, 3) := by decide +kernel
theorem dX11_mayBegin_67 : decode cX11_mayBegin 67 = .ok (.iload 5, 2) := by decide +kernel
theorem dX11_mayBegin_69 : decode cX11_mayBegin 69 = .ok (.iload_n 3, 1) := by decide +kernel
theorem dX11_mayBegin_70 : decode cX11_mayBegin 70 = .ok (.if_icmp .gt 28, 3) := by decide +kernel
theorem dX11_mayBegin_73 : decode cX11_mayBegin 73 = .ok (.iload 5, 2) := by decide +kernel
theorem dX11_mayBegin_75 : decode cX11_mayBegin 75 = .ok (.iload_n 3, 1) := by decide +kernel
theorem dX11_mayBegin_76 : decode cX11_mayBegin 76 = .ok (.if_icmp .ne 26, 3) := by decide +kernel
theorem dX11_mayBegin_79 : decode cX11_mayBegin 79 = .ok (.aload_n 0, 1) := by decide +kernel
theorem dX11_mayBegin_80 : decode cX11_mayBegin 80 = .ok (.iload_n 1, 1) := by decide +kernel
theorem dX11_mayBegin_81 : decode cX11_mayBegin 81 = .ok (.iload_n 2, 1) := by decide +kernel
theorem dX11_mayBegin_82 : decode cX11_mayBegin 82 = .ok (.iconst 1, 1) := by decide +kernel
theorem dX11_mayBegin_83 : decode cX11_mayBegin 83 = .ok (.iadd, 1) := by decide +kernel
theorem dX11_mayBegin_84 : decode cX11_mayBegin 84 = .ok (.iconst 3, 1) := by decide +kernel
theorem dX11_mayBegin_85 : decode cX11_mayBegin 85 = .ok (.invokevirtual 195, 3) := by decide +kernel
theorem dX11_mayBegin_88 : decode cX11_mayBegin 88 = .ok (.aload_n 0, 1) := by decide +kernel
theorem dX11_mayBegin_89 : decode cX11_mayBegin 89 = .ok (.iload_n 1, 1) := by decide +kernel
theorem dX11_mayBegin_90 : decode cX11_mayBegin 90 = .ok (.iload_n 2, 1) := by decide +kernel
theorem dX11_mayBegin_91 : decode cX11_mayBegin 91 = .ok (.iconst 3, 1) := by decide +kernel
theorem dX11_mayBegin_92 : decode cX11_mayBegin 92 = .ok (.invokevirtual 195, 3) := by decide +kernel
theorem dX11_mayBegin_95 : decode cX11_mayBegin 95 = .ok (.if_icmp .le 7, 3) := by decide +kernel
theorem dX11_mayBegin_98 : decode cX11_mayBegin 98 = .ok (.iconst 1, 1) := by decide +kernel
theorem dX11_mayBegin_99 : decode cX11_mayBegin 99 = .ok (.goto 4, 3) := by decide +kernel
theorem dX11_mayBegin_102 : decode cX11_mayBegin 102 = .ok (.iconst 0, 1) := by decide +kernel
theorem dX11_mayBegin_103 : decode cX11_mayBegin 103 = .ok (.ireturn, 1) := by decide +kernel
theorem dX11_does_0 : decode cX11_does 0 = .ok (.aload_n 0, 1) := by decide +kernel
theorem dX11_does_1 : decode cX11_does 1 = .ok (.iload_n 1, 1) := by decide +kernel
theorem dX11_does_2 : decode cX11_does 2 = .ok (.iload_n 2, 1) := by decide +kernel
theorem dX11_does_3 : decode cX11_does 3 = .ok (.iconst 0, 1) := by decide +kernel
theorem dX11_does_4 : decode cX11_does 4 = .ok (.invokevirtual 195, 3) := by decide +kernel
theorem dX11_does_7 : decode cX11_does 7 = .ok (.istore_n 3, 1) := by decide +kernel
theorem dX11_does_8 : decode cX11_does 8 = .ok (.iload_n 3, 1) := by decide +kernel
theorem dX11_does_9 : decode cX11_does 9 = .ok (.iconst 3, 1) := by decide +kernel
theorem dX11_does_10 : decode cX11_does 10 = .ok (.if_icmp .ne 21, 3) := by decide +kernel
theorem dX11_does_13 : decode cX11_does 13 = .ok (.aload_n 0, 1) := by decide +kernel
theorem dX11_does_14 : decode cX11_does 14 = .ok (.iload_n 1, 1) := by decide +kernel
theorem dX11_does_15 : decode cX11_does 15 = .ok (.iload_n 2, 1) := by decide +kernel
theorem dX11_does_16 : decode cX11_does 16 = .ok (.iconst 1, 1) := by decide +kernel
theorem dX11_does_17 : decode cX11_does 17 = .ok (.invokevirtual 195, 3) := by decide +kernel
theorem dX11_does_20 : decode cX11_does 20 = .ok (.ifCond .ne 11, 3) := by decide +kernel
theorem dX11_does_23 : decode cX11_does 23 = .ok (.aload_n 0, 1) := by decide +kernel
theorem dX11_does_24 : decode cX11_does 24 = .ok (.iload_n 1, 1) := by decide +kernel
theorem dX11_does_25 : decode cX11_does 25 = .ok (.iload_n 2, 1) := by decide +kernel
theorem dX11_does_26 : decode cX11_does 26 = .ok (.invokevirtual 221, 3) := by decide +kernel
theorem dX11_does_29 : decode cX11_does 29 = .ok (.iconst 1, 1) := by decide +kernel
theorem dX11_does_30 : decode cX11_does 30 = .ok (.ireturn, 1) := by decide +kernel
theorem dX11_does_31 : decode cX11_does 31 = .ok (.iload_n 3, 1) := by decide +kernel
theorem dX11_does_32 : decode cX11_does 32 = .ok (.ifCond .ne 91, 3) := by decide +kernel
theorem dX11_does_35 : decode cX11_does 35 = .ok (.iload_n 2, 1) := by decide +kernel
theorem dX11_does_36 : decode cX11_does 36 = .ok (.ifCond .ne 87, 3) := by decide +kernel
theorem dX11_does_39 : decode cX11_does 39 = .ok (.aload_n 0, 1) := by decide +kernel
theorem dX11_does_40 : decode cX11_does 40 = .ok (.getfield 19, 3) := by decide +kernel
theorem dX11_does_43 : decode cX11_does 43 = .ok (.bipush 10, 2) := by decide +kernel
theorem dX11_does_45 : decode cX11_does 45 = .ok (.aload_n 0, 1) := by decide +kernel
theorem dX11_does_46 : decode cX11_does 46 = .ok (.iload_n 1, 1) := by decide +kernel
theorem dX11_does_47 : decode cX11_does 47 = .ok (.iconst 4, 1) := by decide +kernel
theorem dX11_does_48 : decode cX11_does 48 = .ok (.invokevirtual 218, 3) := by decide +kernel
theorem dX11_does_51 : decode cX11_does 51 = .ok (.iadd, 1) := by decide +kernel
theorem dX11_does_52 : decode cX11_does 52 = .ok (.iaload, 1) := by decide +kernel
theorem dX11_does_53 : decode cX11_does 53 = .ok (.istore 4, 2) := by decide +kernel
theorem dX11_does_55 : decode cX11_does 55 = .ok (.aload_n 0, 1) := by decide +kernel
theorem dX11_does_56 : decode cX11_does 56 = .ok (.iload_n 1, 1) := by decide +kernel
theorem dX11_does_57 : decode cX11_does 57 = .ok (.iload_n 2, 1) := by decide +kernel
theorem dX11_does_58 : decode cX11_does 58 = .ok (.iconst 0, 1) := by decide +kernel
theorem dX11_does_59 : decode cX11_does 59 = .ok (.iconst 2, 1) := by decide +kernel
theorem dX11_does_60 : decode cX11_does 60 = .ok (.invokevirtual 201, 3) := by decide +kernel
theorem dX11_does_63 : decode cX11_does 63 = .ok (.aload_n 0, 1) := by decide +kernel
theorem dX11_does_64 : decode cX11_does 64 = .ok (.iload_n 1, 1) := by decide +kernel
theorem dX11_does_65 : decode cX11_does 65 = .ok (.iload_n 2, 1) := by decide +kernel
theorem dX11_does_66 : decode cX11_does 66 = .ok (.iconst 4, 1) := by decide +kernel
theorem dX11_does_67 : decode cX11_does 67 = .ok (.iload 4, 2) := by decide +kernel
theorem dX11_does_69 : decode cX11_does 69 = .ok (.invokevirtual 201, 3) := by decide +kernel
theorem dX11_does_72 : decode cX11_does 72 = .ok (.aload_n 0, 1) := by decide +kernel
theorem dX11_does_73 : decode cX11_does 73 = .ok (.iload_n 1, 1) := by decide +kernel
theorem dX11_does_74 : decode cX11_does 74 = .ok (.iload_n 2, 1) := by decide +kernel
theorem dX11_does_75 : decode cX11_does 75 = .ok (.iconst 2, 1) := by decide +kernel
theorem dX11_does_76 : decode cX11_does 76 = .ok (.aload_n 0, 1) := by decide +kernel
theorem dX11_does_77 : decode cX11_does 77 = .ok (.iload 4, 2) := by decide +kernel
theorem dX11_does_79 : decode cX11_does 79 = .ok (.iconst 0, 1) := by decide +kernel
theorem dX11_does_80 : decode cX11_does 80 = .ok (.invokevirtual 204, 3) := by decide +kernel
theorem dX11_does_83 : decode cX11_does 83 = .ok (.invokevirtual 201, 3) := by decide +kernel
theorem dX11_does_86 : decode cX11_does 86 = .ok (.aload_n 0, 1) := by decide +kernel
theorem dX11_does_87 : decode cX11_does 87 = .ok (.iload_n 1, 1) := by decide +kernel
theorem dX11_does_88 : decode cX11_does 88 = .ok (.iload_n 2, 1) := by decide +kernel
theorem dX11_does_89 : decode cX11_does 89 = .ok (.iconst 3, 1) := by decide +kernel
theorem dX11_does_90 : decode cX11_does 90 = .ok (.iconst 0, 1) := by decide +kernel
theorem dX11_does_91 : decode cX11_does 91 = .ok (.invokevirtual 201, 3) := by decide +kernel
theorem dX11_does_94 : decode cX11_does 94 = .ok (.aload_n 0, 1) := by decide +kernel
theorem dX11_does_95 : decode cX11_does 95 = .ok (.getfield 25, 3) := by decide +kernel
theorem dX11_does_98 : decode cX11_does 98 = .ok (.bipush 96, 2) := by decide +kernel
theorem dX11_does_100 : decode cX11_does 100 = .ok (.iload_n 1, 1) := by decide +kernel
theorem dX11_does_101 : decode cX11_does 101 = .ok (.imul, 1) := by decide +kernel
theorem dX11_does_102 : decode cX11_does 102 = .ok (.iconst 4, 1) := by decide +kernel
theorem dX11_does_103 : decode cX11_does 103 = .ok (.iadd, 1) := by decide +kernel
theorem dX11_does_104 : decode cX11_does 104 = .ok (.aload_n 0, 1) := by decide +kernel
theorem dX11_does_105 : decode cX11_does 105 = .ok (.iload_n 1, 1) := by decide +kernel
theorem dX11_does_106 : decode cX11_does 106 = .ok (.iconst 4, 1) := by decide +kernel
theorem dX11_does_107 : decode cX11_does 107 = .ok (.invokevirtual 218, 3) := by decide +kernel
theorem dX11_does_110 : decode cX11_does 110 = .ok (.iconst 1, 1) := by decide +kernel
theorem dX11_does_111 : decode cX11_does 111 = .ok (.iadd, 1) := by decide +kernel
theorem dX11_does_112 : decode cX11_does 112 = .ok (.aload_n 0, 1) := by decide +kernel
theorem dX11_does_113 : decode cX11_does 113 = .ok (.getfield 19, 3) := by decide +kernel
theorem dX11_does_116 : decode cX11_does 116 = .ok (.bipush 6, 2) := by decide +kernel
theorem dX11_does_118 : decode cX11_does 118 = .ok (.iaload, 1) := by decide +kernel
theorem dX11_does_119 : decode cX11_does 119 = .ok (.irem, 1) := by decide +kernel
theorem dX11_does_120 : decode cX11_does 120 = .ok (.iastore, 1) := by decide +kernel
theorem dX11_does_121 : decode cX11_does 121 = .ok (.iconst 1, 1) := by decide +kernel
theorem dX11_does_122 : decode cX11_does 122 = .ok (.ireturn, 1) := by decide +kernel
theorem dX11_does_123 : decode cX11_does 123 = .ok (.iload_n 3, 1) := by decide +kernel
theorem dX11_does_124 : decode cX11_does 124 = .ok (.ifCond .ne 10, 3) := by decide +kernel
theorem dX11_does_127 : decode cX11_does 127 = .ok (.aload_n 0, 1) := by decide +kernel
theorem dX11_does_128 : decode cX11_does 128 = .ok (.iload_n 1, 1) := by decide +kernel
theorem dX11_does_129 : decode cX11_does 129 = .ok (.iload_n 2, 1) := by decide +kernel
theorem dX11_does_130 : decode cX11_does 130 = .ok (.invokevirtual 225, 3) := by decide +kernel
theorem dX11_does_133 : decode cX11_does 133 = .ok (.ireturn, 1) := by decide +kernel
theorem dX11_does_134 : decode cX11_does 134 = .ok (.iload_n 3, 1) := by decide +kernel
theorem dX11_does_135 : decode cX11_does 135 = .ok (.iconst 2, 1) := by decide +kernel
theorem dX11_does_136 : decode cX11_does 136 = .ok (.if_icmp .ne 47, 3) := by decide +kernel
theorem dX11_does_139 : decode cX11_does 139 = .ok (.aload_n 0, 1) := by decide +kernel
theorem dX11_does_140 : decode cX11_does 140 = .ok (.iload_n 1, 1) := by decide +kernel
theorem dX11_does_141 : decode cX11_does 141 = .ok (.iload_n 2, 1) := by decide +kernel
theorem dX11_does_142 : decode cX11_does 142 = .ok (.invokevirtual 228, 3) := by decide +kernel
theorem dX11_does_145 : decode cX11_does 145 = .ok (.ifCond .eq 38, 3) := by decide +kernel
theorem dX11_does_148 : decode cX11_does 148 = .ok (.aload_n 0, 1) := by decide +kernel
theorem dX11_does_149 : decode cX11_does 149 = .ok (.iload_n 1, 1) := by decide +kernel
theorem dX11_does_150 : decode cX11_does 150 = .ok (.iload_n 2, 1) := by decide +kernel
theorem dX11_does_151 : decode cX11_does 151 = .ok (.iconst 0, 1) := by decide +kernel
theorem dX11_does_152 : decode cX11_does 152 = .ok (.iconst 3, 1) := by decide +kernel
theorem dX11_does_153 : decode cX11_does 153 = .ok (.invokevirtual 201, 3) := by decide +kernel
theorem dX11_does_156 : decode cX11_does 156 = .ok (.aload_n 0, 1) := by decide +kernel
theorem dX11_does_157 : decode cX11_does 157 = .ok (.iload_n 1, 1) := by decide +kernel
theorem dX11_does_158 : decode cX11_does 158 = .ok (.iload_n 2, 1) := by decide +kernel
theorem dX11_does_159 : decode cX11_does 159 = .ok (.iconst 1, 1) := by decide +kernel
theorem dX11_does_160 : decode cX11_does 160 = .ok (.aload_n 0, 1) := by decide +kernel
theorem dX11_does_161 : decode cX11_does 161 = .ok (.iload_n 1, 1) := by decide +kernel
theorem dX11_does_162 : decode cX11_does 162 = .ok (.aload_n 0, 1) := by decide +kernel
theorem dX11_does_163 : decode cX11_does 163 = .ok (.getfield 32, 3) := by decide +kernel
theorem dX11_does_166 : decode cX11_does 166 = .ok (.iload_n 2, 1) := by decide +kernel
theorem dX11_does_167 : decode cX11_does 167 = .ok (.iaload, 1) := by decide +kernel
theorem dX11_does_168 : decode cX11_does 168 = .ok (.aload_n 0, 1) := by decide +kernel
theorem dX11_does_169 : decode cX11_does 169 = .ok (.iload_n 1, 1) := by decide +kernel
theorem dX11_does_170 : decode cX11_does 170 = .ok (.iload_n 2, 1) := by decide +kernel
theorem dX11_does_171 : decode cX11_does 171 = .ok (.iconst 2, 1) := by decide +kernel
theorem dX11_does_172 : decode cX11_does 172 = .ok (.invokevirtual 195, 3) := by decide +kernel
theorem dX11_does_175 : decode cX11_does 175 = .ok (.invokevirtual 231, 3) := by decide +kernel
theorem dX11_does_178 : decode cX11_does 178 = .ok (.invokevirtual 201, 3) := by decide +kernel
theorem dX11_does_181 : decode cX11_does 181 = .ok (.iconst 1, 1) := by decide +kernel
theorem dX11_does_182 : decode cX11_does 182 = .ok (.ireturn, 1) := by decide +kernel
theorem dX11_does_183 : decode cX11_does 183 = .ok (.iconst 0, 1) := by decide +kernel
theorem dX11_does_184 : decode cX11_does 184 = .ok (.ireturn, 1) := by decide +kernel
theorem dX11_settle_0 : decode cX11_settle 0 = .ok (.iconst 1, 1) := by decide +kernel
theorem dX11_settle_1 : decode cX11_settle 1 = .ok (.istore_n 2, 1) := by decide +kernel
theorem dX11_settle_2 : decode cX11_settle 2 = .ok (.iload_n 2, 1) := by decide +kernel
theorem dX11_settle_3 : decode cX11_settle 3 = .ok (.ifCond .eq 44, 3) := by decide +kernel
theorem dX11_settle_6 : decode cX11_settle 6 = .ok (.iconst 0, 1) := by decide +kernel
theorem dX11_settle_7 : decode cX11_settle 7 = .ok (.istore_n 2, 1) := by decide +kernel
theorem dX11_settle_8 : decode cX11_settle 8 = .ok (.aload_n 0, 1) := by decide +kernel
theorem dX11_settle_9 : decode cX11_settle 9 = .ok (.getfield 189, 3) := by decide +kernel
theorem dX11_settle_12 : decode cX11_settle 12 = .ok (.iconst 1, 1) := by decide +kernel
theorem dX11_settle_13 : decode cX11_settle 13 = .ok (.isub, 1) := by decide +kernel
theorem dX11_settle_14 : decode cX11_settle 14 = .ok (.istore_n 3, 1) := by decide +kernel
theorem dX11_settle_15 : decode cX11_settle 15 = .ok (.iload_n 3, 1) := by decide +kernel
theorem dX11_settle_16 : decode cX11_settle 16 = .ok (.ifCond .lt 28, 3) := by decide +kernel
theorem dX11_settle_19 : decode cX11_settle 19 = .ok (.aload_n 0, 1) := by decide +kernel
theorem dX11_settle_20 : decode cX11_settle 20 = .ok (.iload_n 1, 1) := by decide +kernel
theorem dX11_settle_21 : decode cX11_settle 21 = .ok (.iload_n 3, 1) := by decide +kernel
theorem dX11_settle_22 : decode cX11_settle 22 = .ok (.invokevirtual 234, 3) := by decide +kernel
theorem dX11_settle_25 : decode cX11_settle 25 = .ok (.ifCond .ne 7, 3) := by decide +kernel
theorem dX11_settle_28 : decode cX11_settle 28 = .ok (.iload_n 2, 1) := by decide +kernel
theorem dX11_settle_29 : decode cX11_settle 29 = .ok (.ifCond .eq 7, 3) := by decide +kernel
theorem dX11_settle_32 : decode cX11_settle 32 = .ok (.iconst 1, 1) := by decide +kernel
theorem dX11_settle_33 : decode cX11_settle 33 = .ok (.goto 4, 3) := by decide +kernel
theorem dX11_settle_36 : decode cX11_settle 36 = .ok (.iconst 0, 1) := by decide +kernel
theorem dX11_settle_37 : decode cX11_settle 37 = .ok (.istore_n 2, 1) := by decide +kernel
theorem dX11_settle_38 : decode cX11_settle 38 = .ok (.iinc 3 (-1), 3) := by decide +kernel
theorem dX11_settle_41 : decode cX11_settle 41 = .ok (.goto (-26), 3) := by decide +kernel
theorem dX11_settle_44 : decode cX11_settle 44 = .ok (.goto (-42), 3) := by decide +kernel
theorem dX11_settle_47 : decode cX11_settle 47 = .ok (.aload_n 0, 1) := by decide +kernel
theorem dX11_settle_48 : decode cX11_settle 48 = .ok (.getfield 25, 3) := by decide +kernel
theorem dX11_settle_51 : decode cX11_settle 51 = .ok (.bipush 96, 2) := by decide +kernel
theorem dX11_settle_53 : decode cX11_settle 53 = .ok (.iload_n 1, 1) := by decide +kernel
theorem dX11_settle_54 : decode cX11_settle 54 = .ok (.imul, 1) := by decide +kernel
theorem dX11_settle_55 : decode cX11_settle 55 = .ok (.iconst 3, 1) := by decide +kernel
theorem dX11_settle_56 : decode cX11_settle 56 = .ok (.iadd, 1) := by decide +kernel
theorem dX11_settle_57 : decode cX11_settle 57 = .ok (.aload_n 0, 1) := by decide +kernel
theorem dX11_settle_58 : decode cX11_settle 58 = .ok (.iload_n 1, 1) := by decide +kernel
theorem dX11_settle_59 : decode cX11_settle 59 = .ok (.invokevirtual 237, 3) := by decide +kernel
theorem dX11_settle_62 : decode cX11_settle 62 = .ok (.ifCond .ne 7, 3) := by decide +kernel
theorem dX11_settle_65 : decode cX11_settle 65 = .ok (.iconst 1, 1) := by decide +kernel
theorem dX11_settle_66 : decode cX11_settle 66 = .ok (.goto 4, 3) := by decide +kernel
theorem dX11_settle_69 : decode cX11_settle 69 = .ok (.iconst 0, 1) := by decide +kernel
theorem dX11_settle_70 : decode cX11_settle 70 = .ok (.iastore, 1) := by decide +kernel
theorem dX11_settle_71 : decode cX11_settle 71 = .ok (.return_, 1) := by decide +kernel
theorem dX11_least_0 : decode cX11_least 0 = .ok (.iconst 0, 1) := by decide +kernel
theorem dX11_least_1 : decode cX11_least 1 = .ok (.istore_n 2, 1) := by decide +kernel
theorem dX11_least_2 : decode cX11_least 2 = .ok (.iconst 0, 1) := by decide +kernel
theorem dX11_least_3 : decode cX11_least 3 = .ok (.istore_n 3, 1) := by decide +kernel
theorem dX11_least_4 : decode cX11_least 4 = .ok (.iload_n 3, 1) := by decide +kernel
theorem dX11_least_5 : decode cX11_least 5 = .ok (.aload_n 0, 1) := by decide +kernel
theorem dX11_least_6 : decode cX11_least 6 = .ok (.getfield 189, 3) := by decide +kernel
theorem dX11_least_9 : decode cX11_least 9 = .ok (.if_icmp .ge 66, 3) := by decide +kernel
theorem dX11_least_12 : decode cX11_least 12 = .ok (.aload_n 0, 1) := by decide +kernel
theorem dX11_least_13 : decode cX11_least 13 = .ok (.iload_n 1, 1) := by decide +kernel
theorem dX11_least_14 : decode cX11_least 14 = .ok (.iload_n 3, 1) := by decide +kernel
theorem dX11_least_15 : decode cX11_least 15 = .ok (.iconst 0, 1) := by decide +kernel
theorem dX11_least_16 : decode cX11_least 16 = .ok (.invokevirtual 195, 3) := by decide +kernel
theorem dX11_least_19 : decode cX11_least 19 = .ok (.iconst 3, 1) := by decide +kernel
theorem dX11_least_20 : decode cX11_least 20 = .ok (.if_icmp .eq 14, 3) := by decide +kernel
theorem dX11_least_23 : decode cX11_least 23 = .ok (.aload_n 0, 1) := by decide +kernel
theorem dX11_least_24 : decode cX11_least 24 = .ok (.iload_n 1, 1) := by decide +kernel
theorem dX11_least_25 : decode cX11_least 25 = .ok (.iload_n 3, 1) := by decide +kernel
theorem dX11_least_26 : decode cX11_least 26 = .ok (.iconst 0, 1) := by decide +kernel
theorem dX11_least_27 : decode cX11_least 27 = .ok (.invokevirtual 195, 3) := by decide +kernel
theorem dX11_least_30 : decode cX11_least 30 = .ok (.iconst 1, 1) := by decide +kernel
theorem dX11_least_31 : decode cX11_least 31 = .ok (.if_icmp .ne 13, 3) := by decide +kernel
theorem dX11_least_34 : decode cX11_least 34 = .ok (.aload_n 0, 1) := by decide +kernel
theorem dX11_least_35 : decode cX11_least 35 = .ok (.iload_n 1, 1) := by decide +kernel
theorem dX11_least_36 : decode cX11_least 36 = .ok (.iload_n 3, 1) := by decide +kernel
theorem dX11_least_37 : decode cX11_least 37 = .ok (.iconst 1, 1) := by decide +kernel
theorem dX11_least_38 : decode cX11_least 38 = .ok (.invokevirtual 195, 3) := by decide +kernel
theorem dX11_least_41 : decode cX11_least 41 = .ok (.goto 4, 3) := by decide +kernel
theorem dX11_least_44 : decode cX11_least 44 = .ok (.iconst 0, 1) := by decide +kernel
theorem dX11_least_45 : decode cX11_least 45 = .ok (.istore 4, 2) := by decide +kernel
theorem dX11_least_47 : decode cX11_least 47 = .ok (.iload 4, 2) := by decide +kernel
theorem dX11_least_49 : decode cX11_least 49 = .ok (.ifCond .le 18, 3) := by decide +kernel
theorem dX11_least_52 : decode cX11_least 52 = .ok (.iload_n 2, 1) := by decide +kernel
theorem dX11_least_53 : decode cX11_least 53 = .ok (.ifCond .eq 9, 3) := by decide +kernel
theorem dX11_least_56 : decode cX11_least 56 = .ok (.iload 4, 2) := by decide +kernel
theorem dX11_least_58 : decode cX11_least 58 = .ok (.iload_n 2, 1) := by decide +kernel
theorem dX11_least_59 : decode cX11_least 59 = .ok (.if_icmp .ge 8, 3) := by decide +kernel
theorem dX11_least_62 : decode cX11_least 62 = .ok (.iload 4, 2) := by decide +kernel
theorem dX11_least_64 : decode cX11_least 64 = .ok (.goto 4, 3) := by decide +kernel
theorem dX11_least_67 : decode cX11_least 67 = .ok (.iload_n 2, 1) := by decide +kernel
theorem dX11_least_68 : decode cX11_least 68 = .ok (.istore_n 2, 1) := by decide +kernel
theorem dX11_least_69 : decode cX11_least 69 = .ok (.iinc 3 1, 3) := by decide +kernel
theorem dX11_least_72 : decode cX11_least 72 = .ok (.goto (-68), 3) := by decide +kernel
theorem dX11_least_75 : decode cX11_least 75 = .ok (.iload_n 2, 1) := by decide +kernel
theorem dX11_least_76 : decode cX11_least 76 = .ok (.ireturn, 1) := by decide +kernel
theorem dX11_pass_0 : decode cX11_pass 0 = .ok (.iconst 0, 1) := by decide +kernel
theorem dX11_pass_1 : decode cX11_pass 1 = .ok (.istore_n 3, 1) := by decide +kernel
theorem dX11_pass_2 : decode cX11_pass 2 = .ok (.iload_n 3, 1) := by decide +kernel
theorem dX11_pass_3 : decode cX11_pass 3 = .ok (.aload_n 0, 1) := by decide +kernel
theorem dX11_pass_4 : decode cX11_pass 4 = .ok (.getfield 189, 3) := by decide +kernel
theorem dX11_pass_7 : decode cX11_pass 7 = .ok (.if_icmp .ge 115, 3) := by decide +kernel
theorem dX11_pass_10 : decode cX11_pass 10 = .ok (.aload_n 0, 1) := by decide +kernel
theorem dX11_pass_11 : decode cX11_pass 11 = .ok (.iload_n 1, 1) := by decide +kernel
theorem dX11_pass_12 : decode cX11_pass 12 = .ok (.iload_n 3, 1) := by decide +kernel
theorem dX11_pass_13 : decode cX11_pass 13 = .ok (.iconst 0, 1) := by decide +kernel
theorem dX11_pass_14 : decode cX11_pass 14 = .ok (.invokevirtual 195, 3) := by decide +kernel
theorem dX11_pass_17 : decode cX11_pass 17 = .ok (.istore 4, 2) := by decide +kernel
theorem dX11_pass_19 : decode cX11_pass 19 = .ok (.iload 4, 2) := by decide +kernel
theorem dX11_pass_21 : decode cX11_pass 21 = .ok (.iconst 2, 1) := by decide +kernel
theorem dX11_pass_22 : decode cX11_pass 22 = .ok (.if_icmp .eq 8, 3) := by decide +kernel
theorem dX11_pass_25 : decode cX11_pass 25 = .ok (.iload 4, 2) := by decide +kernel
theorem dX11_pass_27 : decode cX11_pass 27 = .ok (.ifCond .ne 49, 3) := by decide +kernel
theorem dX11_pass_30 : decode cX11_pass 30 = .ok (.aload_n 0, 1) := by decide +kernel
theorem dX11_pass_31 : decode cX11_pass 31 = .ok (.iload_n 1, 1) := by decide +kernel
theorem dX11_pass_32 : decode cX11_pass 32 = .ok (.iload_n 3, 1) := by decide +kernel
theorem dX11_pass_33 : decode cX11_pass 33 = .ok (.iconst 5, 1) := by decide +kernel
theorem dX11_pass_34 : decode cX11_pass 34 = .ok (.aload_n 0, 1) := by decide +kernel
theorem dX11_pass_35 : decode cX11_pass 35 = .ok (.iload_n 1, 1) := by decide +kernel
theorem dX11_pass_36 : decode cX11_pass 36 = .ok (.iload_n 3, 1) := by decide +kernel
theorem dX11_pass_37 : decode cX11_pass 37 = .ok (.iconst 5, 1) := by decide +kernel
theorem dX11_pass_38 : decode cX11_pass 38 = .ok (.invokevirtual 195, 3) := by decide +kernel
theorem dX11_pass_41 : decode cX11_pass 41 = .ok (.iload_n 2, 1) := by decide +kernel
theorem dX11_pass_42 : decode cX11_pass 42 = .ok (.iadd, 1) := by decide +kernel
theorem dX11_pass_43 : decode cX11_pass 43 = .ok (.invokevirtual 201, 3) := by decide +kernel
theorem dX11_pass_46 : decode cX11_pass 46 = .ok (.iload_n 1, 1) := by decide +kernel
theorem dX11_pass_47 : decode cX11_pass 47 = .ok (.iconst 1, 1) := by decide +kernel
theorem dX11_pass_48 : decode cX11_pass 48 = .ok (.if_icmp .ne 68, 3) := by decide +kernel
theorem dX11_pass_51 : decode cX11_pass 51 = .ok (.iload 4, 2) := by decide +kernel
theorem dX11_pass_53 : decode cX11_pass 53 = .ok (.iconst 2, 1) := by decide +kernel
theorem dX11_pass_54 : decode cX11_pass 54 = .ok (.if_icmp .ne 62, 3) := by decide +kernel
theorem dX11_pass_57 : decode cX11_pass 57 = .ok (.aload_n 0, 1) := by decide +kernel
theorem dX11_pass_58 : decode cX11_pass 58 = .ok (.getfield 41, 3) := by decide +kernel
theorem dX11_pass_61 : decode cX11_pass 61 = .ok (.aload_n 0, 1) := by decide +kernel
theorem dX11_pass_62 : decode cX11_pass 62 = .ok (.iload_n 1, 1) := by decide +kernel
theorem dX11_pass_63 : decode cX11_pass 63 = .ok (.iload_n 3, 1) := by decide +kernel
theorem dX11_pass_64 : decode cX11_pass 64 = .ok (.iconst 2, 1) := by decide +kernel
theorem dX11_pass_65 : decode cX11_pass 65 = .ok (.invokevirtual 195, 3) := by decide +kernel
theorem dX11_pass_68 : decode cX11_pass 68 = .ok (.dup2, 1) := by decide +kernel
theorem dX11_pass_69 : decode cX11_pass 69 = .ok (.iaload, 1) := by decide +kernel
theorem dX11_pass_70 : decode cX11_pass 70 = .ok (.iload_n 2, 1) := by decide +kernel
theorem dX11_pass_71 : decode cX11_pass 71 = .ok (.iadd, 1) := by decide +kernel
theorem dX11_pass_72 : decode cX11_pass 72 = .ok (.iastore, 1) := by decide +kernel
theorem dX11_pass_73 : decode cX11_pass 73 = .ok (.goto 43, 3) := by decide +kernel
theorem dX11_pass_76 : decode cX11_pass 76 = .ok (.aload_n 0, 1) := by decide +kernel
theorem dX11_pass_77 : decode cX11_pass 77 = .ok (.iload_n 1, 1) := by decide +kernel
theorem dX11_pass_78 : decode cX11_pass 78 = .ok (.iload_n 3, 1) := by decide +kernel
theorem dX11_pass_79 : decode cX11_pass 79 = .ok (.iconst 1, 1) := by decide +kernel
theorem dX11_pass_80 : decode cX11_pass 80 = .ok (.aload_n 0, 1) := by decide +kernel
theorem dX11_pass_81 : decode cX11_pass 81 = .ok (.iload_n 1, 1) := by decide +kernel
theorem dX11_pass_82 : decode cX11_pass 82 = .ok (.iload_n 3, 1) := by decide +kernel
theorem dX11_pass_83 : decode cX11_pass 83 = .ok (.iconst 1, 1) := by decide +kernel
theorem dX11_pass_84 : decode cX11_pass 84 = .ok (.invokevirtual 195, 3) := by decide +kernel
theorem dX11_pass_87 : decode cX11_pass 87 = .ok (.iload_n 2, 1) := by decide +kernel
theorem dX11_pass_88 : decode cX11_pass 88 = .ok (.isub, 1) := by decide +kernel
theorem dX11_pass_89 : decode cX11_pass 89 = .ok (.invokevirtual 201, 3) := by decide +kernel
theorem dX11_pass_92 : decode cX11_pass 92 = .ok (.iload 4, 2) := by decide +kernel
theorem dX11_pass_94 : decode cX11_pass 94 = .ok (.iconst 1, 1) := by decide +kernel
theorem dX11_pass_95 : decode cX11_pass 95 = .ok (.if_icmp .ne 21, 3) := by decide +kernel
theorem dX11_pass_98 : decode cX11_pass 98 = .ok (.aload_n 0, 1) := by decide +kernel
theorem dX11_pass_99 : decode cX11_pass 99 = .ok (.iload_n 1, 1) := by decide +kernel
theorem dX11_pass_100 : decode cX11_pass 100 = .ok (.iload_n 3, 1) := by decide +kernel
theorem dX11_pass_101 : decode cX11_pass 101 = .ok (.iconst 1, 1) := by decide +kernel
theorem dX11_pass_102 : decode cX11_pass 102 = .ok (.invokevirtual 195, 3) := by decide +kernel
theorem dX11_pass_105 : decode cX11_pass 105 = .ok (.ifCond .ne 11, 3) := by decide +kernel
theorem dX11_pass_108 : decode cX11_pass 108 = .ok (.aload_n 0, 1) := by decide +kernel
theorem dX11_pass_109 : decode cX11_pass 109 = .ok (.iload_n 1, 1) := by decide +kernel
theorem dX11_pass_110 : decode cX11_pass 110 = .ok (.iload_n 3, 1) := by decide +kernel
theorem dX11_pass_111 : decode cX11_pass 111 = .ok (.iconst 0, 1) := by decide +kernel
theorem dX11_pass_112 : decode cX11_pass 112 = .ok (.iconst 0, 1) := by decide +kernel
theorem dX11_pass_113 : decode cX11_pass 113 = .ok (.invokevirtual 201, 3) := by decide +kernel
theorem dX11_pass_116 : decode cX11_pass 116 = .ok (.iinc 3 1, 3) := by decide +kernel
theorem dX11_pass_119 : decode cX11_pass 119 = .ok (.goto (-117), 3) := by decide +kernel
theorem dX11_pass_122 : decode cX11_pass 122 = .ok (.aload_n 0, 1) := by decide +kernel
theorem dX11_pass_123 : decode cX11_pass 123 = .ok (.iload_n 1, 1) := by decide +kernel
theorem dX11_pass_124 : decode cX11_pass 124 = .ok (.iconst 0, 1) := by decide +kernel
theorem dX11_pass_125 : decode cX11_pass 125 = .ok (.iload_n 2, 1) := by decide +kernel
theorem dX11_pass_126 : decode cX11_pass 126 = .ok (.invokevirtual 207, 3) := by decide +kernel
theorem dX11_pass_129 : decode cX11_pass 129 = .ok (.return_, 1) := by decide +kernel
theorem dX11_awake_0 : decode cX11_awake 0 = .ok (.aload_n 0, 1) := by decide +kernel
theorem dX11_awake_1 : decode cX11_awake 1 = .ok (.getfield 240, 3) := by decide +kernel
theorem dX11_awake_4 : decode cX11_awake 4 = .ok (.ifCond .ne 17, 3) := by decide +kernel
theorem dX11_awake_7 : decode cX11_awake 7 = .ok (.aload_n 0, 1) := by decide +kernel
theorem dX11_awake_8 : decode cX11_awake 8 = .ok (.invokevirtual 243, 3) := by decide +kernel
theorem dX11_awake_11 : decode cX11_awake 11 = .ok (.aload_n 0, 1) := by decide +kernel
theorem dX11_awake_12 : decode cX11_awake 12 = .ok (.iconst 0, 1) := by decide +kernel
theorem dX11_awake_13 : decode cX11_awake 13 = .ok (.invokevirtual 246, 3) := by decide +kernel
theorem dX11_awake_16 : decode cX11_awake 16 = .ok (.aload_n 0, 1) := by decide +kernel
theorem dX11_awake_17 : decode cX11_awake 17 = .ok (.iconst 1, 1) := by decide +kernel
theorem dX11_awake_18 : decode cX11_awake 18 = .ok (.putfield 240, 3) := by decide +kernel
theorem dX11_awake_21 : decode cX11_awake 21 = .ok (.return_, 1) := by decide +kernel
theorem dX11_beginAnew_0 : decode cX11_beginAnew 0 = .ok (.aload_n 0, 1) := by decide +kernel
theorem dX11_beginAnew_1 : decode cX11_beginAnew 1 = .ok (.iconst 0, 1) := by decide +kernel
theorem dX11_beginAnew_2 : decode cX11_beginAnew 2 = .ok (.invokevirtual 249, 3) := by decide +kernel
theorem dX11_beginAnew_5 : decode cX11_beginAnew 5 = .ok (.aload_n 0, 1) := by decide +kernel
theorem dX11_beginAnew_6 : decode cX11_beginAnew 6 = .ok (.iconst 0, 1) := by decide +kernel
theorem dX11_beginAnew_7 : decode cX11_beginAnew 7 = .ok (.putfield 240, 3) := by decide +kernel
theorem dX11_beginAnew_10 : decode cX11_beginAnew 10 = .ok (.aload_n 0, 1) := by decide +kernel
theorem dX11_beginAnew_11 : decode cX11_beginAnew 11 = .ok (.invokevirtual 180, 3) := by decide +kernel
theorem dX11_beginAnew_14 : decode cX11_beginAnew 14 = .ok (.return_, 1) := by decide +kernel
theorem dX11_begin_0 : decode cX11_begin 0 = .ok (.aload_n 0, 1) := by decide +kernel
theorem dX11_begin_1 : decode cX11_begin 1 = .ok (.iconst 0, 1) := by decide +kernel
theorem dX11_begin_2 : decode cX11_begin 2 = .ok (.iconst 1, 1) := by decide +kernel
theorem dX11_begin_3 : decode cX11_begin 3 = .ok (.invokevirtual 218, 3) := by decide +kernel
theorem dX11_begin_6 : decode cX11_begin 6 = .ok (.istore_n 1, 1) := by decide +kernel
theorem dX11_begin_7 : decode cX11_begin 7 = .ok (.aload_n 0, 1) := by decide +kernel
theorem dX11_begin_8 : decode cX11_begin 8 = .ok (.invokevirtual 159, 3) := by decide +kernel
theorem dX11_begin_11 : decode cX11_begin 11 = .ok (.iload_n 1, 1) := by decide +kernel
theorem dX11_begin_12 : decode cX11_begin 12 = .ok (.ireturn, 1) := by decide +kernel
theorem dX11_go_0 : decode cX11_go 0 = .ok (.iload_n 1, 1) := by decide +kernel
theorem dX11_go_1 : decode cX11_go 1 = .ok (.i2l, 1) := by decide +kernel
theorem dX11_go_2 : decode cX11_go 2 = .ok (.lconst 1, 1) := by decide +kernel
theorem dX11_go_3 : decode cX11_go 3 = .ok (.ldc2_w 252, 3) := by decide +kernel
theorem dX11_go_6 : decode cX11_go 6 = .ok (.invokestatic 69, 3) := by decide +kernel
theorem dX11_go_9 : decode cX11_go 9 = .ok (.ifCond .ne 5, 3) := by decide +kernel
theorem dX11_go_12 : decode cX11_go 12 = .ok (.iconst (-1), 1) := by decide +kernel
theorem dX11_go_13 : decode cX11_go 13 = .ok (.ireturn, 1) := by decide +kernel
theorem dX11_go_14 : decode cX11_go 14 = .ok (.aload_n 0, 1) := by decide +kernel
theorem dX11_go_15 : decode cX11_go 15 = .ok (.invokevirtual 180, 3) := by decide +kernel
theorem dX11_go_18 : decode cX11_go 18 = .ok (.aload_n 0, 1) := by decide +kernel
theorem dX11_go_19 : decode cX11_go 19 = .ok (.invokevirtual 243, 3) := by decide +kernel
theorem dX11_go_22 : decode cX11_go 22 = .ok (.aload_n 0, 1) := by decide +kernel
theorem dX11_go_23 : decode cX11_go 23 = .ok (.iconst 0, 1) := by decide +kernel
theorem dX11_go_24 : decode cX11_go 24 = .ok (.iconst 1, 1) := by decide +kernel
theorem dX11_go_25 : decode cX11_go 25 = .ok (.invokevirtual 218, 3) := by decide +kernel
theorem dX11_go_28 : decode cX11_go 28 = .ok (.istore_n 2, 1) := by decide +kernel
theorem dX11_go_29 : decode cX11_go 29 = .ok (.iload_n 1, 1) := by decide +kernel
theorem dX11_go_30 : decode cX11_go 30 = .ok (.istore_n 3, 1) := by decide +kernel
theorem dX11_go_31 : decode cX11_go 31 = .ok (.iload_n 3, 1) := by decide +kernel
theorem dX11_go_32 : decode cX11_go 32 = .ok (.ifCond .le 49, 3) := by decide +kernel
theorem dX11_go_35 : decode cX11_go 35 = .ok (.aload_n 0, 1) := by decide +kernel
theorem dX11_go_36 : decode cX11_go 36 = .ok (.iconst 0, 1) := by decide +kernel
theorem dX11_go_37 : decode cX11_go 37 = .ok (.invokevirtual 237, 3) := by decide +kernel
theorem dX11_go_40 : decode cX11_go 40 = .ok (.istore 4, 2) := by decide +kernel
theorem dX11_go_42 : decode cX11_go 42 = .ok (.iload 4, 2) := by decide +kernel
theorem dX11_go_44 : decode cX11_go 44 = .ok (.ifCond .eq 9, 3) := by decide +kernel
theorem dX11_go_47 : decode cX11_go 47 = .ok (.iload 4, 2) := by decide +kernel
theorem dX11_go_49 : decode cX11_go 49 = .ok (.iload_n 3, 1) := by decide +kernel
theorem dX11_go_50 : decode cX11_go 50 = .ok (.if_icmp .le 7, 3) := by decide +kernel
theorem dX11_go_53 : decode cX11_go 53 = .ok (.iload_n 3, 1) := by decide +kernel
theorem dX11_go_54 : decode cX11_go 54 = .ok (.goto 5, 3) := by decide +kernel
theorem dX11_go_57 : decode cX11_go 57 = .ok (.iload 4, 2) := by decide +kernel
theorem dX11_go_59 : decode cX11_go 59 = .ok (.istore 4, 2) := by decide +kernel
theorem dX11_go_61 : decode cX11_go 61 = .ok (.aload_n 0, 1) := by decide +kernel
theorem dX11_go_62 : decode cX11_go 62 = .ok (.iconst 0, 1) := by decide +kernel
theorem dX11_go_63 : decode cX11_go 63 = .ok (.iload 4, 2) := by decide +kernel
theorem dX11_go_65 : decode cX11_go 65 = .ok (.invokevirtual 254, 3) := by decide +kernel
theorem dX11_go_68 : decode cX11_go 68 = .ok (.aload_n 0, 1) := by decide +kernel
theorem dX11_go_69 : decode cX11_go 69 = .ok (.iconst 0, 1) := by decide +kernel
theorem dX11_go_70 : decode cX11_go 70 = .ok (.invokevirtual 246, 3) := by decide +kernel
theorem dX11_go_73 : decode cX11_go 73 = .ok (.iload_n 3, 1) := by decide +kernel
theorem dX11_go_74 : decode cX11_go 74 = .ok (.iload 4, 2) := by decide +kernel
theorem dX11_go_76 : decode cX11_go 76 = .ok (.isub, 1) := by decide +kernel
theorem dX11_go_77 : decode cX11_go 77 = .ok (.istore_n 3, 1) := by decide +kernel
theorem dX11_go_78 : decode cX11_go 78 = .ok (.goto (-47), 3) := by decide +kernel
theorem dX11_go_81 : decode cX11_go 81 = .ok (.aload_n 0, 1) := by decide +kernel
theorem dX11_go_82 : decode cX11_go 82 = .ok (.iconst 0, 1) := by decide +kernel
theorem dX11_go_83 : decode cX11_go 83 = .ok (.iconst 1, 1) := by decide +kernel
theorem dX11_go_84 : decode cX11_go 84 = .ok (.invokevirtual 218, 3) := by decide +kernel
theorem dX11_go_87 : decode cX11_go 87 = .ok (.iload_n 2, 1) := by decide +kernel
theorem dX11_go_88 : decode cX11_go 88 = .ok (.isub, 1) := by decide +kernel
theorem dX11_go_89 : decode cX11_go 89 = .ok (.ireturn, 1) := by decide +kernel
theorem dX11_night_0 : decode cX11_night 0 = .ok (.aload_n 0, 1) := by decide +kernel
theorem dX11_night_1 : decode cX11_night 1 = .ok (.invokevirtual 180, 3) := by decide +kernel
theorem dX11_night_4 : decode cX11_night 4 = .ok (.iconst 0, 1) := by decide +kernel
theorem dX11_night_5 : decode cX11_night 5 = .ok (.istore_n 1, 1) := by decide +kernel
theorem dX11_night_6 : decode cX11_night 6 = .ok (.iconst 0, 1) := by decide +kernel
theorem dX11_night_7 : decode cX11_night 7 = .ok (.istore_n 2, 1) := by decide +kernel
theorem dX11_night_8 : decode cX11_night 8 = .ok (.iload_n 2, 1) := by decide +kernel
theorem dX11_night_9 : decode cX11_night 9 = .ok (.iconst 5, 1) := by decide +kernel
theorem dX11_night_10 : decode cX11_night 10 = .ok (.if_icmp .ge 72, 3) := by decide +kernel
theorem dX11_night_13 : decode cX11_night 13 = .ok (.iload_n 1, 1) := by decide +kernel
theorem dX11_night_14 : decode cX11_night 14 = .ok (.aload_n 0, 1) := by decide +kernel
theorem dX11_night_15 : decode cX11_night 15 = .ok (.iconst 0, 1) := by decide +kernel
theorem dX11_night_16 : decode cX11_night 16 = .ok (.iload_n 2, 1) := by decide +kernel
theorem dX11_night_17 : decode cX11_night 17 = .ok (.iconst 2, 1) := by decide +kernel
theorem dX11_night_18 : decode cX11_night 18 = .ok (.invokevirtual 195, 3) := by decide +kernel
theorem dX11_night_21 : decode cX11_night 21 = .ok (.bipush (-4), 2) := by decide +kernel
theorem dX11_night_23 : decode cX11_night 23 = .ok (.if_icmp .ne 7, 3) := by decide +kernel
theorem dX11_night_26 : decode cX11_night 26 = .ok (.iconst 0, 1) := by decide +kernel
theorem dX11_night_27 : decode cX11_night 27 = .ok (.goto 4, 3) := by decide +kernel
theorem dX11_night_30 : decode cX11_night 30 = .ok (.iconst 1, 1) := by decide +kernel
theorem dX11_night_31 : decode cX11_night 31 = .ok (.iadd, 1) := by decide +kernel
theorem dX11_night_32 : decode cX11_night 32 = .ok (.istore_n 1, 1) := by decide +kernel
theorem dX11_night_33 : decode cX11_night 33 = .ok (.aload_n 0, 1) := by decide +kernel
theorem dX11_night_34 : decode cX11_night 34 = .ok (.iconst 0, 1) := by decide +kernel
theorem dX11_night_35 : decode cX11_night 35 = .ok (.iload_n 2, 1) := by decide +kernel
theorem dX11_night_36 : decode cX11_night 36 = .ok (.iconst 0, 1) := by decide +kernel
theorem dX11_night_37 : decode cX11_night 37 = .ok (.iconst 0, 1) := by decide +kernel
theorem dX11_night_38 : decode cX11_night 38 = .ok (.invokevirtual 201, 3) := by decide +kernel
theorem dX11_night_41 : decode cX11_night 41 = .ok (.aload_n 0, 1) := by decide +kernel
theorem dX11_night_42 : decode cX11_night 42 = .ok (.iconst 0, 1) := by decide +kernel
theorem dX11_night_43 : decode cX11_night 43 = .ok (.iload_n 2, 1) := by decide +kernel
theorem dX11_night_44 : decode cX11_night 44 = .ok (.iconst 1, 1) := by decide +kernel
theorem dX11_night_45 : decode cX11_night 45 = .ok (.iconst 0, 1) := by decide +kernel
theorem dX11_night_46 : decode cX11_night 46 = .ok (.invokevirtual 201, 3) := by decide +kernel
theorem dX11_night_49 : decode cX11_night 49 = .ok (.aload_n 0, 1) := by decide +kernel
theorem dX11_night_50 : decode cX11_night 50 = .ok (.iconst 0, 1) := by decide +kernel
theorem dX11_night_51 : decode cX11_night 51 = .ok (.iload_n 2, 1) := by decide +kernel
theorem dX11_night_52 : decode cX11_night 52 = .ok (.iconst 2, 1) := by decide +kernel
theorem dX11_night_53 : decode cX11_night 53 = .ok (.bipush (-4), 2) := by decide +kernel
theorem dX11_night_55 : decode cX11_night 55 = .ok (.invokevirtual 201, 3) := by decide +kernel
theorem dX11_night_58 : decode cX11_night 58 = .ok (.aload_n 0, 1) := by decide +kernel
theorem dX11_night_59 : decode cX11_night 59 = .ok (.iconst 0, 1) := by decide +kernel
theorem dX11_night_60 : decode cX11_night 60 = .ok (.iload_n 2, 1) := by decide +kernel
theorem dX11_night_61 : decode cX11_night 61 = .ok (.iconst 3, 1) := by decide +kernel
theorem dX11_night_62 : decode cX11_night 62 = .ok (.bipush (-4), 2) := by decide +kernel
theorem dX11_night_64 : decode cX11_night 64 = .ok (.invokevirtual 201, 3) := by decide +kernel
theorem dX11_night_67 : decode cX11_night 67 = .ok (.aload_n 0, 1) := by decide +kernel
theorem dX11_night_68 : decode cX11_night 68 = .ok (.iconst 0, 1) := by decide +kernel
theorem dX11_night_69 : decode cX11_night 69 = .ok (.iload_n 2, 1) := by decide +kernel
theorem dX11_night_70 : decode cX11_night 70 = .ok (.iconst 4, 1) := by decide +kernel
theorem dX11_night_71 : decode cX11_night 71 = .ok (.bipush (-4), 2) := by decide +kernel
theorem dX11_night_73 : decode cX11_night 73 = .ok (.invokevirtual 201, 3) := by decide +kernel
theorem dX11_night_76 : decode cX11_night 76 = .ok (.iinc 2 1, 3) := by decide +kernel
theorem dX11_night_79 : decode cX11_night 79 = .ok (.goto (-71), 3) := by decide +kernel
theorem dX11_night_82 : decode cX11_night 82 = .ok (.aload_n 0, 1) := by decide +kernel
theorem dX11_night_83 : decode cX11_night 83 = .ok (.getfield 25, 3) := by decide +kernel
theorem dX11_night_86 : decode cX11_night 86 = .ok (.iconst 4, 1) := by decide +kernel
theorem dX11_night_87 : decode cX11_night 87 = .ok (.iconst 0, 1) := by decide +kernel
theorem dX11_night_88 : decode cX11_night 88 = .ok (.iastore, 1) := by decide +kernel
theorem dX11_night_89 : decode cX11_night 89 = .ok (.aload_n 0, 1) := by decide +kernel
theorem dX11_night_90 : decode cX11_night 90 = .ok (.invokevirtual 243, 3) := by decide +kernel
theorem dX11_night_93 : decode cX11_night 93 = .ok (.aload_n 0, 1) := by decide +kernel
theorem dX11_night_94 : decode cX11_night 94 = .ok (.iconst 0, 1) := by decide +kernel
theorem dX11_night_95 : decode cX11_night 95 = .ok (.invokevirtual 246, 3) := by decide +kernel
theorem dX11_night_98 : decode cX11_night 98 = .ok (.iload_n 1, 1) := by decide +kernel
theorem dX11_night_99 : decode cX11_night 99 = .ok (.ireturn, 1) := by decide +kernel
theorem dX11_now_0 : decode cX11_now 0 = .ok (.aload_n 0, 1) := by decide +kernel
theorem dX11_now_1 : decode cX11_now 1 = .ok (.invokevirtual 180, 3) := by decide +kernel
theorem dX11_now_4 : decode cX11_now 4 = .ok (.iload_n 1, 1) := by decide +kernel
theorem dX11_now_5 : decode cX11_now 5 = .ok (.i2l, 1) := by decide +kernel
theorem dX11_now_6 : decode cX11_now 6 = .ok (.lconst 0, 1) := by decide +kernel
theorem dX11_now_7 : decode cX11_now 7 = .ok (.ldc2_w 183, 3) := by decide +kernel
theorem dX11_now_10 : decode cX11_now 10 = .ok (.invokestatic 69, 3) := by decide +kernel
theorem dX11_now_13 : decode cX11_now 13 = .ok (.ifCond .eq 12, 3) := by decide +kernel
theorem dX11_now_16 : decode cX11_now 16 = .ok (.aload_n 0, 1) := by decide +kernel
theorem dX11_now_17 : decode cX11_now 17 = .ok (.iconst 0, 1) := by decide +kernel
theorem dX11_now_18 : decode cX11_now 18 = .ok (.iload_n 1, 1) := by decide +kernel
theorem dX11_now_19 : decode cX11_now 19 = .ok (.invokevirtual 218, 3) := by decide +kernel
theorem dX11_now_22 : decode cX11_now 22 = .ok (.goto 4, 3) := by decide +kernel
theorem dX11_now_25 : decode cX11_now 25 = .ok (.iconst (-1), 1) := by decide +kernel
theorem dX11_now_26 : decode cX11_now 26 = .ok (.ireturn, 1) := by decide +kernel
theorem dX11_hand_0 : decode cX11_hand 0 = .ok (.aload_n 0, 1) := by decide +kernel
theorem dX11_hand_1 : decode cX11_hand 1 = .ok (.invokevirtual 180, 3) := by decide +kernel
theorem dX11_hand_4 : decode cX11_hand 4 = .ok (.aload_n 0, 1) := by decide +kernel
theorem dX11_hand_5 : decode cX11_hand 5 = .ok (.iload_n 1, 1) := by decide +kernel
theorem dX11_hand_6 : decode cX11_hand 6 = .ok (.invokevirtual 166, 3) := by decide +kernel
theorem dX11_hand_9 : decode cX11_hand 9 = .ok (.ifCond .eq 25, 3) := by decide +kernel
theorem dX11_hand_12 : decode cX11_hand 12 = .ok (.iload_n 2, 1) := by decide +kernel
theorem dX11_hand_13 : decode cX11_hand 13 = .ok (.i2l, 1) := by decide +kernel
theorem dX11_hand_14 : decode cX11_hand 14 = .ok (.lconst 0, 1) := by decide +kernel
theorem dX11_hand_15 : decode cX11_hand 15 = .ok (.ldc2_w 257, 3) := by decide +kernel
theorem dX11_hand_18 : decode cX11_hand 18 = .ok (.invokestatic 69, 3) := by decide +kernel
theorem dX11_hand_21 : decode cX11_hand 21 = .ok (.ifCond .eq 13, 3) := by decide +kernel
theorem dX11_hand_24 : decode cX11_hand 24 = .ok (.aload_n 0, 1) := by decide +kernel
theorem dX11_hand_25 : decode cX11_hand 25 = .ok (.iconst 0, 1) := by decide +kernel
theorem dX11_hand_26 : decode cX11_hand 26 = .ok (.iload_n 1, 1) := by decide +kernel
theorem dX11_hand_27 : decode cX11_hand 27 = .ok (.iload_n 2, 1) := by decide +kernel
theorem dX11_hand_28 : decode cX11_hand 28 = .ok (.invokevirtual 195, 3) := by decide +kernel
theorem dX11_hand_31 : decode cX11_hand 31 = .ok (.goto 4, 3) := by decide +kernel
theorem dX11_hand_34 : decode cX11_hand 34 = .ok (.iconst (-1), 1) := by decide +kernel
theorem dX11_hand_35 : decode cX11_hand 35 = .ok (.ireturn, 1) := by decide +kernel
theorem dX11_learnt_0 : decode cX11_learnt 0 = .ok (.aload_n 0, 1) := by decide +kernel
theorem dX11_learnt_1 : decode cX11_learnt 1 = .ok (.iload_n 1, 1) := by decide +kernel
theorem dX11_learnt_2 : decode cX11_learnt 2 = .ok (.invokevirtual 166, 3) := by decide +kernel
theorem dX11_learnt_5 : decode cX11_learnt 5 = .ok (.ifCond .eq 26, 3) := by decide +kernel
theorem dX11_learnt_8 : decode cX11_learnt 8 = .ok (.aload_n 0, 1) := by decide +kernel
theorem dX11_learnt_9 : decode cX11_learnt 9 = .ok (.iload_n 2, 1) := by decide +kernel
theorem dX11_learnt_10 : decode cX11_learnt 10 = .ok (.invokevirtual 175, 3) := by decide +kernel
theorem dX11_learnt_13 : decode cX11_learnt 13 = .ok (.ifCond .eq 18, 3) := by decide +kernel
theorem dX11_learnt_16 : decode cX11_learnt 16 = .ok (.aload_n 0, 1) := by decide +kernel
theorem dX11_learnt_17 : decode cX11_learnt 17 = .ok (.getfield 25, 3) := by decide +kernel
theorem dX11_learnt_20 : decode cX11_learnt 20 = .ok (.aload_n 0, 1) := by decide +kernel
theorem dX11_learnt_21 : decode cX11_learnt 21 = .ok (.iconst 0, 1) := by decide +kernel
theorem dX11_learnt_22 : decode cX11_learnt 22 = .ok (.iload_n 1, 1) := by decide +kernel
theorem dX11_learnt_23 : decode cX11_learnt 23 = .ok (.iload_n 2, 1) := by decide +kernel
theorem dX11_learnt_24 : decode cX11_learnt 24 = .ok (.invokevirtual 185, 3) := by decide +kernel
theorem dX11_learnt_27 : decode cX11_learnt 27 = .ok (.iaload, 1) := by decide +kernel
theorem dX11_learnt_28 : decode cX11_learnt 28 = .ok (.goto 4, 3) := by decide +kernel
theorem dX11_learnt_31 : decode cX11_learnt 31 = .ok (.iconst (-1), 1) := by decide +kernel
theorem dX11_learnt_32 : decode cX11_learnt 32 = .ok (.ireturn, 1) := by decide +kernel
theorem dX11_takes_0 : decode cX11_takes 0 = .ok (.aload_n 0, 1) := by decide +kernel
theorem dX11_takes_1 : decode cX11_takes 1 = .ok (.iload_n 1, 1) := by decide +kernel
theorem dX11_takes_2 : decode cX11_takes 2 = .ok (.invokevirtual 166, 3) := by decide +kernel
theorem dX11_takes_5 : decode cX11_takes 5 = .ok (.ifCond .eq 21, 3) := by decide +kernel
theorem dX11_takes_8 : decode cX11_takes 8 = .ok (.aload_n 0, 1) := by decide +kernel
theorem dX11_takes_9 : decode cX11_takes 9 = .ok (.iload_n 2, 1) := by decide +kernel
theorem dX11_takes_10 : decode cX11_takes 10 = .ok (.invokevirtual 175, 3) := by decide +kernel
theorem dX11_takes_13 : decode cX11_takes 13 = .ok (.ifCond .eq 13, 3) := by decide +kernel
theorem dX11_takes_16 : decode cX11_takes 16 = .ok (.aload_n 0, 1) := by decide +kernel
theorem dX11_takes_17 : decode cX11_takes 17 = .ok (.iconst 0, 1) := by decide +kernel
theorem dX11_takes_18 : decode cX11_takes 18 = .ok (.iload_n 1, 1) := by decide +kernel
theorem dX11_takes_19 : decode cX11_takes 19 = .ok (.iload_n 2, 1) := by decide +kernel
theorem dX11_takes_20 : decode cX11_takes 20 = .ok (.invokevirtual 231, 3) := by decide +kernel
theorem dX11_takes_23 : decode cX11_takes 23 = .ok (.goto 4, 3) := by decide +kernel
theorem dX11_takes_26 : decode cX11_takes 26 = .ok (.iconst (-1), 1) := by decide +kernel
theorem dX11_takes_27 : decode cX11_takes 27 = .ok (.ireturn, 1) := by decide +kernel
theorem dX11_keep_0 : decode cX11_keep 0 = .ok (.iload_n 1, 1) := by decide +kernel
theorem dX11_keep_1 : decode cX11_keep 1 = .ok (.i2l, 1) := by decide +kernel
theorem dX11_keep_2 : decode cX11_keep 2 = .ok (.lconst 0, 1) := by decide +kernel
theorem dX11_keep_3 : decode cX11_keep 3 = .ok (.lconst 1, 1) := by decide +kernel
theorem dX11_keep_4 : decode cX11_keep 4 = .ok (.invokestatic 69, 3) := by decide +kernel
theorem dX11_keep_7 : decode cX11_keep 7 = .ok (.ifCond .ne 5, 3) := by decide +kernel
theorem dX11_keep_10 : decode cX11_keep 10 = .ok (.iconst (-1), 1) := by decide +kernel
theorem dX11_keep_11 : decode cX11_keep 11 = .ok (.ireturn, 1) := by decide +kernel
theorem dX11_keep_12 : decode cX11_keep 12 = .ok (.aload_n 0, 1) := by decide +kernel
theorem dX11_keep_13 : decode cX11_keep 13 = .ok (.invokevirtual 180, 3) := by decide +kernel
theorem dX11_keep_16 : decode cX11_keep 16 = .ok (.iconst 0, 1) := by decide +kernel
theorem dX11_keep_17 : decode cX11_keep 17 = .ok (.istore_n 2, 1) := by decide +kernel
theorem dX11_keep_18 : decode cX11_keep 18 = .ok (.iload_n 2, 1) := by decide +kernel
theorem dX11_keep_19 : decode cX11_keep 19 = .ok (.bipush 96, 2) := by decide +kernel
theorem dX11_keep_21 : decode cX11_keep 21 = .ok (.if_icmp .ge 28, 3) := by decide +kernel
theorem dX11_keep_24 : decode cX11_keep 24 = .ok (.aload_n 0, 1) := by decide +kernel
theorem dX11_keep_25 : decode cX11_keep 25 = .ok (.getfield 25, 3) := by decide +kernel
theorem dX11_keep_28 : decode cX11_keep 28 = .ok (.bipush 96, 2) := by decide +kernel
theorem dX11_keep_30 : decode cX11_keep 30 = .ok (.iconst 2, 1) := by decide +kernel
theorem dX11_keep_31 : decode cX11_keep 31 = .ok (.iload_n 1, 1) := by decide +kernel
theorem dX11_keep_32 : decode cX11_keep 32 = .ok (.iadd, 1) := by decide +kernel
theorem dX11_keep_33 : decode cX11_keep 33 = .ok (.imul, 1) := by decide +kernel
theorem dX11_keep_34 : decode cX11_keep 34 = .ok (.iload_n 2, 1) := by decide +kernel
theorem dX11_keep_35 : decode cX11_keep 35 = .ok (.iadd, 1) := by decide +kernel
theorem dX11_keep_36 : decode cX11_keep 36 = .ok (.aload_n 0, 1) := by decide +kernel
theorem dX11_keep_37 : decode cX11_keep 37 = .ok (.getfield 25, 3) := by decide +kernel
theorem dX11_keep_40 : decode cX11_keep 40 = .ok (.iload_n 2, 1) := by decide +kernel
theorem dX11_keep_41 : decode cX11_keep 41 = .ok (.iaload, 1) := by decide +kernel
theorem dX11_keep_42 : decode cX11_keep 42 = .ok (.iastore, 1) := by decide +kernel
theorem dX11_keep_43 : decode cX11_keep 43 = .ok (.iinc 2 1, 3) := by decide +kernel
theorem dX11_keep_46 : decode cX11_keep 46 = .ok (.goto (-28), 3) := by decide +kernel
theorem dX11_keep_49 : decode cX11_keep 49 = .ok (.aload_n 0, 1) := by decide +kernel
theorem dX11_keep_50 : decode cX11_keep 50 = .ok (.getfield 28, 3) := by decide +kernel
theorem dX11_keep_53 : decode cX11_keep 53 = .ok (.iload_n 1, 1) := by decide +kernel
theorem dX11_keep_54 : decode cX11_keep 54 = .ok (.baload, 1) := by decide +kernel
theorem dX11_keep_55 : decode cX11_keep 55 = .ok (.ifCond .eq 7, 3) := by decide +kernel
theorem dX11_keep_58 : decode cX11_keep 58 = .ok (.iconst 1, 1) := by decide +kernel
theorem dX11_keep_59 : decode cX11_keep 59 = .ok (.goto 4, 3) := by decide +kernel
theorem dX11_keep_62 : decode cX11_keep 62 = .ok (.iconst 0, 1) := by decide +kernel
theorem dX11_keep_63 : decode cX11_keep 63 = .ok (.istore_n 2, 1) := by decide +kernel
theorem dX11_keep_64 : decode cX11_keep 64 = .ok (.aload_n 0, 1) := by decide +kernel
theorem dX11_keep_65 : decode cX11_keep 65 = .ok (.getfield 28, 3) := by decide +kernel
theorem dX11_keep_68 : decode cX11_keep 68 = .ok (.iload_n 1, 1) := by decide +kernel
theorem dX11_keep_69 : decode cX11_keep 69 = .ok (.iconst 1, 1) := by decide +kernel
theorem dX11_keep_70 : decode cX11_keep 70 = .ok (.bastore, 1) := by decide +kernel
theorem dX11_keep_71 : decode cX11_keep 71 = .ok (.iload_n 2, 1) := by decide +kernel
theorem dX11_keep_72 : decode cX11_keep 72 = .ok (.ireturn, 1) := by decide +kernel
theorem dX11_back_0 : decode cX11_back 0 = .ok (.iload_n 1, 1) := by decide +kernel
theorem dX11_back_1 : decode cX11_back 1 = .ok (.i2l, 1) := by decide +kernel
theorem dX11_back_2 : decode cX11_back 2 = .ok (.lconst 0, 1) := by decide +kernel
theorem dX11_back_3 : decode cX11_back 3 = .ok (.lconst 1, 1) := by decide +kernel
theorem dX11_back_4 : decode cX11_back 4 = .ok (.invokestatic 69, 3) := by decide +kernel
theorem dX11_back_7 : decode cX11_back 7 = .ok (.ifCond .ne 5, 3) := by decide +kernel
theorem dX11_back_10 : decode cX11_back 10 = .ok (.iconst (-1), 1) := by decide +kernel
theorem dX11_back_11 : decode cX11_back 11 = .ok (.ireturn, 1) := by decide +kernel
theorem dX11_back_12 : decode cX11_back 12 = .ok (.aload_n 0, 1) := by decide +kernel
theorem dX11_back_13 : decode cX11_back 13 = .ok (.getfield 28, 3) := by decide +kernel
theorem dX11_back_16 : decode cX11_back 16 = .ok (.iload_n 1, 1) := by decide +kernel
theorem dX11_back_17 : decode cX11_back 17 = .ok (.baload, 1) := by decide +kernel
theorem dX11_back_18 : decode cX11_back 18 = .ok (.ifCond .ne 6, 3) := by decide +kernel
theorem dX11_back_21 : decode cX11_back 21 = .ok (.bipush (-2), 2) := by decide +kernel
theorem dX11_back_23 : decode cX11_back 23 = .ok (.ireturn, 1) := by decide +kernel
theorem dX11_back_24 : decode cX11_back 24 = .ok (.iconst 0, 1) := by decide +kernel
theorem dX11_back_25 : decode cX11_back 25 = .ok (.istore_n 2, 1) := by decide +kernel
theorem dX11_back_26 : decode cX11_back 26 = .ok (.iload_n 2, 1) := by decide +kernel
theorem dX11_back_27 : decode cX11_back 27 = .ok (.bipush 96, 2) := by decide +kernel
theorem dX11_back_29 : decode cX11_back 29 = .ok (.if_icmp .ge 28, 3) := by decide +kernel
theorem dX11_back_32 : decode cX11_back 32 = .ok (.aload_n 0, 1) := by decide +kernel
theorem dX11_back_33 : decode cX11_back 33 = .ok (.getfield 25, 3) := by decide +kernel
theorem dX11_back_36 : decode cX11_back 36 = .ok (.iload_n 2, 1) := by decide +kernel
theorem dX11_back_37 : decode cX11_back 37 = .ok (.aload_n 0, 1) := by decide +kernel
theorem dX11_back_38 : decode cX11_back 38 = .ok (.getfield 25, 3) := by decide +kernel
theorem dX11_back_41 : decode cX11_back 41 = .ok (.bipush 96, 2) := by decide +kernel
theorem dX11_back_43 : decode cX11_back 43 = .ok (.iconst 2, 1) := by decide +kernel
theorem dX11_back_44 : decode cX11_back 44 = .ok (.iload_n 1, 1) := by decide +kernel
theorem dX11_back_45 : decode cX11_back 45 = .ok (.iadd, 1) := by decide +kernel
theorem dX11_back_46 : decode cX11_back 46 = .ok (.imul, 1) := by decide +kernel
theorem dX11_back_47 : decode cX11_back 47 = .ok (.iload_n 2, 1) := by decide +kernel
theorem dX11_back_48 : decode cX11_back 48 = .ok (.iadd, 1) := by decide +kernel
theorem dX11_back_49 : decode cX11_back 49 = .ok (.iaload, 1) := by decide +kernel
theorem dX11_back_50 : decode cX11_back 50 = .ok (.iastore, 1) := by decide +kernel
theorem dX11_back_51 : decode cX11_back 51 = .ok (.iinc 2 1, 3) := by decide +kernel
theorem dX11_back_54 : decode cX11_back 54 = .ok (.goto (-28), 3) := by decide +kernel
theorem dX11_back_57 : decode cX11_back 57 = .ok (.aload_n 0, 1) := by decide +kernel
theorem dX11_back_58 : decode cX11_back 58 = .ok (.iconst 0, 1) := by decide +kernel
theorem dX11_back_59 : decode cX11_back 59 = .ok (.iconst 0, 1) := by decide +kernel
theorem dX11_back_60 : decode cX11_back 60 = .ok (.invokevirtual 218, 3) := by decide +kernel
theorem dX11_back_63 : decode cX11_back 63 = .ok (.ireturn, 1) := by decide +kernel
theorem dX11_laySeen_0 : decode cX11_laySeen 0 = .ok (.bipush 80, 2) := by decide +kernel
theorem dX11_laySeen_2 : decode cX11_laySeen 2 = .ok (.aload_n 0, 1) := by decide +kernel
theorem dX11_laySeen_3 : decode cX11_laySeen 3 = .ok (.getfield 259, 3) := by decide +kernel
theorem dX11_laySeen_6 : decode cX11_laySeen 6 = .ok (.imul, 1) := by decide +kernel
theorem dX11_laySeen_7 : decode cX11_laySeen 7 = .ok (.istore_n 1, 1) := by decide +kernel
theorem dX11_laySeen_8 : decode cX11_laySeen 8 = .ok (.iconst 0, 1) := by decide +kernel
theorem dX11_laySeen_9 : decode cX11_laySeen 9 = .ok (.istore_n 2, 1) := by decide +kernel
theorem dX11_laySeen_10 : decode cX11_laySeen 10 = .ok (.iload_n 2, 1) := by decide +kernel
theorem dX11_laySeen_11 : decode cX11_laySeen 11 = .ok (.aload_n 0, 1) := by decide +kernel
theorem dX11_laySeen_12 : decode cX11_laySeen 12 = .ok (.getfield 189, 3) := by decide +kernel
theorem dX11_laySeen_15 : decode cX11_laySeen 15 = .ok (.if_icmp .ge 190, 3) := by decide +kernel
theorem dX11_laySeen_18 : decode cX11_laySeen 18 = .ok (.iconst 0, 1) := by decide +kernel
theorem dX11_laySeen_19 : decode cX11_laySeen 19 = .ok (.istore_n 3, 1) := by decide +kernel
theorem dX11_laySeen_20 : decode cX11_laySeen 20 = .ok (.iload_n 3, 1) := by decide +kernel
theorem dX11_laySeen_21 : decode cX11_laySeen 21 = .ok (.iconst 4, 1) := by decide +kernel
theorem dX11_laySeen_22 : decode cX11_laySeen 22 = .ok (.if_icmp .gt 71, 3) := by decide +kernel
theorem dX11_laySeen_25 : decode cX11_laySeen 25 = .ok (.iload_n 3, 1) := by decide +kernel
theorem dX11_laySeen_26 : decode cX11_laySeen 26 = .ok (.iconst 1, 1) := by decide +kernel
theorem dX11_laySeen_27 : decode cX11_laySeen 27 = .ok (.if_icmp .ne 25, 3) := by decide +kernel
theorem dX11_laySeen_30 : decode cX11_laySeen 30 = .ok (.aload_n 0, 1) := by decide +kernel
theorem dX11_laySeen_31 : decode cX11_laySeen 31 = .ok (.iconst 1, 1) := by decide +kernel
theorem dX11_laySeen_32 : decode cX11_laySeen 32 = .ok (.iload_n 2, 1) := by decide +kernel
theorem dX11_laySeen_33 : decode cX11_laySeen 33 = .ok (.iconst 0, 1) := by decide +kernel
theorem dX11_laySeen_34 : decode cX11_laySeen 34 = .ok (.invokevirtual 195, 3) := by decide +kernel
theorem dX11_laySeen_37 : decode cX11_laySeen 37 = .ok (.iconst 3, 1) := by decide +kernel
theorem dX11_laySeen_38 : decode cX11_laySeen 38 = .ok (.if_icmp .eq 14, 3) := by decide +kernel
theorem dX11_laySeen_41 : decode cX11_laySeen 41 = .ok (.aload_n 0, 1) := by decide +kernel
theorem dX11_laySeen_42 : decode cX11_laySeen 42 = .ok (.iconst 1, 1) := by decide +kernel
theorem dX11_laySeen_43 : decode cX11_laySeen 43 = .ok (.iload_n 2, 1) := by decide +kernel
theorem dX11_laySeen_44 : decode cX11_laySeen 44 = .ok (.iconst 0, 1) := by decide +kernel
theorem dX11_laySeen_45 : decode cX11_laySeen 45 = .ok (.invokevirtual 195, 3) := by decide +kernel
theorem dX11_laySeen_48 : decode cX11_laySeen 48 = .ok (.iconst 1, 1) := by decide +kernel
theorem dX11_laySeen_49 : decode cX11_laySeen 49 = .ok (.if_icmp .ne 7, 3) := by decide +kernel
theorem dX11_laySeen_52 : decode cX11_laySeen 52 = .ok (.iconst 1, 1) := by decide +kernel
theorem dX11_laySeen_53 : decode cX11_laySeen 53 = .ok (.goto 4, 3) := by decide +kernel
theorem dX11_laySeen_56 : decode cX11_laySeen 56 = .ok (.iconst 0, 1) := by decide +kernel
theorem dX11_laySeen_57 : decode cX11_laySeen 57 = .ok (.istore 4, 2) := by decide +kernel
theorem dX11_laySeen_59 : decode cX11_laySeen 59 = .ok (.aload_n 0, 1) := by decide +kernel
theorem dX11_laySeen_60 : decode cX11_laySeen 60 = .ok (.getfield 44, 3) := by decide +kernel
theorem dX11_laySeen_63 : decode cX11_laySeen 63 = .ok (.iload_n 1, 1) := by decide +kernel
theorem dX11_laySeen_64 : decode cX11_laySeen 64 = .ok (.iconst 5, 1) := by decide +kernel
theorem dX11_laySeen_65 : decode cX11_laySeen 65 = .ok (.iload_n 2, 1) := by decide +kernel
theorem dX11_laySeen_66 : decode cX11_laySeen 66 = .ok (.imul, 1) := by decide +kernel
theorem dX11_laySeen_67 : decode cX11_laySeen 67 = .ok (.iadd, 1) := by decide +kernel
theorem dX11_laySeen_68 : decode cX11_laySeen 68 = .ok (.iload_n 3, 1) := by decide +kernel
theorem dX11_laySeen_69 : decode cX11_laySeen 69 = .ok (.iadd, 1) := by decide +kernel
theorem dX11_laySeen_70 : decode cX11_laySeen 70 = .ok (.iload 4, 2) := by decide +kernel
theorem dX11_laySeen_72 : decode cX11_laySeen 72 = .ok (.ifCond .eq 13, 3) := by decide +kernel
theorem dX11_laySeen_75 : decode cX11_laySeen 75 = .ok (.aload_n 0, 1) := by decide +kernel
theorem dX11_laySeen_76 : decode cX11_laySeen 76 = .ok (.iconst 1, 1) := by decide +kernel
theorem dX11_laySeen_77 : decode cX11_laySeen 77 = .ok (.iload_n 2, 1) := by decide +kernel
theorem dX11_laySeen_78 : decode cX11_laySeen 78 = .ok (.iload_n 3, 1) := by decide +kernel
theorem dX11_laySeen_79 : decode cX11_laySeen 79 = .ok (.invokevirtual 195, 3) := by decide +kernel
theorem dX11_laySeen_82 : decode cX11_laySeen 82 = .ok (.goto 4, 3) := by decide +kernel
theorem dX11_laySeen_85 : decode cX11_laySeen 85 = .ok (.iconst 0, 1) := by decide +kernel
theorem dX11_laySeen_86 : decode cX11_laySeen 86 = .ok (.iastore, 1) := by decide +kernel
theorem dX11_laySeen_87 : decode cX11_laySeen 87 = .ok (.iinc 3 1, 3) := by decide +kernel
theorem dX11_laySeen_90 : decode cX11_laySeen 90 = .ok (.goto (-70), 3) := by decide +kernel
theorem dX11_laySeen_93 : decode cX11_laySeen 93 = .ok (.iconst 0, 1) := by decide +kernel
theorem dX11_laySeen_94 : decode cX11_laySeen 94 = .ok (.istore_n 3, 1) := by decide +kernel
theorem dX11_laySeen_95 : decode cX11_laySeen 95 = .ok (.iload_n 3, 1) := by decide +kernel
theorem dX11_laySeen_96 : decode cX11_laySeen 96 = .ok (.bipush 8, 2) := by decide +kernel
theorem dX11_laySeen_98 : decode cX11_laySeen 98 = .ok (.if_icmp .ge 101, 3) := by decide +kernel
theorem dX11_laySeen_101 : decode cX11_laySeen 101 = .ok (.aload_n 0, 1) := by decide +kernel
theorem dX11_laySeen_102 : decode cX11_laySeen 102 = .ok (.getfield 25, 3) := by decide +kernel
theorem dX11_laySeen_105 : decode cX11_laySeen 105 = .ok (.aload_n 0, 1) := by decide +kernel
theorem dX11_laySeen_106 : decode cX11_laySeen 106 = .ok (.iconst 1, 1) := by decide +kernel
theorem dX11_laySeen_107 : decode cX11_laySeen 107 = .ok (.aload_n 0, 1) := by decide +kernel
theorem dX11_laySeen_108 : decode cX11_laySeen 108 = .ok (.getfield 32, 3) := by decide +kernel
theorem dX11_laySeen_111 : decode cX11_laySeen 111 = .ok (.iload_n 2, 1) := by decide +kernel
theorem dX11_laySeen_112 : decode cX11_laySeen 112 = .ok (.iaload, 1) := by decide +kernel
theorem dX11_laySeen_113 : decode cX11_laySeen 113 = .ok (.iload_n 3, 1) := by decide +kernel
theorem dX11_laySeen_114 : decode cX11_laySeen 114 = .ok (.invokevirtual 185, 3) := by decide +kernel
theorem dX11_laySeen_117 : decode cX11_laySeen 117 = .ok (.iaload, 1) := by decide +kernel
theorem dX11_laySeen_118 : decode cX11_laySeen 118 = .ok (.istore 4, 2) := by decide +kernel
theorem dX11_laySeen_120 : decode cX11_laySeen 120 = .ok (.aload_n 0, 1) := by decide +kernel
theorem dX11_laySeen_121 : decode cX11_laySeen 121 = .ok (.getfield 19, 3) := by decide +kernel
theorem dX11_laySeen_124 : decode cX11_laySeen 124 = .ok (.iconst 3, 1) := by decide +kernel
theorem dX11_laySeen_125 : decode cX11_laySeen 125 = .ok (.iaload, 1) := by decide +kernel
theorem dX11_laySeen_126 : decode cX11_laySeen 126 = .ok (.aload_n 0, 1) := by decide +kernel
theorem dX11_laySeen_127 : decode cX11_laySeen 127 = .ok (.getfield 19, 3) := by decide +kernel
theorem dX11_laySeen_130 : decode cX11_laySeen 130 = .ok (.bipush 60, 2) := by decide +kernel
theorem dX11_laySeen_132 : decode cX11_laySeen 132 = .ok (.bipush 8, 2) := by decide +kernel
theorem dX11_laySeen_134 : decode cX11_laySeen 134 = .ok (.aload_n 0, 1) := by decide +kernel
theorem dX11_laySeen_135 : decode cX11_laySeen 135 = .ok (.getfield 32, 3) := by decide +kernel
theorem dX11_laySeen_138 : decode cX11_laySeen 138 = .ok (.iload_n 2, 1) := by decide +kernel
theorem dX11_laySeen_139 : decode cX11_laySeen 139 = .ok (.iaload, 1) := by decide +kernel
theorem dX11_laySeen_140 : decode cX11_laySeen 140 = .ok (.imul, 1) := by decide +kernel
theorem dX11_laySeen_141 : decode cX11_laySeen 141 = .ok (.iadd, 1) := by decide +kernel
theorem dX11_laySeen_142 : decode cX11_laySeen 142 = .ok (.iload_n 3, 1) := by decide +kernel
theorem dX11_laySeen_143 : decode cX11_laySeen 143 = .ok (.iadd, 1) := by decide +kernel
theorem dX11_laySeen_144 : decode cX11_laySeen 144 = .ok (.iaload, 1) := by decide +kernel
theorem dX11_laySeen_145 : decode cX11_laySeen 145 = .ok (.iconst 1, 1) := by decide +kernel
theorem dX11_laySeen_146 : decode cX11_laySeen 146 = .ok (.isub, 1) := by decide +kernel
theorem dX11_laySeen_147 : decode cX11_laySeen 147 = .ok (.imul, 1) := by decide +kernel
theorem dX11_laySeen_148 : decode cX11_laySeen 148 = .ok (.istore 5, 2) := by decide +kernel
theorem dX11_laySeen_150 : decode cX11_laySeen 150 = .ok (.aload_n 0, 1) := by decide +kernel
theorem dX11_laySeen_151 : decode cX11_laySeen 151 = .ok (.getfield 44, 3) := by decide +kernel
theorem dX11_laySeen_154 : decode cX11_laySeen 154 = .ok (.iload_n 1, 1) := by decide +kernel
theorem dX11_laySeen_155 : decode cX11_laySeen 155 = .ok (.bipush 30, 2) := by decide +kernel
theorem dX11_laySeen_157 : decode cX11_laySeen 157 = .ok (.iadd, 1) := by decide +kernel
theorem dX11_laySeen_158 : decode cX11_laySeen 158 = .ok (.bipush 8, 2) := by decide +kernel
theorem dX11_laySeen_160 : decode cX11_laySeen 160 = .ok (.iload_n 2, 1) := by decide +kernel
theorem dX11_laySeen_161 : decode cX11_laySeen 161 = .ok (.imul, 1) := by decide +kernel
theorem dX11_laySeen_162 : decode cX11_laySeen 162 = .ok (.iadd, 1) := by decide +kernel
theorem dX11_laySeen_163 : decode cX11_laySeen 163 = .ok (.iload_n 3, 1) := by decide +kernel
theorem dX11_laySeen_164 : decode cX11_laySeen 164 = .ok (.iadd, 1) := by decide +kernel
theorem dX11_laySeen_165 : decode cX11_laySeen 165 = .ok (.aload_n 0, 1) := by decide +kernel
theorem dX11_laySeen_166 : decode cX11_laySeen 166 = .ok (.getfield 19, 3) := by decide +kernel
theorem dX11_laySeen_169 : decode cX11_laySeen 169 = .ok (.iconst 3, 1) := by decide +kernel
theorem dX11_laySeen_170 : decode cX11_laySeen 170 = .ok (.iaload, 1) := by decide +kernel
theorem dX11_laySeen_171 : decode cX11_laySeen 171 = .ok (.ifCond .ne 7, 3) := by decide +kernel
theorem dX11_laySeen_174 : decode cX11_laySeen 174 = .ok (.iconst 0, 1) := by decide +kernel
theorem dX11_laySeen_175 : decode cX11_laySeen 175 = .ok (.goto 17, 3) := by decide +kernel
theorem dX11_laySeen_178 : decode cX11_laySeen 178 = .ok (.iload 4, 2) := by decide +kernel
theorem dX11_laySeen_180 : decode cX11_laySeen 180 = .ok (.iload 5, 2) := by decide +kernel
theorem dX11_laySeen_182 : decode cX11_laySeen 182 = .ok (.if_icmp .ge 8, 3) := by decide +kernel
theorem dX11_laySeen_185 : decode cX11_laySeen 185 = .ok (.iload 4, 2) := by decide +kernel
theorem dX11_laySeen_187 : decode cX11_laySeen 187 = .ok (.goto 5, 3) := by decide +kernel
theorem dX11_laySeen_190 : decode cX11_laySeen 190 = .ok (.iload 5, 2) := by decide +kernel
theorem dX11_laySeen_192 : decode cX11_laySeen 192 = .ok (.iastore, 1) := by decide +kernel
theorem dX11_laySeen_193 : decode cX11_laySeen 193 = .ok (.iinc 3 1, 3) := by decide +kernel
theorem dX11_laySeen_196 : decode cX11_laySeen 196 = .ok (.goto (-101), 3) := by decide +kernel
theorem dX11_laySeen_199 : decode cX11_laySeen 199 = .ok (.iinc 2 1, 3) := by decide +kernel
theorem dX11_laySeen_202 : decode cX11_laySeen 202 = .ok (.goto (-192), 3) := by decide +kernel
theorem dX11_laySeen_205 : decode cX11_laySeen 205 = .ok (.aload_n 0, 1) := by decide +kernel
theorem dX11_laySeen_206 : decode cX11_laySeen 206 = .ok (.getfield 44, 3) := by decide +kernel
theorem dX11_laySeen_209 : decode cX11_laySeen 209 = .ok (.iload_n 1, 1) := by decide +kernel
theorem dX11_laySeen_210 : decode cX11_laySeen 210 = .ok (.bipush 25, 2) := by decide +kernel
theorem dX11_laySeen_212 : decode cX11_laySeen 212 = .ok (.iadd, 1) := by decide +kernel
theorem dX11_laySeen_213 : decode cX11_laySeen 213 = .ok (.aload_n 0, 1) := by decide +kernel
theorem dX11_laySeen_214 : decode cX11_laySeen 214 = .ok (.iconst 1, 1) := by decide +kernel
theorem dX11_laySeen_215 : decode cX11_laySeen 215 = .ok (.iconst 4, 1) := by decide +kernel
theorem dX11_laySeen_216 : decode cX11_laySeen 216 = .ok (.invokevirtual 218, 3) := by decide +kernel
theorem dX11_laySeen_219 : decode cX11_laySeen 219 = .ok (.iastore, 1) := by decide +kernel
theorem dX11_laySeen_220 : decode cX11_laySeen 220 = .ok (.aload_n 0, 1) := by decide +kernel
theorem dX11_laySeen_221 : decode cX11_laySeen 221 = .ok (.getfield 47, 3) := by decide +kernel
theorem dX11_laySeen_224 : decode cX11_laySeen 224 = .ok (.aload_n 0, 1) := by decide +kernel
theorem dX11_laySeen_225 : decode cX11_laySeen 225 = .ok (.getfield 259, 3) := by decide +kernel
theorem dX11_laySeen_228 : decode cX11_laySeen 228 = .ok (.aload_n 0, 1) := by decide +kernel
theorem dX11_laySeen_229 : decode cX11_laySeen 229 = .ok (.iconst 1, 1) := by decide +kernel
theorem dX11_laySeen_230 : decode cX11_laySeen 230 = .ok (.iconst 1, 1) := by decide +kernel
theorem dX11_laySeen_231 : decode cX11_laySeen 231 = .ok (.invokevirtual 218, 3) := by decide +kernel
theorem dX11_laySeen_234 : decode cX11_laySeen 234 = .ok (.iastore, 1) := by decide +kernel
theorem dX11_laySeen_235 : decode cX11_laySeen 235 = .ok (.aload_n 0, 1) := by decide +kernel
theorem dX11_laySeen_236 : decode cX11_laySeen 236 = .ok (.getfield 50, 3) := by decide +kernel
theorem dX11_laySeen_239 : decode cX11_laySeen 239 = .ok (.aload_n 0, 1) := by decide +kernel
theorem dX11_laySeen_240 : decode cX11_laySeen 240 = .ok (.getfield 259, 3) := by decide +kernel
theorem dX11_laySeen_243 : decode cX11_laySeen 243 = .ok (.aload_n 0, 1) := by decide +kernel
theorem dX11_laySeen_244 : decode cX11_laySeen 244 = .ok (.iconst 1, 1) := by decide +kernel
theorem dX11_laySeen_245 : decode cX11_laySeen 245 = .ok (.iconst 0, 1) := by decide +kernel
theorem dX11_laySeen_246 : decode cX11_laySeen 246 = .ok (.invokevirtual 218, 3) := by decide +kernel
theorem dX11_laySeen_249 : decode cX11_laySeen 249 = .ok (.iastore, 1) := by decide +kernel
theorem dX11_laySeen_250 : decode cX11_laySeen 250 = .ok (.aload_n 0, 1) := by decide +kernel
theorem dX11_laySeen_251 : decode cX11_laySeen 251 = .ok (.dup, 1) := by decide +kernel
theorem dX11_laySeen_252 : decode cX11_laySeen 252 = .ok (.getfield 259, 3) := by decide +kernel
theorem dX11_laySeen_255 : decode cX11_laySeen 255 = .ok (.iconst 1, 1) := by decide +kernel
theorem dX11_laySeen_256 : decode cX11_laySeen 256 = .ok (.iadd, 1) := by decide +kernel
theorem dX11_laySeen_257 : decode cX11_laySeen 257 = .ok (.putfield 259, 3) := by decide +kernel
theorem dX11_laySeen_260 : decode cX11_laySeen 260 = .ok (.return_, 1) := by decide +kernel
theorem dX11_areSame_0 : decode cX11_areSame 0 = .ok (.iconst 1, 1) := by decide +kernel
theorem dX11_areSame_1 : decode cX11_areSame 1 = .ok (.istore_n 3, 1) := by decide +kernel
theorem dX11_areSame_2 : decode cX11_areSame 2 = .ok (.iconst 0, 1) := by decide +kernel
theorem dX11_areSame_3 : decode cX11_areSame 3 = .ok (.istore 4, 2) := by decide +kernel
theorem dX11_areSame_5 : decode cX11_areSame 5 = .ok (.iload 4, 2) := by decide +kernel
theorem dX11_areSame_7 : decode cX11_areSame 7 = .ok (.bipush 30, 2) := by decide +kernel
theorem dX11_areSame_9 : decode cX11_areSame 9 = .ok (.bipush 8, 2) := by decide +kernel
theorem dX11_areSame_11 : decode cX11_areSame 11 = .ok (.aload_n 0, 1) := by decide +kernel
theorem dX11_areSame_12 : decode cX11_areSame 12 = .ok (.getfield 189, 3) := by decide +kernel
theorem dX11_areSame_15 : decode cX11_areSame 15 = .ok (.imul, 1) := by decide +kernel
theorem dX11_areSame_16 : decode cX11_areSame 16 = .ok (.iadd, 1) := by decide +kernel
theorem dX11_areSame_17 : decode cX11_areSame 17 = .ok (.if_icmp .ge 46, 3) := by decide +kernel
theorem dX11_areSame_20 : decode cX11_areSame 20 = .ok (.iload_n 3, 1) := by decide +kernel
theorem dX11_areSame_21 : decode cX11_areSame 21 = .ok (.ifCond .eq 34, 3) := by decide +kernel
theorem dX11_areSame_24 : decode cX11_areSame 24 = .ok (.aload_n 0, 1) := by decide +kernel
theorem dX11_areSame_25 : decode cX11_areSame 25 = .ok (.getfield 44, 3) := by decide +kernel
theorem dX11_areSame_28 : decode cX11_areSame 28 = .ok (.bipush 80, 2) := by decide +kernel
theorem dX11_areSame_30 : decode cX11_areSame 30 = .ok (.iload_n 1, 1) := by decide +kernel
theorem dX11_areSame_31 : decode cX11_areSame 31 = .ok (.imul, 1) := by decide +kernel
theorem dX11_areSame_32 : decode cX11_areSame 32 = .ok (.iload 4, 2) := by decide +kernel
theorem dX11_areSame_34 : decode cX11_areSame 34 = .ok (.iadd, 1) := by decide +kernel
theorem dX11_areSame_35 : decode cX11_areSame 35 = .ok (.iaload, 1) := by decide +kernel
theorem dX11_areSame_36 : decode cX11_areSame 36 = .ok (.aload_n 0, 1) := by decide +kernel
theorem dX11_areSame_37 : decode cX11_areSame 37 = .ok (.getfield 44, 3) := by decide +kernel
theorem dX11_areSame_40 : decode cX11_areSame 40 = .ok (.bipush 80, 2) := by decide +kernel
theorem dX11_areSame_42 : decode cX11_areSame 42 = .ok (.iload_n 2, 1) := by decide +kernel
theorem dX11_areSame_43 : decode cX11_areSame 43 = .ok (.imul, 1) := by decide +kernel
theorem dX11_areSame_44 : decode cX11_areSame 44 = .ok (.iload 4, 2) := by decide +kernel
theorem dX11_areSame_46 : decode cX11_areSame 46 = .ok (.iadd, 1) := by decide +kernel
theorem dX11_areSame_47 : decode cX11_areSame 47 = .ok (.iaload, 1) := by decide +kernel
theorem dX11_areSame_48 : decode cX11_areSame 48 = .ok (.if_icmp .ne 7, 3) := by decide +kernel
theorem dX11_areSame_51 : decode cX11_areSame 51 = .ok (.iconst 1, 1) := by decide +kernel
theorem dX11_areSame_52 : decode cX11_areSame 52 = .ok (.goto 4, 3) := by decide +kernel
theorem dX11_areSame_55 : decode cX11_areSame 55 = .ok (.iconst 0, 1) := by decide +kernel
theorem dX11_areSame_56 : decode cX11_areSame 56 = .ok (.istore_n 3, 1) := by decide +kernel
theorem dX11_areSame_57 : decode cX11_areSame 57 = .ok (.iinc 4 1, 3) := by decide +kernel
theorem dX11_areSame_60 : decode cX11_areSame 60 = .ok (.goto (-55), 3) := by decide +kernel
theorem dX11_areSame_63 : decode cX11_areSame 63 = .ok (.iload_n 3, 1) := by decide +kernel
theorem dX11_areSame_64 : decode cX11_areSame 64 = .ok (.ireturn, 1) := by decide +kernel
theorem dX11_earlier_0 : decode cX11_earlier 0 = .ok (.iconst 0, 1) := by decide +kernel
theorem dX11_earlier_1 : decode cX11_earlier 1 = .ok (.istore_n 1, 1) := by decide +kernel
theorem dX11_earlier_2 : decode cX11_earlier 2 = .ok (.iload_n 1, 1) := by decide +kernel
theorem dX11_earlier_3 : decode cX11_earlier 3 = .ok (.aload_n 0, 1) := by decide +kernel
theorem dX11_earlier_4 : decode cX11_earlier 4 = .ok (.getfield 259, 3) := by decide +kernel
theorem dX11_earlier_7 : decode cX11_earlier 7 = .ok (.iconst 1, 1) := by decide +kernel
theorem dX11_earlier_8 : decode cX11_earlier 8 = .ok (.isub, 1) := by decide +kernel
theorem dX11_earlier_9 : decode cX11_earlier 9 = .ok (.if_icmp .ge 25, 3) := by decide +kernel
theorem dX11_earlier_12 : decode cX11_earlier 12 = .ok (.aload_n 0, 1) := by decide +kernel
theorem dX11_earlier_13 : decode cX11_earlier 13 = .ok (.iload_n 1, 1) := by decide +kernel
theorem dX11_earlier_14 : decode cX11_earlier 14 = .ok (.aload_n 0, 1) := by decide +kernel
theorem dX11_earlier_15 : decode cX11_earlier 15 = .ok (.getfield 259, 3) := by decide +kernel
theorem dX11_earlier_18 : decode cX11_earlier 18 = .ok (.iconst 1, 1) := by decide +kernel
theorem dX11_earlier_19 : decode cX11_earlier 19 = .ok (.isub, 1) := by decide +kernel
theorem dX11_earlier_20 : decode cX11_earlier 20 = .ok (.invokevirtual 262, 3) := by decide +kernel
theorem dX11_earlier_23 : decode cX11_earlier 23 = .ok (.ifCond .eq 5, 3) := by decide +kernel
theorem dX11_earlier_26 : decode cX11_earlier 26 = .ok (.iload_n 1, 1) := by decide +kernel
theorem dX11_earlier_27 : decode cX11_earlier 27 = .ok (.ireturn, 1) := by decide +kernel
theorem dX11_earlier_28 : decode cX11_earlier 28 = .ok (.iinc 1 1, 3) := by decide +kernel
theorem dX11_earlier_31 : decode cX11_earlier 31 = .ok (.goto (-29), 3) := by decide +kernel
theorem dX11_earlier_34 : decode cX11_earlier 34 = .ok (.bipush (-4), 2) := by decide +kernel
theorem dX11_earlier_36 : decode cX11_earlier 36 = .ok (.ireturn, 1) := by decide +kernel
theorem dX11_runs_0 : decode cX11_runs 0 = .ok (.aload_n 0, 1) := by decide +kernel
theorem dX11_runs_1 : decode cX11_runs 1 = .ok (.iconst 1, 1) := by decide +kernel
theorem dX11_runs_2 : decode cX11_runs 2 = .ok (.invokevirtual 249, 3) := by decide +kernel
theorem dX11_runs_5 : decode cX11_runs 5 = .ok (.iconst 0, 1) := by decide +kernel
theorem dX11_runs_6 : decode cX11_runs 6 = .ok (.istore_n 3, 1) := by decide +kernel
theorem dX11_runs_7 : decode cX11_runs 7 = .ok (.iload_n 3, 1) := by decide +kernel
theorem dX11_runs_8 : decode cX11_runs 8 = .ok (.bipush 8, 2) := by decide +kernel
theorem dX11_runs_10 : decode cX11_runs 10 = .ok (.if_icmp .ge 16, 3) := by decide +kernel
theorem dX11_runs_13 : decode cX11_runs 13 = .ok (.aload_n 0, 1) := by decide +kernel
theorem dX11_runs_14 : decode cX11_runs 14 = .ok (.getfield 41, 3) := by decide +kernel
theorem dX11_runs_17 : decode cX11_runs 17 = .ok (.iload_n 3, 1) := by decide +kernel
theorem dX11_runs_18 : decode cX11_runs 18 = .ok (.iconst 0, 1) := by decide +kernel
theorem dX11_runs_19 : decode cX11_runs 19 = .ok (.iastore, 1) := by decide +kernel
theorem dX11_runs_20 : decode cX11_runs 20 = .ok (.iinc 3 1, 3) := by decide +kernel
theorem dX11_runs_23 : decode cX11_runs 23 = .ok (.goto (-16), 3) := by decide +kernel
theorem dX11_runs_26 : decode cX11_runs 26 = .ok (.iconst 0, 1) := by decide +kernel
theorem dX11_runs_27 : decode cX11_runs 27 = .ok (.istore_n 3, 1) := by decide +kernel
theorem dX11_runs_28 : decode cX11_runs 28 = .ok (.iload_n 3, 1) := by decide +kernel
theorem dX11_runs_29 : decode cX11_runs 29 = .ok (.sipush 9600, 3) := by decide +kernel
theorem dX11_runs_32 : decode cX11_runs 32 = .ok (.if_icmp .ge 16, 3) := by decide +kernel
theorem dX11_runs_35 : decode cX11_runs 35 = .ok (.aload_n 0, 1) := by decide +kernel
theorem dX11_runs_36 : decode cX11_runs 36 = .ok (.getfield 44, 3) := by decide +kernel
theorem dX11_runs_39 : decode cX11_runs 39 = .ok (.iload_n 3, 1) := by decide +kernel
theorem dX11_runs_40 : decode cX11_runs 40 = .ok (.iconst 0, 1) := by decide +kernel
theorem dX11_runs_41 : decode cX11_runs 41 = .ok (.iastore, 1) := by decide +kernel
theorem dX11_runs_42 : decode cX11_runs 42 = .ok (.iinc 3 1, 3) := by decide +kernel
theorem dX11_runs_45 : decode cX11_runs 45 = .ok (.goto (-17), 3) := by decide +kernel
theorem dX11_runs_48 : decode cX11_runs 48 = .ok (.aload_n 0, 1) := by decide +kernel
theorem dX11_runs_49 : decode cX11_runs 49 = .ok (.iconst 0, 1) := by decide +kernel
theorem dX11_runs_50 : decode cX11_runs 50 = .ok (.putfield 259, 3) := by decide +kernel
theorem dX11_runs_53 : decode cX11_runs 53 = .ok (.aload_n 0, 1) := by decide +kernel
theorem dX11_runs_54 : decode cX11_runs 54 = .ok (.bipush (-4), 2) := by decide +kernel
theorem dX11_runs_56 : decode cX11_runs 56 = .ok (.putfield 265, 3) := by decide +kernel
theorem dX11_runs_59 : decode cX11_runs 59 = .ok (.aload_n 0, 1) := by decide +kernel
theorem dX11_runs_60 : decode cX11_runs 60 = .ok (.iconst 1, 1) := by decide +kernel
theorem dX11_runs_61 : decode cX11_runs 61 = .ok (.invokevirtual 246, 3) := by decide +kernel
theorem dX11_runs_64 : decode cX11_runs 64 = .ok (.aload_n 0, 1) := by decide +kernel
theorem dX11_runs_65 : decode cX11_runs 65 = .ok (.iconst 1, 1) := by decide +kernel
theorem dX11_runs_66 : decode cX11_runs 66 = .ok (.iconst 1, 1) := by decide +kernel
theorem dX11_runs_67 : decode cX11_runs 67 = .ok (.invokevirtual 218, 3) := by decide +kernel
theorem dX11_runs_70 : decode cX11_runs 70 = .ok (.iload_n 1, 1) := by decide +kernel
theorem dX11_runs_71 : decode cX11_runs 71 = .ok (.if_icmp .ge 82, 3) := by decide +kernel
theorem dX11_runs_74 : decode cX11_runs 74 = .ok (.aload_n 0, 1) := by decide +kernel
theorem dX11_runs_75 : decode cX11_runs 75 = .ok (.iconst 1, 1) := by decide +kernel
theorem dX11_runs_76 : decode cX11_runs 76 = .ok (.iconst 3, 1) := by decide +kernel
theorem dX11_runs_77 : decode cX11_runs 77 = .ok (.invokevirtual 218, 3) := by decide +kernel
theorem dX11_runs_80 : decode cX11_runs 80 = .ok (.ifCond .ne 73, 3) := by decide +kernel
theorem dX11_runs_83 : decode cX11_runs 83 = .ok (.aload_n 0, 1) := by decide +kernel
theorem dX11_runs_84 : decode cX11_runs 84 = .ok (.iconst 1, 1) := by decide +kernel
theorem dX11_runs_85 : decode cX11_runs 85 = .ok (.iconst 1, 1) := by decide +kernel
theorem dX11_runs_86 : decode cX11_runs 86 = .ok (.invokevirtual 218, 3) := by decide +kernel
theorem dX11_runs_89 : decode cX11_runs 89 = .ok (.istore_n 3, 1) := by decide +kernel
theorem dX11_runs_90 : decode cX11_runs 90 = .ok (.aload_n 0, 1) := by decide +kernel
theorem dX11_runs_91 : decode cX11_runs 91 = .ok (.iconst 1, 1) := by decide +kernel
theorem dX11_runs_92 : decode cX11_runs 92 = .ok (.aload_n 0, 1) := by decide +kernel
theorem dX11_runs_93 : decode cX11_runs 93 = .ok (.iconst 1, 1) := by decide +kernel
theorem dX11_runs_94 : decode cX11_runs 94 = .ok (.invokevirtual 237, 3) := by decide +kernel
theorem dX11_runs_97 : decode cX11_runs 97 = .ok (.invokevirtual 254, 3) := by decide +kernel
theorem dX11_runs_100 : decode cX11_runs 100 = .ok (.aload_n 0, 1) := by decide +kernel
theorem dX11_runs_101 : decode cX11_runs 101 = .ok (.iconst 1, 1) := by decide +kernel
theorem dX11_runs_102 : decode cX11_runs 102 = .ok (.invokevirtual 246, 3) := by decide +kernel
theorem dX11_runs_105 : decode cX11_runs 105 = .ok (.iload_n 2, 1) := by decide +kernel
theorem dX11_runs_106 : decode cX11_runs 106 = .ok (.ifCond .eq 44, 3) := by decide +kernel
theorem dX11_runs_109 : decode cX11_runs 109 = .ok (.aload_n 0, 1) := by decide +kernel
theorem dX11_runs_110 : decode cX11_runs 110 = .ok (.iconst 1, 1) := by decide +kernel
theorem dX11_runs_111 : decode cX11_runs 111 = .ok (.iconst 1, 1) := by decide +kernel
theorem dX11_runs_112 : decode cX11_runs 112 = .ok (.invokevirtual 218, 3) := by decide +kernel
theorem dX11_runs_115 : decode cX11_runs 115 = .ok (.iload_n 3, 1) := by decide +kernel
theorem dX11_runs_116 : decode cX11_runs 116 = .ok (.if_icmp .le 34, 3) := by decide +kernel
theorem dX11_runs_119 : decode cX11_runs 119 = .ok (.aload_n 0, 1) := by decide +kernel
theorem dX11_runs_120 : decode cX11_runs 120 = .ok (.getfield 265, 3) := by decide +kernel
theorem dX11_runs_123 : decode cX11_runs 123 = .ok (.bipush (-4), 2) := by decide +kernel
theorem dX11_runs_125 : decode cX11_runs 125 = .ok (.if_icmp .ne 25, 3) := by decide +kernel
theorem dX11_runs_128 : decode cX11_runs 128 = .ok (.aload_n 0, 1) := by decide +kernel
theorem dX11_runs_129 : decode cX11_runs 129 = .ok (.invokevirtual 268, 3) := by decide +kernel
theorem dX11_runs_132 : decode cX11_runs 132 = .ok (.aload_n 0, 1) := by decide +kernel
theorem dX11_runs_133 : decode cX11_runs 133 = .ok (.aload_n 0, 1) := by decide +kernel
theorem dX11_runs_134 : decode cX11_runs 134 = .ok (.invokevirtual 271, 3) := by decide +kernel
theorem dX11_runs_137 : decode cX11_runs 137 = .ok (.putfield 265, 3) := by decide +kernel
theorem dX11_runs_140 : decode cX11_runs 140 = .ok (.aload_n 0, 1) := by decide +kernel
theorem dX11_runs_141 : decode cX11_runs 141 = .ok (.aload_n 0, 1) := by decide +kernel
theorem dX11_runs_142 : decode cX11_runs 142 = .ok (.getfield 259, 3) := by decide +kernel
theorem dX11_runs_145 : decode cX11_runs 145 = .ok (.iconst 1, 1) := by decide +kernel
theorem dX11_runs_146 : decode cX11_runs 146 = .ok (.isub, 1) := by decide +kernel
theorem dX11_runs_147 : decode cX11_runs 147 = .ok (.putfield 274, 3) := by decide +kernel
theorem dX11_runs_150 : decode cX11_runs 150 = .ok (.goto (-86), 3) := by decide +kernel
theorem dX11_runs_153 : decode cX11_runs 153 = .ok (.return_, 1) := by decide +kernel
theorem dX11_isRun_0 : decode cX11_isRun 0 = .ok (.iload_n 0, 1) := by decide +kernel
theorem dX11_isRun_1 : decode cX11_isRun 1 = .ok (.i2l, 1) := by decide +kernel
theorem dX11_isRun_2 : decode cX11_isRun 2 = .ok (.lconst 1, 1) := by decide +kernel
theorem dX11_isRun_3 : decode cX11_isRun 3 = .ok (.ldc2_w 277, 3) := by decide +kernel
theorem dX11_isRun_6 : decode cX11_isRun 6 = .ok (.invokestatic 69, 3) := by decide +kernel
theorem dX11_isRun_9 : decode cX11_isRun 9 = .ok (.ireturn, 1) := by decide +kernel
theorem dX11_run_0 : decode cX11_run 0 = .ok (.iload_n 1, 1) := by decide +kernel
theorem dX11_run_1 : decode cX11_run 1 = .ok (.invokestatic 279, 3) := by decide +kernel
theorem dX11_run_4 : decode cX11_run 4 = .ok (.ifCond .eq 15, 3) := by decide +kernel
theorem dX11_run_7 : decode cX11_run 7 = .ok (.iload_n 2, 1) := by decide +kernel
theorem dX11_run_8 : decode cX11_run 8 = .ok (.i2l, 1) := by decide +kernel
theorem dX11_run_9 : decode cX11_run 9 = .ok (.lconst 0, 1) := by decide +kernel
theorem dX11_run_10 : decode cX11_run 10 = .ok (.ldc2_w 257, 3) := by decide +kernel
theorem dX11_run_13 : decode cX11_run 13 = .ok (.invokestatic 69, 3) := by decide +kernel
theorem dX11_run_16 : decode cX11_run 16 = .ok (.ifCond .ne 5, 3) := by decide +kernel
theorem dX11_run_19 : decode cX11_run 19 = .ok (.iconst (-1), 1) := by decide +kernel
theorem dX11_run_20 : decode cX11_run 20 = .ok (.ireturn, 1) := by decide +kernel
theorem dX11_run_21 : decode cX11_run 21 = .ok (.aload_n 0, 1) := by decide +kernel
theorem dX11_run_22 : decode cX11_run 22 = .ok (.invokevirtual 243, 3) := by decide +kernel
theorem dX11_run_25 : decode cX11_run 25 = .ok (.aload_n 0, 1) := by decide +kernel
theorem dX11_run_26 : decode cX11_run 26 = .ok (.iload_n 1, 1) := by decide +kernel
theorem dX11_run_27 : decode cX11_run 27 = .ok (.iconst 0, 1) := by decide +kernel
theorem dX11_run_28 : decode cX11_run 28 = .ok (.invokevirtual 282, 3) := by decide +kernel
theorem dX11_run_31 : decode cX11_run 31 = .ok (.iconst 0, 1) := by decide +kernel
theorem dX11_run_32 : decode cX11_run 32 = .ok (.istore_n 3, 1) := by decide +kernel
theorem dX11_run_33 : decode cX11_run 33 = .ok (.bipush (-4), 2) := by decide +kernel
theorem dX11_run_35 : decode cX11_run 35 = .ok (.istore 4, 2) := by decide +kernel
theorem dX11_run_37 : decode cX11_run 37 = .ok (.iconst 0, 1) := by decide +kernel
theorem dX11_run_38 : decode cX11_run 38 = .ok (.istore 5, 2) := by decide +kernel
theorem dX11_run_40 : decode cX11_run 40 = .ok (.iconst 0, 1) := by decide +kernel
theorem dX11_run_41 : decode cX11_run 41 = .ok (.istore 6, 2) := by decide +kernel
theorem dX11_run_43 : decode cX11_run 43 = .ok (.iload 6, 2) := by decide +kernel
theorem dX11_run_45 : decode cX11_run 45 = .ok (.aload_n 0, 1) := by decide +kernel
theorem dX11_run_46 : decode cX11_run 46 = .ok (.getfield 189, 3) := by decide +kernel
theorem dX11_run_49 : decode cX11_run 49 = .ok (.if_icmp .ge 20, 3) := by decide +kernel
theorem dX11_run_52 : decode cX11_run 52 = .ok (.iload_n 3, 1) := by decide +kernel
theorem dX11_run_53 : decode cX11_run 53 = .ok (.aload_n 0, 1) := by decide +kernel
theorem dX11_run_54 : decode cX11_run 54 = .ok (.iconst 1, 1) := by decide +kernel
theorem dX11_run_55 : decode cX11_run 55 = .ok (.iload 6, 2) := by decide +kernel
theorem dX11_run_57 : decode cX11_run 57 = .ok (.iconst 5, 1) := by decide +kernel
theorem dX11_run_58 : decode cX11_run 58 = .ok (.invokevirtual 195, 3) := by decide +kernel
theorem dX11_run_61 : decode cX11_run 61 = .ok (.iadd, 1) := by decide +kernel
theorem dX11_run_62 : decode cX11_run 62 = .ok (.istore_n 3, 1) := by decide +kernel
theorem dX11_run_63 : decode cX11_run 63 = .ok (.iinc 6 1, 3) := by decide +kernel
theorem dX11_run_66 : decode cX11_run 66 = .ok (.goto (-23), 3) := by decide +kernel
theorem dX11_run_69 : decode cX11_run 69 = .ok (.iconst 0, 1) := by decide +kernel
theorem dX11_run_70 : decode cX11_run 70 = .ok (.istore 6, 2) := by decide +kernel
theorem dX11_run_72 : decode cX11_run 72 = .ok (.iload 6, 2) := by decide +kernel
theorem dX11_run_74 : decode cX11_run 74 = .ok (.aload_n 0, 1) := by decide +kernel
theorem dX11_run_75 : decode cX11_run 75 = .ok (.getfield 19, 3) := by decide +kernel
theorem dX11_run_78 : decode cX11_run 78 = .ok (.iconst 0, 1) := by decide +kernel
theorem dX11_run_79 : decode cX11_run 79 = .ok (.iaload, 1) := by decide +kernel
theorem dX11_run_80 : decode cX11_run 80 = .ok (.if_icmp .ge 56, 3) := by decide +kernel
theorem dX11_run_83 : decode cX11_run 83 = .ok (.aload_n 0, 1) := by decide +kernel
theorem dX11_run_84 : decode cX11_run 84 = .ok (.getfield 41, 3) := by decide +kernel
theorem dX11_run_87 : decode cX11_run 87 = .ok (.iload 6, 2) := by decide +kernel
theorem dX11_run_89 : decode cX11_run 89 = .ok (.iaload, 1) := by decide +kernel
theorem dX11_run_90 : decode cX11_run 90 = .ok (.iload 5, 2) := by decide +kernel
theorem dX11_run_92 : decode cX11_run 92 = .ok (.if_icmp .le 8, 3) := by decide +kernel
theorem dX11_run_95 : decode cX11_run 95 = .ok (.iload 6, 2) := by decide +kernel
theorem dX11_run_97 : decode cX11_run 97 = .ok (.goto 5, 3) := by decide +kernel
theorem dX11_run_100 : decode cX11_run 100 = .ok (.iload 4, 2) := by decide +kernel
theorem dX11_run_102 : decode cX11_run 102 = .ok (.istore 4, 2) := by decide +kernel
theorem dX11_run_104 : decode cX11_run 104 = .ok (.aload_n 0, 1) := by decide +kernel
theorem dX11_run_105 : decode cX11_run 105 = .ok (.getfield 41, 3) := by decide +kernel
theorem dX11_run_108 : decode cX11_run 108 = .ok (.iload 6, 2) := by decide +kernel
theorem dX11_run_110 : decode cX11_run 110 = .ok (.iaload, 1) := by decide +kernel
theorem dX11_run_111 : decode cX11_run 111 = .ok (.iload 5, 2) := by decide +kernel
theorem dX11_run_113 : decode cX11_run 113 = .ok (.if_icmp .le 13, 3) := by decide +kernel
theorem dX11_run_116 : decode cX11_run 116 = .ok (.aload_n 0, 1) := by decide +kernel
theorem dX11_run_117 : decode cX11_run 117 = .ok (.getfield 41, 3) := by decide +kernel
theorem dX11_run_120 : decode cX11_run 120 = .ok (.iload 6, 2) := by decide +kernel
theorem dX11_run_122 : decode cX11_run 122 = .ok (.iaload, 1) := by decide +kernel
theorem dX11_run_123 : decode cX11_run 123 = .ok (.goto 5, 3) := by decide +kernel
theorem dX11_run_126 : decode cX11_run 126 = .ok (.iload 5, 2) := by decide +kernel
theorem dX11_run_128 : decode cX11_run 128 = .ok (.istore 5, 2) := by decide +kernel
theorem dX11_run_130 : decode cX11_run 130 = .ok (.iinc 6 1, 3) := by decide +kernel
theorem dX11_run_133 : decode cX11_run 133 = .ok (.goto (-61), 3) := by decide +kernel
theorem dX11_run_136 : decode cX11_run 136 = .ok (.iload_n 2, 1) := by decide +kernel
theorem dX11_run_137 : decode cX11_run 137 = .ok (.iconst 4, 1) := by decide +kernel
theorem dX11_run_138 : decode cX11_run 138 = .ok (.if_icmp .ge 12, 3) := by decide +kernel
theorem dX11_run_141 : decode cX11_run 141 = .ok (.aload_n 0, 1) := by decide +kernel
theorem dX11_run_142 : decode cX11_run 142 = .ok (.iconst 1, 1) := by decide +kernel
theorem dX11_run_143 : decode cX11_run 143 = .ok (.iload_n 2, 1) := by decide +kernel
theorem dX11_run_144 : decode cX11_run 144 = .ok (.invokevirtual 218, 3) := by decide +kernel
theorem dX11_run_147 : decode cX11_run 147 = .ok (.goto 14, 3) := by decide +kernel
theorem dX11_run_150 : decode cX11_run 150 = .ok (.iload_n 2, 1) := by decide +kernel
theorem dX11_run_151 : decode cX11_run 151 = .ok (.iconst 4, 1) := by decide +kernel
theorem dX11_run_152 : decode cX11_run 152 = .ok (.if_icmp .ne 7, 3) := by decide +kernel
theorem dX11_run_155 : decode cX11_run 155 = .ok (.iload_n 3, 1) := by decide +kernel
theorem dX11_run_156 : decode cX11_run 156 = .ok (.goto 5, 3) := by decide +kernel
theorem dX11_run_159 : decode cX11_run 159 = .ok (.iload 4, 2) := by decide +kernel
theorem dX11_run_161 : decode cX11_run 161 = .ok (.ireturn, 1) := by decide +kernel
theorem dX11_waits_0 : decode cX11_waits 0 = .ok (.iload_n 1, 1) := by decide +kernel
theorem dX11_waits_1 : decode cX11_waits 1 = .ok (.invokestatic 279, 3) := by decide +kernel
theorem dX11_waits_4 : decode cX11_waits 4 = .ok (.ifCond .eq 11, 3) := by decide +kernel
theorem dX11_waits_7 : decode cX11_waits 7 = .ok (.aload_n 0, 1) := by decide +kernel
theorem dX11_waits_8 : decode cX11_waits 8 = .ok (.iload_n 2, 1) := by decide +kernel
theorem dX11_waits_9 : decode cX11_waits 9 = .ok (.invokevirtual 166, 3) := by decide +kernel
theorem dX11_waits_12 : decode cX11_waits 12 = .ok (.ifCond .ne 5, 3) := by decide +kernel
theorem dX11_waits_15 : decode cX11_waits 15 = .ok (.iconst (-1), 1) := by decide +kernel
theorem dX11_waits_16 : decode cX11_waits 16 = .ok (.ireturn, 1) := by decide +kernel
theorem dX11_waits_17 : decode cX11_waits 17 = .ok (.aload_n 0, 1) := by decide +kernel
theorem dX11_waits_18 : decode cX11_waits 18 = .ok (.invokevirtual 243, 3) := by decide +kernel
theorem dX11_waits_21 : decode cX11_waits 21 = .ok (.aload_n 0, 1) := by decide +kernel
theorem dX11_waits_22 : decode cX11_waits 22 = .ok (.iload_n 1, 1) := by decide +kernel
theorem dX11_waits_23 : decode cX11_waits 23 = .ok (.iconst 0, 1) := by decide +kernel
theorem dX11_waits_24 : decode cX11_waits 24 = .ok (.invokevirtual 282, 3) := by decide +kernel
theorem dX11_waits_27 : decode cX11_waits 27 = .ok (.aload_n 0, 1) := by decide +kernel
theorem dX11_waits_28 : decode cX11_waits 28 = .ok (.iconst 1, 1) := by decide +kernel
theorem dX11_waits_29 : decode cX11_waits 29 = .ok (.iload_n 2, 1) := by decide +kernel
theorem dX11_waits_30 : decode cX11_waits 30 = .ok (.iconst 5, 1) := by decide +kernel
theorem dX11_waits_31 : decode cX11_waits 31 = .ok (.invokevirtual 195, 3) := by decide +kernel
theorem dX11_waits_34 : decode cX11_waits 34 = .ok (.ireturn, 1) := by decide +kernel
theorem dX11_oversKept_0 : decode cX11_oversKept 0 = .ok (.aload_n 0, 1) := by decide +kernel
theorem dX11_oversKept_1 : decode cX11_oversKept 1 = .ok (.iconst 1, 1) := by decide +kernel
theorem dX11_oversKept_2 : decode cX11_oversKept 2 = .ok (.iconst 2, 1) := by decide +kernel
theorem dX11_oversKept_3 : decode cX11_oversKept 3 = .ok (.invokevirtual 218, 3) := by decide +kernel
theorem dX11_oversKept_6 : decode cX11_oversKept 6 = .ok (.sipush 600, 3) := by decide +kernel
theorem dX11_oversKept_9 : decode cX11_oversKept 9 = .ok (.if_icmp .ge 12, 3) := by decide +kernel
theorem dX11_oversKept_12 : decode cX11_oversKept 12 = .ok (.aload_n 0, 1) := by decide +kernel
theorem dX11_oversKept_13 : decode cX11_oversKept 13 = .ok (.iconst 1, 1) := by decide +kernel
theorem dX11_oversKept_14 : decode cX11_oversKept 14 = .ok (.iconst 2, 1) := by decide +kernel
theorem dX11_oversKept_15 : decode cX11_oversKept 15 = .ok (.invokevirtual 218, 3) := by decide +kernel
theorem dX11_oversKept_18 : decode cX11_oversKept 18 = .ok (.goto 6, 3) := by decide +kernel
theorem dX11_oversKept_21 : decode cX11_oversKept 21 = .ok (.sipush 600, 3) := by decide +kernel
theorem dX11_oversKept_24 : decode cX11_oversKept 24 = .ok (.ireturn, 1) := by decide +kernel
theorem dX11_over_0 : decode cX11_over 0 = .ok (.iload_n 1, 1) := by decide +kernel
theorem dX11_over_1 : decode cX11_over 1 = .ok (.invokestatic 279, 3) := by decide +kernel
theorem dX11_over_4 : decode cX11_over 4 = .ok (.ifCond .eq 19, 3) := by decide +kernel
theorem dX11_over_7 : decode cX11_over 7 = .ok (.iload_n 2, 1) := by decide +kernel
theorem dX11_over_8 : decode cX11_over 8 = .ok (.ifCond .lt 15, 3) := by decide +kernel
theorem dX11_over_11 : decode cX11_over 11 = .ok (.iload_n 3, 1) := by decide +kernel
theorem dX11_over_12 : decode cX11_over 12 = .ok (.i2l, 1) := by decide +kernel
theorem dX11_over_13 : decode cX11_over 13 = .ok (.lconst 0, 1) := by decide +kernel
theorem dX11_over_14 : decode cX11_over 14 = .ok (.ldc2_w 183, 3) := by decide +kernel
theorem dX11_over_17 : decode cX11_over 17 = .ok (.invokestatic 69, 3) := by decide +kernel
theorem dX11_over_20 : decode cX11_over 20 = .ok (.ifCond .ne 5, 3) := by decide +kernel
theorem dX11_over_23 : decode cX11_over 23 = .ok (.iconst (-1), 1) := by decide +kernel
theorem dX11_over_24 : decode cX11_over 24 = .ok (.ireturn, 1) := by decide +kernel
theorem dX11_over_25 : decode cX11_over 25 = .ok (.aload_n 0, 1) := by decide +kernel
theorem dX11_over_26 : decode cX11_over 26 = .ok (.invokevirtual 243, 3) := by decide +kernel
theorem dX11_over_29 : decode cX11_over 29 = .ok (.aload_n 0, 1) := by decide +kernel
theorem dX11_over_30 : decode cX11_over 30 = .ok (.iload_n 1, 1) := by decide +kernel
theorem dX11_over_31 : decode cX11_over 31 = .ok (.iconst 0, 1) := by decide +kernel
theorem dX11_over_32 : decode cX11_over 32 = .ok (.invokevirtual 282, 3) := by decide +kernel
theorem dX11_over_35 : decode cX11_over 35 = .ok (.iload_n 2, 1) := by decide +kernel
theorem dX11_over_36 : decode cX11_over 36 = .ok (.aload_n 0, 1) := by decide +kernel
theorem dX11_over_37 : decode cX11_over 37 = .ok (.invokevirtual 286, 3) := by decide +kernel
theorem dX11_over_40 : decode cX11_over 40 = .ok (.if_icmp .ge 16, 3) := by decide +kernel
theorem dX11_over_43 : decode cX11_over 43 = .ok (.aload_n 0, 1) := by decide +kernel
theorem dX11_over_44 : decode cX11_over 44 = .ok (.getfield 38, 3) := by decide +kernel
theorem dX11_over_47 : decode cX11_over 47 = .ok (.iconst 5, 1) := by decide +kernel
theorem dX11_over_48 : decode cX11_over 48 = .ok (.iload_n 2, 1) := by decide +kernel
theorem dX11_over_49 : decode cX11_over 49 = .ok (.imul, 1) := by decide +kernel
theorem dX11_over_50 : decode cX11_over 50 = .ok (.iload_n 3, 1) := by decide +kernel
theorem dX11_over_51 : decode cX11_over 51 = .ok (.iadd, 1) := by decide +kernel
theorem dX11_over_52 : decode cX11_over 52 = .ok (.iaload, 1) := by decide +kernel
theorem dX11_over_53 : decode cX11_over 53 = .ok (.goto 4, 3) := by decide +kernel
theorem dX11_over_56 : decode cX11_over 56 = .ok (.iconst (-1), 1) := by decide +kernel
theorem dX11_over_57 : decode cX11_over 57 = .ok (.ireturn, 1) := by decide +kernel
theorem dX11_judge_0 : decode cX11_judge 0 = .ok (.aload_n 0, 1) := by decide +kernel
theorem dX11_judge_1 : decode cX11_judge 1 = .ok (.invokevirtual 243, 3) := by decide +kernel
theorem dX11_judge_4 : decode cX11_judge 4 = .ok (.aload_n 0, 1) := by decide +kernel
theorem dX11_judge_5 : decode cX11_judge 5 = .ok (.bipush 120, 2) := by decide +kernel
theorem dX11_judge_7 : decode cX11_judge 7 = .ok (.iconst 0, 1) := by decide +kernel
theorem dX11_judge_8 : decode cX11_judge 8 = .ok (.invokevirtual 282, 3) := by decide +kernel
theorem dX11_judge_11 : decode cX11_judge 11 = .ok (.iload_n 1, 1) := by decide +kernel
theorem dX11_judge_12 : decode cX11_judge 12 = .ok (.i2l, 1) := by decide +kernel
theorem dX11_judge_13 : decode cX11_judge 13 = .ok (.lconst 0, 1) := by decide +kernel
theorem dX11_judge_14 : decode cX11_judge 14 = .ok (.aload_n 0, 1) := by decide +kernel
theorem dX11_judge_15 : decode cX11_judge 15 = .ok (.invokevirtual 286, 3) := by decide +kernel
theorem dX11_judge_18 : decode cX11_judge 18 = .ok (.iconst 1, 1) := by decide +kernel
theorem dX11_judge_19 : decode cX11_judge 19 = .ok (.isub, 1) := by decide +kernel
theorem dX11_judge_20 : decode cX11_judge 20 = .ok (.i2l, 1) := by decide +kernel
theorem dX11_judge_21 : decode cX11_judge 21 = .ok (.invokestatic 69, 3) := by decide +kernel
theorem dX11_judge_24 : decode cX11_judge 24 = .ok (.ifCond .ne 5, 3) := by decide +kernel
theorem dX11_judge_27 : decode cX11_judge 27 = .ok (.iconst (-1), 1) := by decide +kernel
theorem dX11_judge_28 : decode cX11_judge 28 = .ok (.ireturn, 1) := by decide +kernel
theorem dX11_judge_29 : decode cX11_judge 29 = .ok (.iload_n 2, 1) := by decide +kernel
theorem dX11_judge_30 : decode cX11_judge 30 = .ok (.aload_n 0, 1) := by decide +kernel
theorem dX11_judge_31 : decode cX11_judge 31 = .ok (.getfield 38, 3) := by decide +kernel
theorem dX11_judge_34 : decode cX11_judge 34 = .ok (.iconst 5, 1) := by decide +kernel
theorem dX11_judge_35 : decode cX11_judge 35 = .ok (.iload_n 1, 1) := by decide +kernel
theorem dX11_judge_36 : decode cX11_judge 36 = .ok (.imul, 1) := by decide +kernel
theorem dX11_judge_37 : decode cX11_judge 37 = .ok (.iaload, 1) := by decide +kernel
theorem dX11_judge_38 : decode cX11_judge 38 = .ok (.if_icmp .eq 7, 3) := by decide +kernel
theorem dX11_judge_41 : decode cX11_judge 41 = .ok (.iconst 1, 1) := by decide +kernel
theorem dX11_judge_42 : decode cX11_judge 42 = .ok (.goto 60, 3) := by decide +kernel
theorem dX11_judge_45 : decode cX11_judge 45 = .ok (.iload_n 3, 1) := by decide +kernel
theorem dX11_judge_46 : decode cX11_judge 46 = .ok (.aload_n 0, 1) := by decide +kernel
theorem dX11_judge_47 : decode cX11_judge 47 = .ok (.getfield 38, 3) := by decide +kernel
theorem dX11_judge_50 : decode cX11_judge 50 = .ok (.iconst 5, 1) := by decide +kernel
theorem dX11_judge_51 : decode cX11_judge 51 = .ok (.iload_n 1, 1) := by decide +kernel
theorem dX11_judge_52 : decode cX11_judge 52 = .ok (.imul, 1) := by decide +kernel
theorem dX11_judge_53 : decode cX11_judge 53 = .ok (.iconst 1, 1) := by decide +kernel
theorem dX11_judge_54 : decode cX11_judge 54 = .ok (.iadd, 1) := by decide +kernel
theorem dX11_judge_55 : decode cX11_judge 55 = .ok (.iaload, 1) := by decide +kernel
theorem dX11_judge_56 : decode cX11_judge 56 = .ok (.if_icmp .eq 7, 3) := by decide +kernel
theorem dX11_judge_59 : decode cX11_judge 59 = .ok (.iconst 2, 1) := by decide +kernel
theorem dX11_judge_60 : decode cX11_judge 60 = .ok (.goto 42, 3) := by decide +kernel
theorem dX11_judge_63 : decode cX11_judge 63 = .ok (.iload 4, 2) := by decide +kernel
theorem dX11_judge_65 : decode cX11_judge 65 = .ok (.aload_n 0, 1) := by decide +kernel
theorem dX11_judge_66 : decode cX11_judge 66 = .ok (.getfield 38, 3) := by decide +kernel
theorem dX11_judge_69 : decode cX11_judge 69 = .ok (.iconst 5, 1) := by decide +kernel
theorem dX11_judge_70 : decode cX11_judge 70 = .ok (.iload_n 1, 1) := by decide +kernel
theorem dX11_judge_71 : decode cX11_judge 71 = .ok (.imul, 1) := by decide +kernel
theorem dX11_judge_72 : decode cX11_judge 72 = .ok (.iconst 2, 1) := by decide +kernel
theorem dX11_judge_73 : decode cX11_judge 73 = .ok (.iadd, 1) := by decide +kernel
theorem dX11_judge_74 : decode cX11_judge 74 = .ok (.iaload, 1) := by decide +kernel
theorem dX11_judge_75 : decode cX11_judge 75 = .ok (.if_icmp .eq 7, 3) := by decide +kernel
theorem dX11_judge_78 : decode cX11_judge 78 = .ok (.iconst 3, 1) := by decide +kernel
theorem dX11_judge_79 : decode cX11_judge 79 = .ok (.goto 23, 3) := by decide +kernel
theorem dX11_judge_82 : decode cX11_judge 82 = .ok (.iload 5, 2) := by decide +kernel
theorem dX11_judge_84 : decode cX11_judge 84 = .ok (.aload_n 0, 1) := by decide +kernel
theorem dX11_judge_85 : decode cX11_judge 85 = .ok (.getfield 38, 3) := by decide +kernel
theorem dX11_judge_88 : decode cX11_judge 88 = .ok (.iconst 5, 1) := by decide +kernel
theorem dX11_judge_89 : decode cX11_judge 89 = .ok (.iload_n 1, 1) := by decide +kernel
theorem dX11_judge_90 : decode cX11_judge 90 = .ok (.imul, 1) := by decide +kernel
theorem dX11_judge_91 : decode cX11_judge 91 = .ok (.iconst 3, 1) := by decide +kernel
theorem dX11_judge_92 : decode cX11_judge 92 = .ok (.iadd, 1) := by decide +kernel
theorem dX11_judge_93 : decode cX11_judge 93 = .ok (.iaload, 1) := by decide +kernel
theorem dX11_judge_94 : decode cX11_judge 94 = .ok (.if_icmp .eq 7, 3) := by decide +kernel
theorem dX11_judge_97 : decode cX11_judge 97 = .ok (.iconst 4, 1) := by decide +kernel
theorem dX11_judge_98 : decode cX11_judge 98 = .ok (.goto 4, 3) := by decide +kernel
theorem dX11_judge_101 : decode cX11_judge 101 = .ok (.iconst 0, 1) := by decide +kernel
theorem dX11_judge_102 : decode cX11_judge 102 = .ok (.ireturn, 1) := by decide +kernel
theorem dX11_hasRing_0 : decode cX11_hasRing 0 = .ok (.aload_n 0, 1) := by decide +kernel
theorem dX11_hasRing_1 : decode cX11_hasRing 1 = .ok (.bipush 120, 2) := by decide +kernel
theorem dX11_hasRing_3 : decode cX11_hasRing 3 = .ok (.iconst 1, 1) := by decide +kernel
theorem dX11_hasRing_4 : decode cX11_hasRing 4 = .ok (.invokevirtual 282, 3) := by decide +kernel
theorem dX11_hasRing_7 : decode cX11_hasRing 7 = .ok (.aload_n 0, 1) := by decide +kernel
theorem dX11_hasRing_8 : decode cX11_hasRing 8 = .ok (.aload_n 0, 1) := by decide +kernel
theorem dX11_hasRing_9 : decode cX11_hasRing 9 = .ok (.getfield 265, 3) := by decide +kernel
theorem dX11_hasRing_12 : decode cX11_hasRing 12 = .ok (.bipush (-4), 2) := by decide +kernel
theorem dX11_hasRing_14 : decode cX11_hasRing 14 = .ok (.if_icmp .ne 7, 3) := by decide +kernel
theorem dX11_hasRing_17 : decode cX11_hasRing 17 = .ok (.iconst 0, 1) := by decide +kernel
theorem dX11_hasRing_18 : decode cX11_hasRing 18 = .ok (.goto 22, 3) := by decide +kernel
theorem dX11_hasRing_21 : decode cX11_hasRing 21 = .ok (.aload_n 0, 1) := by decide +kernel
theorem dX11_hasRing_22 : decode cX11_hasRing 22 = .ok (.getfield 47, 3) := by decide +kernel
theorem dX11_hasRing_25 : decode cX11_hasRing 25 = .ok (.aload_n 0, 1) := by decide +kernel
theorem dX11_hasRing_26 : decode cX11_hasRing 26 = .ok (.getfield 274, 3) := by decide +kernel
theorem dX11_hasRing_29 : decode cX11_hasRing 29 = .ok (.iaload, 1) := by decide +kernel
theorem dX11_hasRing_30 : decode cX11_hasRing 30 = .ok (.aload_n 0, 1) := by decide +kernel
theorem dX11_hasRing_31 : decode cX11_hasRing 31 = .ok (.getfield 47, 3) := by decide +kernel
theorem dX11_hasRing_34 : decode cX11_hasRing 34 = .ok (.aload_n 0, 1) := by decide +kernel
theorem dX11_hasRing_35 : decode cX11_hasRing 35 = .ok (.getfield 265, 3) := by decide +kernel
theorem dX11_hasRing_38 : decode cX11_hasRing 38 = .ok (.iaload, 1) := by decide +kernel
theorem dX11_hasRing_39 : decode cX11_hasRing 39 = .ok (.isub, 1) := by decide +kernel
theorem dX11_hasRing_40 : decode cX11_hasRing 40 = .ok (.putfield 289, 3) := by decide +kernel
theorem dX11_hasRing_43 : decode cX11_hasRing 43 = .ok (.aload_n 0, 1) := by decide +kernel
theorem dX11_hasRing_44 : decode cX11_hasRing 44 = .ok (.aload_n 0, 1) := by decide +kernel
theorem dX11_hasRing_45 : decode cX11_hasRing 45 = .ok (.getfield 265, 3) := by decide +kernel
theorem dX11_hasRing_48 : decode cX11_hasRing 48 = .ok (.bipush (-4), 2) := by decide +kernel
theorem dX11_hasRing_50 : decode cX11_hasRing 50 = .ok (.if_icmp .ne 7, 3) := by decide +kernel
theorem dX11_hasRing_53 : decode cX11_hasRing 53 = .ok (.iconst 1, 1) := by decide +kernel
theorem dX11_hasRing_54 : decode cX11_hasRing 54 = .ok (.goto 22, 3) := by decide +kernel
theorem dX11_hasRing_57 : decode cX11_hasRing 57 = .ok (.aload_n 0, 1) := by decide +kernel
theorem dX11_hasRing_58 : decode cX11_hasRing 58 = .ok (.getfield 50, 3) := by decide +kernel
theorem dX11_hasRing_61 : decode cX11_hasRing 61 = .ok (.aload_n 0, 1) := by decide +kernel
theorem dX11_hasRing_62 : decode cX11_hasRing 62 = .ok (.getfield 274, 3) := by decide +kernel
theorem dX11_hasRing_65 : decode cX11_hasRing 65 = .ok (.iaload, 1) := by decide +kernel
theorem dX11_hasRing_66 : decode cX11_hasRing 66 = .ok (.aload_n 0, 1) := by decide +kernel
theorem dX11_hasRing_67 : decode cX11_hasRing 67 = .ok (.getfield 50, 3) := by decide +kernel
theorem dX11_hasRing_70 : decode cX11_hasRing 70 = .ok (.aload_n 0, 1) := by decide +kernel
theorem dX11_hasRing_71 : decode cX11_hasRing 71 = .ok (.getfield 265, 3) := by decide +kernel
theorem dX11_hasRing_74 : decode cX11_hasRing 74 = .ok (.iaload, 1) := by decide +kernel
theorem dX11_hasRing_75 : decode cX11_hasRing 75 = .ok (.isub, 1) := by decide +kernel
theorem dX11_hasRing_76 : decode cX11_hasRing 76 = .ok (.putfield 292, 3) := by decide +kernel
theorem dX11_hasRing_79 : decode cX11_hasRing 79 = .ok (.aload_n 0, 1) := by decide +kernel
theorem dX11_hasRing_80 : decode cX11_hasRing 80 = .ok (.getfield 265, 3) := by decide +kernel
theorem dX11_hasRing_83 : decode cX11_hasRing 83 = .ok (.bipush (-4), 2) := by decide +kernel
theorem dX11_hasRing_85 : decode cX11_hasRing 85 = .ok (.if_icmp .eq 7, 3) := by decide +kernel
theorem dX11_hasRing_88 : decode cX11_hasRing 88 = .ok (.iconst 1, 1) := by decide +kernel
theorem dX11_hasRing_89 : decode cX11_hasRing 89 = .ok (.goto 4, 3) := by decide +kernel
theorem dX11_hasRing_92 : decode cX11_hasRing 92 = .ok (.iconst 0, 1) := by decide +kernel
theorem dX11_hasRing_93 : decode cX11_hasRing 93 = .ok (.ireturn, 1) := by decide +kernel
theorem dX11_settles_0 : decode cX11_settles 0 = .ok (.iload_n 1, 1) := by decide +kernel
theorem dX11_settles_1 : decode cX11_settles 1 = .ok (.i2l, 1) := by decide +kernel
theorem dX11_settles_2 : decode cX11_settles 2 = .ok (.lconst 0, 1) := by decide +kernel
theorem dX11_settles_3 : decode cX11_settles 3 = .ok (.ldc2_w 173, 3) := by decide +kernel
theorem dX11_settles_6 : decode cX11_settles 6 = .ok (.invokestatic 69, 3) := by decide +kernel
theorem dX11_settles_9 : decode cX11_settles 9 = .ok (.ifCond .ne 5, 3) := by decide +kernel
theorem dX11_settles_12 : decode cX11_settles 12 = .ok (.iconst (-1), 1) := by decide +kernel
theorem dX11_settles_13 : decode cX11_settles 13 = .ok (.ireturn, 1) := by decide +kernel
theorem dX11_settles_14 : decode cX11_settles 14 = .ok (.aload_n 0, 1) := by decide +kernel
theorem dX11_settles_15 : decode cX11_settles 15 = .ok (.invokevirtual 243, 3) := by decide +kernel
theorem dX11_settles_18 : decode cX11_settles 18 = .ok (.aload_n 0, 1) := by decide +kernel
theorem dX11_settles_19 : decode cX11_settles 19 = .ok (.invokevirtual 295, 3) := by decide +kernel
theorem dX11_settles_22 : decode cX11_settles 22 = .ok (.ifCond .ne 6, 3) := by decide +kernel
theorem dX11_settles_25 : decode cX11_settles 25 = .ok (.bipush (-4), 2) := by decide +kernel
theorem dX11_settles_27 : decode cX11_settles 27 = .ok (.ireturn, 1) := by decide +kernel
theorem dX11_settles_28 : decode cX11_settles 28 = .ok (.iload_n 1, 1) := by decide +kernel
theorem dX11_settles_29 : decode cX11_settles 29 = .ok (.ifCond .ne 15, 3) := by decide +kernel
theorem dX11_settles_32 : decode cX11_settles 32 = .ok (.aload_n 0, 1) := by decide +kernel
theorem dX11_settles_33 : decode cX11_settles 33 = .ok (.getfield 47, 3) := by decide +kernel
theorem dX11_settles_36 : decode cX11_settles 36 = .ok (.aload_n 0, 1) := by decide +kernel
theorem dX11_settles_37 : decode cX11_settles 37 = .ok (.getfield 265, 3) := by decide +kernel
theorem dX11_settles_40 : decode cX11_settles 40 = .ok (.iaload, 1) := by decide +kernel
theorem dX11_settles_41 : decode cX11_settles 41 = .ok (.goto 19, 3) := by decide +kernel
theorem dX11_settles_44 : decode cX11_settles 44 = .ok (.iload_n 1, 1) := by decide +kernel
theorem dX11_settles_45 : decode cX11_settles 45 = .ok (.iconst 1, 1) := by decide +kernel
theorem dX11_settles_46 : decode cX11_settles 46 = .ok (.if_icmp .ne 10, 3) := by decide +kernel
theorem dX11_settles_49 : decode cX11_settles 49 = .ok (.aload_n 0, 1) := by decide +kernel
theorem dX11_settles_50 : decode cX11_settles 50 = .ok (.getfield 289, 3) := by decide +kernel
theorem dX11_settles_53 : decode cX11_settles 53 = .ok (.goto 7, 3) := by decide +kernel
theorem dX11_settles_56 : decode cX11_settles 56 = .ok (.aload_n 0, 1) := by decide +kernel
theorem dX11_settles_57 : decode cX11_settles 57 = .ok (.getfield 292, 3) := by decide +kernel
theorem dX11_settles_60 : decode cX11_settles 60 = .ok (.ireturn, 1) := by decide +kernel
theorem dX11_where_0 : decode cX11_where 0 = .ok (.aload_n 0, 1) := by decide +kernel
theorem dX11_where_1 : decode cX11_where 1 = .ok (.iload_n 1, 1) := by decide +kernel
theorem dX11_where_2 : decode cX11_where 2 = .ok (.invokevirtual 166, 3) := by decide +kernel
theorem dX11_where_5 : decode cX11_where 5 = .ok (.ifCond .eq 19, 3) := by decide +kernel
theorem dX11_where_8 : decode cX11_where 8 = .ok (.iload_n 1, 1) := by decide +kernel
theorem dX11_where_9 : decode cX11_where 9 = .ok (.ifCond .eq 15, 3) := by decide +kernel
theorem dX11_where_12 : decode cX11_where 12 = .ok (.iload_n 2, 1) := by decide +kernel
theorem dX11_where_13 : decode cX11_where 13 = .ok (.i2l, 1) := by decide +kernel
theorem dX11_where_14 : decode cX11_where 14 = .ok (.lconst 0, 1) := by decide +kernel
theorem dX11_where_15 : decode cX11_where 15 = .ok (.ldc2_w 299, 3) := by decide +kernel
theorem dX11_where_18 : decode cX11_where 18 = .ok (.invokestatic 69, 3) := by decide +kernel
theorem dX11_where_21 : decode cX11_where 21 = .ok (.ifCond .ne 5, 3) := by decide +kernel
theorem dX11_where_24 : decode cX11_where 24 = .ok (.iconst (-1), 1) := by decide +kernel
theorem dX11_where_25 : decode cX11_where 25 = .ok (.ireturn, 1) := by decide +kernel
theorem dX11_where_26 : decode cX11_where 26 = .ok (.aload_n 0, 1) := by decide +kernel
theorem dX11_where_27 : decode cX11_where 27 = .ok (.invokevirtual 243, 3) := by decide +kernel
theorem dX11_where_30 : decode cX11_where 30 = .ok (.aload_n 0, 1) := by decide +kernel
theorem dX11_where_31 : decode cX11_where 31 = .ok (.invokevirtual 295, 3) := by decide +kernel
theorem dX11_where_34 : decode cX11_where 34 = .ok (.ifCond .ne 6, 3) := by decide +kernel
theorem dX11_where_37 : decode cX11_where 37 = .ok (.bipush (-4), 2) := by decide +kernel
theorem dX11_where_39 : decode cX11_where 39 = .ok (.ireturn, 1) := by decide +kernel
theorem dX11_where_40 : decode cX11_where 40 = .ok (.iconst 0, 1) := by decide +kernel
theorem dX11_where_41 : decode cX11_where 41 = .ok (.istore_n 3, 1) := by decide +kernel
theorem dX11_where_42 : decode cX11_where 42 = .ok (.bipush (-4), 2) := by decide +kernel
theorem dX11_where_44 : decode cX11_where 44 = .ok (.istore 4, 2) := by decide +kernel
theorem dX11_where_46 : decode cX11_where 46 = .ok (.iconst 1, 1) := by decide +kernel
theorem dX11_where_47 : decode cX11_where 47 = .ok (.istore 5, 2) := by decide +kernel
theorem dX11_where_49 : decode cX11_where 49 = .ok (.iconst 0, 1) := by decide +kernel
theorem dX11_where_50 : decode cX11_where 50 = .ok (.istore 6, 2) := by decide +kernel
theorem dX11_where_52 : decode cX11_where 52 = .ok (.iload 6, 2) := by decide +kernel
theorem dX11_where_54 : decode cX11_where 54 = .ok (.aload_n 0, 1) := by decide +kernel
theorem dX11_where_55 : decode cX11_where 55 = .ok (.invokevirtual 286, 3) := by decide +kernel
theorem dX11_where_58 : decode cX11_where 58 = .ok (.if_icmp .ge 143, 3) := by decide +kernel
theorem dX11_where_61 : decode cX11_where 61 = .ok (.aload_n 0, 1) := by decide +kernel
theorem dX11_where_62 : decode cX11_where 62 = .ok (.getfield 38, 3) := by decide +kernel
theorem dX11_where_65 : decode cX11_where 65 = .ok (.iconst 5, 1) := by decide +kernel
theorem dX11_where_66 : decode cX11_where 66 = .ok (.iload 6, 2) := by decide +kernel
theorem dX11_where_68 : decode cX11_where 68 = .ok (.imul, 1) := by decide +kernel
theorem dX11_where_69 : decode cX11_where 69 = .ok (.iconst 1, 1) := by decide +kernel
theorem dX11_where_70 : decode cX11_where 70 = .ok (.iadd, 1) := by decide +kernel
theorem dX11_where_71 : decode cX11_where 71 = .ok (.iaload, 1) := by decide +kernel
theorem dX11_where_72 : decode cX11_where 72 = .ok (.iload_n 1, 1) := by decide +kernel
theorem dX11_where_73 : decode cX11_where 73 = .ok (.if_icmp .ne 122, 3) := by decide +kernel
theorem dX11_where_76 : decode cX11_where 76 = .ok (.aload_n 0, 1) := by decide +kernel
theorem dX11_where_77 : decode cX11_where 77 = .ok (.getfield 38, 3) := by decide +kernel
theorem dX11_where_80 : decode cX11_where 80 = .ok (.iconst 5, 1) := by decide +kernel
theorem dX11_where_81 : decode cX11_where 81 = .ok (.iload 6, 2) := by decide +kernel
theorem dX11_where_83 : decode cX11_where 83 = .ok (.imul, 1) := by decide +kernel
theorem dX11_where_84 : decode cX11_where 84 = .ok (.iaload, 1) := by decide +kernel
theorem dX11_where_85 : decode cX11_where 85 = .ok (.i2l, 1) := by decide +kernel
theorem dX11_where_86 : decode cX11_where 86 = .ok (.aload_n 0, 1) := by decide +kernel
theorem dX11_where_87 : decode cX11_where 87 = .ok (.getfield 50, 3) := by decide +kernel
theorem dX11_where_90 : decode cX11_where 90 = .ok (.aload_n 0, 1) := by decide +kernel
theorem dX11_where_91 : decode cX11_where 91 = .ok (.getfield 265, 3) := by decide +kernel
theorem dX11_where_94 : decode cX11_where 94 = .ok (.iaload, 1) := by decide +kernel
theorem dX11_where_95 : decode cX11_where 95 = .ok (.iconst 1, 1) := by decide +kernel
theorem dX11_where_96 : decode cX11_where 96 = .ok (.iadd, 1) := by decide +kernel
theorem dX11_where_97 : decode cX11_where 97 = .ok (.i2l, 1) := by decide +kernel
theorem dX11_where_98 : decode cX11_where 98 = .ok (.aload_n 0, 1) := by decide +kernel
theorem dX11_where_99 : decode cX11_where 99 = .ok (.getfield 50, 3) := by decide +kernel
theorem dX11_where_102 : decode cX11_where 102 = .ok (.aload_n 0, 1) := by decide +kernel
theorem dX11_where_103 : decode cX11_where 103 = .ok (.getfield 274, 3) := by decide +kernel
theorem dX11_where_106 : decode cX11_where 106 = .ok (.iaload, 1) := by decide +kernel
theorem dX11_where_107 : decode cX11_where 107 = .ok (.i2l, 1) := by decide +kernel
theorem dX11_where_108 : decode cX11_where 108 = .ok (.invokestatic 69, 3) := by decide +kernel
theorem dX11_where_111 : decode cX11_where 111 = .ok (.ifCond .eq 84, 3) := by decide +kernel
theorem dX11_where_114 : decode cX11_where 114 = .ok (.iload 4, 2) := by decide +kernel
theorem dX11_where_116 : decode cX11_where 116 = .ok (.bipush (-4), 2) := by decide +kernel
theorem dX11_where_118 : decode cX11_where 118 = .ok (.if_icmp .ne 8, 3) := by decide +kernel
theorem dX11_where_121 : decode cX11_where 121 = .ok (.iload 6, 2) := by decide +kernel
theorem dX11_where_123 : decode cX11_where 123 = .ok (.goto 5, 3) := by decide +kernel
theorem dX11_where_126 : decode cX11_where 126 = .ok (.iload 4, 2) := by decide +kernel
theorem dX11_where_128 : decode cX11_where 128 = .ok (.istore 4, 2) := by decide +kernel
theorem dX11_where_130 : decode cX11_where 130 = .ok (.iload 5, 2) := by decide +kernel
theorem dX11_where_132 : decode cX11_where 132 = .ok (.ifCond .eq 57, 3) := by decide +kernel
theorem dX11_where_135 : decode cX11_where 135 = .ok (.aload_n 0, 1) := by decide +kernel
theorem dX11_where_136 : decode cX11_where 136 = .ok (.getfield 38, 3) := by decide +kernel
theorem dX11_where_139 : decode cX11_where 139 = .ok (.iconst 5, 1) := by decide +kernel
theorem dX11_where_140 : decode cX11_where 140 = .ok (.iload 6, 2) := by decide +kernel
theorem dX11_where_142 : decode cX11_where 142 = .ok (.imul, 1) := by decide +kernel
theorem dX11_where_143 : decode cX11_where 143 = .ok (.iconst 2, 1) := by decide +kernel
theorem dX11_where_144 : decode cX11_where 144 = .ok (.iadd, 1) := by decide +kernel
theorem dX11_where_145 : decode cX11_where 145 = .ok (.iaload, 1) := by decide +kernel
theorem dX11_where_146 : decode cX11_where 146 = .ok (.aload_n 0, 1) := by decide +kernel
theorem dX11_where_147 : decode cX11_where 147 = .ok (.getfield 38, 3) := by decide +kernel
theorem dX11_where_150 : decode cX11_where 150 = .ok (.iconst 5, 1) := by decide +kernel
theorem dX11_where_151 : decode cX11_where 151 = .ok (.iload 4, 2) := by decide +kernel
theorem dX11_where_153 : decode cX11_where 153 = .ok (.imul, 1) := by decide +kernel
theorem dX11_where_154 : decode cX11_where 154 = .ok (.iconst 2, 1) := by decide +kernel
theorem dX11_where_155 : decode cX11_where 155 = .ok (.iadd, 1) := by decide +kernel
theorem dX11_where_156 : decode cX11_where 156 = .ok (.iaload, 1) := by decide +kernel
theorem dX11_where_157 : decode cX11_where 157 = .ok (.if_icmp .ne 32, 3) := by decide +kernel
theorem dX11_where_160 : decode cX11_where 160 = .ok (.aload_n 0, 1) := by decide +kernel
theorem dX11_where_161 : decode cX11_where 161 = .ok (.getfield 38, 3) := by decide +kernel
theorem dX11_where_164 : decode cX11_where 164 = .ok (.iconst 5, 1) := by decide +kernel
theorem dX11_where_165 : decode cX11_where 165 = .ok (.iload 6, 2) := by decide +kernel
theorem dX11_where_167 : decode cX11_where 167 = .ok (.imul, 1) := by decide +kernel
theorem dX11_where_168 : decode cX11_where 168 = .ok (.iconst 3, 1) := by decide +kernel
theorem dX11_where_169 : decode cX11_where 169 = .ok (.iadd, 1) := by decide +kernel
theorem dX11_where_170 : decode cX11_where 170 = .ok (.iaload, 1) := by decide +kernel
theorem dX11_where_171 : decode cX11_where 171 = .ok (.aload_n 0, 1) := by decide +kernel
theorem dX11_where_172 : decode cX11_where 172 = .ok (.getfield 38, 3) := by decide +kernel
theorem dX11_where_175 : decode cX11_where 175 = .ok (.iconst 5, 1) := by decide +kernel
theorem dX11_where_176 : decode cX11_where 176 = .ok (.iload 4, 2) := by decide +kernel
theorem dX11_where_178 : decode cX11_where 178 = .ok (.imul, 1) := by decide +kernel
theorem dX11_where_179 : decode cX11_where 179 = .ok (.iconst 3, 1) := by decide +kernel
theorem dX11_where_180 : decode cX11_where 180 = .ok (.iadd, 1) := by decide +kernel
theorem dX11_where_181 : decode cX11_where 181 = .ok (.iaload, 1) := by decide +kernel
theorem dX11_where_182 : decode cX11_where 182 = .ok (.if_icmp .ne 7, 3) := by decide +kernel
theorem dX11_where_185 : decode cX11_where 185 = .ok (.iconst 1, 1) := by decide +kernel
theorem dX11_where_186 : decode cX11_where 186 = .ok (.goto 4, 3) := by decide +kernel
theorem dX11_where_189 : decode cX11_where 189 = .ok (.iconst 0, 1) := by decide +kernel
theorem dX11_where_190 : decode cX11_where 190 = .ok (.istore 5, 2) := by decide +kernel
theorem dX11_where_192 : decode cX11_where 192 = .ok (.iinc 3 1, 3) := by decide +kernel
theorem dX11_where_195 : decode cX11_where 195 = .ok (.iinc 6 1, 3) := by decide +kernel
theorem dX11_where_198 : decode cX11_where 198 = .ok (.goto (-146), 3) := by decide +kernel
theorem dX11_where_201 : decode cX11_where 201 = .ok (.iload_n 2, 1) := by decide +kernel
theorem dX11_where_202 : decode cX11_where 202 = .ok (.ifCond .ne 7, 3) := by decide +kernel
theorem dX11_where_205 : decode cX11_where 205 = .ok (.iload_n 3, 1) := by decide +kernel
theorem dX11_where_206 : decode cX11_where 206 = .ok (.goto 44, 3) := by decide +kernel
theorem dX11_where_209 : decode cX11_where 209 = .ok (.iload_n 2, 1) := by decide +kernel
theorem dX11_where_210 : decode cX11_where 210 = .ok (.iconst 1, 1) := by decide +kernel
theorem dX11_where_211 : decode cX11_where 211 = .ok (.if_icmp .ne 16, 3) := by decide +kernel
theorem dX11_where_214 : decode cX11_where 214 = .ok (.iload 5, 2) := by decide +kernel
theorem dX11_where_216 : decode cX11_where 216 = .ok (.ifCond .eq 7, 3) := by decide +kernel
theorem dX11_where_219 : decode cX11_where 219 = .ok (.iconst 1, 1) := by decide +kernel
theorem dX11_where_220 : decode cX11_where 220 = .ok (.goto 30, 3) := by decide +kernel
theorem dX11_where_223 : decode cX11_where 223 = .ok (.iconst 0, 1) := by decide +kernel
theorem dX11_where_224 : decode cX11_where 224 = .ok (.goto 26, 3) := by decide +kernel
theorem dX11_where_227 : decode cX11_where 227 = .ok (.iload 4, 2) := by decide +kernel
theorem dX11_where_229 : decode cX11_where 229 = .ok (.bipush (-4), 2) := by decide +kernel
theorem dX11_where_231 : decode cX11_where 231 = .ok (.if_icmp .ne 8, 3) := by decide +kernel
theorem dX11_where_234 : decode cX11_where 234 = .ok (.bipush (-4), 2) := by decide +kernel
theorem dX11_where_236 : decode cX11_where 236 = .ok (.goto 14, 3) := by decide +kernel
theorem dX11_where_239 : decode cX11_where 239 = .ok (.aload_n 0, 1) := by decide +kernel
theorem dX11_where_240 : decode cX11_where 240 = .ok (.getfield 38, 3) := by decide +kernel
theorem dX11_where_243 : decode cX11_where 243 = .ok (.iconst 5, 1) := by decide +kernel
theorem dX11_where_244 : decode cX11_where 244 = .ok (.iload 4, 2) := by decide +kernel
theorem dX11_where_246 : decode cX11_where 246 = .ok (.imul, 1) := by decide +kernel
theorem dX11_where_247 : decode cX11_where 247 = .ok (.iload_n 2, 1) := by decide +kernel
theorem dX11_where_248 : decode cX11_where 248 = .ok (.iadd, 1) := by decide +kernel
theorem dX11_where_249 : decode cX11_where 249 = .ok (.iaload, 1) := by decide +kernel
theorem dX11_where_250 : decode cX11_where 250 = .ok (.ireturn, 1) := by decide +kernel
theorem dX11_lowest_0 : decode cX11_lowest 0 = .ok (.lload_n 0, 1) := by decide +kernel
theorem dX11_lowest_1 : decode cX11_lowest 1 = .ok (.lstore 5, 2) := by decide +kernel
theorem dX11_lowest_3 : decode cX11_lowest 3 = .ok (.lload_n 2, 1) := by decide +kernel
theorem dX11_lowest_4 : decode cX11_lowest 4 = .ok (.lstore 7, 2) := by decide +kernel
theorem dX11_lowest_6 : decode cX11_lowest 6 = .ok (.lload 7, 2) := by decide +kernel
theorem dX11_lowest_8 : decode cX11_lowest 8 = .ok (.lconst 0, 1) := by decide +kernel
theorem dX11_lowest_9 : decode cX11_lowest 9 = .ok (.lcmp, 1) := by decide +kernel
theorem dX11_lowest_10 : decode cX11_lowest 10 = .ok (.ifCond .eq 21, 3) := by decide +kernel
theorem dX11_lowest_13 : decode cX11_lowest 13 = .ok (.lload 5, 2) := by decide +kernel
theorem dX11_lowest_15 : decode cX11_lowest 15 = .ok (.lload 7, 2) := by decide +kernel
theorem dX11_lowest_17 : decode cX11_lowest 17 = .ok (.lrem, 1) := by decide +kernel
theorem dX11_lowest_18 : decode cX11_lowest 18 = .ok (.lstore 9, 2) := by decide +kernel
theorem dX11_lowest_20 : decode cX11_lowest 20 = .ok (.lload 7, 2) := by decide +kernel
theorem dX11_lowest_22 : decode cX11_lowest 22 = .ok (.lstore 5, 2) := by decide +kernel
theorem dX11_lowest_24 : decode cX11_lowest 24 = .ok (.lload 9, 2) := by decide +kernel
theorem dX11_lowest_26 : decode cX11_lowest 26 = .ok (.lstore 7, 2) := by decide +kernel
theorem dX11_lowest_28 : decode cX11_lowest 28 = .ok (.goto (-22), 3) := by decide +kernel
theorem dX11_lowest_31 : decode cX11_lowest 31 = .ok (.iload 4, 2) := by decide +kernel
theorem dX11_lowest_33 : decode cX11_lowest 33 = .ok (.ifCond .ne 7, 3) := by decide +kernel
theorem dX11_lowest_36 : decode cX11_lowest 36 = .ok (.lload_n 0, 1) := by decide +kernel
theorem dX11_lowest_37 : decode cX11_lowest 37 = .ok (.goto 4, 3) := by decide +kernel
theorem dX11_lowest_40 : decode cX11_lowest 40 = .ok (.lload_n 2, 1) := by decide +kernel
theorem dX11_lowest_41 : decode cX11_lowest 41 = .ok (.lload 5, 2) := by decide +kernel
theorem dX11_lowest_43 : decode cX11_lowest 43 = .ok (.ldiv, 1) := by decide +kernel
theorem dX11_lowest_44 : decode cX11_lowest 44 = .ok (.lreturn, 1) := by decide +kernel
theorem dX11_made_0 : decode cX11_made 0 = .ok (.aload_n 0, 1) := by decide +kernel
theorem dX11_made_1 : decode cX11_made 1 = .ok (.getfield 289, 3) := by decide +kernel
theorem dX11_made_4 : decode cX11_made 4 = .ok (.i2l, 1) := by decide +kernel
theorem dX11_made_5 : decode cX11_made 5 = .ok (.aload_n 0, 1) := by decide +kernel
theorem dX11_made_6 : decode cX11_made 6 = .ok (.getfield 292, 3) := by decide +kernel
theorem dX11_made_9 : decode cX11_made 9 = .ok (.i2l, 1) := by decide +kernel
theorem dX11_made_10 : decode cX11_made 10 = .ok (.iload_n 1, 1) := by decide +kernel
theorem dX11_made_11 : decode cX11_made 11 = .ok (.invokestatic 301, 3) := by decide +kernel
theorem dX11_made_14 : decode cX11_made 14 = .ok (.l2i, 1) := by decide +kernel
theorem dX11_made_15 : decode cX11_made 15 = .ok (.ireturn, 1) := by decide +kernel
theorem dX11_makes_0 : decode cX11_makes 0 = .ok (.iload_n 1, 1) := by decide +kernel
theorem dX11_makes_1 : decode cX11_makes 1 = .ok (.i2l, 1) := by decide +kernel
theorem dX11_makes_2 : decode cX11_makes 2 = .ok (.lconst 0, 1) := by decide +kernel
theorem dX11_makes_3 : decode cX11_makes 3 = .ok (.lconst 1, 1) := by decide +kernel
theorem dX11_makes_4 : decode cX11_makes 4 = .ok (.invokestatic 69, 3) := by decide +kernel
theorem dX11_makes_7 : decode cX11_makes 7 = .ok (.ifCond .ne 5, 3) := by decide +kernel
theorem dX11_makes_10 : decode cX11_makes 10 = .ok (.iconst (-1), 1) := by decide +kernel
theorem dX11_makes_11 : decode cX11_makes 11 = .ok (.ireturn, 1) := by decide +kernel
theorem dX11_makes_12 : decode cX11_makes 12 = .ok (.aload_n 0, 1) := by decide +kernel
theorem dX11_makes_13 : decode cX11_makes 13 = .ok (.invokevirtual 243, 3) := by decide +kernel
theorem dX11_makes_16 : decode cX11_makes 16 = .ok (.aload_n 0, 1) := by decide +kernel
theorem dX11_makes_17 : decode cX11_makes 17 = .ok (.invokevirtual 295, 3) := by decide +kernel
theorem dX11_makes_20 : decode cX11_makes 20 = .ok (.pop, 1) := by decide +kernel
theorem dX11_makes_21 : decode cX11_makes 21 = .ok (.aload_n 0, 1) := by decide +kernel
theorem dX11_makes_22 : decode cX11_makes 22 = .ok (.iload_n 1, 1) := by decide +kernel
theorem dX11_makes_23 : decode cX11_makes 23 = .ok (.invokevirtual 305, 3) := by decide +kernel
theorem dX11_makes_26 : decode cX11_makes 26 = .ok (.ireturn, 1) := by decide +kernel
theorem dX11_could_0 : decode cX11_could 0 = .ok (.iload_n 1, 1) := by decide +kernel
theorem dX11_could_1 : decode cX11_could 1 = .ok (.i2l, 1) := by decide +kernel
theorem dX11_could_2 : decode cX11_could 2 = .ok (.lconst 0, 1) := by decide +kernel
theorem dX11_could_3 : decode cX11_could 3 = .ok (.lconst 1, 1) := by decide +kernel
theorem dX11_could_4 : decode cX11_could 4 = .ok (.invokestatic 69, 3) := by decide +kernel
theorem dX11_could_7 : decode cX11_could 7 = .ok (.ifCond .ne 7, 3) := by decide +kernel
theorem dX11_could_10 : decode cX11_could 10 = .ok (.ldc2_w 308, 3) := by decide +kernel
theorem dX11_could_13 : decode cX11_could 13 = .ok (.lreturn, 1) := by decide +kernel
theorem dX11_could_14 : decode cX11_could 14 = .ok (.lconst 0, 1) := by decide +kernel
theorem dX11_could_15 : decode cX11_could 15 = .ok (.lstore_n 2, 1) := by decide +kernel
theorem dX11_could_16 : decode cX11_could 16 = .ok (.lconst 1, 1) := by decide +kernel
theorem dX11_could_17 : decode cX11_could 17 = .ok (.lstore 4, 2) := by decide +kernel
theorem dX11_could_19 : decode cX11_could 19 = .ok (.iconst 0, 1) := by decide +kernel
theorem dX11_could_20 : decode cX11_could 20 = .ok (.istore 6, 2) := by decide +kernel
theorem dX11_could_22 : decode cX11_could 22 = .ok (.iload 6, 2) := by decide +kernel
theorem dX11_could_24 : decode cX11_could 24 = .ok (.aload_n 0, 1) := by decide +kernel
theorem dX11_could_25 : decode cX11_could 25 = .ok (.getfield 19, 3) := by decide +kernel
theorem dX11_could_28 : decode cX11_could 28 = .ok (.iconst 1, 1) := by decide +kernel
theorem dX11_could_29 : decode cX11_could 29 = .ok (.iaload, 1) := by decide +kernel
theorem dX11_could_30 : decode cX11_could 30 = .ok (.if_icmp .ge 144, 3) := by decide +kernel
theorem dX11_could_33 : decode cX11_could 33 = .ok (.lconst 0, 1) := by decide +kernel
theorem dX11_could_34 : decode cX11_could 34 = .ok (.lstore 7, 2) := by decide +kernel
theorem dX11_could_36 : decode cX11_could 36 = .ok (.iconst 0, 1) := by decide +kernel
theorem dX11_could_37 : decode cX11_could 37 = .ok (.istore 9, 2) := by decide +kernel
theorem dX11_could_39 : decode cX11_could 39 = .ok (.iload 9, 2) := by decide +kernel
theorem dX11_could_41 : decode cX11_could 41 = .ok (.aload_n 0, 1) := by decide +kernel
theorem dX11_could_42 : decode cX11_could 42 = .ok (.getfield 19, 3) := by decide +kernel
theorem dX11_could_45 : decode cX11_could 45 = .ok (.bipush 6, 2) := by decide +kernel
theorem dX11_could_47 : decode cX11_could 47 = .ok (.iaload, 1) := by decide +kernel
theorem dX11_could_48 : decode cX11_could 48 = .ok (.if_icmp .ge 76, 3) := by decide +kernel
theorem dX11_could_51 : decode cX11_could 51 = .ok (.iconst 0, 1) := by decide +kernel
theorem dX11_could_52 : decode cX11_could 52 = .ok (.istore 10, 2) := by decide +kernel
theorem dX11_could_54 : decode cX11_could 54 = .ok (.iload 10, 2) := by decide +kernel
theorem dX11_could_56 : decode cX11_could 56 = .ok (.aload_n 0, 1) := by decide +kernel
theorem dX11_could_57 : decode cX11_could 57 = .ok (.getfield 19, 3) := by decide +kernel
theorem dX11_could_60 : decode cX11_could 60 = .ok (.iconst 0, 1) := by decide +kernel
theorem dX11_could_61 : decode cX11_could 61 = .ok (.iaload, 1) := by decide +kernel
theorem dX11_could_62 : decode cX11_could 62 = .ok (.if_icmp .ge 56, 3) := by decide +kernel
theorem dX11_could_65 : decode cX11_could 65 = .ok (.lload 7, 2) := by decide +kernel
theorem dX11_could_67 : decode cX11_could 67 = .ok (.aload_n 0, 1) := by decide +kernel
theorem dX11_could_68 : decode cX11_could 68 = .ok (.getfield 19, 3) := by decide +kernel
theorem dX11_could_71 : decode cX11_could 71 = .ok (.bipush 30, 2) := by decide +kernel
theorem dX11_could_73 : decode cX11_could 73 = .ok (.bipush 8, 2) := by decide +kernel
theorem dX11_could_75 : decode cX11_could 75 = .ok (.aload_n 0, 1) := by decide +kernel
theorem dX11_could_76 : decode cX11_could 76 = .ok (.getfield 19, 3) := by decide +kernel
theorem dX11_could_79 : decode cX11_could 79 = .ok (.bipush 10, 2) := by decide +kernel
theorem dX11_could_81 : decode cX11_could 81 = .ok (.iload 9, 2) := by decide +kernel
theorem dX11_could_83 : decode cX11_could 83 = .ok (.iadd, 1) := by decide +kernel
theorem dX11_could_84 : decode cX11_could 84 = .ok (.iaload, 1) := by decide +kernel
theorem dX11_could_85 : decode cX11_could 85 = .ok (.imul, 1) := by decide +kernel
theorem dX11_could_86 : decode cX11_could 86 = .ok (.iadd, 1) := by decide +kernel
theorem dX11_could_87 : decode cX11_could 87 = .ok (.iload 10, 2) := by decide +kernel
theorem dX11_could_89 : decode cX11_could 89 = .ok (.iadd, 1) := by decide +kernel
theorem dX11_could_90 : decode cX11_could 90 = .ok (.iaload, 1) := by decide +kernel
theorem dX11_could_91 : decode cX11_could 91 = .ok (.aload_n 0, 1) := by decide +kernel
theorem dX11_could_92 : decode cX11_could 92 = .ok (.getfield 19, 3) := by decide +kernel
theorem dX11_could_95 : decode cX11_could 95 = .ok (.bipush 60, 2) := by decide +kernel
theorem dX11_could_97 : decode cX11_could 97 = .ok (.bipush 8, 2) := by decide +kernel
theorem dX11_could_99 : decode cX11_could 99 = .ok (.iload 6, 2) := by decide +kernel
theorem dX11_could_101 : decode cX11_could 101 = .ok (.imul, 1) := by decide +kernel
theorem dX11_could_102 : decode cX11_could 102 = .ok (.iadd, 1) := by decide +kernel
theorem dX11_could_103 : decode cX11_could 103 = .ok (.iload 10, 2) := by decide +kernel
theorem dX11_could_105 : decode cX11_could 105 = .ok (.iadd, 1) := by decide +kernel
theorem dX11_could_106 : decode cX11_could 106 = .ok (.iaload, 1) := by decide +kernel
theorem dX11_could_107 : decode cX11_could 107 = .ok (.imul, 1) := by decide +kernel
theorem dX11_could_108 : decode cX11_could 108 = .ok (.i2l, 1) := by decide +kernel
theorem dX11_could_109 : decode cX11_could 109 = .ok (.ladd, 1) := by decide +kernel
theorem dX11_could_110 : decode cX11_could 110 = .ok (.lstore 7, 2) := by decide +kernel
theorem dX11_could_112 : decode cX11_could 112 = .ok (.iinc 10 1, 3) := by decide +kernel
theorem dX11_could_115 : decode cX11_could 115 = .ok (.goto (-61), 3) := by decide +kernel
theorem dX11_could_118 : decode cX11_could 118 = .ok (.iinc 9 1, 3) := by decide +kernel
theorem dX11_could_121 : decode cX11_could 121 = .ok (.goto (-82), 3) := by decide +kernel
theorem dX11_could_124 : decode cX11_could 124 = .ok (.lload_n 2, 1) := by decide +kernel
theorem dX11_could_125 : decode cX11_could 125 = .ok (.lload 7, 2) := by decide +kernel
theorem dX11_could_127 : decode cX11_could 127 = .ok (.lmul, 1) := by decide +kernel
theorem dX11_could_128 : decode cX11_could 128 = .ok (.aload_n 0, 1) := by decide +kernel
theorem dX11_could_129 : decode cX11_could 129 = .ok (.getfield 19, 3) := by decide +kernel
theorem dX11_could_132 : decode cX11_could 132 = .ok (.bipush 6, 2) := by decide +kernel
theorem dX11_could_134 : decode cX11_could 134 = .ok (.iaload, 1) := by decide +kernel
theorem dX11_could_135 : decode cX11_could 135 = .ok (.i2l, 1) := by decide +kernel
theorem dX11_could_136 : decode cX11_could 136 = .ok (.lload 4, 2) := by decide +kernel
theorem dX11_could_138 : decode cX11_could 138 = .ok (.lmul, 1) := by decide +kernel
theorem dX11_could_139 : decode cX11_could 139 = .ok (.ladd, 1) := by decide +kernel
theorem dX11_could_140 : decode cX11_could 140 = .ok (.lstore 9, 2) := by decide +kernel
theorem dX11_could_142 : decode cX11_could 142 = .ok (.lload 4, 2) := by decide +kernel
theorem dX11_could_144 : decode cX11_could 144 = .ok (.lload 7, 2) := by decide +kernel
theorem dX11_could_146 : decode cX11_could 146 = .ok (.lmul, 1) := by decide +kernel
theorem dX11_could_147 : decode cX11_could 147 = .ok (.lstore 11, 2) := by decide +kernel
theorem dX11_could_149 : decode cX11_could 149 = .ok (.lload 9, 2) := by decide +kernel
theorem dX11_could_151 : decode cX11_could 151 = .ok (.lload 11, 2) := by decide +kernel
theorem dX11_could_153 : decode cX11_could 153 = .ok (.iconst 0, 1) := by decide +kernel
theorem dX11_could_154 : decode cX11_could 154 = .ok (.invokestatic 301, 3) := by decide +kernel
theorem dX11_could_157 : decode cX11_could 157 = .ok (.lstore_n 2, 1) := by decide +kernel
theorem dX11_could_158 : decode cX11_could 158 = .ok (.lload 9, 2) := by decide +kernel
theorem dX11_could_160 : decode cX11_could 160 = .ok (.lload 11, 2) := by decide +kernel
theorem dX11_could_162 : decode cX11_could 162 = .ok (.iconst 1, 1) := by decide +kernel
theorem dX11_could_163 : decode cX11_could 163 = .ok (.invokestatic 301, 3) := by decide +kernel
theorem dX11_could_166 : decode cX11_could 166 = .ok (.lstore 4, 2) := by decide +kernel
theorem dX11_could_168 : decode cX11_could 168 = .ok (.iinc 6 1, 3) := by decide +kernel
theorem dX11_could_171 : decode cX11_could 171 = .ok (.goto (-149), 3) := by decide +kernel
theorem dX11_could_174 : decode cX11_could 174 = .ok (.iload_n 1, 1) := by decide +kernel
theorem dX11_could_175 : decode cX11_could 175 = .ok (.ifCond .ne 7, 3) := by decide +kernel
theorem dX11_could_178 : decode cX11_could 178 = .ok (.lload_n 2, 1) := by decide +kernel
theorem dX11_could_179 : decode cX11_could 179 = .ok (.goto 5, 3) := by decide +kernel
theorem dX11_could_182 : decode cX11_could 182 = .ok (.lload 4, 2) := by decide +kernel
theorem dX11_could_184 : decode cX11_could 184 = .ok (.lreturn, 1) := by decide +kernel
theorem dX11_orders_0 : decode cX11_orders 0 = .ok (.iconst 1, 1) := by decide +kernel
theorem dX11_orders_1 : decode cX11_orders 1 = .ok (.istore_n 1, 1) := by decide +kernel
theorem dX11_orders_2 : decode cX11_orders 2 = .ok (.iconst 2, 1) := by decide +kernel
theorem dX11_orders_3 : decode cX11_orders 3 = .ok (.istore_n 2, 1) := by decide +kernel
theorem dX11_orders_4 : decode cX11_orders 4 = .ok (.iload_n 2, 1) := by decide +kernel
theorem dX11_orders_5 : decode cX11_orders 5 = .ok (.aload_n 0, 1) := by decide +kernel
theorem dX11_orders_6 : decode cX11_orders 6 = .ok (.getfield 19, 3) := by decide +kernel
theorem dX11_orders_9 : decode cX11_orders 9 = .ok (.iconst 1, 1) := by decide +kernel
theorem dX11_orders_10 : decode cX11_orders 10 = .ok (.iaload, 1) := by decide +kernel
theorem dX11_orders_11 : decode cX11_orders 11 = .ok (.if_icmp .gt 13, 3) := by decide +kernel
theorem dX11_orders_14 : decode cX11_orders 14 = .ok (.iload_n 1, 1) := by decide +kernel
theorem dX11_orders_15 : decode cX11_orders 15 = .ok (.iload_n 2, 1) := by decide +kernel
theorem dX11_orders_16 : decode cX11_orders 16 = .ok (.imul, 1) := by decide +kernel
theorem dX11_orders_17 : decode cX11_orders 17 = .ok (.istore_n 1, 1) := by decide +kernel
theorem dX11_orders_18 : decode cX11_orders 18 = .ok (.iinc 2 1, 3) := by decide +kernel
theorem dX11_orders_21 : decode cX11_orders 21 = .ok (.goto (-17), 3) := by decide +kernel
theorem dX11_orders_24 : decode cX11_orders 24 = .ok (.iload_n 1, 1) := by decide +kernel
theorem dX11_orders_25 : decode cX11_orders 25 = .ok (.ireturn, 1) := by decide +kernel
theorem dX11_layOrder_0 : decode cX11_layOrder 0 = .ok (.aload_n 0, 1) := by decide +kernel
theorem dX11_layOrder_1 : decode cX11_layOrder 1 = .ok (.invokevirtual 243, 3) := by decide +kernel
theorem dX11_layOrder_4 : decode cX11_layOrder 4 = .ok (.iload_n 1, 1) := by decide +kernel
theorem dX11_layOrder_5 : decode cX11_layOrder 5 = .ok (.istore_n 2, 1) := by decide +kernel
theorem dX11_layOrder_6 : decode cX11_layOrder 6 = .ok (.aload_n 0, 1) := by decide +kernel
theorem dX11_layOrder_7 : decode cX11_layOrder 7 = .ok (.invokevirtual 310, 3) := by decide +kernel
theorem dX11_layOrder_10 : decode cX11_layOrder 10 = .ok (.istore_n 3, 1) := by decide +kernel
theorem dX11_layOrder_11 : decode cX11_layOrder 11 = .ok (.iconst 0, 1) := by decide +kernel
theorem dX11_layOrder_12 : decode cX11_layOrder 12 = .ok (.istore 4, 2) := by decide +kernel
theorem dX11_layOrder_14 : decode cX11_layOrder 14 = .ok (.iconst 0, 1) := by decide +kernel
theorem dX11_layOrder_15 : decode cX11_layOrder 15 = .ok (.istore 5, 2) := by decide +kernel
theorem dX11_layOrder_17 : decode cX11_layOrder 17 = .ok (.iload 5, 2) := by decide +kernel
theorem dX11_layOrder_19 : decode cX11_layOrder 19 = .ok (.aload_n 0, 1) := by decide +kernel
theorem dX11_layOrder_20 : decode cX11_layOrder 20 = .ok (.getfield 189, 3) := by decide +kernel
theorem dX11_layOrder_23 : decode cX11_layOrder 23 = .ok (.if_icmp .ge 92, 3) := by decide +kernel
theorem dX11_layOrder_26 : decode cX11_layOrder 26 = .ok (.iload_n 3, 1) := by decide +kernel
theorem dX11_layOrder_27 : decode cX11_layOrder 27 = .ok (.aload_n 0, 1) := by decide +kernel
theorem dX11_layOrder_28 : decode cX11_layOrder 28 = .ok (.getfield 189, 3) := by decide +kernel
theorem dX11_layOrder_31 : decode cX11_layOrder 31 = .ok (.iload 5, 2) := by decide +kernel
theorem dX11_layOrder_33 : decode cX11_layOrder 33 = .ok (.isub, 1) := by decide +kernel
theorem dX11_layOrder_34 : decode cX11_layOrder 34 = .ok (.idiv, 1) := by decide +kernel
theorem dX11_layOrder_35 : decode cX11_layOrder 35 = .ok (.istore_n 3, 1) := by decide +kernel
theorem dX11_layOrder_36 : decode cX11_layOrder 36 = .ok (.iload_n 2, 1) := by decide +kernel
theorem dX11_layOrder_37 : decode cX11_layOrder 37 = .ok (.iload_n 3, 1) := by decide +kernel
theorem dX11_layOrder_38 : decode cX11_layOrder 38 = .ok (.idiv, 1) := by decide +kernel
theorem dX11_layOrder_39 : decode cX11_layOrder 39 = .ok (.istore 6, 2) := by decide +kernel
theorem dX11_layOrder_41 : decode cX11_layOrder 41 = .ok (.iload_n 2, 1) := by decide +kernel
theorem dX11_layOrder_42 : decode cX11_layOrder 42 = .ok (.iload_n 3, 1) := by decide +kernel
theorem dX11_layOrder_43 : decode cX11_layOrder 43 = .ok (.irem, 1) := by decide +kernel
theorem dX11_layOrder_44 : decode cX11_layOrder 44 = .ok (.istore_n 2, 1) := by decide +kernel
theorem dX11_layOrder_45 : decode cX11_layOrder 45 = .ok (.iconst 0, 1) := by decide +kernel
theorem dX11_layOrder_46 : decode cX11_layOrder 46 = .ok (.istore 7, 2) := by decide +kernel
theorem dX11_layOrder_48 : decode cX11_layOrder 48 = .ok (.iload 4, 2) := by decide +kernel
theorem dX11_layOrder_50 : decode cX11_layOrder 50 = .ok (.iload 7, 2) := by decide +kernel
theorem dX11_layOrder_52 : decode cX11_layOrder 52 = .ok (.ishr, 1) := by decide +kernel
theorem dX11_layOrder_53 : decode cX11_layOrder 53 = .ok (.iconst 1, 1) := by decide +kernel
theorem dX11_layOrder_54 : decode cX11_layOrder 54 = .ok (.iand, 1) := by decide +kernel
theorem dX11_layOrder_55 : decode cX11_layOrder 55 = .ok (.iconst 1, 1) := by decide +kernel
theorem dX11_layOrder_56 : decode cX11_layOrder 56 = .ok (.if_icmp .eq 8, 3) := by decide +kernel
theorem dX11_layOrder_59 : decode cX11_layOrder 59 = .ok (.iload 6, 2) := by decide +kernel
theorem dX11_layOrder_61 : decode cX11_layOrder 61 = .ok (.ifCond .le 30, 3) := by decide +kernel
theorem dX11_layOrder_64 : decode cX11_layOrder 64 = .ok (.iload 6, 2) := by decide +kernel
theorem dX11_layOrder_66 : decode cX11_layOrder 66 = .ok (.iload 4, 2) := by decide +kernel
theorem dX11_layOrder_68 : decode cX11_layOrder 68 = .ok (.iload 7, 2) := by decide +kernel
theorem dX11_layOrder_70 : decode cX11_layOrder 70 = .ok (.ishr, 1) := by decide +kernel
theorem dX11_layOrder_71 : decode cX11_layOrder 71 = .ok (.iconst 1, 1) := by decide +kernel
theorem dX11_layOrder_72 : decode cX11_layOrder 72 = .ok (.iand, 1) := by decide +kernel
theorem dX11_layOrder_73 : decode cX11_layOrder 73 = .ok (.iconst 1, 1) := by decide +kernel
theorem dX11_layOrder_74 : decode cX11_layOrder 74 = .ok (.if_icmp .ne 7, 3) := by decide +kernel
theorem dX11_layOrder_77 : decode cX11_layOrder 77 = .ok (.iconst 0, 1) := by decide +kernel
theorem dX11_layOrder_78 : decode cX11_layOrder 78 = .ok (.goto 4, 3) := by decide +kernel
theorem dX11_layOrder_81 : decode cX11_layOrder 81 = .ok (.iconst 1, 1) := by decide +kernel
theorem dX11_layOrder_82 : decode cX11_layOrder 82 = .ok (.isub, 1) := by decide +kernel
theorem dX11_layOrder_83 : decode cX11_layOrder 83 = .ok (.istore 6, 2) := by decide +kernel
theorem dX11_layOrder_85 : decode cX11_layOrder 85 = .ok (.iinc 7 1, 3) := by decide +kernel
theorem dX11_layOrder_88 : decode cX11_layOrder 88 = .ok (.goto (-40), 3) := by decide +kernel
theorem dX11_layOrder_91 : decode cX11_layOrder 91 = .ok (.iload 4, 2) := by decide +kernel
theorem dX11_layOrder_93 : decode cX11_layOrder 93 = .ok (.iconst 1, 1) := by decide +kernel
theorem dX11_layOrder_94 : decode cX11_layOrder 94 = .ok (.iload 7, 2) := by decide +kernel
theorem dX11_layOrder_96 : decode cX11_layOrder 96 = .ok (.ishl, 1) := by decide +kernel
theorem dX11_layOrder_97 : decode cX11_layOrder 97 = .ok (.ior, 1) := by decide +kernel
theorem dX11_layOrder_98 : decode cX11_layOrder 98 = .ok (.istore 4, 2) := by decide +kernel
theorem dX11_layOrder_100 : decode cX11_layOrder 100 = .ok (.aload_n 0, 1) := by decide +kernel
theorem dX11_layOrder_101 : decode cX11_layOrder 101 = .ok (.getfield 32, 3) := by decide +kernel
theorem dX11_layOrder_104 : decode cX11_layOrder 104 = .ok (.iload 5, 2) := by decide +kernel
theorem dX11_layOrder_106 : decode cX11_layOrder 106 = .ok (.iload 7, 2) := by decide +kernel
theorem dX11_layOrder_108 : decode cX11_layOrder 108 = .ok (.iastore, 1) := by decide +kernel
theorem dX11_layOrder_109 : decode cX11_layOrder 109 = .ok (.iinc 5 1, 3) := by decide +kernel
theorem dX11_layOrder_112 : decode cX11_layOrder 112 = .ok (.goto (-95), 3) := by decide +kernel
theorem dX11_layOrder_115 : decode cX11_layOrder 115 = .ok (.return_, 1) := by decide +kernel
theorem dX11_isOrder_0 : decode cX11_isOrder 0 = .ok (.iload_n 1, 1) := by decide +kernel
theorem dX11_isOrder_1 : decode cX11_isOrder 1 = .ok (.i2l, 1) := by decide +kernel
theorem dX11_isOrder_2 : decode cX11_isOrder 2 = .ok (.lconst 0, 1) := by decide +kernel
theorem dX11_isOrder_3 : decode cX11_isOrder 3 = .ok (.aload_n 0, 1) := by decide +kernel
theorem dX11_isOrder_4 : decode cX11_isOrder 4 = .ok (.invokevirtual 310, 3) := by decide +kernel
theorem dX11_isOrder_7 : decode cX11_isOrder 7 = .ok (.iconst 1, 1) := by decide +kernel
theorem dX11_isOrder_8 : decode cX11_isOrder 8 = .ok (.isub, 1) := by decide +kernel
theorem dX11_isOrder_9 : decode cX11_isOrder 9 = .ok (.i2l, 1) := by decide +kernel
theorem dX11_isOrder_10 : decode cX11_isOrder 10 = .ok (.invokestatic 69, 3) := by decide +kernel
theorem dX11_isOrder_13 : decode cX11_isOrder 13 = .ok (.ireturn, 1) := by decide +kernel
theorem dX11_order_0 : decode cX11_order 0 = .ok (.aload_n 0, 1) := by decide +kernel
theorem dX11_order_1 : decode cX11_order 1 = .ok (.iload_n 1, 1) := by decide +kernel
theorem dX11_order_2 : decode cX11_order 2 = .ok (.invokevirtual 313, 3) := by decide +kernel
theorem dX11_order_5 : decode cX11_order 5 = .ok (.ifCond .eq 13, 3) := by decide +kernel
theorem dX11_order_8 : decode cX11_order 8 = .ok (.iload_n 2, 1) := by decide +kernel
theorem dX11_order_9 : decode cX11_order 9 = .ok (.i2l, 1) := by decide +kernel
theorem dX11_order_10 : decode cX11_order 10 = .ok (.lconst 0, 1) := by decide +kernel
theorem dX11_order_11 : decode cX11_order 11 = .ok (.lconst 1, 1) := by decide +kernel
theorem dX11_order_12 : decode cX11_order 12 = .ok (.invokestatic 69, 3) := by decide +kernel
theorem dX11_order_15 : decode cX11_order 15 = .ok (.ifCond .ne 5, 3) := by decide +kernel
theorem dX11_order_18 : decode cX11_order 18 = .ok (.iconst (-1), 1) := by decide +kernel
theorem dX11_order_19 : decode cX11_order 19 = .ok (.ireturn, 1) := by decide +kernel
theorem dX11_order_20 : decode cX11_order 20 = .ok (.aload_n 0, 1) := by decide +kernel
theorem dX11_order_21 : decode cX11_order 21 = .ok (.iload_n 1, 1) := by decide +kernel
theorem dX11_order_22 : decode cX11_order 22 = .ok (.invokevirtual 316, 3) := by decide +kernel
theorem dX11_order_25 : decode cX11_order 25 = .ok (.aload_n 0, 1) := by decide +kernel
theorem dX11_order_26 : decode cX11_order 26 = .ok (.invokevirtual 295, 3) := by decide +kernel
theorem dX11_order_29 : decode cX11_order 29 = .ok (.pop, 1) := by decide +kernel
theorem dX11_order_30 : decode cX11_order 30 = .ok (.aload_n 0, 1) := by decide +kernel
theorem dX11_order_31 : decode cX11_order 31 = .ok (.iload_n 2, 1) := by decide +kernel
theorem dX11_order_32 : decode cX11_order 32 = .ok (.invokevirtual 305, 3) := by decide +kernel
theorem dX11_order_35 : decode cX11_order 35 = .ok (.ireturn, 1) := by decide +kernel
theorem dX11_isMore_0 : decode cX11_isMore 0 = .ok (.aload_n 0, 1) := by decide +kernel
theorem dX11_isMore_1 : decode cX11_isMore 1 = .ok (.getfield 289, 3) := by decide +kernel
theorem dX11_isMore_4 : decode cX11_isMore 4 = .ok (.i2l, 1) := by decide +kernel
theorem dX11_isMore_5 : decode cX11_isMore 5 = .ok (.aload_n 0, 1) := by decide +kernel
theorem dX11_isMore_6 : decode cX11_isMore 6 = .ok (.getfield 319, 3) := by decide +kernel
theorem dX11_isMore_9 : decode cX11_isMore 9 = .ok (.i2l, 1) := by decide +kernel
theorem dX11_isMore_10 : decode cX11_isMore 10 = .ok (.lmul, 1) := by decide +kernel
theorem dX11_isMore_11 : decode cX11_isMore 11 = .ok (.aload_n 0, 1) := by decide +kernel
theorem dX11_isMore_12 : decode cX11_isMore 12 = .ok (.getfield 322, 3) := by decide +kernel
theorem dX11_isMore_15 : decode cX11_isMore 15 = .ok (.i2l, 1) := by decide +kernel
theorem dX11_isMore_16 : decode cX11_isMore 16 = .ok (.aload_n 0, 1) := by decide +kernel
theorem dX11_isMore_17 : decode cX11_isMore 17 = .ok (.getfield 292, 3) := by decide +kernel
theorem dX11_isMore_20 : decode cX11_isMore 20 = .ok (.i2l, 1) := by decide +kernel
theorem dX11_isMore_21 : decode cX11_isMore 21 = .ok (.lmul, 1) := by decide +kernel
theorem dX11_isMore_22 : decode cX11_isMore 22 = .ok (.lcmp, 1) := by decide +kernel
theorem dX11_isMore_23 : decode cX11_isMore 23 = .ok (.ifCond .le 7, 3) := by decide +kernel
theorem dX11_isMore_26 : decode cX11_isMore 26 = .ok (.iconst 1, 1) := by decide +kernel
theorem dX11_isMore_27 : decode cX11_isMore 27 = .ok (.goto 4, 3) := by decide +kernel
theorem dX11_isMore_30 : decode cX11_isMore 30 = .ok (.iconst 0, 1) := by decide +kernel
theorem dX11_isMore_31 : decode cX11_isMore 31 = .ok (.ireturn, 1) := by decide +kernel
theorem dX11_keepBest_0 : decode cX11_keepBest 0 = .ok (.aload_n 0, 1) := by decide +kernel
theorem dX11_keepBest_1 : decode cX11_keepBest 1 = .ok (.aload_n 0, 1) := by decide +kernel
theorem dX11_keepBest_2 : decode cX11_keepBest 2 = .ok (.getfield 289, 3) := by decide +kernel
theorem dX11_keepBest_5 : decode cX11_keepBest 5 = .ok (.putfield 322, 3) := by decide +kernel
theorem dX11_keepBest_8 : decode cX11_keepBest 8 = .ok (.aload_n 0, 1) := by decide +kernel
theorem dX11_keepBest_9 : decode cX11_keepBest 9 = .ok (.aload_n 0, 1) := by decide +kernel
theorem dX11_keepBest_10 : decode cX11_keepBest 10 = .ok (.getfield 292, 3) := by decide +kernel
theorem dX11_keepBest_13 : decode cX11_keepBest 13 = .ok (.putfield 319, 3) := by decide +kernel
theorem dX11_keepBest_16 : decode cX11_keepBest 16 = .ok (.return_, 1) := by decide +kernel
theorem dX11_best_0 : decode cX11_best 0 = .ok (.iload_n 1, 1) := by decide +kernel
theorem dX11_best_1 : decode cX11_best 1 = .ok (.i2l, 1) := by decide +kernel
theorem dX11_best_2 : decode cX11_best 2 = .ok (.lconst 0, 1) := by decide +kernel
theorem dX11_best_3 : decode cX11_best 3 = .ok (.ldc2_w 299, 3) := by decide +kernel
theorem dX11_best_6 : decode cX11_best 6 = .ok (.invokestatic 69, 3) := by decide +kernel
theorem dX11_best_9 : decode cX11_best 9 = .ok (.ifCond .ne 5, 3) := by decide +kernel
theorem dX11_best_12 : decode cX11_best 12 = .ok (.iconst (-1), 1) := by decide +kernel
theorem dX11_best_13 : decode cX11_best 13 = .ok (.ireturn, 1) := by decide +kernel
theorem dX11_best_14 : decode cX11_best 14 = .ok (.iconst 0, 1) := by decide +kernel
theorem dX11_best_15 : decode cX11_best 15 = .ok (.istore_n 2, 1) := by decide +kernel
theorem dX11_best_16 : decode cX11_best 16 = .ok (.iconst 0, 1) := by decide +kernel
theorem dX11_best_17 : decode cX11_best 17 = .ok (.istore_n 3, 1) := by decide +kernel
theorem dX11_best_18 : decode cX11_best 18 = .ok (.iconst 0, 1) := by decide +kernel
theorem dX11_best_19 : decode cX11_best 19 = .ok (.istore 4, 2) := by decide +kernel
theorem dX11_best_21 : decode cX11_best 21 = .ok (.iload 4, 2) := by decide +kernel
theorem dX11_best_23 : decode cX11_best 23 = .ok (.aload_n 0, 1) := by decide +kernel
theorem dX11_best_24 : decode cX11_best 24 = .ok (.invokevirtual 310, 3) := by decide +kernel
theorem dX11_best_27 : decode cX11_best 27 = .ok (.if_icmp .ge 49, 3) := by decide +kernel
theorem dX11_best_30 : decode cX11_best 30 = .ok (.aload_n 0, 1) := by decide +kernel
theorem dX11_best_31 : decode cX11_best 31 = .ok (.iload 4, 2) := by decide +kernel
theorem dX11_best_33 : decode cX11_best 33 = .ok (.invokevirtual 316, 3) := by decide +kernel
theorem dX11_best_36 : decode cX11_best 36 = .ok (.iload_n 3, 1) := by decide +kernel
theorem dX11_best_37 : decode cX11_best 37 = .ok (.aload_n 0, 1) := by decide +kernel
theorem dX11_best_38 : decode cX11_best 38 = .ok (.invokevirtual 295, 3) := by decide +kernel
theorem dX11_best_41 : decode cX11_best 41 = .ok (.ifCond .eq 7, 3) := by decide +kernel
theorem dX11_best_44 : decode cX11_best 44 = .ok (.iconst 0, 1) := by decide +kernel
theorem dX11_best_45 : decode cX11_best 45 = .ok (.goto 4, 3) := by decide +kernel
theorem dX11_best_48 : decode cX11_best 48 = .ok (.iconst 1, 1) := by decide +kernel
theorem dX11_best_49 : decode cX11_best 49 = .ok (.iadd, 1) := by decide +kernel
theorem dX11_best_50 : decode cX11_best 50 = .ok (.istore_n 3, 1) := by decide +kernel
theorem dX11_best_51 : decode cX11_best 51 = .ok (.iload 4, 2) := by decide +kernel
theorem dX11_best_53 : decode cX11_best 53 = .ok (.ifCond .eq 10, 3) := by decide +kernel
theorem dX11_best_56 : decode cX11_best 56 = .ok (.aload_n 0, 1) := by decide +kernel
theorem dX11_best_57 : decode cX11_best 57 = .ok (.invokevirtual 325, 3) := by decide +kernel
theorem dX11_best_60 : decode cX11_best 60 = .ok (.ifCond .eq 10, 3) := by decide +kernel
theorem dX11_best_63 : decode cX11_best 63 = .ok (.iload 4, 2) := by decide +kernel
theorem dX11_best_65 : decode cX11_best 65 = .ok (.istore_n 2, 1) := by decide +kernel
theorem dX11_best_66 : decode cX11_best 66 = .ok (.aload_n 0, 1) := by decide +kernel
theorem dX11_best_67 : decode cX11_best 67 = .ok (.invokevirtual 328, 3) := by decide +kernel
theorem dX11_best_70 : decode cX11_best 70 = .ok (.iinc 4 1, 3) := by decide +kernel
theorem dX11_best_73 : decode cX11_best 73 = .ok (.goto (-52), 3) := by decide +kernel
theorem dX11_best_76 : decode cX11_best 76 = .ok (.iload_n 1, 1) := by decide +kernel
theorem dX11_best_77 : decode cX11_best 77 = .ok (.ifCond .ne 7, 3) := by decide +kernel
theorem dX11_best_80 : decode cX11_best 80 = .ok (.iload_n 2, 1) := by decide +kernel
theorem dX11_best_81 : decode cX11_best 81 = .ok (.goto 29, 3) := by decide +kernel
theorem dX11_best_84 : decode cX11_best 84 = .ok (.iload_n 1, 1) := by decide +kernel
theorem dX11_best_85 : decode cX11_best 85 = .ok (.iconst 3, 1) := by decide +kernel
theorem dX11_best_86 : decode cX11_best 86 = .ok (.if_icmp .ne 7, 3) := by decide +kernel
theorem dX11_best_89 : decode cX11_best 89 = .ok (.iload_n 3, 1) := by decide +kernel
theorem dX11_best_90 : decode cX11_best 90 = .ok (.goto 20, 3) := by decide +kernel
theorem dX11_best_93 : decode cX11_best 93 = .ok (.aload_n 0, 1) := by decide +kernel
theorem dX11_best_94 : decode cX11_best 94 = .ok (.getfield 322, 3) := by decide +kernel
theorem dX11_best_97 : decode cX11_best 97 = .ok (.i2l, 1) := by decide +kernel
theorem dX11_best_98 : decode cX11_best 98 = .ok (.aload_n 0, 1) := by decide +kernel
theorem dX11_best_99 : decode cX11_best 99 = .ok (.getfield 319, 3) := by decide +kernel
theorem dX11_best_102 : decode cX11_best 102 = .ok (.i2l, 1) := by decide +kernel
theorem dX11_best_103 : decode cX11_best 103 = .ok (.iload_n 1, 1) := by decide +kernel
theorem dX11_best_104 : decode cX11_best 104 = .ok (.iconst 1, 1) := by decide +kernel
theorem dX11_best_105 : decode cX11_best 105 = .ok (.isub, 1) := by decide +kernel
theorem dX11_best_106 : decode cX11_best 106 = .ok (.invokestatic 301, 3) := by decide +kernel
theorem dX11_best_109 : decode cX11_best 109 = .ok (.l2i, 1) := by decide +kernel
theorem dX11_best_110 : decode cX11_best 110 = .ok (.ireturn, 1) := by decide +kernel
theorem dX11_stands_0 : decode cX11_stands 0 = .ok (.aload_n 0, 1) := by decide +kernel
theorem dX11_stands_1 : decode cX11_stands 1 = .ok (.iload_n 1, 1) := by decide +kernel
theorem dX11_stands_2 : decode cX11_stands 2 = .ok (.invokevirtual 313, 3) := by decide +kernel
theorem dX11_stands_5 : decode cX11_stands 5 = .ok (.ifCond .eq 11, 3) := by decide +kernel
theorem dX11_stands_8 : decode cX11_stands 8 = .ok (.aload_n 0, 1) := by decide +kernel
theorem dX11_stands_9 : decode cX11_stands 9 = .ok (.iload_n 2, 1) := by decide +kernel
theorem dX11_stands_10 : decode cX11_stands 10 = .ok (.invokevirtual 166, 3) := by decide +kernel
theorem dX11_stands_13 : decode cX11_stands 13 = .ok (.ifCond .ne 5, 3) := by decide +kernel
theorem dX11_stands_16 : decode cX11_stands 16 = .ok (.iconst (-1), 1) := by decide +kernel
theorem dX11_stands_17 : decode cX11_stands 17 = .ok (.ireturn, 1) := by decide +kernel
theorem dX11_stands_18 : decode cX11_stands 18 = .ok (.aload_n 0, 1) := by decide +kernel
theorem dX11_stands_19 : decode cX11_stands 19 = .ok (.iload_n 1, 1) := by decide +kernel
theorem dX11_stands_20 : decode cX11_stands 20 = .ok (.invokevirtual 316, 3) := by decide +kernel
theorem dX11_stands_23 : decode cX11_stands 23 = .ok (.aload_n 0, 1) := by decide +kernel
theorem dX11_stands_24 : decode cX11_stands 24 = .ok (.getfield 32, 3) := by decide +kernel
theorem dX11_stands_27 : decode cX11_stands 27 = .ok (.iload_n 2, 1) := by decide +kernel
theorem dX11_stands_28 : decode cX11_stands 28 = .ok (.iaload, 1) := by decide +kernel
