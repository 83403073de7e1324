theorem dX10_learnt_13 : decode cX10_learnt 13 = .ok (.ifCond .ne 5, 3) := by decide +kernel
theorem dX10_learnt_16 : decode cX10_learnt 16 = .ok (.iconst (-1), 1) := by decide +kernel
theorem dX10_learnt_17 : decode cX10_learnt 17 = .ok (.ireturn, 1) := by decide +kernel
theorem dX10_learnt_18 : decode cX10_learnt 18 = .ok (.aload_n 0, 1) := by decide +kernel
theorem dX10_learnt_19 : decode cX10_learnt 19 = .ok (.getfield 31, 3) := by decide +kernel
theorem dX10_learnt_22 : decode cX10_learnt 22 = .ok (.getfield 221, 3) := by decide +kernel
theorem dX10_learnt_25 : decode cX10_learnt 25 = .ok (.iload_n 1, 1) := by decide +kernel
theorem dX10_learnt_26 : decode cX10_learnt 26 = .ok (.bipush 8, 2) := by decide +kernel
theorem dX10_learnt_28 : decode cX10_learnt 28 = .ok (.imul, 1) := by decide +kernel
theorem dX10_learnt_29 : decode cX10_learnt 29 = .ok (.iload_n 2, 1) := by decide +kernel
theorem dX10_learnt_30 : decode cX10_learnt 30 = .ok (.iadd, 1) := by decide +kernel
theorem dX10_learnt_31 : decode cX10_learnt 31 = .ok (.iaload, 1) := by decide +kernel
theorem dX10_learnt_32 : decode cX10_learnt 32 = .ok (.ireturn, 1) := by decide +kernel
theorem dX10_takes_0 : decode cX10_takes 0 = .ok (.aload_n 0, 1) := by decide +kernel
theorem dX10_takes_1 : decode cX10_takes 1 = .ok (.iload_n 1, 1) := by decide +kernel
theorem dX10_takes_2 : decode cX10_takes 2 = .ok (.invokevirtual 165, 3) := by decide +kernel
theorem dX10_takes_5 : decode cX10_takes 5 = .ok (.ifCond .eq 11, 3) := by decide +kernel
theorem dX10_takes_8 : decode cX10_takes 8 = .ok (.aload_n 0, 1) := by decide +kernel
theorem dX10_takes_9 : decode cX10_takes 9 = .ok (.iload_n 2, 1) := by decide +kernel
theorem dX10_takes_10 : decode cX10_takes 10 = .ok (.invokevirtual 157, 3) := by decide +kernel
theorem dX10_takes_13 : decode cX10_takes 13 = .ok (.ifCond .ne 5, 3) := by decide +kernel
theorem dX10_takes_16 : decode cX10_takes 16 = .ok (.iconst (-1), 1) := by decide +kernel
theorem dX10_takes_17 : decode cX10_takes 17 = .ok (.ireturn, 1) := by decide +kernel
theorem dX10_takes_18 : decode cX10_takes 18 = .ok (.aload_n 0, 1) := by decide +kernel
theorem dX10_takes_19 : decode cX10_takes 19 = .ok (.getfield 10, 3) := by decide +kernel
theorem dX10_takes_22 : decode cX10_takes 22 = .ok (.iload_n 1, 1) := by decide +kernel
theorem dX10_takes_23 : decode cX10_takes 23 = .ok (.iload_n 2, 1) := by decide +kernel
theorem dX10_takes_24 : decode cX10_takes 24 = .ok (.aload_n 0, 1) := by decide +kernel
theorem dX10_takes_25 : decode cX10_takes 25 = .ok (.getfield 31, 3) := by decide +kernel
theorem dX10_takes_28 : decode cX10_takes 28 = .ok (.getfield 221, 3) := by decide +kernel
theorem dX10_takes_31 : decode cX10_takes 31 = .ok (.iload_n 1, 1) := by decide +kernel
theorem dX10_takes_32 : decode cX10_takes 32 = .ok (.bipush 8, 2) := by decide +kernel
theorem dX10_takes_34 : decode cX10_takes 34 = .ok (.imul, 1) := by decide +kernel
theorem dX10_takes_35 : decode cX10_takes 35 = .ok (.iload_n 2, 1) := by decide +kernel
theorem dX10_takes_36 : decode cX10_takes 36 = .ok (.iadd, 1) := by decide +kernel
theorem dX10_takes_37 : decode cX10_takes 37 = .ok (.iaload, 1) := by decide +kernel
theorem dX10_takes_38 : decode cX10_takes 38 = .ok (.invokevirtual 224, 3) := by decide +kernel
theorem dX10_takes_41 : decode cX10_takes 41 = .ok (.ireturn, 1) := by decide +kernel
theorem dX10_keep_0 : decode cX10_keep 0 = .ok (.iload_n 1, 1) := by decide +kernel
theorem dX10_keep_1 : decode cX10_keep 1 = .ok (.ifCond .lt 8, 3) := by decide +kernel
theorem dX10_keep_4 : decode cX10_keep 4 = .ok (.iload_n 1, 1) := by decide +kernel
theorem dX10_keep_5 : decode cX10_keep 5 = .ok (.iconst 2, 1) := by decide +kernel
theorem dX10_keep_6 : decode cX10_keep 6 = .ok (.if_icmp .lt 5, 3) := by decide +kernel
theorem dX10_keep_9 : decode cX10_keep 9 = .ok (.iconst (-1), 1) := by decide +kernel
theorem dX10_keep_10 : decode cX10_keep 10 = .ok (.ireturn, 1) := by decide +kernel
theorem dX10_keep_11 : decode cX10_keep 11 = .ok (.aload_n 0, 1) := by decide +kernel
theorem dX10_keep_12 : decode cX10_keep 12 = .ok (.getfield 39, 3) := by decide +kernel
theorem dX10_keep_15 : decode cX10_keep 15 = .ok (.iload_n 1, 1) := by decide +kernel
theorem dX10_keep_16 : decode cX10_keep 16 = .ok (.baload, 1) := by decide +kernel
theorem dX10_keep_17 : decode cX10_keep 17 = .ok (.istore_n 2, 1) := by decide +kernel
theorem dX10_keep_18 : decode cX10_keep 18 = .ok (.aload_n 0, 1) := by decide +kernel
theorem dX10_keep_19 : decode cX10_keep 19 = .ok (.getfield 35, 3) := by decide +kernel
theorem dX10_keep_22 : decode cX10_keep 22 = .ok (.iload_n 1, 1) := by decide +kernel
theorem dX10_keep_23 : decode cX10_keep 23 = .ok (.aaload, 1) := by decide +kernel
theorem dX10_keep_24 : decode cX10_keep 24 = .ok (.aload_n 0, 1) := by decide +kernel
theorem dX10_keep_25 : decode cX10_keep 25 = .ok (.getfield 31, 3) := by decide +kernel
theorem dX10_keep_28 : decode cX10_keep 28 = .ok (.invokevirtual 228, 3) := by decide +kernel
theorem dX10_keep_31 : decode cX10_keep 31 = .ok (.aload_n 0, 1) := by decide +kernel
theorem dX10_keep_32 : decode cX10_keep 32 = .ok (.getfield 39, 3) := by decide +kernel
theorem dX10_keep_35 : decode cX10_keep 35 = .ok (.iload_n 1, 1) := by decide +kernel
theorem dX10_keep_36 : decode cX10_keep 36 = .ok (.iconst 1, 1) := by decide +kernel
theorem dX10_keep_37 : decode cX10_keep 37 = .ok (.bastore, 1) := by decide +kernel
theorem dX10_keep_38 : decode cX10_keep 38 = .ok (.iload_n 2, 1) := by decide +kernel
theorem dX10_keep_39 : decode cX10_keep 39 = .ok (.ifCond .eq 7, 3) := by decide +kernel
theorem dX10_keep_42 : decode cX10_keep 42 = .ok (.iconst 1, 1) := by decide +kernel
theorem dX10_keep_43 : decode cX10_keep 43 = .ok (.goto 4, 3) := by decide +kernel
theorem dX10_keep_46 : decode cX10_keep 46 = .ok (.iconst 0, 1) := by decide +kernel
theorem dX10_keep_47 : decode cX10_keep 47 = .ok (.ireturn, 1) := by decide +kernel
theorem dX10_back_0 : decode cX10_back 0 = .ok (.iload_n 1, 1) := by decide +kernel
theorem dX10_back_1 : decode cX10_back 1 = .ok (.ifCond .lt 8, 3) := by decide +kernel
theorem dX10_back_4 : decode cX10_back 4 = .ok (.iload_n 1, 1) := by decide +kernel
theorem dX10_back_5 : decode cX10_back 5 = .ok (.iconst 2, 1) := by decide +kernel
theorem dX10_back_6 : decode cX10_back 6 = .ok (.if_icmp .lt 5, 3) := by decide +kernel
theorem dX10_back_9 : decode cX10_back 9 = .ok (.iconst (-1), 1) := by decide +kernel
theorem dX10_back_10 : decode cX10_back 10 = .ok (.ireturn, 1) := by decide +kernel
theorem dX10_back_11 : decode cX10_back 11 = .ok (.aload_n 0, 1) := by decide +kernel
theorem dX10_back_12 : decode cX10_back 12 = .ok (.getfield 39, 3) := by decide +kernel
theorem dX10_back_15 : decode cX10_back 15 = .ok (.iload_n 1, 1) := by decide +kernel
theorem dX10_back_16 : decode cX10_back 16 = .ok (.baload, 1) := by decide +kernel
theorem dX10_back_17 : decode cX10_back 17 = .ok (.ifCond .ne 6, 3) := by decide +kernel
theorem dX10_back_20 : decode cX10_back 20 = .ok (.bipush (-2), 2) := by decide +kernel
theorem dX10_back_22 : decode cX10_back 22 = .ok (.ireturn, 1) := by decide +kernel
theorem dX10_back_23 : decode cX10_back 23 = .ok (.aload_n 0, 1) := by decide +kernel
theorem dX10_back_24 : decode cX10_back 24 = .ok (.getfield 31, 3) := by decide +kernel
theorem dX10_back_27 : decode cX10_back 27 = .ok (.aload_n 0, 1) := by decide +kernel
theorem dX10_back_28 : decode cX10_back 28 = .ok (.getfield 35, 3) := by decide +kernel
theorem dX10_back_31 : decode cX10_back 31 = .ok (.iload_n 1, 1) := by decide +kernel
theorem dX10_back_32 : decode cX10_back 32 = .ok (.aaload, 1) := by decide +kernel
theorem dX10_back_33 : decode cX10_back 33 = .ok (.invokevirtual 228, 3) := by decide +kernel
theorem dX10_back_36 : decode cX10_back 36 = .ok (.aload_n 0, 1) := by decide +kernel
theorem dX10_back_37 : decode cX10_back 37 = .ok (.getfield 31, 3) := by decide +kernel
theorem dX10_back_40 : decode cX10_back 40 = .ok (.getfield 194, 3) := by decide +kernel
theorem dX10_back_43 : decode cX10_back 43 = .ok (.ireturn, 1) := by decide +kernel
theorem dX10_run_0 : decode cX10_run 0 = .ok (.iload_n 1, 1) := by decide +kernel
theorem dX10_run_1 : decode cX10_run 1 = .ok (.invokestatic 231, 3) := by decide +kernel
theorem dX10_run_4 : decode cX10_run 4 = .ok (.ifCond .eq 12, 3) := by decide +kernel
theorem dX10_run_7 : decode cX10_run 7 = .ok (.iload_n 2, 1) := by decide +kernel
theorem dX10_run_8 : decode cX10_run 8 = .ok (.ifCond .lt 8, 3) := by decide +kernel
theorem dX10_run_11 : decode cX10_run 11 = .ok (.iload_n 2, 1) := by decide +kernel
theorem dX10_run_12 : decode cX10_run 12 = .ok (.iconst 5, 1) := by decide +kernel
theorem dX10_run_13 : decode cX10_run 13 = .ok (.if_icmp .le 5, 3) := by decide +kernel
theorem dX10_run_16 : decode cX10_run 16 = .ok (.iconst (-1), 1) := by decide +kernel
theorem dX10_run_17 : decode cX10_run 17 = .ok (.ireturn, 1) := by decide +kernel
theorem dX10_run_18 : decode cX10_run 18 = .ok (.aload_n 0, 1) := by decide +kernel
theorem dX10_run_19 : decode cX10_run 19 = .ok (.getfield 48, 3) := by decide +kernel
theorem dX10_run_22 : decode cX10_run 22 = .ok (.iload_n 1, 1) := by decide +kernel
theorem dX10_run_23 : decode cX10_run 23 = .ok (.invokevirtual 234, 3) := by decide +kernel
theorem dX10_run_26 : decode cX10_run 26 = .ok (.iload_n 2, 1) := by decide +kernel
theorem dX10_run_27 : decode cX10_run 27 = .ok (.tableswitch 93 0 4 #[33, 44, 55, 66, 82], 33) := by decide +kernel
theorem dX10_run_60 : decode cX10_run 60 = .ok (.aload_n 0, 1) := by decide +kernel
theorem dX10_run_61 : decode cX10_run 61 = .ok (.getfield 48, 3) := by decide +kernel
theorem dX10_run_64 : decode cX10_run 64 = .ok (.getfield 237, 3) := by decide +kernel
theorem dX10_run_67 : decode cX10_run 67 = .ok (.getfield 194, 3) := by decide +kernel
theorem dX10_run_70 : decode cX10_run 70 = .ok (.ireturn, 1) := by decide +kernel
theorem dX10_run_71 : decode cX10_run 71 = .ok (.aload_n 0, 1) := by decide +kernel
theorem dX10_run_72 : decode cX10_run 72 = .ok (.getfield 48, 3) := by decide +kernel
theorem dX10_run_75 : decode cX10_run 75 = .ok (.getfield 237, 3) := by decide +kernel
theorem dX10_run_78 : decode cX10_run 78 = .ok (.getfield 177, 3) := by decide +kernel
theorem dX10_run_81 : decode cX10_run 81 = .ok (.ireturn, 1) := by decide +kernel
theorem dX10_run_82 : decode cX10_run 82 = .ok (.aload_n 0, 1) := by decide +kernel
theorem dX10_run_83 : decode cX10_run 83 = .ok (.getfield 48, 3) := by decide +kernel
theorem dX10_run_86 : decode cX10_run 86 = .ok (.getfield 237, 3) := by decide +kernel
theorem dX10_run_89 : decode cX10_run 89 = .ok (.getfield 197, 3) := by decide +kernel
theorem dX10_run_92 : decode cX10_run 92 = .ok (.ireturn, 1) := by decide +kernel
theorem dX10_run_93 : decode cX10_run 93 = .ok (.aload_n 0, 1) := by decide +kernel
theorem dX10_run_94 : decode cX10_run 94 = .ok (.getfield 48, 3) := by decide +kernel
theorem dX10_run_97 : decode cX10_run 97 = .ok (.getfield 238, 3) := by decide +kernel
theorem dX10_run_100 : decode cX10_run 100 = .ok (.ifCond .eq 7, 3) := by decide +kernel
theorem dX10_run_103 : decode cX10_run 103 = .ok (.iconst 1, 1) := by decide +kernel
theorem dX10_run_104 : decode cX10_run 104 = .ok (.goto 4, 3) := by decide +kernel
theorem dX10_run_107 : decode cX10_run 107 = .ok (.iconst 0, 1) := by decide +kernel
theorem dX10_run_108 : decode cX10_run 108 = .ok (.ireturn, 1) := by decide +kernel
theorem dX10_run_109 : decode cX10_run 109 = .ok (.aload_n 0, 1) := by decide +kernel
theorem dX10_run_110 : decode cX10_run 110 = .ok (.getfield 48, 3) := by decide +kernel
theorem dX10_run_113 : decode cX10_run 113 = .ok (.getfield 237, 3) := by decide +kernel
theorem dX10_run_116 : decode cX10_run 116 = .ok (.invokevirtual 242, 3) := by decide +kernel
theorem dX10_run_119 : decode cX10_run 119 = .ok (.ireturn, 1) := by decide +kernel
theorem dX10_run_120 : decode cX10_run 120 = .ok (.aload_n 0, 1) := by decide +kernel
theorem dX10_run_121 : decode cX10_run 121 = .ok (.getfield 48, 3) := by decide +kernel
theorem dX10_run_124 : decode cX10_run 124 = .ok (.getfield 237, 3) := by decide +kernel
theorem dX10_run_127 : decode cX10_run 127 = .ok (.invokevirtual 245, 3) := by decide +kernel
theorem dX10_run_130 : decode cX10_run 130 = .ok (.ireturn, 1) := by decide +kernel
theorem dX10_waits_0 : decode cX10_waits 0 = .ok (.iload_n 1, 1) := by decide +kernel
theorem dX10_waits_1 : decode cX10_waits 1 = .ok (.invokestatic 231, 3) := by decide +kernel
theorem dX10_waits_4 : decode cX10_waits 4 = .ok (.ifCond .eq 11, 3) := by decide +kernel
theorem dX10_waits_7 : decode cX10_waits 7 = .ok (.aload_n 0, 1) := by decide +kernel
theorem dX10_waits_8 : decode cX10_waits 8 = .ok (.iload_n 2, 1) := by decide +kernel
theorem dX10_waits_9 : decode cX10_waits 9 = .ok (.invokevirtual 165, 3) := by decide +kernel
theorem dX10_waits_12 : decode cX10_waits 12 = .ok (.ifCond .ne 5, 3) := by decide +kernel
theorem dX10_waits_15 : decode cX10_waits 15 = .ok (.iconst (-1), 1) := by decide +kernel
theorem dX10_waits_16 : decode cX10_waits 16 = .ok (.ireturn, 1) := by decide +kernel
theorem dX10_waits_17 : decode cX10_waits 17 = .ok (.aload_n 0, 1) := by decide +kernel
theorem dX10_waits_18 : decode cX10_waits 18 = .ok (.getfield 48, 3) := by decide +kernel
theorem dX10_waits_21 : decode cX10_waits 21 = .ok (.iload_n 1, 1) := by decide +kernel
theorem dX10_waits_22 : decode cX10_waits 22 = .ok (.invokevirtual 234, 3) := by decide +kernel
theorem dX10_waits_25 : decode cX10_waits 25 = .ok (.aload_n 0, 1) := by decide +kernel
theorem dX10_waits_26 : decode cX10_waits 26 = .ok (.getfield 48, 3) := by decide +kernel
theorem dX10_waits_29 : decode cX10_waits 29 = .ok (.getfield 237, 3) := by decide +kernel
theorem dX10_waits_32 : decode cX10_waits 32 = .ok (.getfield 218, 3) := by decide +kernel
theorem dX10_waits_35 : decode cX10_waits 35 = .ok (.iload_n 2, 1) := by decide +kernel
theorem dX10_waits_36 : decode cX10_waits 36 = .ok (.iaload, 1) := by decide +kernel
theorem dX10_waits_37 : decode cX10_waits 37 = .ok (.ireturn, 1) := by decide +kernel
theorem dX10_over_0 : decode cX10_over 0 = .ok (.iload_n 1, 1) := by decide +kernel
theorem dX10_over_1 : decode cX10_over 1 = .ok (.invokestatic 231, 3) := by decide +kernel
theorem dX10_over_4 : decode cX10_over 4 = .ok (.ifCond .eq 12, 3) := by decide +kernel
theorem dX10_over_7 : decode cX10_over 7 = .ok (.iload_n 3, 1) := by decide +kernel
theorem dX10_over_8 : decode cX10_over 8 = .ok (.ifCond .lt 8, 3) := by decide +kernel
theorem dX10_over_11 : decode cX10_over 11 = .ok (.iload_n 3, 1) := by decide +kernel
theorem dX10_over_12 : decode cX10_over 12 = .ok (.iconst 5, 1) := by decide +kernel
theorem dX10_over_13 : decode cX10_over 13 = .ok (.if_icmp .lt 5, 3) := by decide +kernel
theorem dX10_over_16 : decode cX10_over 16 = .ok (.iconst (-1), 1) := by decide +kernel
theorem dX10_over_17 : decode cX10_over 17 = .ok (.ireturn, 1) := by decide +kernel
theorem dX10_over_18 : decode cX10_over 18 = .ok (.aload_n 0, 1) := by decide +kernel
theorem dX10_over_19 : decode cX10_over 19 = .ok (.getfield 48, 3) := by decide +kernel
theorem dX10_over_22 : decode cX10_over 22 = .ok (.iload_n 1, 1) := by decide +kernel
theorem dX10_over_23 : decode cX10_over 23 = .ok (.invokevirtual 234, 3) := by decide +kernel
theorem dX10_over_26 : decode cX10_over 26 = .ok (.iload_n 2, 1) := by decide +kernel
theorem dX10_over_27 : decode cX10_over 27 = .ok (.ifCond .lt 17, 3) := by decide +kernel
theorem dX10_over_30 : decode cX10_over 30 = .ok (.iload_n 2, 1) := by decide +kernel
theorem dX10_over_31 : decode cX10_over 31 = .ok (.aload_n 0, 1) := by decide +kernel
theorem dX10_over_32 : decode cX10_over 32 = .ok (.getfield 48, 3) := by decide +kernel
theorem dX10_over_35 : decode cX10_over 35 = .ok (.getfield 250, 3) := by decide +kernel
theorem dX10_over_38 : decode cX10_over 38 = .ok (.getfield 253, 3) := by decide +kernel
theorem dX10_over_41 : decode cX10_over 41 = .ok (.if_icmp .lt 5, 3) := by decide +kernel
theorem dX10_over_44 : decode cX10_over 44 = .ok (.iconst (-1), 1) := by decide +kernel
theorem dX10_over_45 : decode cX10_over 45 = .ok (.ireturn, 1) := by decide +kernel
theorem dX10_over_46 : decode cX10_over 46 = .ok (.aload_n 0, 1) := by decide +kernel
theorem dX10_over_47 : decode cX10_over 47 = .ok (.getfield 48, 3) := by decide +kernel
theorem dX10_over_50 : decode cX10_over 50 = .ok (.getfield 250, 3) := by decide +kernel
theorem dX10_over_53 : decode cX10_over 53 = .ok (.iload_n 2, 1) := by decide +kernel
theorem dX10_over_54 : decode cX10_over 54 = .ok (.iload_n 3, 1) := by decide +kernel
theorem dX10_over_55 : decode cX10_over 55 = .ok (.invokevirtual 256, 3) := by decide +kernel
theorem dX10_over_58 : decode cX10_over 58 = .ok (.ireturn, 1) := by decide +kernel
theorem dX10_judge_0 : decode cX10_judge 0 = .ok (.aload_n 0, 1) := by decide +kernel
theorem dX10_judge_1 : decode cX10_judge 1 = .ok (.getfield 48, 3) := by decide +kernel
theorem dX10_judge_4 : decode cX10_judge 4 = .ok (.bipush 120, 2) := by decide +kernel
theorem dX10_judge_6 : decode cX10_judge 6 = .ok (.invokevirtual 234, 3) := by decide +kernel
theorem dX10_judge_9 : decode cX10_judge 9 = .ok (.aload_n 0, 1) := by decide +kernel
theorem dX10_judge_10 : decode cX10_judge 10 = .ok (.getfield 48, 3) := by decide +kernel
theorem dX10_judge_13 : decode cX10_judge 13 = .ok (.getfield 250, 3) := by decide +kernel
theorem dX10_judge_16 : decode cX10_judge 16 = .ok (.astore 6, 2) := by decide +kernel
theorem dX10_judge_18 : decode cX10_judge 18 = .ok (.iload_n 1, 1) := by decide +kernel
theorem dX10_judge_19 : decode cX10_judge 19 = .ok (.ifCond .lt 12, 3) := by decide +kernel
theorem dX10_judge_22 : decode cX10_judge 22 = .ok (.iload_n 1, 1) := by decide +kernel
theorem dX10_judge_23 : decode cX10_judge 23 = .ok (.aload 6, 2) := by decide +kernel
theorem dX10_judge_25 : decode cX10_judge 25 = .ok (.getfield 253, 3) := by decide +kernel
theorem dX10_judge_28 : decode cX10_judge 28 = .ok (.if_icmp .lt 5, 3) := by decide +kernel
theorem dX10_judge_31 : decode cX10_judge 31 = .ok (.iconst (-1), 1) := by decide +kernel
theorem dX10_judge_32 : decode cX10_judge 32 = .ok (.ireturn, 1) := by decide +kernel
theorem dX10_judge_33 : decode cX10_judge 33 = .ok (.aload 6, 2) := by decide +kernel
theorem dX10_judge_35 : decode cX10_judge 35 = .ok (.iload_n 1, 1) := by decide +kernel
theorem dX10_judge_36 : decode cX10_judge 36 = .ok (.iconst 0, 1) := by decide +kernel
theorem dX10_judge_37 : decode cX10_judge 37 = .ok (.invokevirtual 256, 3) := by decide +kernel
theorem dX10_judge_40 : decode cX10_judge 40 = .ok (.iload_n 2, 1) := by decide +kernel
theorem dX10_judge_41 : decode cX10_judge 41 = .ok (.if_icmp .eq 5, 3) := by decide +kernel
theorem dX10_judge_44 : decode cX10_judge 44 = .ok (.iconst 1, 1) := by decide +kernel
theorem dX10_judge_45 : decode cX10_judge 45 = .ok (.ireturn, 1) := by decide +kernel
theorem dX10_judge_46 : decode cX10_judge 46 = .ok (.aload 6, 2) := by decide +kernel
theorem dX10_judge_48 : decode cX10_judge 48 = .ok (.iload_n 1, 1) := by decide +kernel
theorem dX10_judge_49 : decode cX10_judge 49 = .ok (.iconst 1, 1) := by decide +kernel
theorem dX10_judge_50 : decode cX10_judge 50 = .ok (.invokevirtual 256, 3) := by decide +kernel
theorem dX10_judge_53 : decode cX10_judge 53 = .ok (.iload_n 3, 1) := by decide +kernel
theorem dX10_judge_54 : decode cX10_judge 54 = .ok (.if_icmp .eq 5, 3) := by decide +kernel
theorem dX10_judge_57 : decode cX10_judge 57 = .ok (.iconst 2, 1) := by decide +kernel
theorem dX10_judge_58 : decode cX10_judge 58 = .ok (.ireturn, 1) := by decide +kernel
theorem dX10_judge_59 : decode cX10_judge 59 = .ok (.aload 6, 2) := by decide +kernel
theorem dX10_judge_61 : decode cX10_judge 61 = .ok (.iload_n 1, 1) := by decide +kernel
theorem dX10_judge_62 : decode cX10_judge 62 = .ok (.iconst 2, 1) := by decide +kernel
theorem dX10_judge_63 : decode cX10_judge 63 = .ok (.invokevirtual 256, 3) := by decide +kernel
theorem dX10_judge_66 : decode cX10_judge 66 = .ok (.iload 4, 2) := by decide +kernel
theorem dX10_judge_68 : decode cX10_judge 68 = .ok (.if_icmp .eq 5, 3) := by decide +kernel
theorem dX10_judge_71 : decode cX10_judge 71 = .ok (.iconst 3, 1) := by decide +kernel
theorem dX10_judge_72 : decode cX10_judge 72 = .ok (.ireturn, 1) := by decide +kernel
theorem dX10_judge_73 : decode cX10_judge 73 = .ok (.aload 6, 2) := by decide +kernel
theorem dX10_judge_75 : decode cX10_judge 75 = .ok (.iload_n 1, 1) := by decide +kernel
theorem dX10_judge_76 : decode cX10_judge 76 = .ok (.iconst 3, 1) := by decide +kernel
theorem dX10_judge_77 : decode cX10_judge 77 = .ok (.invokevirtual 256, 3) := by decide +kernel
theorem dX10_judge_80 : decode cX10_judge 80 = .ok (.iload 5, 2) := by decide +kernel
theorem dX10_judge_82 : decode cX10_judge 82 = .ok (.if_icmp .eq 7, 3) := by decide +kernel
theorem dX10_judge_85 : decode cX10_judge 85 = .ok (.iconst 4, 1) := by decide +kernel
theorem dX10_judge_86 : decode cX10_judge 86 = .ok (.goto 4, 3) := by decide +kernel
theorem dX10_judge_89 : decode cX10_judge 89 = .ok (.iconst 0, 1) := by decide +kernel
theorem dX10_judge_90 : decode cX10_judge 90 = .ok (.ireturn, 1) := by decide +kernel
theorem dX10_settles_0 : decode cX10_settles 0 = .ok (.iload_n 1, 1) := by decide +kernel
theorem dX10_settles_1 : decode cX10_settles 1 = .ok (.ifCond .lt 8, 3) := by decide +kernel
theorem dX10_settles_4 : decode cX10_settles 4 = .ok (.iload_n 1, 1) := by decide +kernel
theorem dX10_settles_5 : decode cX10_settles 5 = .ok (.iconst 2, 1) := by decide +kernel
theorem dX10_settles_6 : decode cX10_settles 6 = .ok (.if_icmp .le 5, 3) := by decide +kernel
theorem dX10_settles_9 : decode cX10_settles 9 = .ok (.iconst (-1), 1) := by decide +kernel
theorem dX10_settles_10 : decode cX10_settles 10 = .ok (.ireturn, 1) := by decide +kernel
theorem dX10_settles_11 : decode cX10_settles 11 = .ok (.aload_n 0, 1) := by decide +kernel
theorem dX10_settles_12 : decode cX10_settles 12 = .ok (.invokevirtual 259, 3) := by decide +kernel
theorem dX10_settles_15 : decode cX10_settles 15 = .ok (.aload_n 0, 1) := by decide +kernel
theorem dX10_settles_16 : decode cX10_settles 16 = .ok (.getfield 62, 3) := by decide +kernel
theorem dX10_settles_19 : decode cX10_settles 19 = .ok (.getfield 262, 3) := by decide +kernel
theorem dX10_settles_22 : decode cX10_settles 22 = .ok (.ifCond .ne 6, 3) := by decide +kernel
theorem dX10_settles_25 : decode cX10_settles 25 = .ok (.bipush (-4), 2) := by decide +kernel
theorem dX10_settles_27 : decode cX10_settles 27 = .ok (.ireturn, 1) := by decide +kernel
theorem dX10_settles_28 : decode cX10_settles 28 = .ok (.iload_n 1, 1) := by decide +kernel
theorem dX10_settles_29 : decode cX10_settles 29 = .ok (.ifCond .ne 13, 3) := by decide +kernel
theorem dX10_settles_32 : decode cX10_settles 32 = .ok (.aload_n 0, 1) := by decide +kernel
theorem dX10_settles_33 : decode cX10_settles 33 = .ok (.getfield 62, 3) := by decide +kernel
theorem dX10_settles_36 : decode cX10_settles 36 = .ok (.getfield 265, 3) := by decide +kernel
theorem dX10_settles_39 : decode cX10_settles 39 = .ok (.goto 25, 3) := by decide +kernel
theorem dX10_settles_42 : decode cX10_settles 42 = .ok (.iload_n 1, 1) := by decide +kernel
theorem dX10_settles_43 : decode cX10_settles 43 = .ok (.iconst 1, 1) := by decide +kernel
theorem dX10_settles_44 : decode cX10_settles 44 = .ok (.if_icmp .ne 13, 3) := by decide +kernel
theorem dX10_settles_47 : decode cX10_settles 47 = .ok (.aload_n 0, 1) := by decide +kernel
theorem dX10_settles_48 : decode cX10_settles 48 = .ok (.getfield 62, 3) := by decide +kernel
theorem dX10_settles_51 : decode cX10_settles 51 = .ok (.getfield 268, 3) := by decide +kernel
theorem dX10_settles_54 : decode cX10_settles 54 = .ok (.goto 10, 3) := by decide +kernel
theorem dX10_settles_57 : decode cX10_settles 57 = .ok (.aload_n 0, 1) := by decide +kernel
theorem dX10_settles_58 : decode cX10_settles 58 = .ok (.getfield 62, 3) := by decide +kernel
theorem dX10_settles_61 : decode cX10_settles 61 = .ok (.getfield 271, 3) := by decide +kernel
theorem dX10_settles_64 : decode cX10_settles 64 = .ok (.ireturn, 1) := by decide +kernel
theorem dX10_where_0 : decode cX10_where 0 = .ok (.iload_n 1, 1) := by decide +kernel
theorem dX10_where_1 : decode cX10_where 1 = .ok (.iconst 1, 1) := by decide +kernel
theorem dX10_where_2 : decode cX10_where 2 = .ok (.if_icmp .lt 23, 3) := by decide +kernel
theorem dX10_where_5 : decode cX10_where 5 = .ok (.iload_n 1, 1) := by decide +kernel
theorem dX10_where_6 : decode cX10_where 6 = .ok (.aload_n 0, 1) := by decide +kernel
theorem dX10_where_7 : decode cX10_where 7 = .ok (.getfield 10, 3) := by decide +kernel
theorem dX10_where_10 : decode cX10_where 10 = .ok (.getfield 136, 3) := by decide +kernel
theorem dX10_where_13 : decode cX10_where 13 = .ok (.if_icmp .ge 12, 3) := by decide +kernel
theorem dX10_where_16 : decode cX10_where 16 = .ok (.iload_n 2, 1) := by decide +kernel
theorem dX10_where_17 : decode cX10_where 17 = .ok (.ifCond .lt 8, 3) := by decide +kernel
theorem dX10_where_20 : decode cX10_where 20 = .ok (.iload_n 2, 1) := by decide +kernel
theorem dX10_where_21 : decode cX10_where 21 = .ok (.iconst 3, 1) := by decide +kernel
theorem dX10_where_22 : decode cX10_where 22 = .ok (.if_icmp .le 5, 3) := by decide +kernel
theorem dX10_where_25 : decode cX10_where 25 = .ok (.iconst (-1), 1) := by decide +kernel
theorem dX10_where_26 : decode cX10_where 26 = .ok (.ireturn, 1) := by decide +kernel
theorem dX10_where_27 : decode cX10_where 27 = .ok (.aload_n 0, 1) := by decide +kernel
theorem dX10_where_28 : decode cX10_where 28 = .ok (.invokevirtual 259, 3) := by decide +kernel
theorem dX10_where_31 : decode cX10_where 31 = .ok (.aload_n 0, 1) := by decide +kernel
theorem dX10_where_32 : decode cX10_where 32 = .ok (.getfield 62, 3) := by decide +kernel
theorem dX10_where_35 : decode cX10_where 35 = .ok (.getfield 262, 3) := by decide +kernel
theorem dX10_where_38 : decode cX10_where 38 = .ok (.ifCond .ne 6, 3) := by decide +kernel
theorem dX10_where_41 : decode cX10_where 41 = .ok (.bipush (-4), 2) := by decide +kernel
theorem dX10_where_43 : decode cX10_where 43 = .ok (.ireturn, 1) := by decide +kernel
theorem dX10_where_44 : decode cX10_where 44 = .ok (.aload_n 0, 1) := by decide +kernel
theorem dX10_where_45 : decode cX10_where 45 = .ok (.getfield 48, 3) := by decide +kernel
theorem dX10_where_48 : decode cX10_where 48 = .ok (.bipush 120, 2) := by decide +kernel
theorem dX10_where_50 : decode cX10_where 50 = .ok (.invokevirtual 234, 3) := by decide +kernel
theorem dX10_where_53 : decode cX10_where 53 = .ok (.aload_n 0, 1) := by decide +kernel
theorem dX10_where_54 : decode cX10_where 54 = .ok (.getfield 48, 3) := by decide +kernel
theorem dX10_where_57 : decode cX10_where 57 = .ok (.getfield 250, 3) := by decide +kernel
theorem dX10_where_60 : decode cX10_where 60 = .ok (.iload_n 1, 1) := by decide +kernel
theorem dX10_where_61 : decode cX10_where 61 = .ok (.aload_n 0, 1) := by decide +kernel
theorem dX10_where_62 : decode cX10_where 62 = .ok (.getfield 62, 3) := by decide +kernel
theorem dX10_where_65 : decode cX10_where 65 = .ok (.iload_n 2, 1) := by decide +kernel
theorem dX10_where_66 : decode cX10_where 66 = .ok (.invokevirtual 274, 3) := by decide +kernel
theorem dX10_where_69 : decode cX10_where 69 = .ok (.ireturn, 1) := by decide +kernel
theorem dX10_makes_0 : decode cX10_makes 0 = .ok (.iload_n 1, 1) := by decide +kernel
theorem dX10_makes_1 : decode cX10_makes 1 = .ok (.invokestatic 278, 3) := by decide +kernel
theorem dX10_makes_4 : decode cX10_makes 4 = .ok (.ifCond .ne 5, 3) := by decide +kernel
theorem dX10_makes_7 : decode cX10_makes 7 = .ok (.iconst (-1), 1) := by decide +kernel
theorem dX10_makes_8 : decode cX10_makes 8 = .ok (.ireturn, 1) := by decide +kernel
theorem dX10_makes_9 : decode cX10_makes 9 = .ok (.aload_n 0, 1) := by decide +kernel
theorem dX10_makes_10 : decode cX10_makes 10 = .ok (.invokevirtual 259, 3) := by decide +kernel
theorem dX10_makes_13 : decode cX10_makes 13 = .ok (.iload_n 1, 1) := by decide +kernel
theorem dX10_makes_14 : decode cX10_makes 14 = .ok (.ifCond .ne 13, 3) := by decide +kernel
theorem dX10_makes_17 : decode cX10_makes 17 = .ok (.aload_n 0, 1) := by decide +kernel
theorem dX10_makes_18 : decode cX10_makes 18 = .ok (.getfield 62, 3) := by decide +kernel
theorem dX10_makes_21 : decode cX10_makes 21 = .ok (.getfield 281, 3) := by decide +kernel
theorem dX10_makes_24 : decode cX10_makes 24 = .ok (.goto 10, 3) := by decide +kernel
theorem dX10_makes_27 : decode cX10_makes 27 = .ok (.aload_n 0, 1) := by decide +kernel
theorem dX10_makes_28 : decode cX10_makes 28 = .ok (.getfield 62, 3) := by decide +kernel
theorem dX10_makes_31 : decode cX10_makes 31 = .ok (.getfield 284, 3) := by decide +kernel
theorem dX10_makes_34 : decode cX10_makes 34 = .ok (.ireturn, 1) := by decide +kernel
theorem dX10_could_0 : decode cX10_could 0 = .ok (.iload_n 1, 1) := by decide +kernel
theorem dX10_could_1 : decode cX10_could 1 = .ok (.invokestatic 278, 3) := by decide +kernel
theorem dX10_could_4 : decode cX10_could 4 = .ok (.ifCond .ne 7, 3) := by decide +kernel
theorem dX10_could_7 : decode cX10_could 7 = .ok (.ldc2_w 287, 3) := by decide +kernel
theorem dX10_could_10 : decode cX10_could 10 = .ok (.lreturn, 1) := by decide +kernel
theorem dX10_could_11 : decode cX10_could 11 = .ok (.lconst 0, 1) := by decide +kernel
theorem dX10_could_12 : decode cX10_could 12 = .ok (.lstore_n 2, 1) := by decide +kernel
theorem dX10_could_13 : decode cX10_could 13 = .ok (.lconst 1, 1) := by decide +kernel
theorem dX10_could_14 : decode cX10_could 14 = .ok (.lstore 4, 2) := by decide +kernel
theorem dX10_could_16 : decode cX10_could 16 = .ok (.iconst 0, 1) := by decide +kernel
theorem dX10_could_17 : decode cX10_could 17 = .ok (.istore 6, 2) := by decide +kernel
theorem dX10_could_19 : decode cX10_could 19 = .ok (.iload 6, 2) := by decide +kernel
theorem dX10_could_21 : decode cX10_could 21 = .ok (.aload_n 0, 1) := by decide +kernel
theorem dX10_could_22 : decode cX10_could 22 = .ok (.getfield 10, 3) := by decide +kernel
theorem dX10_could_25 : decode cX10_could 25 = .ok (.getfield 136, 3) := by decide +kernel
theorem dX10_could_28 : decode cX10_could 28 = .ok (.if_icmp .ge 94, 3) := by decide +kernel
theorem dX10_could_31 : decode cX10_could 31 = .ok (.aload_n 0, 1) := by decide +kernel
theorem dX10_could_32 : decode cX10_could 32 = .ok (.getfield 10, 3) := by decide +kernel
theorem dX10_could_35 : decode cX10_could 35 = .ok (.iload 6, 2) := by decide +kernel
theorem dX10_could_37 : decode cX10_could 37 = .ok (.invokevirtual 289, 3) := by decide +kernel
theorem dX10_could_40 : decode cX10_could 40 = .ok (.lstore 7, 2) := by decide +kernel
theorem dX10_could_42 : decode cX10_could 42 = .ok (.lload 7, 2) := by decide +kernel
theorem dX10_could_44 : decode cX10_could 44 = .ok (.lconst 0, 1) := by decide +kernel
theorem dX10_could_45 : decode cX10_could 45 = .ok (.lcmp, 1) := by decide +kernel
theorem dX10_could_46 : decode cX10_could 46 = .ok (.ifCond .le 70, 3) := by decide +kernel
theorem dX10_could_49 : decode cX10_could 49 = .ok (.lload_n 2, 1) := by decide +kernel
theorem dX10_could_50 : decode cX10_could 50 = .ok (.lload 7, 2) := by decide +kernel
theorem dX10_could_52 : decode cX10_could 52 = .ok (.lmul, 1) := by decide +kernel
theorem dX10_could_53 : decode cX10_could 53 = .ok (.aload_n 0, 1) := by decide +kernel
theorem dX10_could_54 : decode cX10_could 54 = .ok (.getfield 10, 3) := by decide +kernel
theorem dX10_could_57 : decode cX10_could 57 = .ok (.getfield 129, 3) := by decide +kernel
theorem dX10_could_60 : decode cX10_could 60 = .ok (.i2l, 1) := by decide +kernel
theorem dX10_could_61 : decode cX10_could 61 = .ok (.lload 4, 2) := by decide +kernel
theorem dX10_could_63 : decode cX10_could 63 = .ok (.lmul, 1) := by decide +kernel
theorem dX10_could_64 : decode cX10_could 64 = .ok (.ladd, 1) := by decide +kernel
theorem dX10_could_65 : decode cX10_could 65 = .ok (.lstore_n 2, 1) := by decide +kernel
theorem dX10_could_66 : decode cX10_could 66 = .ok (.lload 4, 2) := by decide +kernel
theorem dX10_could_68 : decode cX10_could 68 = .ok (.lload 7, 2) := by decide +kernel
theorem dX10_could_70 : decode cX10_could 70 = .ok (.lmul, 1) := by decide +kernel
theorem dX10_could_71 : decode cX10_could 71 = .ok (.lstore 4, 2) := by decide +kernel
theorem dX10_could_73 : decode cX10_could 73 = .ok (.lload_n 2, 1) := by decide +kernel
theorem dX10_could_74 : decode cX10_could 74 = .ok (.lload 4, 2) := by decide +kernel
theorem dX10_could_76 : decode cX10_could 76 = .ok (.invokestatic 293, 3) := by decide +kernel
theorem dX10_could_79 : decode cX10_could 79 = .ok (.lstore 9, 2) := by decide +kernel
theorem dX10_could_81 : decode cX10_could 81 = .ok (.lload 9, 2) := by decide +kernel
theorem dX10_could_83 : decode cX10_could 83 = .ok (.lconst 0, 1) := by decide +kernel
theorem dX10_could_84 : decode cX10_could 84 = .ok (.lcmp, 1) := by decide +kernel
theorem dX10_could_85 : decode cX10_could 85 = .ok (.ifCond .le 10, 3) := by decide +kernel
theorem dX10_could_88 : decode cX10_could 88 = .ok (.lload_n 2, 1) := by decide +kernel
theorem dX10_could_89 : decode cX10_could 89 = .ok (.lload 9, 2) := by decide +kernel
theorem dX10_could_91 : decode cX10_could 91 = .ok (.ldiv, 1) := by decide +kernel
theorem dX10_could_92 : decode cX10_could 92 = .ok (.goto 4, 3) := by decide +kernel
theorem dX10_could_95 : decode cX10_could 95 = .ok (.lload_n 2, 1) := by decide +kernel
theorem dX10_could_96 : decode cX10_could 96 = .ok (.lstore_n 2, 1) := by decide +kernel
theorem dX10_could_97 : decode cX10_could 97 = .ok (.lload 9, 2) := by decide +kernel
theorem dX10_could_99 : decode cX10_could 99 = .ok (.lconst 0, 1) := by decide +kernel
theorem dX10_could_100 : decode cX10_could 100 = .ok (.lcmp, 1) := by decide +kernel
theorem dX10_could_101 : decode cX10_could 101 = .ok (.ifCond .le 11, 3) := by decide +kernel
theorem dX10_could_104 : decode cX10_could 104 = .ok (.lload 4, 2) := by decide +kernel
theorem dX10_could_106 : decode cX10_could 106 = .ok (.lload 9, 2) := by decide +kernel
theorem dX10_could_108 : decode cX10_could 108 = .ok (.ldiv, 1) := by decide +kernel
theorem dX10_could_109 : decode cX10_could 109 = .ok (.goto 5, 3) := by decide +kernel
theorem dX10_could_112 : decode cX10_could 112 = .ok (.lload 4, 2) := by decide +kernel
theorem dX10_could_114 : decode cX10_could 114 = .ok (.lstore 4, 2) := by decide +kernel
theorem dX10_could_116 : decode cX10_could 116 = .ok (.iinc 6 1, 3) := by decide +kernel
theorem dX10_could_119 : decode cX10_could 119 = .ok (.goto (-100), 3) := by decide +kernel
theorem dX10_could_122 : decode cX10_could 122 = .ok (.iload_n 1, 1) := by decide +kernel
theorem dX10_could_123 : decode cX10_could 123 = .ok (.ifCond .ne 7, 3) := by decide +kernel
theorem dX10_could_126 : decode cX10_could 126 = .ok (.lload_n 2, 1) := by decide +kernel
theorem dX10_could_127 : decode cX10_could 127 = .ok (.goto 5, 3) := by decide +kernel
theorem dX10_could_130 : decode cX10_could 130 = .ok (.lload 4, 2) := by decide +kernel
theorem dX10_could_132 : decode cX10_could 132 = .ok (.lreturn, 1) := by decide +kernel
theorem dX10_order_0 : decode cX10_order 0 = .ok (.aload_n 0, 1) := by decide +kernel
theorem dX10_order_1 : decode cX10_order 1 = .ok (.iload_n 1, 1) := by decide +kernel
theorem dX10_order_2 : decode cX10_order 2 = .ok (.invokevirtual 297, 3) := by decide +kernel
theorem dX10_order_5 : decode cX10_order 5 = .ok (.ifCond .eq 10, 3) := by decide +kernel
theorem dX10_order_8 : decode cX10_order 8 = .ok (.iload_n 2, 1) := by decide +kernel
theorem dX10_order_9 : decode cX10_order 9 = .ok (.invokestatic 278, 3) := by decide +kernel
theorem dX10_order_12 : decode cX10_order 12 = .ok (.ifCond .ne 5, 3) := by decide +kernel
theorem dX10_order_15 : decode cX10_order 15 = .ok (.iconst (-1), 1) := by decide +kernel
theorem dX10_order_16 : decode cX10_order 16 = .ok (.ireturn, 1) := by decide +kernel
theorem dX10_order_17 : decode cX10_order 17 = .ok (.aload_n 0, 1) := by decide +kernel
theorem dX10_order_18 : decode cX10_order 18 = .ok (.iload_n 1, 1) := by decide +kernel
theorem dX10_order_19 : decode cX10_order 19 = .ok (.invokevirtual 300, 3) := by decide +kernel
theorem dX10_order_22 : decode cX10_order 22 = .ok (.iload_n 2, 1) := by decide +kernel
theorem dX10_order_23 : decode cX10_order 23 = .ok (.ifCond .ne 15, 3) := by decide +kernel
theorem dX10_order_26 : decode cX10_order 26 = .ok (.aload_n 0, 1) := by decide +kernel
theorem dX10_order_27 : decode cX10_order 27 = .ok (.getfield 72, 3) := by decide +kernel
theorem dX10_order_30 : decode cX10_order 30 = .ok (.getfield 303, 3) := by decide +kernel
theorem dX10_order_33 : decode cX10_order 33 = .ok (.iload_n 1, 1) := by decide +kernel
theorem dX10_order_34 : decode cX10_order 34 = .ok (.iaload, 1) := by decide +kernel
theorem dX10_order_35 : decode cX10_order 35 = .ok (.goto 12, 3) := by decide +kernel
theorem dX10_order_38 : decode cX10_order 38 = .ok (.aload_n 0, 1) := by decide +kernel
theorem dX10_order_39 : decode cX10_order 39 = .ok (.getfield 72, 3) := by decide +kernel
theorem dX10_order_42 : decode cX10_order 42 = .ok (.getfield 306, 3) := by decide +kernel
theorem dX10_order_45 : decode cX10_order 45 = .ok (.iload_n 1, 1) := by decide +kernel
theorem dX10_order_46 : decode cX10_order 46 = .ok (.iaload, 1) := by decide +kernel
theorem dX10_order_47 : decode cX10_order 47 = .ok (.ireturn, 1) := by decide +kernel
theorem dX10_best_0 : decode cX10_best 0 = .ok (.iload_n 1, 1) := by decide +kernel
theorem dX10_best_1 : decode cX10_best 1 = .ok (.ifCond .lt 8, 3) := by decide +kernel
theorem dX10_best_4 : decode cX10_best 4 = .ok (.iload_n 1, 1) := by decide +kernel
theorem dX10_best_5 : decode cX10_best 5 = .ok (.iconst 3, 1) := by decide +kernel
theorem dX10_best_6 : decode cX10_best 6 = .ok (.if_icmp .le 5, 3) := by decide +kernel
theorem dX10_best_9 : decode cX10_best 9 = .ok (.iconst (-1), 1) := by decide +kernel
theorem dX10_best_10 : decode cX10_best 10 = .ok (.ireturn, 1) := by decide +kernel
theorem dX10_best_11 : decode cX10_best 11 = .ok (.iconst 0, 1) := by decide +kernel
theorem dX10_best_12 : decode cX10_best 12 = .ok (.istore_n 2, 1) := by decide +kernel
theorem dX10_best_13 : decode cX10_best 13 = .ok (.iconst 0, 1) := by decide +kernel
theorem dX10_best_14 : decode cX10_best 14 = .ok (.istore_n 3, 1) := by decide +kernel
theorem dX10_best_15 : decode cX10_best 15 = .ok (.aload_n 0, 1) := by decide +kernel
theorem dX10_best_16 : decode cX10_best 16 = .ok (.getfield 10, 3) := by decide +kernel
theorem dX10_best_19 : decode cX10_best 19 = .ok (.getfield 136, 3) := by decide +kernel
theorem dX10_best_22 : decode cX10_best 22 = .ok (.invokestatic 309, 3) := by decide +kernel
theorem dX10_best_25 : decode cX10_best 25 = .ok (.istore 4, 2) := by decide +kernel
theorem dX10_best_27 : decode cX10_best 27 = .ok (.iconst 0, 1) := by decide +kernel
theorem dX10_best_28 : decode cX10_best 28 = .ok (.istore 5, 2) := by decide +kernel
theorem dX10_best_30 : decode cX10_best 30 = .ok (.iload 5, 2) := by decide +kernel
theorem dX10_best_32 : decode cX10_best 32 = .ok (.iload 4, 2) := by decide +kernel
theorem dX10_best_34 : decode cX10_best 34 = .ok (.if_icmp .ge 82, 3) := by decide +kernel
theorem dX10_best_37 : decode cX10_best 37 = .ok (.aload_n 0, 1) := by decide +kernel
theorem dX10_best_38 : decode cX10_best 38 = .ok (.iload 5, 2) := by decide +kernel
theorem dX10_best_40 : decode cX10_best 40 = .ok (.invokevirtual 300, 3) := by decide +kernel
theorem dX10_best_43 : decode cX10_best 43 = .ok (.aload_n 0, 1) := by decide +kernel
theorem dX10_best_44 : decode cX10_best 44 = .ok (.getfield 72, 3) := by decide +kernel
theorem dX10_best_47 : decode cX10_best 47 = .ok (.getfield 303, 3) := by decide +kernel
theorem dX10_best_50 : decode cX10_best 50 = .ok (.iload 5, 2) := by decide +kernel
theorem dX10_best_52 : decode cX10_best 52 = .ok (.iaload, 1) := by decide +kernel
theorem dX10_best_53 : decode cX10_best 53 = .ok (.ifCond .ne 6, 3) := by decide +kernel
theorem dX10_best_56 : decode cX10_best 56 = .ok (.iinc 3 1, 3) := by decide +kernel
theorem dX10_best_59 : decode cX10_best 59 = .ok (.aload_n 0, 1) := by decide +kernel
theorem dX10_best_60 : decode cX10_best 60 = .ok (.getfield 72, 3) := by decide +kernel
theorem dX10_best_63 : decode cX10_best 63 = .ok (.getfield 303, 3) := by decide +kernel
theorem dX10_best_66 : decode cX10_best 66 = .ok (.iload 5, 2) := by decide +kernel
theorem dX10_best_68 : decode cX10_best 68 = .ok (.iaload, 1) := by decide +kernel
theorem dX10_best_69 : decode cX10_best 69 = .ok (.i2l, 1) := by decide +kernel
theorem dX10_best_70 : decode cX10_best 70 = .ok (.aload_n 0, 1) := by decide +kernel
theorem dX10_best_71 : decode cX10_best 71 = .ok (.getfield 72, 3) := by decide +kernel
theorem dX10_best_74 : decode cX10_best 74 = .ok (.getfield 306, 3) := by decide +kernel
theorem dX10_best_77 : decode cX10_best 77 = .ok (.iload 5, 2) := by decide +kernel
theorem dX10_best_79 : decode cX10_best 79 = .ok (.iaload, 1) := by decide +kernel
theorem dX10_best_80 : decode cX10_best 80 = .ok (.i2l, 1) := by decide +kernel
theorem dX10_best_81 : decode cX10_best 81 = .ok (.aload_n 0, 1) := by decide +kernel
theorem dX10_best_82 : decode cX10_best 82 = .ok (.getfield 72, 3) := by decide +kernel
theorem dX10_best_85 : decode cX10_best 85 = .ok (.getfield 303, 3) := by decide +kernel
theorem dX10_best_88 : decode cX10_best 88 = .ok (.iload_n 2, 1) := by decide +kernel
theorem dX10_best_89 : decode cX10_best 89 = .ok (.iaload, 1) := by decide +kernel
theorem dX10_best_90 : decode cX10_best 90 = .ok (.i2l, 1) := by decide +kernel
theorem dX10_best_91 : decode cX10_best 91 = .ok (.aload_n 0, 1) := by decide +kernel
theorem dX10_best_92 : decode cX10_best 92 = .ok (.getfield 72, 3) := by decide +kernel
theorem dX10_best_95 : decode cX10_best 95 = .ok (.getfield 306, 3) := by decide +kernel
theorem dX10_best_98 : decode cX10_best 98 = .ok (.iload_n 2, 1) := by decide +kernel
theorem dX10_best_99 : decode cX10_best 99 = .ok (.iaload, 1) := by decide +kernel
theorem dX10_best_100 : decode cX10_best 100 = .ok (.i2l, 1) := by decide +kernel
theorem dX10_best_101 : decode cX10_best 101 = .ok (.invokestatic 313, 3) := by decide +kernel
theorem dX10_best_104 : decode cX10_best 104 = .ok (.ifCond .eq 6, 3) := by decide +kernel
theorem dX10_best_107 : decode cX10_best 107 = .ok (.iload 5, 2) := by decide +kernel
theorem dX10_best_109 : decode cX10_best 109 = .ok (.istore_n 2, 1) := by decide +kernel
theorem dX10_best_110 : decode cX10_best 110 = .ok (.iinc 5 1, 3) := by decide +kernel
theorem dX10_best_113 : decode cX10_best 113 = .ok (.goto (-83), 3) := by decide +kernel
theorem dX10_best_116 : decode cX10_best 116 = .ok (.iload_n 1, 1) := by decide +kernel
theorem dX10_best_117 : decode cX10_best 117 = .ok (.tableswitch 49 0 2 #[27, 29, 39], 27) := by decide +kernel
theorem dX10_best_144 : decode cX10_best 144 = .ok (.iload_n 2, 1) := by decide +kernel
theorem dX10_best_145 : decode cX10_best 145 = .ok (.ireturn, 1) := by decide +kernel
theorem dX10_best_146 : decode cX10_best 146 = .ok (.aload_n 0, 1) := by decide +kernel
theorem dX10_best_147 : decode cX10_best 147 = .ok (.getfield 72, 3) := by decide +kernel
theorem dX10_best_150 : decode cX10_best 150 = .ok (.getfield 303, 3) := by decide +kernel
theorem dX10_best_153 : decode cX10_best 153 = .ok (.iload_n 2, 1) := by decide +kernel
theorem dX10_best_154 : decode cX10_best 154 = .ok (.iaload, 1) := by decide +kernel
theorem dX10_best_155 : decode cX10_best 155 = .ok (.ireturn, 1) := by decide +kernel
theorem dX10_best_156 : decode cX10_best 156 = .ok (.aload_n 0, 1) := by decide +kernel
theorem dX10_best_157 : decode cX10_best 157 = .ok (.getfield 72, 3) := by decide +kernel
theorem dX10_best_160 : decode cX10_best 160 = .ok (.getfield 306, 3) := by decide +kernel
theorem dX10_best_163 : decode cX10_best 163 = .ok (.iload_n 2, 1) := by decide +kernel
theorem dX10_best_164 : decode cX10_best 164 = .ok (.iaload, 1) := by decide +kernel
theorem dX10_best_165 : decode cX10_best 165 = .ok (.ireturn, 1) := by decide +kernel
theorem dX10_best_166 : decode cX10_best 166 = .ok (.iload_n 3, 1) := by decide +kernel
theorem dX10_best_167 : decode cX10_best 167 = .ok (.ireturn, 1) := by decide +kernel
theorem dX10_stands_0 : decode cX10_stands 0 = .ok (.aload_n 0, 1) := by decide +kernel
theorem dX10_stands_1 : decode cX10_stands 1 = .ok (.iload_n 1, 1) := by decide +kernel
theorem dX10_stands_2 : decode cX10_stands 2 = .ok (.invokevirtual 297, 3) := by decide +kernel
theorem dX10_stands_5 : decode cX10_stands 5 = .ok (.ifCond .eq 11, 3) := by decide +kernel
theorem dX10_stands_8 : decode cX10_stands 8 = .ok (.aload_n 0, 1) := by decide +kernel
theorem dX10_stands_9 : decode cX10_stands 9 = .ok (.iload_n 2, 1) := by decide +kernel
theorem dX10_stands_10 : decode cX10_stands 10 = .ok (.invokevirtual 165, 3) := by decide +kernel
theorem dX10_stands_13 : decode cX10_stands 13 = .ok (.ifCond .ne 5, 3) := by decide +kernel
theorem dX10_stands_16 : decode cX10_stands 16 = .ok (.iconst (-1), 1) := by decide +kernel
theorem dX10_stands_17 : decode cX10_stands 17 = .ok (.ireturn, 1) := by decide +kernel
theorem dX10_stands_18 : decode cX10_stands 18 = .ok (.aload_n 0, 1) := by decide +kernel
theorem dX10_stands_19 : decode cX10_stands 19 = .ok (.getfield 72, 3) := by decide +kernel
theorem dX10_stands_22 : decode cX10_stands 22 = .ok (.iload_n 1, 1) := by decide +kernel
theorem dX10_stands_23 : decode cX10_stands 23 = .ok (.aload_n 0, 1) := by decide +kernel
theorem dX10_stands_24 : decode cX10_stands 24 = .ok (.getfield 10, 3) := by decide +kernel
theorem dX10_stands_27 : decode cX10_stands 27 = .ok (.getfield 136, 3) := by decide +kernel
theorem dX10_stands_30 : decode cX10_stands 30 = .ok (.invokevirtual 317, 3) := by decide +kernel
theorem dX10_stands_33 : decode cX10_stands 33 = .ok (.aload_n 0, 1) := by decide +kernel
theorem dX10_stands_34 : decode cX10_stands 34 = .ok (.getfield 72, 3) := by decide +kernel
theorem dX10_stands_37 : decode cX10_stands 37 = .ok (.getfield 321, 3) := by decide +kernel
theorem dX10_stands_40 : decode cX10_stands 40 = .ok (.iload_n 2, 1) := by decide +kernel
theorem dX10_stands_41 : decode cX10_stands 41 = .ok (.iaload, 1) := by decide +kernel
theorem dX10_stands_42 : decode cX10_stands 42 = .ok (.ireturn, 1) := by decide +kernel
theorem dX10_parts_0 : decode cX10_parts 0 = .ok (.iload_n 1, 1) := by decide +kernel
theorem dX10_parts_1 : decode cX10_parts 1 = .ok (.bipush 10, 2) := by decide +kernel
theorem dX10_parts_3 : decode cX10_parts 3 = .ok (.if_icmp .lt 23, 3) := by decide +kernel
theorem dX10_parts_6 : decode cX10_parts 6 = .ok (.iload_n 1, 1) := by decide +kernel
theorem dX10_parts_7 : decode cX10_parts 7 = .ok (.bipush 10, 2) := by decide +kernel
theorem dX10_parts_9 : decode cX10_parts 9 = .ok (.aload_n 0, 1) := by decide +kernel
theorem dX10_parts_10 : decode cX10_parts 10 = .ok (.getfield 10, 3) := by decide +kernel
theorem dX10_parts_13 : decode cX10_parts 13 = .ok (.getfield 136, 3) := by decide +kernel
theorem dX10_parts_16 : decode cX10_parts 16 = .ok (.iadd, 1) := by decide +kernel
theorem dX10_parts_17 : decode cX10_parts 17 = .ok (.iconst 1, 1) := by decide +kernel
theorem dX10_parts_18 : decode cX10_parts 18 = .ok (.isub, 1) := by decide +kernel
theorem dX10_parts_19 : decode cX10_parts 19 = .ok (.if_icmp .ge 7, 3) := by decide +kernel
theorem dX10_parts_22 : decode cX10_parts 22 = .ok (.iconst 1, 1) := by decide +kernel
theorem dX10_parts_23 : decode cX10_parts 23 = .ok (.goto 4, 3) := by decide +kernel
theorem dX10_parts_26 : decode cX10_parts 26 = .ok (.iconst 0, 1) := by decide +kernel
theorem dX10_parts_27 : decode cX10_parts 27 = .ok (.istore_n 2, 1) := by decide +kernel
theorem dX10_parts_28 : decode cX10_parts 28 = .ok (.iload_n 1, 1) := by decide +kernel
theorem dX10_parts_29 : decode cX10_parts 29 = .ok (.invokestatic 278, 3) := by decide +kernel
theorem dX10_parts_32 : decode cX10_parts 32 = .ok (.ifCond .ne 9, 3) := by decide +kernel
theorem dX10_parts_35 : decode cX10_parts 35 = .ok (.iload_n 2, 1) := by decide +kernel
theorem dX10_parts_36 : decode cX10_parts 36 = .ok (.ifCond .ne 5, 3) := by decide +kernel
theorem dX10_parts_39 : decode cX10_parts 39 = .ok (.iconst (-1), 1) := by decide +kernel
theorem dX10_parts_40 : decode cX10_parts 40 = .ok (.ireturn, 1) := by decide +kernel
theorem dX10_parts_41 : decode cX10_parts 41 = .ok (.aload_n 0, 1) := by decide +kernel
theorem dX10_parts_42 : decode cX10_parts 42 = .ok (.getfield 10, 3) := by decide +kernel
theorem dX10_parts_45 : decode cX10_parts 45 = .ok (.getfield 142, 3) := by decide +kernel
theorem dX10_parts_48 : decode cX10_parts 48 = .ok (.aload_n 0, 1) := by decide +kernel
theorem dX10_parts_49 : decode cX10_parts 49 = .ok (.getfield 10, 3) := by decide +kernel
theorem dX10_parts_52 : decode cX10_parts 52 = .ok (.getfield 136, 3) := by decide +kernel
theorem dX10_parts_55 : decode cX10_parts 55 = .ok (.if_icmp .ge 6, 3) := by decide +kernel
theorem dX10_parts_58 : decode cX10_parts 58 = .ok (.bipush (-4), 2) := by decide +kernel
theorem dX10_parts_60 : decode cX10_parts 60 = .ok (.ireturn, 1) := by decide +kernel
theorem dX10_parts_61 : decode cX10_parts 61 = .ok (.aload_n 0, 1) := by decide +kernel
theorem dX10_parts_62 : decode cX10_parts 62 = .ok (.invokevirtual 324, 3) := by decide +kernel
theorem dX10_parts_65 : decode cX10_parts 65 = .ok (.iload_n 2, 1) := by decide +kernel
theorem dX10_parts_66 : decode cX10_parts 66 = .ok (.ifCond .eq 16, 3) := by decide +kernel
theorem dX10_parts_69 : decode cX10_parts 69 = .ok (.aload_n 0, 1) := by decide +kernel
theorem dX10_parts_70 : decode cX10_parts 70 = .ok (.getfield 79, 3) := by decide +kernel
theorem dX10_parts_73 : decode cX10_parts 73 = .ok (.getfield 327, 3) := by decide +kernel
theorem dX10_parts_76 : decode cX10_parts 76 = .ok (.iload_n 1, 1) := by decide +kernel
theorem dX10_parts_77 : decode cX10_parts 77 = .ok (.bipush 10, 2) := by decide +kernel
theorem dX10_parts_79 : decode cX10_parts 79 = .ok (.isub, 1) := by decide +kernel
theorem dX10_parts_80 : decode cX10_parts 80 = .ok (.iaload, 1) := by decide +kernel
theorem dX10_parts_81 : decode cX10_parts 81 = .ok (.ireturn, 1) := by decide +kernel
theorem dX10_parts_82 : decode cX10_parts 82 = .ok (.iload_n 1, 1) := by decide +kernel
theorem dX10_parts_83 : decode cX10_parts 83 = .ok (.ifCond .ne 13, 3) := by decide +kernel
theorem dX10_parts_86 : decode cX10_parts 86 = .ok (.aload_n 0, 1) := by decide +kernel
theorem dX10_parts_87 : decode cX10_parts 87 = .ok (.getfield 79, 3) := by decide +kernel
theorem dX10_parts_90 : decode cX10_parts 90 = .ok (.getfield 328, 3) := by decide +kernel
theorem dX10_parts_93 : decode cX10_parts 93 = .ok (.goto 10, 3) := by decide +kernel
theorem dX10_parts_96 : decode cX10_parts 96 = .ok (.aload_n 0, 1) := by decide +kernel
theorem dX10_parts_97 : decode cX10_parts 97 = .ok (.getfield 79, 3) := by decide +kernel
theorem dX10_parts_100 : decode cX10_parts 100 = .ok (.getfield 329, 3) := by decide +kernel
theorem dX10_parts_103 : decode cX10_parts 103 = .ok (.ireturn, 1) := by decide +kernel
theorem dX10_less_0 : decode cX10_less 0 = .ok (.aload_n 0, 1) := by decide +kernel
theorem dX10_less_1 : decode cX10_less 1 = .ok (.iload_n 1, 1) := by decide +kernel
theorem dX10_less_2 : decode cX10_less 2 = .ok (.invokevirtual 165, 3) := by decide +kernel
theorem dX10_less_5 : decode cX10_less 5 = .ok (.ifCond .eq 10, 3) := by decide +kernel
theorem dX10_less_8 : decode cX10_less 8 = .ok (.iload_n 2, 1) := by decide +kernel
theorem dX10_less_9 : decode cX10_less 9 = .ok (.invokestatic 278, 3) := by decide +kernel
theorem dX10_less_12 : decode cX10_less 12 = .ok (.ifCond .ne 5, 3) := by decide +kernel
theorem dX10_less_15 : decode cX10_less 15 = .ok (.iconst (-1), 1) := by decide +kernel
theorem dX10_less_16 : decode cX10_less 16 = .ok (.ireturn, 1) := by decide +kernel
theorem dX10_less_17 : decode cX10_less 17 = .ok (.aload_n 0, 1) := by decide +kernel
theorem dX10_less_18 : decode cX10_less 18 = .ok (.getfield 10, 3) := by decide +kernel
theorem dX10_less_21 : decode cX10_less 21 = .ok (.getfield 136, 3) := by decide +kernel
theorem dX10_less_24 : decode cX10_less 24 = .ok (.iconst 1, 1) := by decide +kernel
theorem dX10_less_25 : decode cX10_less 25 = .ok (.if_icmp .ne 6, 3) := by decide +kernel
theorem dX10_less_28 : decode cX10_less 28 = .ok (.bipush (-2), 2) := by decide +kernel
theorem dX10_less_30 : decode cX10_less 30 = .ok (.ireturn, 1) := by decide +kernel
theorem dX10_less_31 : decode cX10_less 31 = .ok (.aload_n 0, 1) := by decide +kernel
theorem dX10_less_32 : decode cX10_less 32 = .ok (.getfield 16, 3) := by decide +kernel
theorem dX10_less_35 : decode cX10_less 35 = .ok (.aload_n 0, 1) := by decide +kernel
theorem dX10_less_36 : decode cX10_less 36 = .ok (.getfield 10, 3) := by decide +kernel
theorem dX10_less_39 : decode cX10_less 39 = .ok (.invokevirtual 117, 3) := by decide +kernel
theorem dX10_less_42 : decode cX10_less 42 = .ok (.aload_n 0, 1) := by decide +kernel
theorem dX10_less_43 : decode cX10_less 43 = .ok (.getfield 16, 3) := by decide +kernel
theorem dX10_less_46 : decode cX10_less 46 = .ok (.iload_n 1, 1) := by decide +kernel
theorem dX10_less_47 : decode cX10_less 47 = .ok (.invokevirtual 330, 3) := by decide +kernel
theorem dX10_less_50 : decode cX10_less 50 = .ok (.aload_n 0, 1) := by decide +kernel
theorem dX10_less_51 : decode cX10_less 51 = .ok (.getfield 55, 3) := by decide +kernel
theorem dX10_less_54 : decode cX10_less 54 = .ok (.aload_n 0, 1) := by decide +kernel
theorem dX10_less_55 : decode cX10_less 55 = .ok (.getfield 16, 3) := by decide +kernel
theorem dX10_less_58 : decode cX10_less 58 = .ok (.aload_n 0, 1) := by decide +kernel
theorem dX10_less_59 : decode cX10_less 59 = .ok (.getfield 66, 3) := by decide +kernel
theorem dX10_less_62 : decode cX10_less 62 = .ok (.invokevirtual 333, 3) := by decide +kernel
theorem dX10_less_65 : decode cX10_less 65 = .ok (.iload_n 2, 1) := by decide +kernel
theorem dX10_less_66 : decode cX10_less 66 = .ok (.ifCond .ne 13, 3) := by decide +kernel
theorem dX10_less_69 : decode cX10_less 69 = .ok (.aload_n 0, 1) := by decide +kernel
theorem dX10_less_70 : decode cX10_less 70 = .ok (.getfield 66, 3) := by decide +kernel
theorem dX10_less_73 : decode cX10_less 73 = .ok (.getfield 281, 3) := by decide +kernel
theorem dX10_less_76 : decode cX10_less 76 = .ok (.goto 10, 3) := by decide +kernel
theorem dX10_less_79 : decode cX10_less 79 = .ok (.aload_n 0, 1) := by decide +kernel
theorem dX10_less_80 : decode cX10_less 80 = .ok (.getfield 66, 3) := by decide +kernel
theorem dX10_less_83 : decode cX10_less 83 = .ok (.getfield 284, 3) := by decide +kernel
theorem dX10_less_86 : decode cX10_less 86 = .ok (.ireturn, 1) := by decide +kernel
theorem dX10_sheet_0 : decode cX10_sheet 0 = .ok (.iload_n 1, 1) := by decide +kernel
theorem dX10_sheet_1 : decode cX10_sheet 1 = .ok (.invokestatic 337, 3) := by decide +kernel
theorem dX10_sheet_4 : decode cX10_sheet 4 = .ok (.ifCond .eq 16, 3) := by decide +kernel
theorem dX10_sheet_7 : decode cX10_sheet 7 = .ok (.iload_n 2, 1) := by decide +kernel
theorem dX10_sheet_8 : decode cX10_sheet 8 = .ok (.invokestatic 340, 3) := by decide +kernel
theorem dX10_sheet_11 : decode cX10_sheet 11 = .ok (.ifCond .eq 9, 3) := by decide +kernel
theorem dX10_sheet_14 : decode cX10_sheet 14 = .ok (.iload_n 3, 1) := by decide +kernel
theorem dX10_sheet_15 : decode cX10_sheet 15 = .ok (.bipush 40, 2) := by decide +kernel
theorem dX10_sheet_17 : decode cX10_sheet 17 = .ok (.if_icmp .le 5, 3) := by decide +kernel
theorem dX10_sheet_20 : decode cX10_sheet 20 = .ok (.iconst (-1), 1) := by decide +kernel
theorem dX10_sheet_21 : decode cX10_sheet 21 = .ok (.ireturn, 1) := by decide +kernel
theorem dX10_sheet_22 : decode cX10_sheet 22 = .ok (.iload_n 3, 1) := by decide +kernel
theorem dX10_sheet_23 : decode cX10_sheet 23 = .ok (.ifCond .ge 6, 3) := by decide +kernel
theorem dX10_sheet_26 : decode cX10_sheet 26 = .ok (.bipush (-14), 2) := by decide +kernel
theorem dX10_sheet_28 : decode cX10_sheet 28 = .ok (.ireturn, 1) := by decide +kernel
theorem dX10_sheet_29 : decode cX10_sheet 29 = .ok (.aload_n 0, 1) := by decide +kernel
theorem dX10_sheet_30 : decode cX10_sheet 30 = .ok (.getfield 85, 3) := by decide +kernel
theorem dX10_sheet_33 : decode cX10_sheet 33 = .ok (.iload_n 1, 1) := by decide +kernel
theorem dX10_sheet_34 : decode cX10_sheet 34 = .ok (.aaload, 1) := by decide +kernel
theorem dX10_sheet_35 : decode cX10_sheet 35 = .ok (.iload_n 2, 1) := by decide +kernel
theorem dX10_sheet_36 : decode cX10_sheet 36 = .ok (.iload_n 3, 1) := by decide +kernel
theorem dX10_sheet_37 : decode cX10_sheet 37 = .ok (.invokevirtual 343, 3) := by decide +kernel
theorem dX10_sheet_40 : decode cX10_sheet 40 = .ok (.iconst 1, 1) := by decide +kernel
theorem dX10_sheet_41 : decode cX10_sheet 41 = .ok (.ireturn, 1) := by decide +kernel
theorem dX10_lay_0 : decode cX10_lay 0 = .ok (.iload_n 1, 1) := by decide +kernel
theorem dX10_lay_1 : decode cX10_lay 1 = .ok (.invokestatic 337, 3) := by decide +kernel
theorem dX10_lay_4 : decode cX10_lay 4 = .ok (.ifCond .ne 5, 3) := by decide +kernel
theorem dX10_lay_7 : decode cX10_lay 7 = .ok (.iconst (-1), 1) := by decide +kernel
theorem dX10_lay_8 : decode cX10_lay 8 = .ok (.ireturn, 1) := by decide +kernel
theorem dX10_lay_9 : decode cX10_lay 9 = .ok (.aload_n 0, 1) := by decide +kernel
theorem dX10_lay_10 : decode cX10_lay 10 = .ok (.getfield 85, 3) := by decide +kernel
theorem dX10_lay_13 : decode cX10_lay 13 = .ok (.iload_n 1, 1) := by decide +kernel
theorem dX10_lay_14 : decode cX10_lay 14 = .ok (.aaload, 1) := by decide +kernel
theorem dX10_lay_15 : decode cX10_lay 15 = .ok (.astore 4, 2) := by decide +kernel
theorem dX10_lay_17 : decode cX10_lay 17 = .ok (.aload 4, 2) := by decide +kernel
theorem dX10_lay_19 : decode cX10_lay 19 = .ok (.getfield 346, 3) := by decide +kernel
theorem dX10_lay_22 : decode cX10_lay 22 = .ok (.iconst (-1), 1) := by decide +kernel
theorem dX10_lay_23 : decode cX10_lay 23 = .ok (.if_icmp .ne 6, 3) := by decide +kernel
theorem dX10_lay_26 : decode cX10_lay 26 = .ok (.bipush (-11), 2) := by decide +kernel
theorem dX10_lay_28 : decode cX10_lay 28 = .ok (.ireturn, 1) := by decide +kernel
theorem dX10_lay_29 : decode cX10_lay 29 = .ok (.iload_n 2, 1) := by decide +kernel
theorem dX10_lay_30 : decode cX10_lay 30 = .ok (.ifCond .lt 12, 3) := by decide +kernel
theorem dX10_lay_33 : decode cX10_lay 33 = .ok (.iload_n 2, 1) := by decide +kernel
theorem dX10_lay_34 : decode cX10_lay 34 = .ok (.aload 4, 2) := by decide +kernel
theorem dX10_lay_36 : decode cX10_lay 36 = .ok (.getfield 349, 3) := by decide +kernel
theorem dX10_lay_39 : decode cX10_lay 39 = .ok (.if_icmp .lt 6, 3) := by decide +kernel
theorem dX10_lay_42 : decode cX10_lay 42 = .ok (.bipush (-12), 2) := by decide +kernel
theorem dX10_lay_44 : decode cX10_lay 44 = .ok (.ireturn, 1) := by decide +kernel
theorem dX10_lay_45 : decode cX10_lay 45 = .ok (.aload 4, 2) := by decide +kernel
theorem dX10_lay_47 : decode cX10_lay 47 = .ok (.iload_n 2, 1) := by decide +kernel
theorem dX10_lay_48 : decode cX10_lay 48 = .ok (.iload_n 3, 1) := by decide +kernel
theorem dX10_lay_49 : decode cX10_lay 49 = .ok (.invokevirtual 350, 3) := by decide +kernel
theorem dX10_lay_52 : decode cX10_lay 52 = .ok (.iconst 1, 1) := by decide +kernel
theorem dX10_lay_53 : decode cX10_lay 53 = .ok (.ireturn, 1) := by decide +kernel
theorem dX10_read_0 : decode cX10_read 0 = .ok (.iload_n 1, 1) := by decide +kernel
theorem dX10_read_1 : decode cX10_read 1 = .ok (.invokestatic 337, 3) := by decide +kernel
theorem dX10_read_4 : decode cX10_read 4 = .ok (.ifCond .eq 41, 3) := by decide +kernel
theorem dX10_read_7 : decode cX10_read 7 = .ok (.iload_n 2, 1) := by decide +kernel
theorem dX10_read_8 : decode cX10_read 8 = .ok (.invokestatic 340, 3) := by decide +kernel
theorem dX10_read_11 : decode cX10_read 11 = .ok (.ifCond .eq 34, 3) := by decide +kernel
theorem dX10_read_14 : decode cX10_read 14 = .ok (.iload 4, 2) := by decide +kernel
theorem dX10_read_16 : decode cX10_read 16 = .ok (.ifCond .lt 29, 3) := by decide +kernel
theorem dX10_read_19 : decode cX10_read 19 = .ok (.iload 5, 2) := by decide +kernel
theorem dX10_read_21 : decode cX10_read 21 = .ok (.ifCond .lt 24, 3) := by decide +kernel
theorem dX10_read_24 : decode cX10_read 24 = .ok (.iload 5, 2) := by decide +kernel
theorem dX10_read_26 : decode cX10_read 26 = .ok (.iconst 5, 1) := by decide +kernel
theorem dX10_read_27 : decode cX10_read 27 = .ok (.if_icmp .gt 18, 3) := by decide +kernel
theorem dX10_read_30 : decode cX10_read 30 = .ok (.iload 4, 2) := by decide +kernel
theorem dX10_read_32 : decode cX10_read 32 = .ok (.aload_n 0, 1) := by decide +kernel
theorem dX10_read_33 : decode cX10_read 33 = .ok (.getfield 10, 3) := by decide +kernel
theorem dX10_read_36 : decode cX10_read 36 = .ok (.getfield 136, 3) := by decide +kernel
theorem dX10_read_39 : decode cX10_read 39 = .ok (.iload 5, 2) := by decide +kernel
theorem dX10_read_41 : decode cX10_read 41 = .ok (.isub, 1) := by decide +kernel
theorem dX10_read_42 : decode cX10_read 42 = .ok (.if_icmp .le 5, 3) := by decide +kernel
theorem dX10_read_45 : decode cX10_read 45 = .ok (.iconst (-1), 1) := by decide +kernel
theorem dX10_read_46 : decode cX10_read 46 = .ok (.ireturn, 1) := by decide +kernel
theorem dX10_read_47 : decode cX10_read 47 = .ok (.aload_n 0, 1) := by decide +kernel
theorem dX10_read_48 : decode cX10_read 48 = .ok (.getfield 85, 3) := by decide +kernel
theorem dX10_read_51 : decode cX10_read 51 = .ok (.iload_n 1, 1) := by decide +kernel
theorem dX10_read_52 : decode cX10_read 52 = .ok (.aaload, 1) := by decide +kernel
theorem dX10_read_53 : decode cX10_read 53 = .ok (.astore 6, 2) := by decide +kernel
theorem dX10_read_55 : decode cX10_read 55 = .ok (.iload 5, 2) := by decide +kernel
theorem dX10_read_57 : decode cX10_read 57 = .ok (.ifCond .ne 7, 3) := by decide +kernel
theorem dX10_read_60 : decode cX10_read 60 = .ok (.iconst 0, 1) := by decide +kernel
theorem dX10_read_61 : decode cX10_read 61 = .ok (.goto 9, 3) := by decide +kernel
theorem dX10_read_64 : decode cX10_read 64 = .ok (.aload 6, 2) := by decide +kernel
theorem dX10_read_66 : decode cX10_read 66 = .ok (.iload_n 2, 1) := by decide +kernel
theorem dX10_read_67 : decode cX10_read 67 = .ok (.invokevirtual 353, 3) := by decide +kernel
theorem dX10_read_70 : decode cX10_read 70 = .ok (.istore 7, 2) := by decide +kernel
theorem dX10_read_72 : decode cX10_read 72 = .ok (.iload 7, 2) := by decide +kernel
theorem dX10_read_74 : decode cX10_read 74 = .ok (.ifCond .eq 7, 3) := by decide +kernel
theorem dX10_read_77 : decode cX10_read 77 = .ok (.iconst 0, 1) := by decide +kernel
theorem dX10_read_78 : decode cX10_read 78 = .ok (.goto 18, 3) := by decide +kernel
theorem dX10_read_81 : decode cX10_read 81 = .ok (.aload 6, 2) := by decide +kernel
theorem dX10_read_83 : decode cX10_read 83 = .ok (.iload_n 3, 1) := by decide +kernel
theorem dX10_read_84 : decode cX10_read 84 = .ok (.aload_n 0, 1) := by decide +kernel
theorem dX10_read_85 : decode cX10_read 85 = .ok (.getfield 10, 3) := by decide +kernel
theorem dX10_read_88 : decode cX10_read 88 = .ok (.getfield 142, 3) := by decide +kernel
theorem dX10_read_91 : decode cX10_read 91 = .ok (.iload 5, 2) := by decide +kernel
theorem dX10_read_93 : decode cX10_read 93 = .ok (.invokevirtual 356, 3) := by decide +kernel
theorem dX10_read_96 : decode cX10_read 96 = .ok (.istore 8, 2) := by decide +kernel
theorem dX10_read_98 : decode cX10_read 98 = .ok (.iload 7, 2) := by decide +kernel
theorem dX10_read_100 : decode cX10_read 100 = .ok (.ifCond .ne 13, 3) := by decide +kernel
theorem dX10_read_103 : decode cX10_read 103 = .ok (.iload 8, 2) := by decide +kernel
theorem dX10_read_105 : decode cX10_read 105 = .ok (.iload 5, 2) := by decide +kernel
theorem dX10_read_107 : decode cX10_read 107 = .ok (.if_icmp .ge 6, 3) := by decide +kernel
theorem dX10_read_110 : decode cX10_read 110 = .ok (.iconst 2, 1) := by decide +kernel
theorem dX10_read_111 : decode cX10_read 111 = .ok (.istore 7, 2) := by decide +kernel
theorem dX10_read_113 : decode cX10_read 113 = .ok (.iconst 0, 1) := by decide +kernel
theorem dX10_read_114 : decode cX10_read 114 = .ok (.istore 9, 2) := by decide +kernel
theorem dX10_read_116 : decode cX10_read 116 = .ok (.iload 9, 2) := by decide +kernel
theorem dX10_read_118 : decode cX10_read 118 = .ok (.iload 8, 2) := by decide +kernel
theorem dX10_read_120 : decode cX10_read 120 = .ok (.if_icmp .ge 36, 3) := by decide +kernel
theorem dX10_read_123 : decode cX10_read 123 = .ok (.aload_n 0, 1) := by decide +kernel
theorem dX10_read_124 : decode cX10_read 124 = .ok (.aload 6, 2) := by decide +kernel
theorem dX10_read_126 : decode cX10_read 126 = .ok (.iload_n 3, 1) := by decide +kernel
theorem dX10_read_127 : decode cX10_read 127 = .ok (.iload 9, 2) := by decide +kernel
theorem dX10_read_129 : decode cX10_read 129 = .ok (.aload_n 0, 1) := by decide +kernel
theorem dX10_read_130 : decode cX10_read 130 = .ok (.getfield 10, 3) := by decide +kernel
theorem dX10_read_133 : decode cX10_read 133 = .ok (.getfield 142, 3) := by decide +kernel
theorem dX10_read_136 : decode cX10_read 136 = .ok (.imul, 1) := by decide +kernel
theorem dX10_read_137 : decode cX10_read 137 = .ok (.iadd, 1) := by decide +kernel
theorem dX10_read_138 : decode cX10_read 138 = .ok (.invokevirtual 359, 3) := by decide +kernel
theorem dX10_read_141 : decode cX10_read 141 = .ok (.ifCond .ne 9, 3) := by decide +kernel
theorem dX10_read_144 : decode cX10_read 144 = .ok (.bipush (-20), 2) := by decide +kernel
theorem dX10_read_146 : decode cX10_read 146 = .ok (.iload 9, 2) := by decide +kernel
theorem dX10_read_148 : decode cX10_read 148 = .ok (.isub, 1) := by decide +kernel
theorem dX10_read_149 : decode cX10_read 149 = .ok (.ireturn, 1) := by decide +kernel
theorem dX10_read_150 : decode cX10_read 150 = .ok (.iinc 9 1, 3) := by decide +kernel
theorem dX10_read_153 : decode cX10_read 153 = .ok (.goto (-37), 3) := by decide +kernel
theorem dX10_read_156 : decode cX10_read 156 = .ok (.iconst 0, 1) := by decide +kernel
theorem dX10_read_157 : decode cX10_read 157 = .ok (.istore 9, 2) := by decide +kernel
theorem dX10_read_159 : decode cX10_read 159 = .ok (.iload 9, 2) := by decide +kernel
theorem dX10_read_161 : decode cX10_read 161 = .ok (.iload 8, 2) := by decide +kernel
theorem dX10_read_163 : decode cX10_read 163 = .ok (.if_icmp .ge 32, 3) := by decide +kernel
theorem dX10_read_166 : decode cX10_read 166 = .ok (.aload_n 0, 1) := by decide +kernel
theorem dX10_read_167 : decode cX10_read 167 = .ok (.aload 6, 2) := by decide +kernel
theorem dX10_read_169 : decode cX10_read 169 = .ok (.iload_n 3, 1) := by decide +kernel
theorem dX10_read_170 : decode cX10_read 170 = .ok (.iload 9, 2) := by decide +kernel
theorem dX10_read_172 : decode cX10_read 172 = .ok (.aload_n 0, 1) := by decide +kernel
theorem dX10_read_173 : decode cX10_read 173 = .ok (.getfield 10, 3) := by decide +kernel
theorem dX10_read_176 : decode cX10_read 176 = .ok (.getfield 142, 3) := by decide +kernel
theorem dX10_read_179 : decode cX10_read 179 = .ok (.imul, 1) := by decide +kernel
theorem dX10_read_180 : decode cX10_read 180 = .ok (.iadd, 1) := by decide +kernel
theorem dX10_read_181 : decode cX10_read 181 = .ok (.iload 4, 2) := by decide +kernel
theorem dX10_read_183 : decode cX10_read 183 = .ok (.iload 9, 2) := by decide +kernel
theorem dX10_read_185 : decode cX10_read 185 = .ok (.iadd, 1) := by decide +kernel
theorem dX10_read_186 : decode cX10_read 186 = .ok (.invokevirtual 363, 3) := by decide +kernel
theorem dX10_read_189 : decode cX10_read 189 = .ok (.iinc 9 1, 3) := by decide +kernel
theorem dX10_read_192 : decode cX10_read 192 = .ok (.goto (-33), 3) := by decide +kernel
theorem dX10_read_195 : decode cX10_read 195 = .ok (.aload_n 0, 1) := by decide +kernel
theorem dX10_read_196 : decode cX10_read 196 = .ok (.iload 7, 2) := by decide +kernel
theorem dX10_read_198 : decode cX10_read 198 = .ok (.putfield 367, 3) := by decide +kernel
theorem dX10_read_201 : decode cX10_read 201 = .ok (.iload 8, 2) := by decide +kernel
theorem dX10_read_203 : decode cX10_read 203 = .ok (.ifCond .le 7, 3) := by decide +kernel
theorem dX10_read_206 : decode cX10_read 206 = .ok (.aload_n 0, 1) := by decide +kernel
theorem dX10_read_207 : decode cX10_read 207 = .ok (.invokevirtual 120, 3) := by decide +kernel
theorem dX10_read_210 : decode cX10_read 210 = .ok (.iload 8, 2) := by decide +kernel
theorem dX10_read_212 : decode cX10_read 212 = .ok (.ireturn, 1) := by decide +kernel
theorem dX10_torn_0 : decode cX10_torn 0 = .ok (.aload_n 0, 1) := by decide +kernel
theorem dX10_torn_1 : decode cX10_torn 1 = .ok (.getfield 367, 3) := by decide +kernel
theorem dX10_torn_4 : decode cX10_torn 4 = .ok (.ireturn, 1) := by decide +kernel
theorem dX10_count_0 : decode cX10_count 0 = .ok (.iload_n 1, 1) := by decide +kernel
theorem dX10_count_1 : decode cX10_count 1 = .ok (.tableswitch 108 0 3 #[31, 61, 69, 97], 31) := by decide +kernel
theorem dX10_count_32 : decode cX10_count 32 = .ok (.aload_n 0, 1) := by decide +kernel
theorem dX10_count_33 : decode cX10_count 33 = .ok (.getfield 39, 3) := by decide +kernel
theorem dX10_count_36 : decode cX10_count 36 = .ok (.iconst 0, 1) := by decide +kernel
theorem dX10_count_37 : decode cX10_count 37 = .ok (.baload, 1) := by decide +kernel
theorem dX10_count_38 : decode cX10_count 38 = .ok (.ifCond .eq 7, 3) := by decide +kernel
theorem dX10_count_41 : decode cX10_count 41 = .ok (.iconst 1, 1) := by decide +kernel
theorem dX10_count_42 : decode cX10_count 42 = .ok (.goto 4, 3) := by decide +kernel
theorem dX10_count_45 : decode cX10_count 45 = .ok (.iconst 0, 1) := by decide +kernel
theorem dX10_count_46 : decode cX10_count 46 = .ok (.aload_n 0, 1) := by decide +kernel
theorem dX10_count_47 : decode cX10_count 47 = .ok (.getfield 39, 3) := by decide +kernel
theorem dX10_count_50 : decode cX10_count 50 = .ok (.iconst 1, 1) := by decide +kernel
theorem dX10_count_51 : decode cX10_count 51 = .ok (.baload, 1) := by decide +kernel
theorem dX10_count_52 : decode cX10_count 52 = .ok (.ifCond .eq 7, 3) := by decide +kernel
theorem dX10_count_55 : decode cX10_count 55 = .ok (.iconst 1, 1) := by decide +kernel
theorem dX10_count_56 : decode cX10_count 56 = .ok (.goto 4, 3) := by decide +kernel
theorem dX10_count_59 : decode cX10_count 59 = .ok (.iconst 0, 1) := by decide +kernel
theorem dX10_count_60 : decode cX10_count 60 = .ok (.iadd, 1) := by decide +kernel
theorem dX10_count_61 : decode cX10_count 61 = .ok (.ireturn, 1) := by decide +kernel
theorem dX10_count_62 : decode cX10_count 62 = .ok (.aload_n 0, 1) := by decide +kernel
theorem dX10_count_63 : decode cX10_count 63 = .ok (.getfield 22, 3) := by decide +kernel
theorem dX10_count_66 : decode cX10_count 66 = .ok (.getfield 99, 3) := by decide +kernel
theorem dX10_count_69 : decode cX10_count 69 = .ok (.ireturn, 1) := by decide +kernel
theorem dX10_count_70 : decode cX10_count 70 = .ok (.aload_n 0, 1) := by decide +kernel
theorem dX10_count_71 : decode cX10_count 71 = .ok (.getfield 85, 3) := by decide +kernel
theorem dX10_count_74 : decode cX10_count 74 = .ok (.iconst 0, 1) := by decide +kernel
theorem dX10_count_75 : decode cX10_count 75 = .ok (.aaload, 1) := by decide +kernel
theorem dX10_count_76 : decode cX10_count 76 = .ok (.getfield 346, 3) := by decide +kernel
theorem dX10_count_79 : decode cX10_count 79 = .ok (.iconst (-1), 1) := by decide +kernel
theorem dX10_count_80 : decode cX10_count 80 = .ok (.if_icmp .ne 8, 3) := by decide +kernel
theorem dX10_count_83 : decode cX10_count 83 = .ok (.bipush (-4), 2) := by decide +kernel
theorem dX10_count_85 : decode cX10_count 85 = .ok (.goto 12, 3) := by decide +kernel
theorem dX10_count_88 : decode cX10_count 88 = .ok (.aload_n 0, 1) := by decide +kernel
theorem dX10_count_89 : decode cX10_count 89 = .ok (.getfield 85, 3) := by decide +kernel
theorem dX10_count_92 : decode cX10_count 92 = .ok (.iconst 0, 1) := by decide +kernel
theorem dX10_count_93 : decode cX10_count 93 = .ok (.aaload, 1) := by decide +kernel
theorem dX10_count_94 : decode cX10_count 94 = .ok (.getfield 349, 3) := by decide +kernel
theorem dX10_count_97 : decode cX10_count 97 = .ok (.ireturn, 1) := by decide +kernel
theorem dX10_count_98 : decode cX10_count 98 = .ok (.aload_n 0, 1) := by decide +kernel
theorem dX10_count_99 : decode cX10_count 99 = .ok (.getfield 10, 3) := by decide +kernel
theorem dX10_count_102 : decode cX10_count 102 = .ok (.getfield 136, 3) := by decide +kernel
theorem dX10_count_105 : decode cX10_count 105 = .ok (.invokestatic 309, 3) := by decide +kernel
theorem dX10_count_108 : decode cX10_count 108 = .ok (.ireturn, 1) := by decide +kernel
theorem dX10_count_109 : decode cX10_count 109 = .ok (.iconst (-1), 1) := by decide +kernel
theorem dX10_count_110 : decode cX10_count 110 = .ok (.ireturn, 1) := by decide +kernel
theorem dX10_isPiece_0 : decode cX10_isPiece 0 = .ok (.iload_n 1, 1) := by decide +kernel
theorem dX10_isPiece_1 : decode cX10_isPiece 1 = .ok (.ifCond .lt 18, 3) := by decide +kernel
theorem dX10_isPiece_4 : decode cX10_isPiece 4 = .ok (.iload_n 1, 1) := by decide +kernel
theorem dX10_isPiece_5 : decode cX10_isPiece 5 = .ok (.aload_n 0, 1) := by decide +kernel
theorem dX10_isPiece_6 : decode cX10_isPiece 6 = .ok (.getfield 10, 3) := by decide +kernel
theorem dX10_isPiece_9 : decode cX10_isPiece 9 = .ok (.getfield 142, 3) := by decide +kernel
theorem dX10_isPiece_12 : decode cX10_isPiece 12 = .ok (.if_icmp .ge 7, 3) := by decide +kernel
theorem dX10_isPiece_15 : decode cX10_isPiece 15 = .ok (.iconst 1, 1) := by decide +kernel
theorem dX10_isPiece_16 : decode cX10_isPiece 16 = .ok (.goto 4, 3) := by decide +kernel
theorem dX10_isPiece_19 : decode cX10_isPiece 19 = .ok (.iconst 0, 1) := by decide +kernel
theorem dX10_isPiece_20 : decode cX10_isPiece 20 = .ok (.ireturn, 1) := by decide +kernel
theorem dX10_isHand_0 : decode cX10_isHand 0 = .ok (.iload_n 1, 1) := by decide +kernel
theorem dX10_isHand_1 : decode cX10_isHand 1 = .ok (.ifCond .lt 18, 3) := by decide +kernel
theorem dX10_isHand_4 : decode cX10_isHand 4 = .ok (.iload_n 1, 1) := by decide +kernel
theorem dX10_isHand_5 : decode cX10_isHand 5 = .ok (.aload_n 0, 1) := by decide +kernel
theorem dX10_isHand_6 : decode cX10_isHand 6 = .ok (.getfield 10, 3) := by decide +kernel
theorem dX10_isHand_9 : decode cX10_isHand 9 = .ok (.getfield 136, 3) := by decide +kernel
theorem dX10_isHand_12 : decode cX10_isHand 12 = .ok (.if_icmp .ge 7, 3) := by decide +kernel
theorem dX10_isHand_15 : decode cX10_isHand 15 = .ok (.iconst 1, 1) := by decide +kernel
theorem dX10_isHand_16 : decode cX10_isHand 16 = .ok (.goto 4, 3) := by decide +kernel
theorem dX10_isHand_19 : decode cX10_isHand 19 = .ok (.iconst 0, 1) := by decide +kernel
theorem dX10_isHand_20 : decode cX10_isHand 20 = .ok (.ireturn, 1) := by decide +kernel
theorem dX10_isOrder_0 : decode cX10_isOrder 0 = .ok (.iload_n 1, 1) := by decide +kernel
theorem dX10_isOrder_1 : decode cX10_isOrder 1 = .ok (.ifCond .lt 21, 3) := by decide +kernel
theorem dX10_isOrder_4 : decode cX10_isOrder 4 = .ok (.iload_n 1, 1) := by decide +kernel
theorem dX10_isOrder_5 : decode cX10_isOrder 5 = .ok (.aload_n 0, 1) := by decide +kernel
theorem dX10_isOrder_6 : decode cX10_isOrder 6 = .ok (.getfield 10, 3) := by decide +kernel
theorem dX10_isOrder_9 : decode cX10_isOrder 9 = .ok (.getfield 136, 3) := by decide +kernel
theorem dX10_isOrder_12 : decode cX10_isOrder 12 = .ok (.invokestatic 309, 3) := by decide +kernel
theorem dX10_isOrder_15 : decode cX10_isOrder 15 = .ok (.if_icmp .ge 7, 3) := by decide +kernel
theorem dX10_isOrder_18 : decode cX10_isOrder 18 = .ok (.iconst 1, 1) := by decide +kernel
theorem dX10_isOrder_19 : decode cX10_isOrder 19 = .ok (.goto 4, 3) := by decide +kernel
theorem dX10_isOrder_22 : decode cX10_isOrder 22 = .ok (.iconst 0, 1) := by decide +kernel
theorem dX10_isOrder_23 : decode cX10_isOrder 23 = .ok (.ireturn, 1) := by decide +kernel
theorem dX10_isPace_0 : decode cX10_isPace 0 = .ok (.iload_n 0, 1) := by decide +kernel
theorem dX10_isPace_1 : decode cX10_isPace 1 = .ok (.iconst 1, 1) := by decide +kernel
theorem dX10_isPace_2 : decode cX10_isPace 2 = .ok (.if_icmp .lt 13, 3) := by decide +kernel
theorem dX10_isPace_5 : decode cX10_isPace 5 = .ok (.iload_n 0, 1) := by decide +kernel
theorem dX10_isPace_6 : decode cX10_isPace 6 = .ok (.bipush 9, 2) := by decide +kernel
theorem dX10_isPace_8 : decode cX10_isPace 8 = .ok (.if_icmp .gt 7, 3) := by decide +kernel
theorem dX10_isPace_11 : decode cX10_isPace 11 = .ok (.iconst 1, 1) := by decide +kernel
theorem dX10_isPace_12 : decode cX10_isPace 12 = .ok (.goto 4, 3) := by decide +kernel
theorem dX10_isPace_15 : decode cX10_isPace 15 = .ok (.iconst 0, 1) := by decide +kernel
theorem dX10_isPace_16 : decode cX10_isPace 16 = .ok (.ireturn, 1) := by decide +kernel
theorem dX10_isRun_0 : decode cX10_isRun 0 = .ok (.iload_n 0, 1) := by decide +kernel
theorem dX10_isRun_1 : decode cX10_isRun 1 = .ok (.iconst 1, 1) := by decide +kernel
theorem dX10_isRun_2 : decode cX10_isRun 2 = .ok (.if_icmp .lt 13, 3) := by decide +kernel
theorem dX10_isRun_5 : decode cX10_isRun 5 = .ok (.iload_n 0, 1) := by decide +kernel
theorem dX10_isRun_6 : decode cX10_isRun 6 = .ok (.bipush 120, 2) := by decide +kernel
theorem dX10_isRun_8 : decode cX10_isRun 8 = .ok (.if_icmp .gt 7, 3) := by decide +kernel
theorem dX10_isRun_11 : decode cX10_isRun 11 = .ok (.iconst 1, 1) := by decide +kernel
theorem dX10_isRun_12 : decode cX10_isRun 12 = .ok (.goto 4, 3) := by decide +kernel
theorem dX10_isRun_15 : decode cX10_isRun 15 = .ok (.iconst 0, 1) := by decide +kernel
theorem dX10_isRun_16 : decode cX10_isRun 16 = .ok (.ireturn, 1) := by decide +kernel
theorem dX10_isHalf_0 : decode cX10_isHalf 0 = .ok (.iload_n 0, 1) := by decide +kernel
theorem dX10_isHalf_1 : decode cX10_isHalf 1 = .ok (.ifCond .eq 8, 3) := by decide +kernel
theorem dX10_isHalf_4 : decode cX10_isHalf 4 = .ok (.iload_n 0, 1) := by decide +kernel
theorem dX10_isHalf_5 : decode cX10_isHalf 5 = .ok (.iconst 1, 1) := by decide +kernel
theorem dX10_isHalf_6 : decode cX10_isHalf 6 = .ok (.if_icmp .ne 7, 3) := by decide +kernel
theorem dX10_isHalf_9 : decode cX10_isHalf 9 = .ok (.iconst 1, 1) := by decide +kernel
theorem dX10_isHalf_10 : decode cX10_isHalf 10 = .ok (.goto 4, 3) := by decide +kernel
theorem dX10_isHalf_13 : decode cX10_isHalf 13 = .ok (.iconst 0, 1) := by decide +kernel
theorem dX10_isHalf_14 : decode cX10_isHalf 14 = .ok (.ireturn, 1) := by decide +kernel
theorem dX10_isSheet_0 : decode cX10_isSheet 0 = .ok (.iload_n 0, 1) := by decide +kernel
theorem dX10_isSheet_1 : decode cX10_isSheet 1 = .ok (.ifCond .lt 12, 3) := by decide +kernel
theorem dX10_isSheet_4 : decode cX10_isSheet 4 = .ok (.iload_n 0, 1) := by decide +kernel
theorem dX10_isSheet_5 : decode cX10_isSheet 5 = .ok (.iconst 4, 1) := by decide +kernel
theorem dX10_isSheet_6 : decode cX10_isSheet 6 = .ok (.if_icmp .ge 7, 3) := by decide +kernel
theorem dX10_isSheet_9 : decode cX10_isSheet 9 = .ok (.iconst 1, 1) := by decide +kernel
theorem dX10_isSheet_10 : decode cX10_isSheet 10 = .ok (.goto 4, 3) := by decide +kernel
theorem dX10_isSheet_13 : decode cX10_isSheet 13 = .ok (.iconst 0, 1) := by decide +kernel
theorem dX10_isSheet_14 : decode cX10_isSheet 14 = .ok (.ireturn, 1) := by decide +kernel
theorem dX10_isLane_0 : decode cX10_isLane 0 = .ok (.iload_n 0, 1) := by decide +kernel
theorem dX10_isLane_1 : decode cX10_isLane 1 = .ok (.ifCond .lt 12, 3) := by decide +kernel
theorem dX10_isLane_4 : decode cX10_isLane 4 = .ok (.iload_n 0, 1) := by decide +kernel
theorem dX10_isLane_5 : decode cX10_isLane 5 = .ok (.iconst 3, 1) := by decide +kernel
theorem dX10_isLane_6 : decode cX10_isLane 6 = .ok (.if_icmp .ge 7, 3) := by decide +kernel
theorem dX10_isLane_9 : decode cX10_isLane 9 = .ok (.iconst 1, 1) := by decide +kernel
theorem dX10_isLane_10 : decode cX10_isLane 10 = .ok (.goto 4, 3) := by decide +kernel
theorem dX10_isLane_13 : decode cX10_isLane 13 = .ok (.iconst 0, 1) := by decide +kernel
theorem dX10_isLane_14 : decode cX10_isLane 14 = .ok (.ireturn, 1) := by decide +kernel
theorem dX10_numberOfOrders_0 : decode cX10_numberOfOrders 0 = .ok (.iconst 1, 1) := by decide +kernel
theorem dX10_numberOfOrders_1 : decode cX10_numberOfOrders 1 = .ok (.istore_n 1, 1) := by decide +kernel
theorem dX10_numberOfOrders_2 : decode cX10_numberOfOrders 2 = .ok (.iconst 2, 1) := by decide +kernel
theorem dX10_numberOfOrders_3 : decode cX10_numberOfOrders 3 = .ok (.istore_n 2, 1) := by decide +kernel
theorem dX10_numberOfOrders_4 : decode cX10_numberOfOrders 4 = .ok (.iload_n 2, 1) := by decide +kernel
theorem dX10_numberOfOrders_5 : decode cX10_numberOfOrders 5 = .ok (.iload_n 0, 1) := by decide +kernel
theorem dX10_numberOfOrders_6 : decode cX10_numberOfOrders 6 = .ok (.if_icmp .gt 13, 3) := by decide +kernel
theorem dX10_numberOfOrders_9 : decode cX10_numberOfOrders 9 = .ok (.iload_n 1, 1) := by decide +kernel
theorem dX10_numberOfOrders_10 : decode cX10_numberOfOrders 10 = .ok (.iload_n 2, 1) := by decide +kernel
theorem dX10_numberOfOrders_11 : decode cX10_numberOfOrders 11 = .ok (.imul, 1) := by decide +kernel
theorem dX10_numberOfOrders_12 : decode cX10_numberOfOrders 12 = .ok (.istore_n 1, 1) := by decide +kernel
theorem dX10_numberOfOrders_13 : decode cX10_numberOfOrders 13 = .ok (.iinc 2 1, 3) := by decide +kernel
theorem dX10_numberOfOrders_16 : decode cX10_numberOfOrders 16 = .ok (.goto (-12), 3) := by decide +kernel
theorem dX10_numberOfOrders_19 : decode cX10_numberOfOrders 19 = .ok (.iload_n 1, 1) := by decide +kernel
theorem dX10_numberOfOrders_20 : decode cX10_numberOfOrders 20 = .ok (.ireturn, 1) := by decide +kernel
theorem dX10_isMore_0 : decode cX10_isMore 0 = .ok (.lload_n 0, 1) := by decide +kernel
theorem dX10_isMore_1 : decode cX10_isMore 1 = .ok (.lload 6, 2) := by decide +kernel
theorem dX10_isMore_3 : decode cX10_isMore 3 = .ok (.lmul, 1) := by decide +kernel
theorem dX10_isMore_4 : decode cX10_isMore 4 = .ok (.lload 4, 2) := by decide +kernel
theorem dX10_isMore_6 : decode cX10_isMore 6 = .ok (.lload_n 2, 1) := by decide +kernel
theorem dX10_isMore_7 : decode cX10_isMore 7 = .ok (.lmul, 1) := by decide +kernel
theorem dX10_isMore_8 : decode cX10_isMore 8 = .ok (.lcmp, 1) := by decide +kernel
theorem dX10_isMore_9 : decode cX10_isMore 9 = .ok (.ifCond .le 7, 3) := by decide +kernel
theorem dX10_isMore_12 : decode cX10_isMore 12 = .ok (.iconst 1, 1) := by decide +kernel
theorem dX10_isMore_13 : decode cX10_isMore 13 = .ok (.goto 4, 3) := by decide +kernel
theorem dX10_isMore_16 : decode cX10_isMore 16 = .ok (.iconst 0, 1) := by decide +kernel
theorem dX10_isMore_17 : decode cX10_isMore 17 = .ok (.ireturn, 1) := by decide +kernel
theorem dX10_commonDivisor_0 : decode cX10_commonDivisor 0 = .ok (.iconst 0, 1) := by decide +kernel
theorem dX10_commonDivisor_1 : decode cX10_commonDivisor 1 = .ok (.istore 4, 2) := by decide +kernel
theorem dX10_commonDivisor_3 : decode cX10_commonDivisor 3 = .ok (.iload 4, 2) := by decide +kernel
theorem dX10_commonDivisor_5 : decode cX10_commonDivisor 5 = .ok (.ldc_w 370, 3) := by decide +kernel
theorem dX10_commonDivisor_8 : decode cX10_commonDivisor 8 = .ok (.if_icmp .ge 25, 3) := by decide +kernel
theorem dX10_commonDivisor_11 : decode cX10_commonDivisor 11 = .ok (.lload_n 2, 1) := by decide +kernel
theorem dX10_commonDivisor_12 : decode cX10_commonDivisor 12 = .ok (.lconst 0, 1) := by decide +kernel
theorem dX10_commonDivisor_13 : decode cX10_commonDivisor 13 = .ok (.lcmp, 1) := by decide +kernel
theorem dX10_commonDivisor_14 : decode cX10_commonDivisor 14 = .ok (.ifCond .eq 19, 3) := by decide +kernel
theorem dX10_commonDivisor_17 : decode cX10_commonDivisor 17 = .ok (.lload_n 0, 1) := by decide +kernel
theorem dX10_commonDivisor_18 : decode cX10_commonDivisor 18 = .ok (.lload_n 2, 1) := by decide +kernel
theorem dX10_commonDivisor_19 : decode cX10_commonDivisor 19 = .ok (.lrem, 1) := by decide +kernel
theorem dX10_commonDivisor_20 : decode cX10_commonDivisor 20 = .ok (.lstore 5, 2) := by decide +kernel
theorem dX10_commonDivisor_22 : decode cX10_commonDivisor 22 = .ok (.lload_n 2, 1) := by decide +kernel
theorem dX10_commonDivisor_23 : decode cX10_commonDivisor 23 = .ok (.lstore_n 0, 1) := by decide +kernel
theorem dX10_commonDivisor_24 : decode cX10_commonDivisor 24 = .ok (.lload 5, 2) := by decide +kernel
theorem dX10_commonDivisor_26 : decode cX10_commonDivisor 26 = .ok (.lstore_n 2, 1) := by decide +kernel
theorem dX10_commonDivisor_27 : decode cX10_commonDivisor 27 = .ok (.iinc 4 1, 3) := by decide +kernel
theorem dX10_commonDivisor_30 : decode cX10_commonDivisor 30 = .ok (.goto (-27), 3) := by decide +kernel
theorem dX10_commonDivisor_33 : decode cX10_commonDivisor 33 = .ok (.lload_n 0, 1) := by decide +kernel
theorem dX10_commonDivisor_34 : decode cX10_commonDivisor 34 = .ok (.lreturn, 1) := by decide +kernel
theorem dX10_forgetAnswers_0 : decode cX10_forgetAnswers 0 = .ok (.aload_n 0, 1) := by decide +kernel
theorem dX10_forgetAnswers_1 : decode cX10_forgetAnswers 1 = .ok (.getfield 48, 3) := by decide +kernel
theorem dX10_forgetAnswers_4 : decode cX10_forgetAnswers 4 = .ok (.iconst 0, 1) := by decide +kernel
theorem dX10_forgetAnswers_5 : decode cX10_forgetAnswers 5 = .ok (.putfield 371, 3) := by decide +kernel
theorem dX10_forgetAnswers_8 : decode cX10_forgetAnswers 8 = .ok (.aload_n 0, 1) := by decide +kernel
theorem dX10_forgetAnswers_9 : decode cX10_forgetAnswers 9 = .ok (.getfield 62, 3) := by decide +kernel
theorem dX10_forgetAnswers_12 : decode cX10_forgetAnswers 12 = .ok (.iconst 0, 1) := by decide +kernel
theorem dX10_forgetAnswers_13 : decode cX10_forgetAnswers 13 = .ok (.putfield 372, 3) := by decide +kernel
theorem dX10_forgetAnswers_16 : decode cX10_forgetAnswers 16 = .ok (.aload_n 0, 1) := by decide +kernel
theorem dX10_forgetAnswers_17 : decode cX10_forgetAnswers 17 = .ok (.getfield 79, 3) := by decide +kernel
theorem dX10_forgetAnswers_20 : decode cX10_forgetAnswers 20 = .ok (.iconst 0, 1) := by decide +kernel
theorem dX10_forgetAnswers_21 : decode cX10_forgetAnswers 21 = .ok (.putfield 375, 3) := by decide +kernel
theorem dX10_forgetAnswers_24 : decode cX10_forgetAnswers 24 = .ok (.aload_n 0, 1) := by decide +kernel
theorem dX10_forgetAnswers_25 : decode cX10_forgetAnswers 25 = .ok (.getfield 72, 3) := by decide +kernel
theorem dX10_forgetAnswers_28 : decode cX10_forgetAnswers 28 = .ok (.invokevirtual 376, 3) := by decide +kernel
theorem dX10_forgetAnswers_31 : decode cX10_forgetAnswers 31 = .ok (.return_, 1) := by decide +kernel
theorem dX10_findRing_0 : decode cX10_findRing 0 = .ok (.aload_n 0, 1) := by decide +kernel
theorem dX10_findRing_1 : decode cX10_findRing 1 = .ok (.getfield 62, 3) := by decide +kernel
theorem dX10_findRing_4 : decode cX10_findRing 4 = .ok (.getfield 372, 3) := by decide +kernel
theorem dX10_findRing_7 : decode cX10_findRing 7 = .ok (.ifCond .ne 18, 3) := by decide +kernel
theorem dX10_findRing_10 : decode cX10_findRing 10 = .ok (.aload_n 0, 1) := by decide +kernel
theorem dX10_findRing_11 : decode cX10_findRing 11 = .ok (.getfield 55, 3) := by decide +kernel
theorem dX10_findRing_14 : decode cX10_findRing 14 = .ok (.aload_n 0, 1) := by decide +kernel
theorem dX10_findRing_15 : decode cX10_findRing 15 = .ok (.getfield 10, 3) := by decide +kernel
theorem dX10_findRing_18 : decode cX10_findRing 18 = .ok (.aload_n 0, 1) := by decide +kernel
theorem dX10_findRing_19 : decode cX10_findRing 19 = .ok (.getfield 62, 3) := by decide +kernel
theorem dX10_findRing_22 : decode cX10_findRing 22 = .ok (.invokevirtual 333, 3) := by decide +kernel
theorem dX10_findRing_25 : decode cX10_findRing 25 = .ok (.return_, 1) := by decide +kernel
theorem dX10_findOrder_0 : decode cX10_findOrder 0 = .ok (.aload_n 0, 1) := by decide +kernel
theorem dX10_findOrder_1 : decode cX10_findOrder 1 = .ok (.getfield 72, 3) := by decide +kernel
theorem dX10_findOrder_4 : decode cX10_findOrder 4 = .ok (.getfield 306, 3) := by decide +kernel
theorem dX10_findOrder_7 : decode cX10_findOrder 7 = .ok (.iload_n 1, 1) := by decide +kernel
theorem dX10_findOrder_8 : decode cX10_findOrder 8 = .ok (.iaload, 1) := by decide +kernel
theorem dX10_findOrder_9 : decode cX10_findOrder 9 = .ok (.ifCond .eq 4, 3) := by decide +kernel
theorem dX10_findOrder_12 : decode cX10_findOrder 12 = .ok (.return_, 1) := by decide +kernel
theorem dX10_findOrder_13 : decode cX10_findOrder 13 = .ok (.aload_n 0, 1) := by decide +kernel
theorem dX10_findOrder_14 : decode cX10_findOrder 14 = .ok (.getfield 72, 3) := by decide +kernel
theorem dX10_findOrder_17 : decode cX10_findOrder 17 = .ok (.iload_n 1, 1) := by decide +kernel
theorem dX10_findOrder_18 : decode cX10_findOrder 18 = .ok (.aload_n 0, 1) := by decide +kernel
theorem dX10_findOrder_19 : decode cX10_findOrder 19 = .ok (.getfield 10, 3) := by decide +kernel
theorem dX10_findOrder_22 : decode cX10_findOrder 22 = .ok (.getfield 136, 3) := by decide +kernel
theorem dX10_findOrder_25 : decode cX10_findOrder 25 = .ok (.invokevirtual 317, 3) := by decide +kernel
theorem dX10_findOrder_28 : decode cX10_findOrder 28 = .ok (.aload_n 0, 1) := by decide +kernel
theorem dX10_findOrder_29 : decode cX10_findOrder 29 = .ok (.getfield 16, 3) := by decide +kernel
theorem dX10_findOrder_32 : decode cX10_findOrder 32 = .ok (.aload_n 0, 1) := by decide +kernel
theorem dX10_findOrder_33 : decode cX10_findOrder 33 = .ok (.getfield 10, 3) := by decide +kernel
theorem dX10_findOrder_36 : decode cX10_findOrder 36 = .ok (.invokevirtual 117, 3) := by decide +kernel
theorem dX10_findOrder_39 : decode cX10_findOrder 39 = .ok (.iconst 0, 1) := by decide +kernel
theorem dX10_findOrder_40 : decode cX10_findOrder 40 = .ok (.istore_n 2, 1) := by decide +kernel
theorem dX10_findOrder_41 : decode cX10_findOrder 41 = .ok (.iload_n 2, 1) := by decide +kernel
theorem dX10_findOrder_42 : decode cX10_findOrder 42 = .ok (.aload_n 0, 1) := by decide +kernel
theorem dX10_findOrder_43 : decode cX10_findOrder 43 = .ok (.getfield 10, 3) := by decide +kernel
theorem dX10_findOrder_46 : decode cX10_findOrder 46 = .ok (.getfield 136, 3) := by decide +kernel
theorem dX10_findOrder_49 : decode cX10_findOrder 49 = .ok (.if_icmp .ge 30, 3) := by decide +kernel
theorem dX10_findOrder_52 : decode cX10_findOrder 52 = .ok (.aload_n 0, 1) := by decide +kernel
theorem dX10_findOrder_53 : decode cX10_findOrder 53 = .ok (.getfield 16, 3) := by decide +kernel
theorem dX10_findOrder_56 : decode cX10_findOrder 56 = .ok (.aload_n 0, 1) := by decide +kernel
theorem dX10_findOrder_57 : decode cX10_findOrder 57 = .ok (.getfield 10, 3) := by decide +kernel
theorem dX10_findOrder_60 : decode cX10_findOrder 60 = .ok (.aload_n 0, 1) := by decide +kernel
theorem dX10_findOrder_61 : decode cX10_findOrder 61 = .ok (.getfield 72, 3) := by decide +kernel
theorem dX10_findOrder_64 : decode cX10_findOrder 64 = .ok (.getfield 321, 3) := by decide +kernel
theorem dX10_findOrder_67 : decode cX10_findOrder 67 = .ok (.iload_n 2, 1) := by decide +kernel
theorem dX10_findOrder_68 : decode cX10_findOrder 68 = .ok (.iaload, 1) := by decide +kernel
theorem dX10_findOrder_69 : decode cX10_findOrder 69 = .ok (.iload_n 2, 1) := by decide +kernel
theorem dX10_findOrder_70 : decode cX10_findOrder 70 = .ok (.invokevirtual 379, 3) := by decide +kernel
theorem dX10_findOrder_73 : decode cX10_findOrder 73 = .ok (.iinc 2 1, 3) := by decide +kernel
theorem dX10_findOrder_76 : decode cX10_findOrder 76 = .ok (.goto (-35), 3) := by decide +kernel
theorem dX10_findOrder_79 : decode cX10_findOrder 79 = .ok (.aload_n 0, 1) := by decide +kernel
theorem dX10_findOrder_80 : decode cX10_findOrder 80 = .ok (.getfield 55, 3) := by decide +kernel
theorem dX10_findOrder_83 : decode cX10_findOrder 83 = .ok (.aload_n 0, 1) := by decide +kernel
theorem dX10_findOrder_84 : decode cX10_findOrder 84 = .ok (.getfield 16, 3) := by decide +kernel
theorem dX10_findOrder_87 : decode cX10_findOrder 87 = .ok (.aload_n 0, 1) := by decide +kernel
theorem dX10_findOrder_88 : decode cX10_findOrder 88 = .ok (.getfield 66, 3) := by decide +kernel
theorem dX10_findOrder_91 : decode cX10_findOrder 91 = .ok (.invokevirtual 333, 3) := by decide +kernel
theorem dX10_findOrder_94 : decode cX10_findOrder 94 = .ok (.aload_n 0, 1) := by decide +kernel
theorem dX10_findOrder_95 : decode cX10_findOrder 95 = .ok (.getfield 72, 3) := by decide +kernel
theorem dX10_findOrder_98 : decode cX10_findOrder 98 = .ok (.getfield 303, 3) := by decide +kernel
theorem dX10_findOrder_101 : decode cX10_findOrder 101 = .ok (.iload_n 1, 1) := by decide +kernel
theorem dX10_findOrder_102 : decode cX10_findOrder 102 = .ok (.aload_n 0, 1) := by decide +kernel
theorem dX10_findOrder_103 : decode cX10_findOrder 103 = .ok (.getfield 66, 3) := by decide +kernel
theorem dX10_findOrder_106 : decode cX10_findOrder 106 = .ok (.getfield 281, 3) := by decide +kernel
theorem dX10_findOrder_109 : decode cX10_findOrder 109 = .ok (.iastore, 1) := by decide +kernel
theorem dX10_findOrder_110 : decode cX10_findOrder 110 = .ok (.aload_n 0, 1) := by decide +kernel
theorem dX10_findOrder_111 : decode cX10_findOrder 111 = .ok (.getfield 72, 3) := by decide +kernel
theorem dX10_findOrder_114 : decode cX10_findOrder 114 = .ok (.getfield 306, 3) := by decide +kernel
theorem dX10_findOrder_117 : decode cX10_findOrder 117 = .ok (.iload_n 1, 1) := by decide +kernel
theorem dX10_findOrder_118 : decode cX10_findOrder 118 = .ok (.aload_n 0, 1) := by decide +kernel
theorem dX10_findOrder_119 : decode cX10_findOrder 119 = .ok (.getfield 66, 3) := by decide +kernel
theorem dX10_findOrder_122 : decode cX10_findOrder 122 = .ok (.getfield 284, 3) := by decide +kernel
theorem dX10_findOrder_125 : decode cX10_findOrder 125 = .ok (.iastore, 1) := by decide +kernel
theorem dX10_findOrder_126 : decode cX10_findOrder 126 = .ok (.return_, 1) := by decide +kernel
theorem dX10_findParts_0 : decode cX10_findParts 0 = .ok (.aload_n 0, 1) := by decide +kernel
theorem dX10_findParts_1 : decode cX10_findParts 1 = .ok (.getfield 79, 3) := by decide +kernel
theorem dX10_findParts_4 : decode cX10_findParts 4 = .ok (.getfield 375, 3) := by decide +kernel
theorem dX10_findParts_7 : decode cX10_findParts 7 = .ok (.ifCond .eq 4, 3) := by decide +kernel
theorem dX10_findParts_10 : decode cX10_findParts 10 = .ok (.return_, 1) := by decide +kernel
theorem dX10_findParts_11 : decode cX10_findParts 11 = .ok (.aload_n 0, 1) := by decide +kernel
theorem dX10_findParts_12 : decode cX10_findParts 12 = .ok (.getfield 79, 3) := by decide +kernel
theorem dX10_findParts_15 : decode cX10_findParts 15 = .ok (.iconst 1, 1) := by decide +kernel
theorem dX10_findParts_16 : decode cX10_findParts 16 = .ok (.putfield 375, 3) := by decide +kernel
theorem dX10_findParts_19 : decode cX10_findParts 19 = .ok (.aload_n 0, 1) := by decide +kernel
theorem dX10_findParts_20 : decode cX10_findParts 20 = .ok (.getfield 79, 3) := by decide +kernel
theorem dX10_findParts_23 : decode cX10_findParts 23 = .ok (.iconst (-1), 1) := by decide +kernel
theorem dX10_findParts_24 : decode cX10_findParts 24 = .ok (.putfield 328, 3) := by decide +kernel
theorem dX10_findParts_27 : decode cX10_findParts 27 = .ok (.aload_n 0, 1) := by decide +kernel
theorem dX10_findParts_28 : decode cX10_findParts 28 = .ok (.getfield 79, 3) := by decide +kernel
theorem dX10_findParts_31 : decode cX10_findParts 31 = .ok (.iconst 1, 1) := by decide +kernel
theorem dX10_findParts_32 : decode cX10_findParts 32 = .ok (.putfield 329, 3) := by decide +kernel
theorem dX10_findParts_35 : decode cX10_findParts 35 = .ok (.aload_n 0, 1) := by decide +kernel
theorem dX10_findParts_36 : decode cX10_findParts 36 = .ok (.getfield 16, 3) := by decide +kernel
theorem dX10_findParts_39 : decode cX10_findParts 39 = .ok (.aload_n 0, 1) := by decide +kernel
theorem dX10_findParts_40 : decode cX10_findParts 40 = .ok (.getfield 10, 3) := by decide +kernel
theorem dX10_findParts_43 : decode cX10_findParts 43 = .ok (.invokevirtual 117, 3) := by decide +kernel
theorem dX10_findParts_46 : decode cX10_findParts 46 = .ok (.aload_n 0, 1) := by decide +kernel
theorem dX10_findParts_47 : decode cX10_findParts 47 = .ok (.getfield 16, 3) := by decide +kernel
theorem dX10_findParts_50 : decode cX10_findParts 50 = .ok (.iconst 2, 1) := by decide +kernel
theorem dX10_findParts_51 : decode cX10_findParts 51 = .ok (.putfield 151, 3) := by decide +kernel
theorem dX10_findParts_54 : decode cX10_findParts 54 = .ok (.iconst 0, 1) := by decide +kernel
theorem dX10_findParts_55 : decode cX10_findParts 55 = .ok (.istore_n 1, 1) := by decide +kernel
theorem dX10_findParts_56 : decode cX10_findParts 56 = .ok (.iload_n 1, 1) := by decide +kernel
theorem dX10_findParts_57 : decode cX10_findParts 57 = .ok (.aload_n 0, 1) := by decide +kernel
theorem dX10_findParts_58 : decode cX10_findParts 58 = .ok (.getfield 10, 3) := by decide +kernel
theorem dX10_findParts_61 : decode cX10_findParts 61 = .ok (.getfield 136, 3) := by decide +kernel
theorem dX10_findParts_64 : decode cX10_findParts 64 = .ok (.iconst 1, 1) := by decide +kernel
theorem dX10_findParts_65 : decode cX10_findParts 65 = .ok (.isub, 1) := by decide +kernel
theorem dX10_findParts_66 : decode cX10_findParts 66 = .ok (.if_icmp .ge 21, 3) := by decide +kernel
theorem dX10_findParts_69 : decode cX10_findParts 69 = .ok (.aload_n 0, 1) := by decide +kernel
theorem dX10_findParts_70 : decode cX10_findParts 70 = .ok (.getfield 16, 3) := by decide +kernel
theorem dX10_findParts_73 : decode cX10_findParts 73 = .ok (.getfield 139, 3) := by decide +kernel
theorem dX10_findParts_76 : decode cX10_findParts 76 = .ok (.iload_n 1, 1) := by decide +kernel
theorem dX10_findParts_77 : decode cX10_findParts 77 = .ok (.iload_n 1, 1) := by decide +kernel
theorem dX10_findParts_78 : decode cX10_findParts 78 = .ok (.iconst 1, 1) := by decide +kernel
theorem dX10_findParts_79 : decode cX10_findParts 79 = .ok (.iadd, 1) := by decide +kernel
theorem dX10_findParts_80 : decode cX10_findParts 80 = .ok (.iastore, 1) := by decide +kernel
theorem dX10_findParts_81 : decode cX10_findParts 81 = .ok (.iinc 1 1, 3) := by decide +kernel
theorem dX10_findParts_84 : decode cX10_findParts 84 = .ok (.goto (-28), 3) := by decide +kernel
theorem dX10_findParts_87 : decode cX10_findParts 87 = .ok (.iconst 1, 1) := by decide +kernel
theorem dX10_findParts_88 : decode cX10_findParts 88 = .ok (.istore_n 1, 1) := by decide +kernel
theorem dX10_findParts_89 : decode cX10_findParts 89 = .ok (.iconst 0, 1) := by decide +kernel
theorem dX10_findParts_90 : decode cX10_findParts 90 = .ok (.istore_n 2, 1) := by decide +kernel
theorem dX10_findParts_91 : decode cX10_findParts 91 = .ok (.iload_n 2, 1) := by decide +kernel
theorem dX10_findParts_92 : decode cX10_findParts 92 = .ok (.ldc_w 370, 3) := by decide +kernel
theorem dX10_findParts_95 : decode cX10_findParts 95 = .ok (.if_icmp .ge 89, 3) := by decide +kernel
theorem dX10_findParts_98 : decode cX10_findParts 98 = .ok (.iload_n 1, 1) := by decide +kernel
theorem dX10_findParts_99 : decode cX10_findParts 99 = .ok (.ifCond .eq 85, 3) := by decide +kernel
theorem dX10_findParts_102 : decode cX10_findParts 102 = .ok (.aload_n 0, 1) := by decide +kernel
theorem dX10_findParts_103 : decode cX10_findParts 103 = .ok (.getfield 55, 3) := by decide +kernel
theorem dX10_findParts_106 : decode cX10_findParts 106 = .ok (.aload_n 0, 1) := by decide +kernel
theorem dX10_findParts_107 : decode cX10_findParts 107 = .ok (.getfield 16, 3) := by decide +kernel
theorem dX10_findParts_110 : decode cX10_findParts 110 = .ok (.aload_n 0, 1) := by decide +kernel
theorem dX10_findParts_111 : decode cX10_findParts 111 = .ok (.getfield 66, 3) := by decide +kernel
theorem dX10_findParts_114 : decode cX10_findParts 114 = .ok (.invokevirtual 333, 3) := by decide +kernel
theorem dX10_findParts_117 : decode cX10_findParts 117 = .ok (.aload_n 0, 1) := by decide +kernel
theorem dX10_findParts_118 : decode cX10_findParts 118 = .ok (.getfield 66, 3) := by decide +kernel
theorem dX10_findParts_121 : decode cX10_findParts 121 = .ok (.getfield 281, 3) := by decide +kernel
theorem dX10_findParts_124 : decode cX10_findParts 124 = .ok (.i2l, 1) := by decide +kernel
theorem dX10_findParts_125 : decode cX10_findParts 125 = .ok (.aload_n 0, 1) := by decide +kernel
theorem dX10_findParts_126 : decode cX10_findParts 126 = .ok (.getfield 66, 3) := by decide +kernel
theorem dX10_findParts_129 : decode cX10_findParts 129 = .ok (.getfield 284, 3) := by decide +kernel
theorem dX10_findParts_132 : decode cX10_findParts 132 = .ok (.i2l, 1) := by decide +kernel
theorem dX10_findParts_133 : decode cX10_findParts 133 = .ok (.aload_n 0, 1) := by decide +kernel
theorem dX10_findParts_134 : decode cX10_findParts 134 = .ok (.getfield 79, 3) := by decide +kernel
theorem dX10_findParts_137 : decode cX10_findParts 137 = .ok (.getfield 328, 3) := by decide +kernel
theorem dX10_findParts_140 : decode cX10_findParts 140 = .ok (.i2l, 1) := by decide +kernel
theorem dX10_findParts_141 : decode cX10_findParts 141 = .ok (.aload_n 0, 1) := by decide +kernel
theorem dX10_findParts_142 : decode cX10_findParts 142 = .ok (.getfield 79, 3) := by decide +kernel
theorem dX10_findParts_145 : decode cX10_findParts 145 = .ok (.getfield 329, 3) := by decide +kernel
theorem dX10_findParts_148 : decode cX10_findParts 148 = .ok (.i2l, 1) := by decide +kernel
theorem dX10_findParts_149 : decode cX10_findParts 149 = .ok (.invokestatic 313, 3) := by decide +kernel
theorem dX10_findParts_152 : decode cX10_findParts 152 = .ok (.ifCond .eq 18, 3) := by decide +kernel
theorem dX10_findParts_155 : decode cX10_findParts 155 = .ok (.aload_n 0, 1) := by decide +kernel
theorem dX10_findParts_156 : decode cX10_findParts 156 = .ok (.getfield 79, 3) := by decide +kernel
theorem dX10_findParts_159 : decode cX10_findParts 159 = .ok (.aload_n 0, 1) := by decide +kernel
theorem dX10_findParts_160 : decode cX10_findParts 160 = .ok (.getfield 16, 3) := by decide +kernel
theorem dX10_findParts_163 : decode cX10_findParts 163 = .ok (.aload_n 0, 1) := by decide +kernel
theorem dX10_findParts_164 : decode cX10_findParts 164 = .ok (.getfield 66, 3) := by decide +kernel
theorem dX10_findParts_167 : decode cX10_findParts 167 = .ok (.invokevirtual 383, 3) := by decide +kernel
theorem dX10_findParts_170 : decode cX10_findParts 170 = .ok (.aload_n 0, 1) := by decide +kernel
theorem dX10_findParts_171 : decode cX10_findParts 171 = .ok (.getfield 16, 3) := by decide +kernel
theorem dX10_findParts_174 : decode cX10_findParts 174 = .ok (.invokevirtual 386, 3) := by decide +kernel
theorem dX10_findParts_177 : decode cX10_findParts 177 = .ok (.istore_n 1, 1) := by decide +kernel
theorem dX10_findParts_178 : decode cX10_findParts 178 = .ok (.iinc 2 1, 3) := by decide +kernel
theorem dX10_findParts_181 : decode cX10_findParts 181 = .ok (.goto (-90), 3) := by decide +kernel
theorem dX10_findParts_184 : decode cX10_findParts 184 = .ok (.return_, 1) := by decide +kernel
theorem dX10_hasPacesAlone_0 : decode cX10_hasPacesAlone 0 = .ok (.iconst 0, 1) := by decide +kernel
theorem dX10_hasPacesAlone_1 : decode cX10_hasPacesAlone 1 = .ok (.istore_n 3, 1) := by decide +kernel
theorem dX10_hasPacesAlone_2 : decode cX10_hasPacesAlone 2 = .ok (.iload_n 3, 1) := by decide +kernel
theorem dX10_hasPacesAlone_3 : decode cX10_hasPacesAlone 3 = .ok (.aload_n 0, 1) := by decide +kernel
theorem dX10_hasPacesAlone_4 : decode cX10_hasPacesAlone 4 = .ok (.getfield 10, 3) := by decide +kernel
theorem dX10_hasPacesAlone_7 : decode cX10_hasPacesAlone 7 = .ok (.getfield 142, 3) := by decide +kernel
theorem dX10_hasPacesAlone_10 : decode cX10_hasPacesAlone 10 = .ok (.if_icmp .ge 25, 3) := by decide +kernel
theorem dX10_hasPacesAlone_13 : decode cX10_hasPacesAlone 13 = .ok (.aload_n 1, 1) := by decide +kernel
theorem dX10_hasPacesAlone_14 : decode cX10_hasPacesAlone 14 = .ok (.getfield 389, 3) := by decide +kernel
theorem dX10_hasPacesAlone_17 : decode cX10_hasPacesAlone 17 = .ok (.iload_n 2, 1) := by decide +kernel
theorem dX10_hasPacesAlone_18 : decode cX10_hasPacesAlone 18 = .ok (.iload_n 3, 1) := by decide +kernel
theorem dX10_hasPacesAlone_19 : decode cX10_hasPacesAlone 19 = .ok (.iadd, 1) := by decide +kernel
theorem dX10_hasPacesAlone_20 : decode cX10_hasPacesAlone 20 = .ok (.iaload, 1) := by decide +kernel
theorem dX10_hasPacesAlone_21 : decode cX10_hasPacesAlone 21 = .ok (.invokestatic 171, 3) := by decide +kernel
theorem dX10_hasPacesAlone_24 : decode cX10_hasPacesAlone 24 = .ok (.ifCond .ne 5, 3) := by decide +kernel
theorem dX10_hasPacesAlone_27 : decode cX10_hasPacesAlone 27 = .ok (.iconst 0, 1) := by decide +kernel
theorem dX10_hasPacesAlone_28 : decode cX10_hasPacesAlone 28 = .ok (.ireturn, 1) := by decide +kernel
theorem dX10_hasPacesAlone_29 : decode cX10_hasPacesAlone 29 = .ok (.iinc 3 1, 3) := by decide +kernel
theorem dX10_hasPacesAlone_32 : decode cX10_hasPacesAlone 32 = .ok (.goto (-30), 3) := by decide +kernel
theorem dX10_hasPacesAlone_35 : decode cX10_hasPacesAlone 35 = .ok (.iconst 1, 1) := by decide +kernel
theorem dX10_hasPacesAlone_36 : decode cX10_hasPacesAlone 36 = .ok (.ireturn, 1) := by decide +kernel
theorem dX10_copyPaces_0 : decode cX10_copyPaces 0 = .ok (.iconst 0, 1) := by decide +kernel
theorem dX10_copyPaces_1 : decode cX10_copyPaces 1 = .ok (.istore 4, 2) := by decide +kernel
theorem dX10_copyPaces_3 : decode cX10_copyPaces 3 = .ok (.iload 4, 2) := by decide +kernel
theorem dX10_copyPaces_5 : decode cX10_copyPaces 5 = .ok (.aload_n 0, 1) := by decide +kernel
theorem dX10_copyPaces_6 : decode cX10_copyPaces 6 = .ok (.getfield 10, 3) := by decide +kernel
theorem dX10_copyPaces_9 : decode cX10_copyPaces 9 = .ok (.getfield 142, 3) := by decide +kernel
theorem dX10_copyPaces_12 : decode cX10_copyPaces 12 = .ok (.if_icmp .ge 33, 3) := by decide +kernel
theorem dX10_copyPaces_15 : decode cX10_copyPaces 15 = .ok (.aload_n 0, 1) := by decide +kernel
theorem dX10_copyPaces_16 : decode cX10_copyPaces 16 = .ok (.getfield 10, 3) := by decide +kernel
theorem dX10_copyPaces_19 : decode cX10_copyPaces 19 = .ok (.getfield 174, 3) := by decide +kernel
theorem dX10_copyPaces_22 : decode cX10_copyPaces 22 = .ok (.iload_n 3, 1) := by decide +kernel
theorem dX10_copyPaces_23 : decode cX10_copyPaces 23 = .ok (.bipush 8, 2) := by decide +kernel
theorem dX10_copyPaces_25 : decode cX10_copyPaces 25 = .ok (.imul, 1) := by decide +kernel
theorem dX10_copyPaces_26 : decode cX10_copyPaces 26 = .ok (.iload 4, 2) := by decide +kernel
theorem dX10_copyPaces_28 : decode cX10_copyPaces 28 = .ok (.iadd, 1) := by decide +kernel
theorem dX10_copyPaces_29 : decode cX10_copyPaces 29 = .ok (.aload_n 1, 1) := by decide +kernel
theorem dX10_copyPaces_30 : decode cX10_copyPaces 30 = .ok (.getfield 389, 3) := by decide +kernel
theorem dX10_copyPaces_33 : decode cX10_copyPaces 33 = .ok (.iload_n 2, 1) := by decide +kernel
theorem dX10_copyPaces_34 : decode cX10_copyPaces 34 = .ok (.iload 4, 2) := by decide +kernel
theorem dX10_copyPaces_36 : decode cX10_copyPaces 36 = .ok (.iadd, 1) := by decide +kernel
theorem dX10_copyPaces_37 : decode cX10_copyPaces 37 = .ok (.iaload, 1) := by decide +kernel
theorem dX10_copyPaces_38 : decode cX10_copyPaces 38 = .ok (.iastore, 1) := by decide +kernel
theorem dX10_copyPaces_39 : decode cX10_copyPaces 39 = .ok (.iinc 4 1, 3) := by decide +kernel
theorem dX10_copyPaces_42 : decode cX10_copyPaces 42 = .ok (.goto (-39), 3) := by decide +kernel
theorem dX10_copyPaces_45 : decode cX10_copyPaces 45 = .ok (.return_, 1) := by decide +kernel
theorem dX11_init_0 : decode cX11_init 0 = .ok (.aload_n 0, 1) := by decide +kernel
theorem dX11_init_1 : decode cX11_init 1 = .ok (.invokespecial 1, 3) := by decide +kernel
theorem dX11_init_4 : decode cX11_init 4 = .ok (.aload_n 0, 1) := by decide +kernel
theorem dX11_init_5 : decode cX11_init 5 = .ok (.sipush 400, 3) := by decide +kernel
theorem dX11_init_8 : decode cX11_init 8 = .ok (.newarray .int, 2) := by decide +kernel
theorem dX11_init_10 : decode cX11_init 10 = .ok (.putfield 7, 3) := by decide +kernel
theorem dX11_init_13 : decode cX11_init 13 = .ok (.aload_n 0, 1) := by decide +kernel
theorem dX11_init_14 : decode cX11_init 14 = .ok (.bipush 11, 2) := by decide +kernel
theorem dX11_init_16 : decode cX11_init 16 = .ok (.newarray .int, 2) := by decide +kernel
theorem dX11_init_18 : decode cX11_init 18 = .ok (.dup, 1) := by decide +kernel
theorem dX11_init_19 : decode cX11_init 19 = .ok (.iconst 0, 1) := by decide +kernel
theorem dX11_init_20 : decode cX11_init 20 = .ok (.iconst 0, 1) := by decide +kernel
theorem dX11_init_21 : decode cX11_init 21 = .ok (.iastore, 1) := by decide +kernel
theorem dX11_init_22 : decode cX11_init 22 = .ok (.dup, 1) := by decide +kernel
theorem dX11_init_23 : decode cX11_init 23 = .ok (.iconst 1, 1) := by decide +kernel
theorem dX11_init_24 : decode cX11_init 24 = .ok (.iconst 5, 1) := by decide +kernel
theorem dX11_init_25 : decode cX11_init 25 = .ok (.iastore, 1) := by decide +kernel
theorem dX11_init_26 : decode cX11_init 26 = .ok (.dup, 1) := by decide +kernel
theorem dX11_init_27 : decode cX11_init 27 = .ok (.iconst 2, 1) := by decide +kernel
theorem dX11_init_28 : decode cX11_init 28 = .ok (.bipush 10, 2) := by decide +kernel
theorem dX11_init_30 : decode cX11_init 30 = .ok (.iastore, 1) := by decide +kernel
theorem dX11_init_31 : decode cX11_init 31 = .ok (.dup, 1) := by decide +kernel
theorem dX11_init_32 : decode cX11_init 32 = .ok (.iconst 3, 1) := by decide +kernel
theorem dX11_init_33 : decode cX11_init 33 = .ok (.bipush 14, 2) := by decide +kernel
theorem dX11_init_35 : decode cX11_init 35 = .ok (.iastore, 1) := by decide +kernel
theorem dX11_init_36 : decode cX11_init 36 = .ok (.dup, 1) := by decide +kernel
theorem dX11_init_37 : decode cX11_init 37 = .ok (.iconst 4, 1) := by decide +kernel
theorem dX11_init_38 : decode cX11_init 38 = .ok (.bipush 17, 2) := by decide +kernel
theorem dX11_init_40 : decode cX11_init 40 = .ok (.iastore, 1) := by decide +kernel
theorem dX11_init_41 : decode cX11_init 41 = .ok (.dup, 1) := by decide +kernel
theorem dX11_init_42 : decode cX11_init 42 = .ok (.iconst 5, 1) := by decide +kernel
theorem dX11_init_43 : decode cX11_init 43 = .ok (.bipush 21, 2) := by decide +kernel
theorem dX11_init_45 : decode cX11_init 45 = .ok (.iastore, 1) := by decide +kernel
theorem dX11_init_46 : decode cX11_init 46 = .ok (.dup, 1) := by decide +kernel
theorem dX11_init_47 : decode cX11_init 47 = .ok (.bipush 6, 2) := by decide +kernel
theorem dX11_init_49 : decode cX11_init 49 = .ok (.bipush 25, 2) := by decide +kernel
theorem dX11_init_51 : decode cX11_init 51 = .ok (.iastore, 1) := by decide +kernel
theorem dX11_init_52 : decode cX11_init 52 = .ok (.dup, 1) := by decide +kernel
theorem dX11_init_53 : decode cX11_init 53 = .ok (.bipush 7, 2) := by decide +kernel
theorem dX11_init_55 : decode cX11_init 55 = .ok (.bipush 30, 2) := by decide +kernel
theorem dX11_init_57 : decode cX11_init 57 = .ok (.iastore, 1) := by decide +kernel
theorem dX11_init_58 : decode cX11_init 58 = .ok (.dup, 1) := by decide +kernel
theorem dX11_init_59 : decode cX11_init 59 = .ok (.bipush 8, 2) := by decide +kernel
theorem dX11_init_61 : decode cX11_init 61 = .ok (.bipush 34, 2) := by decide +kernel
theorem dX11_init_63 : decode cX11_init 63 = .ok (.iastore, 1) := by decide +kernel
theorem dX11_init_64 : decode cX11_init 64 = .ok (.dup, 1) := by decide +kernel
theorem dX11_init_65 : decode cX11_init 65 = .ok (.bipush 9, 2) := by decide +kernel
theorem dX11_init_67 : decode cX11_init 67 = .ok (.bipush 38, 2) := by decide +kernel
theorem dX11_init_69 : decode cX11_init 69 = .ok (.iastore, 1) := by decide +kernel
theorem dX11_init_70 : decode cX11_init 70 = .ok (.dup, 1) := by decide +kernel
theorem dX11_init_71 : decode cX11_init 71 = .ok (.bipush 10, 2) := by decide +kernel
theorem dX11_init_73 : decode cX11_init 73 = .ok (.bipush 43, 2) := by decide +kernel
theorem dX11_init_75 : decode cX11_init 75 = .ok (.iastore, 1) := by decide +kernel
theorem dX11_init_76 : decode cX11_init 76 = .ok (.putfield 13, 3) := by decide +kernel
theorem dX11_init_79 : decode cX11_init 79 = .ok (.aload_n 0, 1) := by decide +kernel
theorem dX11_init_80 : decode cX11_init 80 = .ok (.bipush 43, 2) := by decide +kernel
theorem dX11_init_82 : decode cX11_init 82 = .ok (.newarray .int, 2) := by decide +kernel
theorem dX11_init_84 : decode cX11_init 84 = .ok (.dup, 1) := by decide +kernel
theorem dX11_init_85 : decode cX11_init 85 = .ok (.iconst 0, 1) := by decide +kernel
theorem dX11_init_86 : decode cX11_init 86 = .ok (.bipush 112, 2) := by decide +kernel
theorem dX11_init_88 : decode cX11_init 88 = .ok (.iastore, 1) := by decide +kernel
theorem dX11_init_89 : decode cX11_init 89 = .ok (.dup, 1) := by decide +kernel
theorem dX11_init_90 : decode cX11_init 90 = .ok (.iconst 1, 1) := by decide +kernel
theorem dX11_init_91 : decode cX11_init 91 = .ok (.bipush 105, 2) := by decide +kernel
theorem dX11_init_93 : decode cX11_init 93 = .ok (.iastore, 1) := by decide +kernel
theorem dX11_init_94 : decode cX11_init 94 = .ok (.dup, 1) := by decide +kernel
theorem dX11_init_95 : decode cX11_init 95 = .ok (.iconst 2, 1) := by decide +kernel
theorem dX11_init_96 : decode cX11_init 96 = .ok (.bipush 101, 2) := by decide +kernel
theorem dX11_init_98 : decode cX11_init 98 = .ok (.iastore, 1) := by decide +kernel
theorem dX11_init_99 : decode cX11_init 99 = .ok (.dup, 1) := by decide +kernel
theorem dX11_init_100 : decode cX11_init 100 = .ok (.iconst 3, 1) := by decide +kernel
theorem dX11_init_101 : decode cX11_init 101 = .ok (.bipush 99, 2) := by decide +kernel
theorem dX11_init_103 : decode cX11_init 103 = .ok (.iastore, 1) := by decide +kernel
theorem dX11_init_104 : decode cX11_init 104 = .ok (.dup, 1) := by decide +kernel
theorem dX11_init_105 : decode cX11_init 105 = .ok (.iconst 4, 1) := by decide +kernel
theorem dX11_init_106 : decode cX11_init 106 = .ok (.bipush 101, 2) := by decide +kernel
theorem dX11_init_108 : decode cX11_init 108 = .ok (.iastore, 1) := by decide +kernel
theorem dX11_init_109 : decode cX11_init 109 = .ok (.dup, 1) := by decide +kernel
theorem dX11_init_110 : decode cX11_init 110 = .ok (.iconst 5, 1) := by decide +kernel
theorem dX11_init_111 : decode cX11_init 111 = .ok (.bipush 119, 2) := by decide +kernel
theorem dX11_init_113 : decode cX11_init 113 = .ok (.iastore, 1) := by decide +kernel
theorem dX11_init_114 : decode cX11_init 114 = .ok (.dup, 1) := by decide +kernel
theorem dX11_init_115 : decode cX11_init 115 = .ok (.bipush 6, 2) := by decide +kernel
theorem dX11_init_117 : decode cX11_init 117 = .ok (.bipush 104, 2) := by decide +kernel
theorem dX11_init_119 : decode cX11_init 119 = .ok (.iastore, 1) := by decide +kernel
theorem dX11_init_120 : decode cX11_init 120 = .ok (.dup, 1) := by decide +kernel
theorem dX11_init_121 : decode cX11_init 121 = .ok (.bipush 7, 2) := by decide +kernel
theorem dX11_init_123 : decode cX11_init 123 = .ok (.bipush 111, 2) := by decide +kernel
theorem dX11_init_125 : decode cX11_init 125 = .ok (.iastore, 1) := by decide +kernel
theorem dX11_init_126 : decode cX11_init 126 = .ok (.dup, 1) := by decide +kernel
theorem dX11_init_127 : decode cX11_init 127 = .ok (.bipush 8, 2) := by decide +kernel
theorem dX11_init_129 : decode cX11_init 129 = .ok (.bipush 108, 2) := by decide +kernel
theorem dX11_init_131 : decode cX11_init 131 = .ok (.iastore, 1) := by decide +kernel
theorem dX11_init_132 : decode cX11_init 132 = .ok (.dup, 1) := by decide +kernel
theorem dX11_init_133 : decode cX11_init 133 = .ok (.bipush 9, 2) := by decide +kernel
theorem dX11_init_135 : decode cX11_init 135 = .ok (.bipush 101, 2) := by decide +kernel
theorem dX11_init_137 : decode cX11_init 137 = .ok (.iastore, 1) := by decide +kernel
theorem dX11_init_138 : decode cX11_init 138 = .ok (.dup, 1) := by decide +kernel
theorem dX11_init_139 : decode cX11_init 139 = .ok (.bipush 10, 2) := by decide +kernel
theorem dX11_init_141 : decode cX11_init 141 = .ok (.bipush 115, 2) := by decide +kernel
theorem dX11_init_143 : decode cX11_init 143 = .ok (.iastore, 1) := by decide +kernel
theorem dX11_init_144 : decode cX11_init 144 = .ok (.dup, 1) := by decide +kernel
theorem dX11_init_145 : decode cX11_init 145 = .ok (.bipush 11, 2) := by decide +kernel
theorem dX11_init_147 : decode cX11_init 147 = .ok (.bipush 111, 2) := by decide +kernel
theorem dX11_init_149 : decode cX11_init 149 = .ok (.iastore, 1) := by decide +kernel
theorem dX11_init_150 : decode cX11_init 150 = .ok (.dup, 1) := by decide +kernel
theorem dX11_init_151 : decode cX11_init 151 = .ok (.bipush 12, 2) := by decide +kernel
theorem dX11_init_153 : decode cX11_init 153 = .ok (.bipush 114, 2) := by decide +kernel
theorem dX11_init_155 : decode cX11_init 155 = .ok (.iastore, 1) := by decide +kernel
theorem dX11_init_156 : decode cX11_init 156 = .ok (.dup, 1) := by decide +kernel
theorem dX11_init_157 : decode cX11_init 157 = .ok (.bipush 13, 2) := by decide +kernel
theorem dX11_init_159 : decode cX11_init 159 = .ok (.bipush 116, 2) := by decide +kernel
theorem dX11_init_161 : decode cX11_init 161 = .ok (.iastore, 1) := by decide +kernel
theorem dX11_init_162 : decode cX11_init 162 = .ok (.dup, 1) := by decide +kernel
theorem dX11_init_163 : decode cX11_init 163 = .ok (.bipush 14, 2) := by decide +kernel
theorem dX11_init_165 : decode cX11_init 165 = .ok (.bipush 114, 2) := by decide +kernel
theorem dX11_init_167 : decode cX11_init 167 = .ok (.iastore, 1) := by decide +kernel
theorem dX11_init_168 : decode cX11_init 168 = .ok (.dup, 1) := by decide +kernel
theorem dX11_init_169 : decode cX11_init 169 = .ok (.bipush 15, 2) := by decide +kernel
theorem dX11_init_171 : decode cX11_init 171 = .ok (.bipush 111, 2) := by decide +kernel
theorem dX11_init_173 : decode cX11_init 173 = .ok (.iastore, 1) := by decide +kernel
theorem dX11_init_174 : decode cX11_init 174 = .ok (.dup, 1) := by decide +kernel
theorem dX11_init_175 : decode cX11_init 175 = .ok (.bipush 16, 2) := by decide +kernel
theorem dX11_init_177 : decode cX11_init 177 = .ok (.bipush 119, 2) := by decide +kernel
theorem dX11_init_179 : decode cX11_init 179 = .ok (.iastore, 1) := by decide +kernel
theorem dX11_init_180 : decode cX11_init 180 = .ok (.dup, 1) := by decide +kernel
theorem dX11_init_181 : decode cX11_init 181 = .ok (.bipush 17, 2) := by decide +kernel
theorem dX11_init_183 : decode cX11_init 183 = .ok (.bipush 104, 2) := by decide +kernel
theorem dX11_init_185 : decode cX11_init 185 = .ok (.iastore, 1) := by decide +kernel
theorem dX11_init_186 : decode cX11_init 186 = .ok (.dup, 1) := by decide +kernel
theorem dX11_init_187 : decode cX11_init 187 = .ok (.bipush 18, 2) := by decide +kernel
theorem dX11_init_189 : decode cX11_init 189 = .ok (.bipush 97, 2) := by decide +kernel
theorem dX11_init_191 : decode cX11_init 191 = .ok (.iastore, 1) := by decide +kernel
theorem dX11_init_192 : decode cX11_init 192 = .ok (.dup, 1) := by decide +kernel
theorem dX11_init_193 : decode cX11_init 193 = .ok (.bipush 19, 2) := by decide +kernel
theorem dX11_init_195 : decode cX11_init 195 = .ok (.bipush 110, 2) := by decide +kernel
theorem dX11_init_197 : decode cX11_init 197 = .ok (.iastore, 1) := by decide +kernel
theorem dX11_init_198 : decode cX11_init 198 = .ok (.dup, 1) := by decide +kernel
theorem dX11_init_199 : decode cX11_init 199 = .ok (.bipush 20, 2) := by decide +kernel
theorem dX11_init_201 : decode cX11_init 201 = .ok (.bipush 100, 2) := by decide +kernel
theorem dX11_init_203 : decode cX11_init 203 = .ok (.iastore, 1) := by decide +kernel
theorem dX11_init_204 : decode cX11_init 204 = .ok (.dup, 1) := by decide +kernel
theorem dX11_init_205 : decode cX11_init 205 = .ok (.bipush 21, 2) := by decide +kernel
theorem dX11_init_207 : decode cX11_init 207 = .ok (.bipush 119, 2) := by decide +kernel
theorem dX11_init_209 : decode cX11_init 209 = .ok (.iastore, 1) := by decide +kernel
theorem dX11_init_210 : decode cX11_init 210 = .ok (.dup, 1) := by decide +kernel
theorem dX11_init_211 : decode cX11_init 211 = .ok (.bipush 22, 2) := by decide +kernel
theorem dX11_init_213 : decode cX11_init 213 = .ok (.bipush 97, 2) := by decide +kernel
theorem dX11_init_215 : decode cX11_init 215 = .ok (.iastore, 1) := by decide +kernel
theorem dX11_init_216 : decode cX11_init 216 = .ok (.dup, 1) := by decide +kernel
theorem dX11_init_217 : decode cX11_init 217 = .ok (.bipush 23, 2) := by decide +kernel
theorem dX11_init_219 : decode cX11_init 219 = .ok (.bipush 108, 2) := by decide +kernel
theorem dX11_init_221 : decode cX11_init 221 = .ok (.iastore, 1) := by decide +kernel
theorem dX11_init_222 : decode cX11_init 222 = .ok (.dup, 1) := by decide +kernel
theorem dX11_init_223 : decode cX11_init 223 = .ok (.bipush 24, 2) := by decide +kernel
theorem dX11_init_225 : decode cX11_init 225 = .ok (.bipush 107, 2) := by decide +kernel
theorem dX11_init_227 : decode cX11_init 227 = .ok (.iastore, 1) := by decide +kernel
theorem dX11_init_228 : decode cX11_init 228 = .ok (.dup, 1) := by decide +kernel
theorem dX11_init_229 : decode cX11_init 229 = .ok (.bipush 25, 2) := by decide +kernel
theorem dX11_init_231 : decode cX11_init 231 = .ok (.bipush 108, 2) := by decide +kernel
theorem dX11_init_233 : decode cX11_init 233 = .ok (.iastore, 1) := by decide +kernel
theorem dX11_init_234 : decode cX11_init 234 = .ok (.dup, 1) := by decide +kernel
theorem dX11_init_235 : decode cX11_init 235 = .ok (.bipush 26, 2) := by decide +kernel
theorem dX11_init_237 : decode cX11_init 237 = .ok (.bipush 101, 2) := by decide +kernel
theorem dX11_init_239 : decode cX11_init 239 = .ok (.iastore, 1) := by decide +kernel
theorem dX11_init_240 : decode cX11_init 240 = .ok (.dup, 1) := by decide +kernel
theorem dX11_init_241 : decode cX11_init 241 = .ok (.bipush 27, 2) := by decide +kernel
theorem dX11_init_243 : decode cX11_init 243 = .ok (.bipush 97, 2) := by decide +kernel
theorem dX11_init_245 : decode cX11_init 245 = .ok (.iastore, 1) := by decide +kernel
theorem dX11_init_246 : decode cX11_init 246 = .ok (.dup, 1) := by decide +kernel
theorem dX11_init_247 : decode cX11_init 247 = .ok (.bipush 28, 2) := by decide +kernel
theorem dX11_init_249 : decode cX11_init 249 = .ok (.bipush 114, 2) := by decide +kernel
theorem dX11_init_251 : decode cX11_init 251 = .ok (.iastore, 1) := by decide +kernel
theorem dX11_init_252 : decode cX11_init 252 = .ok (.dup, 1) := by decide +kernel
theorem dX11_init_253 : decode cX11_init 253 = .ok (.bipush 29, 2) := by decide +kernel
theorem dX11_init_255 : decode cX11_init 255 = .ok (.bipush 110, 2) := by decide +kernel
theorem dX11_init_257 : decode cX11_init 257 = .ok (.iastore, 1) := by decide +kernel
theorem dX11_init_258 : decode cX11_init 258 = .ok (.dup, 1) := by decide +kernel
theorem dX11_init_259 : decode cX11_init 259 = .ok (.bipush 30, 2) := by decide +kernel
theorem dX11_init_261 : decode cX11_init 261 = .ok (.bipush 98, 2) := by decide +kernel
theorem dX11_init_263 : decode cX11_init 263 = .ok (.iastore, 1) := by decide +kernel
theorem dX11_init_264 : decode cX11_init 264 = .ok (.dup, 1) := by decide +kernel
theorem dX11_init_265 : decode cX11_init 265 = .ok (.bipush 31, 2) := by decide +kernel
theorem dX11_init_267 : decode cX11_init 267 = .ok (.bipush 97, 2) := by decide +kernel
theorem dX11_init_269 : decode cX11_init 269 = .ok (.iastore, 1) := by decide +kernel
theorem dX11_init_270 : decode cX11_init 270 = .ok (.dup, 1) := by decide +kernel
theorem dX11_init_271 : decode cX11_init 271 = .ok (.bipush 32, 2) := by decide +kernel
theorem dX11_init_273 : decode cX11_init 273 = .ok (.bipush 99, 2) := by decide +kernel
theorem dX11_init_275 : decode cX11_init 275 = .ok (.iastore, 1) := by decide +kernel
theorem dX11_init_276 : decode cX11_init 276 = .ok (.dup, 1) := by decide +kernel
theorem dX11_init_277 : decode cX11_init 277 = .ok (.bipush 33, 2) := by decide +kernel
theorem dX11_init_279 : decode cX11_init 279 = .ok (.bipush 107, 2) := by decide +kernel
theorem dX11_init_281 : decode cX11_init 281 = .ok (.iastore, 1) := by decide +kernel
theorem dX11_init_282 : decode cX11_init 282 = .ok (.dup, 1) := by decide +kernel
theorem dX11_init_283 : decode cX11_init 283 = .ok (.bipush 34, 2) := by decide +kernel
theorem dX11_init_285 : decode cX11_init 285 = .ok (.bipush 122, 2) := by decide +kernel
theorem dX11_init_287 : decode cX11_init 287 = .ok (.iastore, 1) := by decide +kernel
theorem dX11_init_288 : decode cX11_init 288 = .ok (.dup, 1) := by decide +kernel
theorem dX11_init_289 : decode cX11_init 289 = .ok (.bipush 35, 2) := by decide +kernel
theorem dX11_init_291 : decode cX11_init 291 = .ok (.bipush 111, 2) := by decide +kernel
theorem dX11_init_293 : decode cX11_init 293 = .ok (.iastore, 1) := by decide +kernel
theorem dX11_init_294 : decode cX11_init 294 = .ok (.dup, 1) := by decide +kernel
theorem dX11_init_295 : decode cX11_init 295 = .ok (.bipush 36, 2) := by decide +kernel
theorem dX11_init_297 : decode cX11_init 297 = .ok (.bipush 110, 2) := by decide +kernel
theorem dX11_init_299 : decode cX11_init 299 = .ok (.iastore, 1) := by decide +kernel
theorem dX11_init_300 : decode cX11_init 300 = .ok (.dup, 1) := by decide +kernel
theorem dX11_init_301 : decode cX11_init 301 = .ok (.bipush 37, 2) := by decide +kernel
theorem dX11_init_303 : decode cX11_init 303 = .ok (.bipush 101, 2) := by decide +kernel
theorem dX11_init_305 : decode cX11_init 305 = .ok (.iastore, 1) := by decide +kernel
theorem dX11_init_306 : decode cX11_init 306 = .ok (.dup, 1) := by decide +kernel
theorem dX11_init_307 : decode cX11_init 307 = .ok (.bipush 38, 2) := by decide +kernel
theorem dX11_init_309 : decode cX11_init 309 = .ok (.bipush 102, 2) := by decide +kernel
theorem dX11_init_311 : decode cX11_init 311 = .ok (.iastore, 1) := by decide +kernel
theorem dX11_init_312 : decode cX11_init 312 = .ok (.dup, 1) := by decide +kernel
theorem dX11_init_313 : decode cX11_init 313 = .ok (.bipush 39, 2) := by decide +kernel
theorem dX11_init_315 : decode cX11_init 315 = .ok (.bipush 105, 2) := by decide +kernel
theorem dX11_init_317 : decode cX11_init 317 = .ok (.iastore, 1) := by decide +kernel
theorem dX11_init_318 : decode cX11_init 318 = .ok (.dup, 1) := by decide +kernel
theorem dX11_init_319 : decode cX11_init 319 = .ok (.bipush 40, 2) := by decide +kernel
theorem dX11_init_321 : decode cX11_init 321 = .ok (.bipush 120, 2) := by decide +kernel
theorem dX11_init_323 : decode cX11_init 323 = .ok (.iastore, 1) := by decide +kernel
theorem dX11_init_324 : decode cX11_init 324 = .ok (.dup, 1) := by decide +kernel
theorem dX11_init_325 : decode cX11_init 325 = .ok (.bipush 41, 2) := by decide +kernel
theorem dX11_init_327 : decode cX11_init 327 = .ok (.bipush 101, 2) := by decide +kernel
theorem dX11_init_329 : decode cX11_init 329 = .ok (.iastore, 1) := by decide +kernel
theorem dX11_init_330 : decode cX11_init 330 = .ok (.dup, 1) := by decide +kernel
theorem dX11_init_331 : decode cX11_init 331 = .ok (.bipush 42, 2) := by decide +kernel
theorem dX11_init_333 : decode cX11_init 333 = .ok (.bipush 100, 2) := by decide +kernel
theorem dX11_init_335 : decode cX11_init 335 = .ok (.iastore, 1) := by decide +kernel
theorem dX11_init_336 : decode cX11_init 336 = .ok (.putfield 16, 3) := by decide +kernel
theorem dX11_init_339 : decode cX11_init 339 = .ok (.aload_n 0, 1) := by decide +kernel
theorem dX11_init_340 : decode cX11_init 340 = .ok (.bipush 100, 2) := by decide +kernel
theorem dX11_init_342 : decode cX11_init 342 = .ok (.newarray .int, 2) := by decide +kernel
theorem dX11_init_344 : decode cX11_init 344 = .ok (.dup, 1) := by decide +kernel
theorem dX11_init_345 : decode cX11_init 345 = .ok (.iconst 0, 1) := by decide +kernel
theorem dX11_init_346 : decode cX11_init 346 = .ok (.iconst 3, 1) := by decide +kernel
theorem dX11_init_347 : decode cX11_init 347 = .ok (.iastore, 1) := by decide +kernel
theorem dX11_init_348 : decode cX11_init 348 = .ok (.dup, 1) := by decide +kernel
theorem dX11_init_349 : decode cX11_init 349 = .ok (.iconst 1, 1) := by decide +kernel
theorem dX11_init_350 : decode cX11_init 350 = .ok (.iconst 3, 1) := by decide +kernel
theorem dX11_init_351 : decode cX11_init 351 = .ok (.iastore, 1) := by decide +kernel
theorem dX11_init_352 : decode cX11_init 352 = .ok (.dup, 1) := by decide +kernel
theorem dX11_init_353 : decode cX11_init 353 = .ok (.iconst 2, 1) := by decide +kernel
theorem dX11_init_354 : decode cX11_init 354 = .ok (.iconst 0, 1) := by decide +kernel
theorem dX11_init_355 : decode cX11_init 355 = .ok (.iastore, 1) := by decide +kernel
theorem dX11_init_356 : decode cX11_init 356 = .ok (.dup, 1) := by decide +kernel
theorem dX11_init_357 : decode cX11_init 357 = .ok (.iconst 3, 1) := by decide +kernel
theorem dX11_init_358 : decode cX11_init 358 = .ok (.iconst 0, 1) := by decide +kernel
theorem dX11_init_359 : decode cX11_init 359 = .ok (.iastore, 1) := by decide +kernel
theorem dX11_init_360 : decode cX11_init 360 = .ok (.dup, 1) := by decide +kernel
theorem dX11_init_361 : decode cX11_init 361 = .ok (.iconst 4, 1) := by decide +kernel
theorem dX11_init_362 : decode cX11_init 362 = .ok (.iconst 0, 1) := by decide +kernel
theorem dX11_init_363 : decode cX11_init 363 = .ok (.iastore, 1) := by decide +kernel
theorem dX11_init_364 : decode cX11_init 364 = .ok (.dup, 1) := by decide +kernel
theorem dX11_init_365 : decode cX11_init 365 = .ok (.iconst 5, 1) := by decide +kernel
theorem dX11_init_366 : decode cX11_init 366 = .ok (.iconst 0, 1) := by decide +kernel
theorem dX11_init_367 : decode cX11_init 367 = .ok (.iastore, 1) := by decide +kernel
theorem dX11_init_368 : decode cX11_init 368 = .ok (.dup, 1) := by decide +kernel
theorem dX11_init_369 : decode cX11_init 369 = .ok (.bipush 6, 2) := by decide +kernel
theorem dX11_init_371 : decode cX11_init 371 = .ok (.iconst 1, 1) := by decide +kernel
theorem dX11_init_372 : decode cX11_init 372 = .ok (.iastore, 1) := by decide +kernel
theorem dX11_init_373 : decode cX11_init 373 = .ok (.dup, 1) := by decide +kernel
theorem dX11_init_374 : decode cX11_init 374 = .ok (.bipush 7, 2) := by decide +kernel
theorem dX11_init_376 : decode cX11_init 376 = .ok (.iconst 0, 1) := by decide +kernel
theorem dX11_init_377 : decode cX11_init 377 = .ok (.iastore, 1) := by decide +kernel
theorem dX11_init_378 : decode cX11_init 378 = .ok (.dup, 1) := by decide +kernel
theorem dX11_init_379 : decode cX11_init 379 = .ok (.bipush 8, 2) := by decide +kernel
theorem dX11_init_381 : decode cX11_init 381 = .ok (.iconst 0, 1) := by decide +kernel
theorem dX11_init_382 : decode cX11_init 382 = .ok (.iastore, 1) := by decide +kernel
theorem dX11_init_383 : decode cX11_init 383 = .ok (.dup, 1) := by decide +kernel
theorem dX11_init_384 : decode cX11_init 384 = .ok (.bipush 9, 2) := by decide +kernel
theorem dX11_init_386 : decode cX11_init 386 = .ok (.iconst 0, 1) := by decide +kernel
theorem dX11_init_387 : decode cX11_init 387 = .ok (.iastore, 1) := by decide +kernel
theorem dX11_init_388 : decode cX11_init 388 = .ok (.dup, 1) := by decide +kernel
theorem dX11_init_389 : decode cX11_init 389 = .ok (.bipush 10, 2) := by decide +kernel
theorem dX11_init_391 : decode cX11_init 391 = .ok (.iconst 0, 1) := by decide +kernel
theorem dX11_init_392 : decode cX11_init 392 = .ok (.iastore, 1) := by decide +kernel
theorem dX11_init_393 : decode cX11_init 393 = .ok (.dup, 1) := by decide +kernel
theorem dX11_init_394 : decode cX11_init 394 = .ok (.bipush 11, 2) := by decide +kernel
theorem dX11_init_396 : decode cX11_init 396 = .ok (.iconst 0, 1) := by decide +kernel
theorem dX11_init_397 : decode cX11_init 397 = .ok (.iastore, 1) := by decide +kernel
theorem dX11_init_398 : decode cX11_init 398 = .ok (.dup, 1) := by decide +kernel
theorem dX11_init_399 : decode cX11_init 399 = .ok (.bipush 12, 2) := by decide +kernel
theorem dX11_init_401 : decode cX11_init 401 = .ok (.iconst 0, 1) := by decide +kernel
theorem dX11_init_402 : decode cX11_init 402 = .ok (.iastore, 1) := by decide +kernel
theorem dX11_init_403 : decode cX11_init 403 = .ok (.dup, 1) := by decide +kernel
theorem dX11_init_404 : decode cX11_init 404 = .ok (.bipush 13, 2) := by decide +kernel
theorem dX11_init_406 : decode cX11_init 406 = .ok (.iconst 0, 1) := by decide +kernel
theorem dX11_init_407 : decode cX11_init 407 = .ok (.iastore, 1) := by decide +kernel
theorem dX11_init_408 : decode cX11_init 408 = .ok (.dup, 1) := by decide +kernel
theorem dX11_init_409 : decode cX11_init 409 = .ok (.bipush 14, 2) := by decide +kernel
theorem dX11_init_411 : decode cX11_init 411 = .ok (.iconst 0, 1) := by decide +kernel
theorem dX11_init_412 : decode cX11_init 412 = .ok (.iastore, 1) := by decide +kernel
theorem dX11_init_413 : decode cX11_init 413 = .ok (.dup, 1) := by decide +kernel
theorem dX11_init_414 : decode cX11_init 414 = .ok (.bipush 15, 2) := by decide +kernel
theorem dX11_init_416 : decode cX11_init 416 = .ok (.iconst 0, 1) := by decide +kernel
theorem dX11_init_417 : decode cX11_init 417 = .ok (.iastore, 1) := by decide +kernel
theorem dX11_init_418 : decode cX11_init 418 = .ok (.dup, 1) := by decide +kernel
theorem dX11_init_419 : decode cX11_init 419 = .ok (.bipush 16, 2) := by decide +kernel
theorem dX11_init_421 : decode cX11_init 421 = .ok (.iconst 0, 1) := by decide +kernel
theorem dX11_init_422 : decode cX11_init 422 = .ok (.iastore, 1) := by decide +kernel
theorem dX11_init_423 : decode cX11_init 423 = .ok (.dup, 1) := by decide +kernel
theorem dX11_init_424 : decode cX11_init 424 = .ok (.bipush 17, 2) := by decide +kernel
theorem dX11_init_426 : decode cX11_init 426 = .ok (.iconst 0, 1) := by decide +kernel
theorem dX11_init_427 : decode cX11_init 427 = .ok (.iastore, 1) := by decide +kernel
theorem dX11_init_428 : decode cX11_init 428 = .ok (.dup, 1) := by decide +kernel
theorem dX11_init_429 : decode cX11_init 429 = .ok (.bipush 18, 2) := by decide +kernel
theorem dX11_init_431 : decode cX11_init 431 = .ok (.iconst 0, 1) := by decide +kernel
theorem dX11_init_432 : decode cX11_init 432 = .ok (.iastore, 1) := by decide +kernel
theorem dX11_init_433 : decode cX11_init 433 = .ok (.dup, 1) := by decide +kernel
theorem dX11_init_434 : decode cX11_init 434 = .ok (.bipush 19, 2) := by decide +kernel
theorem dX11_init_436 : decode cX11_init 436 = .ok (.iconst 0, 1) := by decide +kernel
theorem dX11_init_437 : decode cX11_init 437 = .ok (.iastore, 1) := by decide +kernel
theorem dX11_init_438 : decode cX11_init 438 = .ok (.dup, 1) := by decide +kernel
theorem dX11_init_439 : decode cX11_init 439 = .ok (.bipush 20, 2) := by decide +kernel
theorem dX11_init_441 : decode cX11_init 441 = .ok (.iconst 0, 1) := by decide +kernel
theorem dX11_init_442 : decode cX11_init 442 = .ok (.iastore, 1) := by decide +kernel
theorem dX11_init_443 : decode cX11_init 443 = .ok (.dup, 1) := by decide +kernel
theorem dX11_init_444 : decode cX11_init 444 = .ok (.bipush 21, 2) := by decide +kernel
theorem dX11_init_446 : decode cX11_init 446 = .ok (.iconst 0, 1) := by decide +kernel
theorem dX11_init_447 : decode cX11_init 447 = .ok (.iastore, 1) := by decide +kernel
theorem dX11_init_448 : decode cX11_init 448 = .ok (.dup, 1) := by decide +kernel
theorem dX11_init_449 : decode cX11_init 449 = .ok (.bipush 22, 2) := by decide +kernel
theorem dX11_init_451 : decode cX11_init 451 = .ok (.iconst 0, 1) := by decide +kernel
theorem dX11_init_452 : decode cX11_init 452 = .ok (.iastore, 1) := by decide +kernel
theorem dX11_init_453 : decode cX11_init 453 = .ok (.dup, 1) := by decide +kernel
theorem dX11_init_454 : decode cX11_init 454 = .ok (.bipush 23, 2) := by decide +kernel
theorem dX11_init_456 : decode cX11_init 456 = .ok (.iconst 0, 1) := by decide +kernel
theorem dX11_init_457 : decode cX11_init 457 = .ok (.iastore, 1) := by decide +kernel
theorem dX11_init_458 : decode cX11_init 458 = .ok (.dup, 1) := by decide +kernel
theorem dX11_init_459 : decode cX11_init 459 = .ok (.bipush 24, 2) := by decide +kernel
theorem dX11_init_461 : decode cX11_init 461 = .ok (.iconst 0, 1) := by decide +kernel
theorem dX11_init_462 : decode cX11_init 462 = .ok (.iastore, 1) := by decide +kernel
theorem dX11_init_463 : decode cX11_init 463 = .ok (.dup, 1) := by decide +kernel
theorem dX11_init_464 : decode cX11_init 464 = .ok (.bipush 25, 2) := by decide +kernel
theorem dX11_init_466 : decode cX11_init 466 = .ok (.iconst 0, 1) := by decide +kernel
theorem dX11_init_467 : decode cX11_init 467 = .ok (.iastore, 1) := by decide +kernel
theorem dX11_init_468 : decode cX11_init 468 = .ok (.dup, 1) := by decide +kernel
theorem dX11_init_469 : decode cX11_init 469 = .ok (.bipush 26, 2) := by decide +kernel
theorem dX11_init_471 : decode cX11_init 471 = .ok (.iconst 0, 1) := by decide +kernel
theorem dX11_init_472 : decode cX11_init 472 = .ok (.iastore, 1) := by decide +kernel
theorem dX11_init_473 : decode cX11_init 473 = .ok (.dup, 1) := by decide +kernel
theorem dX11_init_474 : decode cX11_init 474 = .ok (.bipush 27, 2) := by decide +kernel
theorem dX11_init_476 : decode cX11_init 476 = .ok (.iconst 0, 1) := by decide +kernel
theorem dX11_init_477 : decode cX11_init 477 = .ok (.iastore, 1) := by decide +kernel
theorem dX11_init_478 : decode cX11_init 478 = .ok (.dup, 1) := by decide +kernel
theorem dX11_init_479 : decode cX11_init 479 = .ok (.bipush 28, 2) := by decide +kernel
theorem dX11_init_481 : decode cX11_init 481 = .ok (.iconst 0, 1) := by decide +kernel
theorem dX11_init_482 : decode cX11_init 482 = .ok (.iastore, 1) := by decide +kernel
theorem dX11_init_483 : decode cX11_init 483 = .ok (.dup, 1) := by decide +kernel
theorem dX11_init_484 : decode cX11_init 484 = .ok (.bipush 29, 2) := by decide +kernel
theorem dX11_init_486 : decode cX11_init 486 = .ok (.iconst 0, 1) := by decide +kernel
theorem dX11_init_487 : decode cX11_init 487 = .ok (.iastore, 1) := by decide +kernel
theorem dX11_init_488 : decode cX11_init 488 = .ok (.dup, 1) := by decide +kernel
theorem dX11_init_489 : decode cX11_init 489 = .ok (.bipush 30, 2) := by decide +kernel
theorem dX11_init_491 : decode cX11_init 491 = .ok (.iconst 2, 1) := by decide +kernel
theorem dX11_init_492 : decode cX11_init 492 = .ok (.iastore, 1) := by decide +kernel
theorem dX11_init_493 : decode cX11_init 493 = .ok (.dup, 1) := by decide +kernel
theorem dX11_init_494 : decode cX11_init 494 = .ok (.bipush 31, 2) := by decide +kernel
theorem dX11_init_496 : decode cX11_init 496 = .ok (.iconst 2, 1) := by decide +kernel
theorem dX11_init_497 : decode cX11_init 497 = .ok (.iastore, 1) := by decide +kernel
theorem dX11_init_498 : decode cX11_init 498 = .ok (.dup, 1) := by decide +kernel
theorem dX11_init_499 : decode cX11_init 499 = .ok (.bipush 32, 2) := by decide +kernel
theorem dX11_init_501 : decode cX11_init 501 = .ok (.iconst 2, 1) := by decide +kernel
theorem dX11_init_502 : decode cX11_init 502 = .ok (.iastore, 1) := by decide +kernel
theorem dX11_init_503 : decode cX11_init 503 = .ok (.dup, 1) := by decide +kernel
theorem dX11_init_504 : decode cX11_init 504 = .ok (.bipush 33, 2) := by decide +kernel
theorem dX11_init_506 : decode cX11_init 506 = .ok (.iconst 0, 1) := by decide +kernel
theorem dX11_init_507 : decode cX11_init 507 = .ok (.iastore, 1) := by decide +kernel
theorem dX11_init_508 : decode cX11_init 508 = .ok (.dup, 1) := by decide +kernel
theorem dX11_init_509 : decode cX11_init 509 = .ok (.bipush 34, 2) := by decide +kernel
theorem dX11_init_511 : decode cX11_init 511 = .ok (.iconst 0, 1) := by decide +kernel
theorem dX11_init_512 : decode cX11_init 512 = .ok (.iastore, 1) := by decide +kernel
theorem dX11_init_513 : decode cX11_init 513 = .ok (.dup, 1) := by decide +kernel
theorem dX11_init_514 : decode cX11_init 514 = .ok (.bipush 35, 2) := by decide +kernel
theorem dX11_init_516 : decode cX11_init 516 = .ok (.iconst 0, 1) := by decide +kernel
theorem dX11_init_517 : decode cX11_init 517 = .ok (.iastore, 1) := by decide +kernel
theorem dX11_init_518 : decode cX11_init 518 = .ok (.dup, 1) := by decide +kernel
theorem dX11_init_519 : decode cX11_init 519 = .ok (.bipush 36, 2) := by decide +kernel
theorem dX11_init_521 : decode cX11_init 521 = .ok (.iconst 0, 1) := by decide +kernel
theorem dX11_init_522 : decode cX11_init 522 = .ok (.iastore, 1) := by decide +kernel
theorem dX11_init_523 : decode cX11_init 523 = .ok (.dup, 1) := by decide +kernel
theorem dX11_init_524 : decode cX11_init 524 = .ok (.bipush 37, 2) := by decide +kernel
theorem dX11_init_526 : decode cX11_init 526 = .ok (.iconst 0, 1) := by decide +kernel
theorem dX11_init_527 : decode cX11_init 527 = .ok (.iastore, 1) := by decide +kernel
theorem dX11_init_528 : decode cX11_init 528 = .ok (.dup, 1) := by decide +kernel
theorem dX11_init_529 : decode cX11_init 529 = .ok (.bipush 38, 2) := by decide +kernel
theorem dX11_init_531 : decode cX11_init 531 = .ok (.iconst 2, 1) := by decide +kernel
theorem dX11_init_532 : decode cX11_init 532 = .ok (.iastore, 1) := by decide +kernel
theorem dX11_init_533 : decode cX11_init 533 = .ok (.dup, 1) := by decide +kernel
theorem dX11_init_534 : decode cX11_init 534 = .ok (.bipush 39, 2) := by decide +kernel
theorem dX11_init_536 : decode cX11_init 536 = .ok (.iconst 2, 1) := by decide +kernel
theorem dX11_init_537 : decode cX11_init 537 = .ok (.iastore, 1) := by decide +kernel
theorem dX11_init_538 : decode cX11_init 538 = .ok (.dup, 1) := by decide +kernel
theorem dX11_init_539 : decode cX11_init 539 = .ok (.bipush 40, 2) := by decide +kernel
theorem dX11_init_541 : decode cX11_init 541 = .ok (.iconst 2, 1) := by decide +kernel
theorem dX11_init_542 : decode cX11_init 542 = .ok (.iastore, 1) := by decide +kernel
theorem dX11_init_543 : decode cX11_init 543 = .ok (.dup, 1) := by decide +kernel
theorem dX11_init_544 : decode cX11_init 544 = .ok (.bipush 41, 2) := by decide +kernel
theorem dX11_init_546 : decode cX11_init 546 = .ok (.iconst 0, 1) := by decide +kernel
theorem dX11_init_547 : decode cX11_init 547 = .ok (.iastore, 1) := by decide +kernel
theorem dX11_init_548 : decode cX11_init 548 = .ok (.dup, 1) := by decide +kernel
theorem dX11_init_549 : decode cX11_init 549 = .ok (.bipush 42, 2) := by decide +kernel
theorem dX11_init_551 : decode cX11_init 551 = .ok (.iconst 0, 1) := by decide +kernel
theorem dX11_init_552 : decode cX11_init 552 = .ok (.iastore, 1) := by decide +kernel
theorem dX11_init_553 : decode cX11_init 553 = .ok (.dup, 1) := by decide +kernel
theorem dX11_init_554 : decode cX11_init 554 = .ok (.bipush 43, 2) := by decide +kernel
theorem dX11_init_556 : decode cX11_init 556 = .ok (.iconst 0, 1) := by decide +kernel
theorem dX11_init_557 : decode cX11_init 557 = .ok (.iastore, 1) := by decide +kernel
theorem dX11_init_558 : decode cX11_init 558 = .ok (.dup, 1) := by decide +kernel
theorem dX11_init_559 : decode cX11_init 559 = .ok (.bipush 44, 2) := by decide +kernel
theorem dX11_init_561 : decode cX11_init 561 = .ok (.iconst 0, 1) := by decide +kernel
theorem dX11_init_562 : decode cX11_init 562 = .ok (.iastore, 1) := by decide +kernel
theorem dX11_init_563 : decode cX11_init 563 = .ok (.dup, 1) := by decide +kernel
theorem dX11_init_564 : decode cX11_init 564 = .ok (.bipush 45, 2) := by decide +kernel
theorem dX11_init_566 : decode cX11_init 566 = .ok (.iconst 0, 1) := by decide +kernel
theorem dX11_init_567 : decode cX11_init 567 = .ok (.iastore, 1) := by decide +kernel
theorem dX11_init_568 : decode cX11_init 568 = .ok (.dup, 1) := by decide +kernel
theorem dX11_init_569 : decode cX11_init 569 = .ok (.bipush 46, 2) := by decide +kernel
theorem dX11_init_571 : decode cX11_init 571 = .ok (.iconst 2, 1) := by decide +kernel
theorem dX11_init_572 : decode cX11_init 572 = .ok (.iastore, 1) := by decide +kernel
theorem dX11_init_573 : decode cX11_init 573 = .ok (.dup, 1) := by decide +kernel
theorem dX11_init_574 : decode cX11_init 574 = .ok (.bipush 47, 2) := by decide +kernel
theorem dX11_init_576 : decode cX11_init 576 = .ok (.iconst 2, 1) := by decide +kernel
theorem dX11_init_577 : decode cX11_init 577 = .ok (.iastore, 1) := by decide +kernel
theorem dX11_init_578 : decode cX11_init 578 = .ok (.dup, 1) := by decide +kernel
theorem dX11_init_579 : decode cX11_init 579 = .ok (.bipush 48, 2) := by decide +kernel
theorem dX11_init_581 : decode cX11_init 581 = .ok (.iconst 2, 1) := by decide +kernel
theorem dX11_init_582 : decode cX11_init 582 = .ok (.iastore, 1) := by decide +kernel
theorem dX11_init_583 : decode cX11_init 583 = .ok (.dup, 1) := by decide +kernel
theorem dX11_init_584 : decode cX11_init 584 = .ok (.bipush 49, 2) := by decide +kernel
theorem dX11_init_586 : decode cX11_init 586 = .ok (.iconst 0, 1) := by decide +kernel
theorem dX11_init_587 : decode cX11_init 587 = .ok (.iastore, 1) := by decide +kernel
theorem dX11_init_588 : decode cX11_init 588 = .ok (.dup, 1) := by decide +kernel
theorem dX11_init_589 : decode cX11_init 589 = .ok (.bipush 50, 2) := by decide +kernel
theorem dX11_init_591 : decode cX11_init 591 = .ok (.iconst 0, 1) := by decide +kernel
theorem dX11_init_592 : decode cX11_init 592 = .ok (.iastore, 1) := by decide +kernel
theorem dX11_init_593 : decode cX11_init 593 = .ok (.dup, 1) := by decide +kernel
theorem dX11_init_594 : decode cX11_init 594 = .ok (.bipush 51, 2) := by decide +kernel
theorem dX11_init_596 : decode cX11_init 596 = .ok (.iconst 0, 1) := by decide +kernel
theorem dX11_init_597 : decode cX11_init 597 = .ok (.iastore, 1) := by decide +kernel
theorem dX11_init_598 : decode cX11_init 598 = .ok (.dup, 1) := by decide +kernel
theorem dX11_init_599 : decode cX11_init 599 = .ok (.bipush 52, 2) := by decide +kernel
theorem dX11_init_601 : decode cX11_init 601 = .ok (.iconst 0, 1) := by decide +kernel
theorem dX11_init_602 : decode cX11_init 602 = .ok (.iastore, 1) := by decide +kernel
theorem dX11_init_603 : decode cX11_init 603 = .ok (.dup, 1) := by decide +kernel
theorem dX11_init_604 : decode cX11_init 604 = .ok (.bipush 53, 2) := by decide +kernel
theorem dX11_init_606 : decode cX11_init 606 = .ok (.iconst 0, 1) := by decide +kernel
theorem dX11_init_607 : decode cX11_init 607 = .ok (.iastore, 1) := by decide +kernel
theorem dX11_init_608 : decode cX11_init 608 = .ok (.dup, 1) := by decide +kernel
theorem dX11_init_609 : decode cX11_init 609 = .ok (.bipush 54, 2) := by decide +kernel
theorem dX11_init_611 : decode cX11_init 611 = .ok (.iconst 0, 1) := by decide +kernel
theorem dX11_init_612 : decode cX11_init 612 = .ok (.iastore, 1) := by decide +kernel
theorem dX11_init_613 : decode cX11_init 613 = .ok (.dup, 1) := by decide +kernel
theorem dX11_init_614 : decode cX11_init 614 = .ok (.bipush 55, 2) := by decide +kernel
theorem dX11_init_616 : decode cX11_init 616 = .ok (.iconst 0, 1) := by decide +kernel
theorem dX11_init_617 : decode cX11_init 617 = .ok (.iastore, 1) := by decide +kernel
theorem dX11_init_618 : decode cX11_init 618 = .ok (.dup, 1) := by decide +kernel
theorem dX11_init_619 : decode cX11_init 619 = .ok (.bipush 56, 2) := by decide +kernel
theorem dX11_init_621 : decode cX11_init 621 = .ok (.iconst 0, 1) := by decide +kernel
theorem dX11_init_622 : decode cX11_init 622 = .ok (.iastore, 1) := by decide +kernel
theorem dX11_init_623 : decode cX11_init 623 = .ok (.dup, 1) := by decide +kernel
theorem dX11_init_624 : decode cX11_init 624 = .ok (.bipush 57, 2) := by decide +kernel
theorem dX11_init_626 : decode cX11_init 626 = .ok (.iconst 0, 1) := by decide +kernel
theorem dX11_init_627 : decode cX11_init 627 = .ok (.iastore, 1) := by decide +kernel
theorem dX11_init_628 : decode cX11_init 628 = .ok (.dup, 1) := by decide +kernel
theorem dX11_init_629 : decode cX11_init 629 = .ok (.bipush 58, 2) := by decide +kernel
theorem dX11_init_631 : decode cX11_init 631 = .ok (.iconst 0, 1) := by decide +kernel
theorem dX11_init_632 : decode cX11_init 632 = .ok (.iastore, 1) := by decide +kernel
theorem dX11_init_633 : decode cX11_init 633 = .ok (.dup, 1) := by decide +kernel
theorem dX11_init_634 : decode cX11_init 634 = .ok (.bipush 59, 2) := by decide +kernel
theorem dX11_init_636 : decode cX11_init 636 = .ok (.iconst 0, 1) := by decide +kernel
theorem dX11_init_637 : decode cX11_init 637 = .ok (.iastore, 1) := by decide +kernel
theorem dX11_init_638 : decode cX11_init 638 = .ok (.dup, 1) := by decide +kernel
theorem dX11_init_639 : decode cX11_init 639 = .ok (.bipush 60, 2) := by decide +kernel
theorem dX11_init_641 : decode cX11_init 641 = .ok (.iconst 3, 1) := by decide +kernel
theorem dX11_init_642 : decode cX11_init 642 = .ok (.iastore, 1) := by decide +kernel
theorem dX11_init_643 : decode cX11_init 643 = .ok (.dup, 1) := by decide +kernel
theorem dX11_init_644 : decode cX11_init 644 = .ok (.bipush 61, 2) := by decide +kernel
theorem dX11_init_646 : decode cX11_init 646 = .ok (.iconst 3, 1) := by decide +kernel
theorem dX11_init_647 : decode cX11_init 647 = .ok (.iastore, 1) := by decide +kernel
theorem dX11_init_648 : decode cX11_init 648 = .ok (.dup, 1) := by decide +kernel
theorem dX11_init_649 : decode cX11_init 649 = .ok (.bipush 62, 2) := by decide +kernel
theorem dX11_init_651 : decode cX11_init 651 = .ok (.iconst 3, 1) := by decide +kernel
theorem dX11_init_652 : decode cX11_init 652 = .ok (.iastore, 1) := by decide +kernel
theorem dX11_init_653 : decode cX11_init 653 = .ok (.dup, 1) := by decide +kernel
theorem dX11_init_654 : decode cX11_init 654 = .ok (.bipush 63, 2) := by decide +kernel
theorem dX11_init_656 : decode cX11_init 656 = .ok (.iconst 0, 1) := by decide +kernel
theorem dX11_init_657 : decode cX11_init 657 = .ok (.iastore, 1) := by decide +kernel
theorem dX11_init_658 : decode cX11_init 658 = .ok (.dup, 1) := by decide +kernel
theorem dX11_init_659 : decode cX11_init 659 = .ok (.bipush 64, 2) := by decide +kernel
theorem dX11_init_661 : decode cX11_init 661 = .ok (.iconst 0, 1) := by decide +kernel
theorem dX11_init_662 : decode cX11_init 662 = .ok (.iastore, 1) := by decide +kernel
theorem dX11_init_663 : decode cX11_init 663 = .ok (.dup, 1) := by decide +kernel
theorem dX11_init_664 : decode cX11_init 664 = .ok (.bipush 65, 2) := by decide +kernel
theorem dX11_init_666 : decode cX11_init 666 = .ok (.iconst 0, 1) := by decide +kernel
theorem dX11_init_667 : decode cX11_init 667 = .ok (.iastore, 1) := by decide +kernel
theorem dX11_init_668 : decode cX11_init 668 = .ok (.dup, 1) := by decide +kernel
theorem dX11_init_669 : decode cX11_init 669 = .ok (.bipush 66, 2) := by decide +kernel
theorem dX11_init_671 : decode cX11_init 671 = .ok (.iconst 0, 1) := by decide +kernel
theorem dX11_init_672 : decode cX11_init 672 = .ok (.iastore, 1) := by decide +kernel
theorem dX11_init_673 : decode cX11_init 673 = .ok (.dup, 1) := by decide +kernel
theorem dX11_init_674 : decode cX11_init 674 = .ok (.bipush 67, 2) := by decide +kernel
theorem dX11_init_676 : decode cX11_init 676 = .ok (.iconst 0, 1) := by decide +kernel
theorem dX11_init_677 : decode cX11_init 677 = .ok (.iastore, 1) := by decide +kernel
theorem dX11_init_678 : decode cX11_init 678 = .ok (.dup, 1) := by decide +kernel
theorem dX11_init_679 : decode cX11_init 679 = .ok (.bipush 68, 2) := by decide +kernel
theorem dX11_init_681 : decode cX11_init 681 = .ok (.iconst 2, 1) := by decide +kernel
theorem dX11_init_682 : decode cX11_init 682 = .ok (.iastore, 1) := by decide +kernel
theorem dX11_init_683 : decode cX11_init 683 = .ok (.dup, 1) := by decide +kernel
theorem dX11_init_684 : decode cX11_init 684 = .ok (.bipush 69, 2) := by decide +kernel
theorem dX11_init_686 : decode cX11_init 686 = .ok (.iconst 2, 1) := by decide +kernel
theorem dX11_init_687 : decode cX11_init 687 = .ok (.iastore, 1) := by decide +kernel
theorem dX11_init_688 : decode cX11_init 688 = .ok (.dup, 1) := by decide +kernel
theorem dX11_init_689 : decode cX11_init 689 = .ok (.bipush 70, 2) := by decide +kernel
theorem dX11_init_691 : decode cX11_init 691 = .ok (.iconst 2, 1) := by decide +kernel
theorem dX11_init_692 : decode cX11_init 692 = .ok (.iastore, 1) := by decide +kernel
theorem dX11_init_693 : decode cX11_init 693 = .ok (.dup, 1) := by decide +kernel
theorem dX11_init_694 : decode cX11_init 694 = .ok (.bipush 71, 2) := by decide +kernel
theorem dX11_init_696 : decode cX11_init 696 = .ok (.iconst 0, 1) := by decide +kernel
theorem dX11_init_697 : decode cX11_init 697 = .ok (.iastore, 1) := by decide +kernel
theorem dX11_init_698 : decode cX11_init 698 = .ok (.dup, 1) := by decide +kernel
theorem dX11_init_699 : decode cX11_init 699 = .ok (.bipush 72, 2) := by decide +kernel
theorem dX11_init_701 : decode cX11_init 701 = .ok (.iconst 0, 1) := by decide +kernel
theorem dX11_init_702 : decode cX11_init 702 = .ok (.iastore, 1) := by decide +kernel
theorem dX11_init_703 : decode cX11_init 703 = .ok (.dup, 1) := by decide +kernel
theorem dX11_init_704 : decode cX11_init 704 = .ok (.bipush 73, 2) := by decide +kernel
theorem dX11_init_706 : decode cX11_init 706 = .ok (.iconst 0, 1) := by decide +kernel
theorem dX11_init_707 : decode cX11_init 707 = .ok (.iastore, 1) := by decide +kernel
theorem dX11_init_708 : decode cX11_init 708 = .ok (.dup, 1) := by decide +kernel
theorem dX11_init_709 : decode cX11_init 709 = .ok (.bipush 74, 2) := by decide +kernel
theorem dX11_init_711 : decode cX11_init 711 = .ok (.iconst 0, 1) := by decide +kernel
theorem dX11_init_712 : decode cX11_init 712 = .ok (.iastore, 1) := by decide +kernel
theorem dX11_init_713 : decode cX11_init 713 = .ok (.dup, 1) := by decide +kernel
theorem dX11_init_714 : decode cX11_init 714 = .ok (.bipush 75, 2) := by decide +kernel
theorem dX11_init_716 : decode cX11_init 716 = .ok (.iconst 0, 1) := by decide +kernel
theorem dX11_init_717 : decode cX11_init 717 = .ok (.iastore, 1) := by decide +kernel
theorem dX11_init_718 : decode cX11_init 718 = .ok (.dup, 1) := by decide +kernel
theorem dX11_init_719 : decode cX11_init 719 = .ok (.bipush 76, 2) := by decide +kernel
theorem dX11_init_721 : decode cX11_init 721 = .ok (.iconst 1, 1) := by decide +kernel
theorem dX11_init_722 : decode cX11_init 722 = .ok (.iastore, 1) := by decide +kernel
theorem dX11_init_723 : decode cX11_init 723 = .ok (.dup, 1) := by decide +kernel
theorem dX11_init_724 : decode cX11_init 724 = .ok (.bipush 77, 2) := by decide +kernel
theorem dX11_init_726 : decode cX11_init 726 = .ok (.iconst 1, 1) := by decide +kernel
theorem dX11_init_727 : decode cX11_init 727 = .ok (.iastore, 1) := by decide +kernel
theorem dX11_init_728 : decode cX11_init 728 = .ok (.dup, 1) := by decide +kernel
theorem dX11_init_729 : decode cX11_init 729 = .ok (.bipush 78, 2) := by decide +kernel
theorem dX11_init_731 : decode cX11_init 731 = .ok (.iconst 1, 1) := by decide +kernel
theorem dX11_init_732 : decode cX11_init 732 = .ok (.iastore, 1) := by decide +kernel
theorem dX11_init_733 : decode cX11_init 733 = .ok (.dup, 1) := by decide +kernel
theorem dX11_init_734 : decode cX11_init 734 = .ok (.bipush 79, 2) := by decide +kernel
theorem dX11_init_736 : decode cX11_init 736 = .ok (.iconst 0, 1) := by decide +kernel
theorem dX11_init_737 : decode cX11_init 737 = .ok (.iastore, 1) := by decide +kernel
theorem dX11_init_738 : decode cX11_init 738 = .ok (.dup, 1) := by decide +kernel
theorem dX11_init_739 : decode cX11_init 739 = .ok (.bipush 80, 2) := by decide +kernel
theorem dX11_init_741 : decode cX11_init 741 = .ok (.iconst 0, 1) := by decide +kernel
theorem dX11_init_742 : decode cX11_init 742 = .ok (.iastore, 1) := by decide +kernel
theorem dX11_init_743 : decode cX11_init 743 = .ok (.dup, 1) := by decide +kernel
theorem dX11_init_744 : decode cX11_init 744 = .ok (.bipush 81, 2) := by decide +kernel
theorem dX11_init_746 : decode cX11_init 746 = .ok (.iconst 0, 1) := by decide +kernel
theorem dX11_init_747 : decode cX11_init 747 = .ok (.iastore, 1) := by decide +kernel
theorem dX11_init_748 : decode cX11_init 748 = .ok (.dup, 1) := by decide +kernel
theorem dX11_init_749 : decode cX11_init 749 = .ok (.bipush 82, 2) := by decide +kernel
theorem dX11_init_751 : decode cX11_init 751 = .ok (.iconst 0, 1) := by decide +kernel
theorem dX11_init_752 : decode cX11_init 752 = .ok (.iastore, 1) := by decide +kernel
theorem dX11_init_753 : decode cX11_init 753 = .ok (.dup, 1) := by decide +kernel
theorem dX11_init_754 : decode cX11_init 754 = .ok (.bipush 83, 2) := by decide +kernel
theorem dX11_init_756 : decode cX11_init 756 = .ok (.iconst 0, 1) := by decide +kernel
theorem dX11_init_757 : decode cX11_init 757 = .ok (.iastore, 1) := by decide +kernel
theorem dX11_init_758 : decode cX11_init 758 = .ok (.dup, 1) := by decide +kernel
theorem dX11_init_759 : decode cX11_init 759 = .ok (.bipush 84, 2) := by decide +kernel
theorem dX11_init_761 : decode cX11_init 761 = .ok (.iconst 0, 1) := by decide +kernel
theorem dX11_init_762 : decode cX11_init 762 = .ok (.iastore, 1) := by decide +kernel
theorem dX11_init_763 : decode cX11_init 763 = .ok (.dup, 1) := by decide +kernel
theorem dX11_init_764 : decode cX11_init 764 = .ok (.bipush 85, 2) := by decide +kernel
theorem dX11_init_766 : decode cX11_init 766 = .ok (.iconst 0, 1) := by decide +kernel
theorem dX11_init_767 : decode cX11_init 767 = .ok (.iastore, 1) := by decide +kernel
theorem dX11_init_768 : decode cX11_init 768 = .ok (.dup, 1) := by decide +kernel
theorem dX11_init_769 : decode cX11_init 769 = .ok (.bipush 86, 2) := by decide +kernel
theorem dX11_init_771 : decode cX11_init 771 = .ok (.iconst 0, 1) := by decide +kernel
theorem dX11_init_772 : decode cX11_init 772 = .ok (.iastore, 1) := by decide +kernel
theorem dX11_init_773 : decode cX11_init 773 = .ok (.dup, 1) := by decide +kernel
theorem dX11_init_774 : decode cX11_init 774 = .ok (.bipush 87, 2) := by decide +kernel
theorem dX11_init_776 : decode cX11_init 776 = .ok (.iconst 0, 1) := by decide +kernel
theorem dX11_init_777 : decode cX11_init 777 = .ok (.iastore, 1) := by decide +kernel
theorem dX11_init_778 : decode cX11_init 778 = .ok (.dup, 1) := by decide +kernel
theorem dX11_init_779 : decode cX11_init 779 = .ok (.bipush 88, 2) := by decide +kernel
theorem dX11_init_781 : decode cX11_init 781 = .ok (.iconst 0, 1) := by decide +kernel
theorem dX11_init_782 : decode cX11_init 782 = .ok (.iastore, 1) := by decide +kernel
theorem dX11_init_783 : decode cX11_init 783 = .ok (.dup, 1) := by decide +kernel
theorem dX11_init_784 : decode cX11_init 784 = .ok (.bipush 89, 2) := by decide +kernel
theorem dX11_init_786 : decode cX11_init 786 = .ok (.iconst 0, 1) := by decide +kernel
theorem dX11_init_787 : decode cX11_init 787 = .ok (.iastore, 1) := by decide +kernel
theorem dX11_init_788 : decode cX11_init 788 = .ok (.dup, 1) := by decide +kernel
theorem dX11_init_789 : decode cX11_init 789 = .ok (.bipush 90, 2) := by decide +kernel
theorem dX11_init_791 : decode cX11_init 791 = .ok (.iconst 0, 1) := by decide +kernel
theorem dX11_init_792 : decode cX11_init 792 = .ok (.iastore, 1) := by decide +kernel
theorem dX11_init_793 : decode cX11_init 793 = .ok (.dup, 1) := by decide +kernel
theorem dX11_init_794 : decode cX11_init 794 = .ok (.bipush 91, 2) := by decide +kernel
theorem dX11_init_796 : decode cX11_init 796 = .ok (.iconst 0, 1) := by decide +kernel
theorem dX11_init_797 : decode cX11_init 797 = .ok (.iastore, 1) := by decide +kernel
theorem dX11_init_798 : decode cX11_init 798 = .ok (.dup, 1) := by decide +kernel
theorem dX11_init_799 : decode cX11_init 799 = .ok (.bipush 92, 2) := by decide +kernel
theorem dX11_init_801 : decode cX11_init 801 = .ok (.iconst 0, 1) := by decide +kernel
theorem dX11_init_802 : decode cX11_init 802 = .ok (.iastore, 1) := by decide +kernel
theorem dX11_init_803 : decode cX11_init 803 = .ok (.dup, 1) := by decide +kernel
theorem dX11_init_804 : decode cX11_init 804 = .ok (.bipush 93, 2) := by decide +kernel
theorem dX11_init_806 : decode cX11_init 806 = .ok (.iconst 0, 1) := by decide +kernel
theorem dX11_init_807 : decode cX11_init 807 = .ok (.iastore, 1) := by decide +kernel
