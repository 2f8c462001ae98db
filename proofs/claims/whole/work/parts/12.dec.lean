theorem d_R_crew_0 : decode mt_R_crew.2.1 0 = .ok (.bipush (-9), 2) := by decide +kernel
theorem d_R_crew_2 : decode mt_R_crew.2.1 2 = .ok (.istore_n 1, 1) := by decide +kernel
theorem d_R_crew_3 : decode mt_R_crew.2.1 3 = .ok (.bipush 60, 2) := by decide +kernel
theorem d_R_crew_5 : decode mt_R_crew.2.1 5 = .ok (.istore_n 2, 1) := by decide +kernel
theorem d_R_crew_6 : decode mt_R_crew.2.1 6 = .ok (.iconst 0, 1) := by decide +kernel
theorem d_R_crew_7 : decode mt_R_crew.2.1 7 = .ok (.istore_n 3, 1) := by decide +kernel
theorem d_R_crew_8 : decode mt_R_crew.2.1 8 = .ok (.iload_n 3, 1) := by decide +kernel
theorem d_R_crew_9 : decode mt_R_crew.2.1 9 = .ok (.aload_n 0, 1) := by decide +kernel
theorem d_R_crew_10 : decode mt_R_crew.2.1 10 = .ok (.getfield 26, 3) := by decide +kernel
theorem d_R_crew_13 : decode mt_R_crew.2.1 13 = .ok (.invokevirtual 178, 3) := by decide +kernel
theorem d_R_crew_16 : decode mt_R_crew.2.1 16 = .ok (.if_icmp .gt 64, 3) := by decide +kernel
theorem d_R_crew_19 : decode mt_R_crew.2.1 19 = .ok (.iload_n 1, 1) := by decide +kernel
theorem d_R_crew_20 : decode mt_R_crew.2.1 20 = .ok (.bipush (-9), 2) := by decide +kernel
theorem d_R_crew_22 : decode mt_R_crew.2.1 22 = .ok (.if_icmp .eq 14, 3) := by decide +kernel
theorem d_R_crew_25 : decode mt_R_crew.2.1 25 = .ok (.iload_n 3, 1) := by decide +kernel
theorem d_R_crew_26 : decode mt_R_crew.2.1 26 = .ok (.invokestatic 184, 3) := by decide +kernel
theorem d_R_crew_29 : decode mt_R_crew.2.1 29 = .ok (.iload_n 1, 1) := by decide +kernel
theorem d_R_crew_30 : decode mt_R_crew.2.1 30 = .ok (.invokestatic 184, 3) := by decide +kernel
theorem d_R_crew_33 : decode mt_R_crew.2.1 33 = .ok (.if_icmp .ge 7, 3) := by decide +kernel
theorem d_R_crew_36 : decode mt_R_crew.2.1 36 = .ok (.iconst 1, 1) := by decide +kernel
theorem d_R_crew_37 : decode mt_R_crew.2.1 37 = .ok (.goto 4, 3) := by decide +kernel
theorem d_R_crew_40 : decode mt_R_crew.2.1 40 = .ok (.iconst 0, 1) := by decide +kernel
theorem d_R_crew_41 : decode mt_R_crew.2.1 41 = .ok (.istore 4, 2) := by decide +kernel
theorem d_R_crew_43 : decode mt_R_crew.2.1 43 = .ok (.aload_n 0, 1) := by decide +kernel
theorem d_R_crew_44 : decode mt_R_crew.2.1 44 = .ok (.iload_n 3, 1) := by decide +kernel
theorem d_R_crew_45 : decode mt_R_crew.2.1 45 = .ok (.iload 4, 2) := by decide +kernel
theorem d_R_crew_47 : decode mt_R_crew.2.1 47 = .ok (.ifCond .eq 7, 3) := by decide +kernel
theorem d_R_crew_50 : decode mt_R_crew.2.1 50 = .ok (.iload_n 2, 1) := by decide +kernel
theorem d_R_crew_51 : decode mt_R_crew.2.1 51 = .ok (.goto 6, 3) := by decide +kernel
theorem d_R_crew_54 : decode mt_R_crew.2.1 54 = .ok (.iload_n 2, 1) := by decide +kernel
theorem d_R_crew_55 : decode mt_R_crew.2.1 55 = .ok (.iconst 1, 1) := by decide +kernel
theorem d_R_crew_56 : decode mt_R_crew.2.1 56 = .ok (.isub, 1) := by decide +kernel
theorem d_R_crew_57 : decode mt_R_crew.2.1 57 = .ok (.invokevirtual 181, 3) := by decide +kernel
theorem d_R_crew_60 : decode mt_R_crew.2.1 60 = .ok (.istore 5, 2) := by decide +kernel
theorem d_R_crew_62 : decode mt_R_crew.2.1 62 = .ok (.iload 5, 2) := by decide +kernel
theorem d_R_crew_64 : decode mt_R_crew.2.1 64 = .ok (.bipush (-9), 2) := by decide +kernel
theorem d_R_crew_66 : decode mt_R_crew.2.1 66 = .ok (.if_icmp .eq 8, 3) := by decide +kernel
theorem d_R_crew_69 : decode mt_R_crew.2.1 69 = .ok (.iload_n 3, 1) := by decide +kernel
theorem d_R_crew_70 : decode mt_R_crew.2.1 70 = .ok (.istore_n 1, 1) := by decide +kernel
theorem d_R_crew_71 : decode mt_R_crew.2.1 71 = .ok (.iload 5, 2) := by decide +kernel
theorem d_R_crew_73 : decode mt_R_crew.2.1 73 = .ok (.istore_n 2, 1) := by decide +kernel
theorem d_R_crew_74 : decode mt_R_crew.2.1 74 = .ok (.iinc 3 1, 3) := by decide +kernel
theorem d_R_crew_77 : decode mt_R_crew.2.1 77 = .ok (.goto (-69), 3) := by decide +kernel
theorem d_R_crew_80 : decode mt_R_crew.2.1 80 = .ok (.iload_n 1, 1) := by decide +kernel
theorem d_R_crew_81 : decode mt_R_crew.2.1 81 = .ok (.ireturn, 1) := by decide +kernel
theorem d_R_judge_0 : decode mt_R_judge.2.1 0 = .ok (.iload_n 1, 1) := by decide +kernel
theorem d_R_judge_1 : decode mt_R_judge.2.1 1 = .ok (.iconst 1, 1) := by decide +kernel
theorem d_R_judge_2 : decode mt_R_judge.2.1 2 = .ok (.if_icmp .lt 14, 3) := by decide +kernel
theorem d_R_judge_5 : decode mt_R_judge.2.1 5 = .ok (.iload_n 1, 1) := by decide +kernel
theorem d_R_judge_6 : decode mt_R_judge.2.1 6 = .ok (.iconst 3, 1) := by decide +kernel
theorem d_R_judge_7 : decode mt_R_judge.2.1 7 = .ok (.if_icmp .gt 9, 3) := by decide +kernel
theorem d_R_judge_10 : decode mt_R_judge.2.1 10 = .ok (.lload_n 2, 1) := by decide +kernel
theorem d_R_judge_11 : decode mt_R_judge.2.1 11 = .ok (.lconst 0, 1) := by decide +kernel
theorem d_R_judge_12 : decode mt_R_judge.2.1 12 = .ok (.lcmp, 1) := by decide +kernel
theorem d_R_judge_13 : decode mt_R_judge.2.1 13 = .ok (.ifCond .ge 6, 3) := by decide +kernel
theorem d_R_judge_16 : decode mt_R_judge.2.1 16 = .ok (.bipush (-2), 2) := by decide +kernel
theorem d_R_judge_18 : decode mt_R_judge.2.1 18 = .ok (.ireturn, 1) := by decide +kernel
theorem d_R_judge_19 : decode mt_R_judge.2.1 19 = .ok (.ldc 189, 2) := by decide +kernel
theorem d_R_judge_21 : decode mt_R_judge.2.1 21 = .ok (.iload_n 1, 1) := by decide +kernel
theorem d_R_judge_22 : decode mt_R_judge.2.1 22 = .ok (.invokestatic 190, 3) := by decide +kernel
theorem d_R_judge_25 : decode mt_R_judge.2.1 25 = .ok (.lstore 4, 2) := by decide +kernel
theorem d_R_judge_27 : decode mt_R_judge.2.1 27 = .ok (.lload_n 2, 1) := by decide +kernel
theorem d_R_judge_28 : decode mt_R_judge.2.1 28 = .ok (.lload 4, 2) := by decide +kernel
theorem d_R_judge_30 : decode mt_R_judge.2.1 30 = .ok (.lcmp, 1) := by decide +kernel
theorem d_R_judge_31 : decode mt_R_judge.2.1 31 = .ok (.ifCond .lt 6, 3) := by decide +kernel
theorem d_R_judge_34 : decode mt_R_judge.2.1 34 = .ok (.bipush (-2), 2) := by decide +kernel
theorem d_R_judge_36 : decode mt_R_judge.2.1 36 = .ok (.ireturn, 1) := by decide +kernel
theorem d_R_judge_37 : decode mt_R_judge.2.1 37 = .ok (.aload_n 0, 1) := by decide +kernel
theorem d_R_judge_38 : decode mt_R_judge.2.1 38 = .ok (.getfield 30, 3) := by decide +kernel
theorem d_R_judge_41 : decode mt_R_judge.2.1 41 = .ok (.aload_n 0, 1) := by decide +kernel
theorem d_R_judge_42 : decode mt_R_judge.2.1 42 = .ok (.getfield 26, 3) := by decide +kernel
theorem d_R_judge_45 : decode mt_R_judge.2.1 45 = .ok (.invokevirtual 79, 3) := by decide +kernel
theorem d_R_judge_48 : decode mt_R_judge.2.1 48 = .ok (.iconst 0, 1) := by decide +kernel
theorem d_R_judge_49 : decode mt_R_judge.2.1 49 = .ok (.istore 6, 2) := by decide +kernel
theorem d_R_judge_51 : decode mt_R_judge.2.1 51 = .ok (.iload 6, 2) := by decide +kernel
theorem d_R_judge_53 : decode mt_R_judge.2.1 53 = .ok (.iload_n 1, 1) := by decide +kernel
theorem d_R_judge_54 : decode mt_R_judge.2.1 54 = .ok (.if_icmp .ge 36, 3) := by decide +kernel
theorem d_R_judge_57 : decode mt_R_judge.2.1 57 = .ok (.lload 4, 2) := by decide +kernel
theorem d_R_judge_59 : decode mt_R_judge.2.1 59 = .ok (.ldc2_w 194, 3) := by decide +kernel
theorem d_R_judge_62 : decode mt_R_judge.2.1 62 = .ok (.ldiv, 1) := by decide +kernel
theorem d_R_judge_63 : decode mt_R_judge.2.1 63 = .ok (.lstore 4, 2) := by decide +kernel
theorem d_R_judge_65 : decode mt_R_judge.2.1 65 = .ok (.aload_n 0, 1) := by decide +kernel
theorem d_R_judge_66 : decode mt_R_judge.2.1 66 = .ok (.lload_n 2, 1) := by decide +kernel
theorem d_R_judge_67 : decode mt_R_judge.2.1 67 = .ok (.lload 4, 2) := by decide +kernel
theorem d_R_judge_69 : decode mt_R_judge.2.1 69 = .ok (.ldiv, 1) := by decide +kernel
theorem d_R_judge_70 : decode mt_R_judge.2.1 70 = .ok (.ldc2_w 194, 3) := by decide +kernel
theorem d_R_judge_73 : decode mt_R_judge.2.1 73 = .ok (.lrem, 1) := by decide +kernel
theorem d_R_judge_74 : decode mt_R_judge.2.1 74 = .ok (.l2i, 1) := by decide +kernel
theorem d_R_judge_75 : decode mt_R_judge.2.1 75 = .ok (.invokevirtual 196, 3) := by decide +kernel
theorem d_R_judge_78 : decode mt_R_judge.2.1 78 = .ok (.ifCond .ne 6, 3) := by decide +kernel
theorem d_R_judge_81 : decode mt_R_judge.2.1 81 = .ok (.iload 6, 2) := by decide +kernel
theorem d_R_judge_83 : decode mt_R_judge.2.1 83 = .ok (.ireturn, 1) := by decide +kernel
theorem d_R_judge_84 : decode mt_R_judge.2.1 84 = .ok (.iinc 6 1, 3) := by decide +kernel
theorem d_R_judge_87 : decode mt_R_judge.2.1 87 = .ok (.goto (-36), 3) := by decide +kernel
theorem d_R_judge_90 : decode mt_R_judge.2.1 90 = .ok (.bipush (-9), 2) := by decide +kernel
theorem d_R_judge_92 : decode mt_R_judge.2.1 92 = .ok (.ireturn, 1) := by decide +kernel
theorem d_R_power_0 : decode mt_R_power.2.1 0 = .ok (.lconst 1, 1) := by decide +kernel
theorem d_R_power_1 : decode mt_R_power.2.1 1 = .ok (.lstore_n 2, 1) := by decide +kernel
theorem d_R_power_2 : decode mt_R_power.2.1 2 = .ok (.iconst 0, 1) := by decide +kernel
theorem d_R_power_3 : decode mt_R_power.2.1 3 = .ok (.istore 4, 2) := by decide +kernel
theorem d_R_power_5 : decode mt_R_power.2.1 5 = .ok (.iload 4, 2) := by decide +kernel
theorem d_R_power_7 : decode mt_R_power.2.1 7 = .ok (.iload_n 1, 1) := by decide +kernel
theorem d_R_power_8 : decode mt_R_power.2.1 8 = .ok (.if_icmp .ge 14, 3) := by decide +kernel
theorem d_R_power_11 : decode mt_R_power.2.1 11 = .ok (.lload_n 2, 1) := by decide +kernel
theorem d_R_power_12 : decode mt_R_power.2.1 12 = .ok (.iload_n 0, 1) := by decide +kernel
theorem d_R_power_13 : decode mt_R_power.2.1 13 = .ok (.i2l, 1) := by decide +kernel
theorem d_R_power_14 : decode mt_R_power.2.1 14 = .ok (.lmul, 1) := by decide +kernel
theorem d_R_power_15 : decode mt_R_power.2.1 15 = .ok (.lstore_n 2, 1) := by decide +kernel
theorem d_R_power_16 : decode mt_R_power.2.1 16 = .ok (.iinc 4 1, 3) := by decide +kernel
theorem d_R_power_19 : decode mt_R_power.2.1 19 = .ok (.goto (-14), 3) := by decide +kernel
theorem d_R_power_22 : decode mt_R_power.2.1 22 = .ok (.lload_n 2, 1) := by decide +kernel
theorem d_R_power_23 : decode mt_R_power.2.1 23 = .ok (.lreturn, 1) := by decide +kernel
theorem d_R_holdsInTrial_0 : decode mt_R_holdsInTrial.2.1 0 = .ok (.iload_n 1, 1) := by decide +kernel
theorem d_R_holdsInTrial_1 : decode mt_R_holdsInTrial.2.1 1 = .ok (.sipush 10000, 3) := by decide +kernel
theorem d_R_holdsInTrial_4 : decode mt_R_holdsInTrial.2.1 4 = .ok (.idiv, 1) := by decide +kernel
theorem d_R_holdsInTrial_5 : decode mt_R_holdsInTrial.2.1 5 = .ok (.bipush 10, 2) := by decide +kernel
theorem d_R_holdsInTrial_7 : decode mt_R_holdsInTrial.2.1 7 = .ok (.irem, 1) := by decide +kernel
theorem d_R_holdsInTrial_8 : decode mt_R_holdsInTrial.2.1 8 = .ok (.istore_n 2, 1) := by decide +kernel
theorem d_R_holdsInTrial_9 : decode mt_R_holdsInTrial.2.1 9 = .ok (.iload_n 1, 1) := by decide +kernel
theorem d_R_holdsInTrial_10 : decode mt_R_holdsInTrial.2.1 10 = .ok (.sipush 1000, 3) := by decide +kernel
theorem d_R_holdsInTrial_13 : decode mt_R_holdsInTrial.2.1 13 = .ok (.idiv, 1) := by decide +kernel
theorem d_R_holdsInTrial_14 : decode mt_R_holdsInTrial.2.1 14 = .ok (.bipush 10, 2) := by decide +kernel
theorem d_R_holdsInTrial_16 : decode mt_R_holdsInTrial.2.1 16 = .ok (.irem, 1) := by decide +kernel
theorem d_R_holdsInTrial_17 : decode mt_R_holdsInTrial.2.1 17 = .ok (.istore_n 3, 1) := by decide +kernel
theorem d_R_holdsInTrial_18 : decode mt_R_holdsInTrial.2.1 18 = .ok (.iload_n 1, 1) := by decide +kernel
theorem d_R_holdsInTrial_19 : decode mt_R_holdsInTrial.2.1 19 = .ok (.sipush 1000, 3) := by decide +kernel
theorem d_R_holdsInTrial_22 : decode mt_R_holdsInTrial.2.1 22 = .ok (.irem, 1) := by decide +kernel
theorem d_R_holdsInTrial_23 : decode mt_R_holdsInTrial.2.1 23 = .ok (.istore 4, 2) := by decide +kernel
theorem d_R_holdsInTrial_25 : decode mt_R_holdsInTrial.2.1 25 = .ok (.iload_n 1, 1) := by decide +kernel
theorem d_R_holdsInTrial_26 : decode mt_R_holdsInTrial.2.1 26 = .ok (.ldc_w 257, 3) := by decide +kernel
theorem d_R_holdsInTrial_29 : decode mt_R_holdsInTrial.2.1 29 = .ok (.idiv, 1) := by decide +kernel
theorem d_R_holdsInTrial_30 : decode mt_R_holdsInTrial.2.1 30 = .ok (.tableswitch 275 1 7 #[42, 76, 96, 131, 169, 199, 228], 42) := by decide +kernel
theorem d_R_holdsInTrial_72 : decode mt_R_holdsInTrial.2.1 72 = .ok (.aload_n 0, 1) := by decide +kernel
theorem d_R_holdsInTrial_73 : decode mt_R_holdsInTrial.2.1 73 = .ok (.getfield 30, 3) := by decide +kernel
theorem d_R_holdsInTrial_76 : decode mt_R_holdsInTrial.2.1 76 = .ok (.aload_n 0, 1) := by decide +kernel
theorem d_R_holdsInTrial_77 : decode mt_R_holdsInTrial.2.1 77 = .ok (.getfield 19, 3) := by decide +kernel
theorem d_R_holdsInTrial_80 : decode mt_R_holdsInTrial.2.1 80 = .ok (.iload_n 2, 1) := by decide +kernel
theorem d_R_holdsInTrial_81 : decode mt_R_holdsInTrial.2.1 81 = .ok (.bipush 10, 2) := by decide +kernel
theorem d_R_holdsInTrial_83 : decode mt_R_holdsInTrial.2.1 83 = .ok (.imul, 1) := by decide +kernel
theorem d_R_holdsInTrial_84 : decode mt_R_holdsInTrial.2.1 84 = .ok (.iload_n 3, 1) := by decide +kernel
theorem d_R_holdsInTrial_85 : decode mt_R_holdsInTrial.2.1 85 = .ok (.iadd, 1) := by decide +kernel
theorem d_R_holdsInTrial_86 : decode mt_R_holdsInTrial.2.1 86 = .ok (.invokevirtual 137, 3) := by decide +kernel
theorem d_R_holdsInTrial_89 : decode mt_R_holdsInTrial.2.1 89 = .ok (.iload 4, 2) := by decide +kernel
theorem d_R_holdsInTrial_91 : decode mt_R_holdsInTrial.2.1 91 = .ok (.ifCond .ne 13, 3) := by decide +kernel
theorem d_R_holdsInTrial_94 : decode mt_R_holdsInTrial.2.1 94 = .ok (.iload_n 2, 1) := by decide +kernel
theorem d_R_holdsInTrial_95 : decode mt_R_holdsInTrial.2.1 95 = .ok (.iload_n 3, 1) := by decide +kernel
theorem d_R_holdsInTrial_96 : decode mt_R_holdsInTrial.2.1 96 = .ok (.iadd, 1) := by decide +kernel
theorem d_R_holdsInTrial_97 : decode mt_R_holdsInTrial.2.1 97 = .ok (.ifCond .le 7, 3) := by decide +kernel
theorem d_R_holdsInTrial_100 : decode mt_R_holdsInTrial.2.1 100 = .ok (.iconst 1, 1) := by decide +kernel
theorem d_R_holdsInTrial_101 : decode mt_R_holdsInTrial.2.1 101 = .ok (.goto 4, 3) := by decide +kernel
theorem d_R_holdsInTrial_104 : decode mt_R_holdsInTrial.2.1 104 = .ok (.iconst 0, 1) := by decide +kernel
theorem d_R_holdsInTrial_105 : decode mt_R_holdsInTrial.2.1 105 = .ok (.ireturn, 1) := by decide +kernel
theorem d_R_holdsInTrial_106 : decode mt_R_holdsInTrial.2.1 106 = .ok (.iload 4, 2) := by decide +kernel
theorem d_R_holdsInTrial_108 : decode mt_R_holdsInTrial.2.1 108 = .ok (.ifCond .ne 16, 3) := by decide +kernel
theorem d_R_holdsInTrial_111 : decode mt_R_holdsInTrial.2.1 111 = .ok (.aload_n 0, 1) := by decide +kernel
theorem d_R_holdsInTrial_112 : decode mt_R_holdsInTrial.2.1 112 = .ok (.iload_n 2, 1) := by decide +kernel
theorem d_R_holdsInTrial_113 : decode mt_R_holdsInTrial.2.1 113 = .ok (.iload_n 3, 1) := by decide +kernel
theorem d_R_holdsInTrial_114 : decode mt_R_holdsInTrial.2.1 114 = .ok (.invokevirtual 258, 3) := by decide +kernel
theorem d_R_holdsInTrial_117 : decode mt_R_holdsInTrial.2.1 117 = .ok (.ifCond .eq 7, 3) := by decide +kernel
theorem d_R_holdsInTrial_120 : decode mt_R_holdsInTrial.2.1 120 = .ok (.iconst 1, 1) := by decide +kernel
theorem d_R_holdsInTrial_121 : decode mt_R_holdsInTrial.2.1 121 = .ok (.goto 4, 3) := by decide +kernel
theorem d_R_holdsInTrial_124 : decode mt_R_holdsInTrial.2.1 124 = .ok (.iconst 0, 1) := by decide +kernel
theorem d_R_holdsInTrial_125 : decode mt_R_holdsInTrial.2.1 125 = .ok (.ireturn, 1) := by decide +kernel
theorem d_R_holdsInTrial_126 : decode mt_R_holdsInTrial.2.1 126 = .ok (.iload 4, 2) := by decide +kernel
theorem d_R_holdsInTrial_128 : decode mt_R_holdsInTrial.2.1 128 = .ok (.ifCond .ne 31, 3) := by decide +kernel
theorem d_R_holdsInTrial_131 : decode mt_R_holdsInTrial.2.1 131 = .ok (.aload_n 0, 1) := by decide +kernel
theorem d_R_holdsInTrial_132 : decode mt_R_holdsInTrial.2.1 132 = .ok (.iload_n 2, 1) := by decide +kernel
theorem d_R_holdsInTrial_133 : decode mt_R_holdsInTrial.2.1 133 = .ok (.invokevirtual 88, 3) := by decide +kernel
theorem d_R_holdsInTrial_136 : decode mt_R_holdsInTrial.2.1 136 = .ok (.ifCond .eq 23, 3) := by decide +kernel
theorem d_R_holdsInTrial_139 : decode mt_R_holdsInTrial.2.1 139 = .ok (.aload_n 0, 1) := by decide +kernel
theorem d_R_holdsInTrial_140 : decode mt_R_holdsInTrial.2.1 140 = .ok (.getfield 30, 3) := by decide +kernel
theorem d_R_holdsInTrial_143 : decode mt_R_holdsInTrial.2.1 143 = .ok (.getfield 91, 3) := by decide +kernel
theorem d_R_holdsInTrial_146 : decode mt_R_holdsInTrial.2.1 146 = .ok (.iload_n 2, 1) := by decide +kernel
theorem d_R_holdsInTrial_147 : decode mt_R_holdsInTrial.2.1 147 = .ok (.aaload, 1) := by decide +kernel
theorem d_R_holdsInTrial_148 : decode mt_R_holdsInTrial.2.1 148 = .ok (.getfield 261, 3) := by decide +kernel
theorem d_R_holdsInTrial_151 : decode mt_R_holdsInTrial.2.1 151 = .ok (.iload_n 3, 1) := by decide +kernel
theorem d_R_holdsInTrial_152 : decode mt_R_holdsInTrial.2.1 152 = .ok (.if_icmp .ne 7, 3) := by decide +kernel
theorem d_R_holdsInTrial_155 : decode mt_R_holdsInTrial.2.1 155 = .ok (.iconst 1, 1) := by decide +kernel
theorem d_R_holdsInTrial_156 : decode mt_R_holdsInTrial.2.1 156 = .ok (.goto 4, 3) := by decide +kernel
theorem d_R_holdsInTrial_159 : decode mt_R_holdsInTrial.2.1 159 = .ok (.iconst 0, 1) := by decide +kernel
theorem d_R_holdsInTrial_160 : decode mt_R_holdsInTrial.2.1 160 = .ok (.ireturn, 1) := by decide +kernel
theorem d_R_holdsInTrial_161 : decode mt_R_holdsInTrial.2.1 161 = .ok (.aload_n 0, 1) := by decide +kernel
theorem d_R_holdsInTrial_162 : decode mt_R_holdsInTrial.2.1 162 = .ok (.iload_n 2, 1) := by decide +kernel
theorem d_R_holdsInTrial_163 : decode mt_R_holdsInTrial.2.1 163 = .ok (.invokevirtual 88, 3) := by decide +kernel
theorem d_R_holdsInTrial_166 : decode mt_R_holdsInTrial.2.1 166 = .ok (.ifCond .eq 31, 3) := by decide +kernel
theorem d_R_holdsInTrial_169 : decode mt_R_holdsInTrial.2.1 169 = .ok (.iload_n 3, 1) := by decide +kernel
theorem d_R_holdsInTrial_170 : decode mt_R_holdsInTrial.2.1 170 = .ok (.iconst 4, 1) := by decide +kernel
theorem d_R_holdsInTrial_171 : decode mt_R_holdsInTrial.2.1 171 = .ok (.if_icmp .ge 26, 3) := by decide +kernel
theorem d_R_holdsInTrial_174 : decode mt_R_holdsInTrial.2.1 174 = .ok (.aload_n 0, 1) := by decide +kernel
theorem d_R_holdsInTrial_175 : decode mt_R_holdsInTrial.2.1 175 = .ok (.getfield 30, 3) := by decide +kernel
theorem d_R_holdsInTrial_178 : decode mt_R_holdsInTrial.2.1 178 = .ok (.getfield 91, 3) := by decide +kernel
theorem d_R_holdsInTrial_181 : decode mt_R_holdsInTrial.2.1 181 = .ok (.iload_n 2, 1) := by decide +kernel
theorem d_R_holdsInTrial_182 : decode mt_R_holdsInTrial.2.1 182 = .ok (.aaload, 1) := by decide +kernel
theorem d_R_holdsInTrial_183 : decode mt_R_holdsInTrial.2.1 183 = .ok (.getfield 264, 3) := by decide +kernel
theorem d_R_holdsInTrial_186 : decode mt_R_holdsInTrial.2.1 186 = .ok (.iload_n 3, 1) := by decide +kernel
theorem d_R_holdsInTrial_187 : decode mt_R_holdsInTrial.2.1 187 = .ok (.iaload, 1) := by decide +kernel
theorem d_R_holdsInTrial_188 : decode mt_R_holdsInTrial.2.1 188 = .ok (.iload 4, 2) := by decide +kernel
theorem d_R_holdsInTrial_190 : decode mt_R_holdsInTrial.2.1 190 = .ok (.if_icmp .ne 7, 3) := by decide +kernel
theorem d_R_holdsInTrial_193 : decode mt_R_holdsInTrial.2.1 193 = .ok (.iconst 1, 1) := by decide +kernel
theorem d_R_holdsInTrial_194 : decode mt_R_holdsInTrial.2.1 194 = .ok (.goto 4, 3) := by decide +kernel
theorem d_R_holdsInTrial_197 : decode mt_R_holdsInTrial.2.1 197 = .ok (.iconst 0, 1) := by decide +kernel
theorem d_R_holdsInTrial_198 : decode mt_R_holdsInTrial.2.1 198 = .ok (.ireturn, 1) := by decide +kernel
theorem d_R_holdsInTrial_199 : decode mt_R_holdsInTrial.2.1 199 = .ok (.iload_n 2, 1) := by decide +kernel
theorem d_R_holdsInTrial_200 : decode mt_R_holdsInTrial.2.1 200 = .ok (.bipush 8, 2) := by decide +kernel
theorem d_R_holdsInTrial_202 : decode mt_R_holdsInTrial.2.1 202 = .ok (.if_icmp .ge 25, 3) := by decide +kernel
theorem d_R_holdsInTrial_205 : decode mt_R_holdsInTrial.2.1 205 = .ok (.iload_n 3, 1) := by decide +kernel
theorem d_R_holdsInTrial_206 : decode mt_R_holdsInTrial.2.1 206 = .ok (.ifCond .ne 21, 3) := by decide +kernel
theorem d_R_holdsInTrial_209 : decode mt_R_holdsInTrial.2.1 209 = .ok (.aload_n 0, 1) := by decide +kernel
theorem d_R_holdsInTrial_210 : decode mt_R_holdsInTrial.2.1 210 = .ok (.getfield 30, 3) := by decide +kernel
theorem d_R_holdsInTrial_213 : decode mt_R_holdsInTrial.2.1 213 = .ok (.getfield 115, 3) := by decide +kernel
theorem d_R_holdsInTrial_216 : decode mt_R_holdsInTrial.2.1 216 = .ok (.iload_n 2, 1) := by decide +kernel
theorem d_R_holdsInTrial_217 : decode mt_R_holdsInTrial.2.1 217 = .ok (.iaload, 1) := by decide +kernel
theorem d_R_holdsInTrial_218 : decode mt_R_holdsInTrial.2.1 218 = .ok (.iload 4, 2) := by decide +kernel
theorem d_R_holdsInTrial_220 : decode mt_R_holdsInTrial.2.1 220 = .ok (.if_icmp .ne 7, 3) := by decide +kernel
theorem d_R_holdsInTrial_223 : decode mt_R_holdsInTrial.2.1 223 = .ok (.iconst 1, 1) := by decide +kernel
theorem d_R_holdsInTrial_224 : decode mt_R_holdsInTrial.2.1 224 = .ok (.goto 4, 3) := by decide +kernel
theorem d_R_holdsInTrial_227 : decode mt_R_holdsInTrial.2.1 227 = .ok (.iconst 0, 1) := by decide +kernel
theorem d_R_holdsInTrial_228 : decode mt_R_holdsInTrial.2.1 228 = .ok (.ireturn, 1) := by decide +kernel
theorem d_R_holdsInTrial_229 : decode mt_R_holdsInTrial.2.1 229 = .ok (.iload_n 3, 1) := by decide +kernel
theorem d_R_holdsInTrial_230 : decode mt_R_holdsInTrial.2.1 230 = .ok (.ifCond .ne 26, 3) := by decide +kernel
theorem d_R_holdsInTrial_233 : decode mt_R_holdsInTrial.2.1 233 = .ok (.iload 4, 2) := by decide +kernel
theorem d_R_holdsInTrial_235 : decode mt_R_holdsInTrial.2.1 235 = .ok (.ifCond .ne 21, 3) := by decide +kernel
theorem d_R_holdsInTrial_238 : decode mt_R_holdsInTrial.2.1 238 = .ok (.aload_n 0, 1) := by decide +kernel
theorem d_R_holdsInTrial_239 : decode mt_R_holdsInTrial.2.1 239 = .ok (.getfield 30, 3) := by decide +kernel
theorem d_R_holdsInTrial_242 : decode mt_R_holdsInTrial.2.1 242 = .ok (.getfield 118, 3) := by decide +kernel
theorem d_R_holdsInTrial_245 : decode mt_R_holdsInTrial.2.1 245 = .ok (.getfield 148, 3) := by decide +kernel
theorem d_R_holdsInTrial_248 : decode mt_R_holdsInTrial.2.1 248 = .ok (.iload_n 2, 1) := by decide +kernel
theorem d_R_holdsInTrial_249 : decode mt_R_holdsInTrial.2.1 249 = .ok (.if_icmp .ne 7, 3) := by decide +kernel
theorem d_R_holdsInTrial_252 : decode mt_R_holdsInTrial.2.1 252 = .ok (.iconst 1, 1) := by decide +kernel
theorem d_R_holdsInTrial_253 : decode mt_R_holdsInTrial.2.1 253 = .ok (.goto 4, 3) := by decide +kernel
theorem d_R_holdsInTrial_256 : decode mt_R_holdsInTrial.2.1 256 = .ok (.iconst 0, 1) := by decide +kernel
theorem d_R_holdsInTrial_257 : decode mt_R_holdsInTrial.2.1 257 = .ok (.ireturn, 1) := by decide +kernel
theorem d_R_holdsInTrial_258 : decode mt_R_holdsInTrial.2.1 258 = .ok (.iload 4, 2) := by decide +kernel
theorem d_R_holdsInTrial_260 : decode mt_R_holdsInTrial.2.1 260 = .ok (.bipush 100, 2) := by decide +kernel
theorem d_R_holdsInTrial_262 : decode mt_R_holdsInTrial.2.1 262 = .ok (.irem, 1) := by decide +kernel
theorem d_R_holdsInTrial_263 : decode mt_R_holdsInTrial.2.1 263 = .ok (.ifCond .ne 40, 3) := by decide +kernel
theorem d_R_holdsInTrial_266 : decode mt_R_holdsInTrial.2.1 266 = .ok (.aload_n 0, 1) := by decide +kernel
theorem d_R_holdsInTrial_267 : decode mt_R_holdsInTrial.2.1 267 = .ok (.iload_n 2, 1) := by decide +kernel
theorem d_R_holdsInTrial_268 : decode mt_R_holdsInTrial.2.1 268 = .ok (.invokevirtual 88, 3) := by decide +kernel
theorem d_R_holdsInTrial_271 : decode mt_R_holdsInTrial.2.1 271 = .ok (.ifCond .eq 32, 3) := by decide +kernel
theorem d_R_holdsInTrial_274 : decode mt_R_holdsInTrial.2.1 274 = .ok (.aload_n 0, 1) := by decide +kernel
theorem d_R_holdsInTrial_275 : decode mt_R_holdsInTrial.2.1 275 = .ok (.getfield 30, 3) := by decide +kernel
theorem d_R_holdsInTrial_278 : decode mt_R_holdsInTrial.2.1 278 = .ok (.getfield 91, 3) := by decide +kernel
theorem d_R_holdsInTrial_281 : decode mt_R_holdsInTrial.2.1 281 = .ok (.iload_n 2, 1) := by decide +kernel
theorem d_R_holdsInTrial_282 : decode mt_R_holdsInTrial.2.1 282 = .ok (.aaload, 1) := by decide +kernel
theorem d_R_holdsInTrial_283 : decode mt_R_holdsInTrial.2.1 283 = .ok (.getfield 267, 3) := by decide +kernel
theorem d_R_holdsInTrial_286 : decode mt_R_holdsInTrial.2.1 286 = .ok (.iload_n 3, 1) := by decide +kernel
theorem d_R_holdsInTrial_287 : decode mt_R_holdsInTrial.2.1 287 = .ok (.bipush 10, 2) := by decide +kernel
theorem d_R_holdsInTrial_289 : decode mt_R_holdsInTrial.2.1 289 = .ok (.imul, 1) := by decide +kernel
theorem d_R_holdsInTrial_290 : decode mt_R_holdsInTrial.2.1 290 = .ok (.iload 4, 2) := by decide +kernel
theorem d_R_holdsInTrial_292 : decode mt_R_holdsInTrial.2.1 292 = .ok (.bipush 100, 2) := by decide +kernel
theorem d_R_holdsInTrial_294 : decode mt_R_holdsInTrial.2.1 294 = .ok (.idiv, 1) := by decide +kernel
theorem d_R_holdsInTrial_295 : decode mt_R_holdsInTrial.2.1 295 = .ok (.iadd, 1) := by decide +kernel
theorem d_R_holdsInTrial_296 : decode mt_R_holdsInTrial.2.1 296 = .ok (.if_icmp .ne 7, 3) := by decide +kernel
theorem d_R_holdsInTrial_299 : decode mt_R_holdsInTrial.2.1 299 = .ok (.iconst 1, 1) := by decide +kernel
theorem d_R_holdsInTrial_300 : decode mt_R_holdsInTrial.2.1 300 = .ok (.goto 4, 3) := by decide +kernel
theorem d_R_holdsInTrial_303 : decode mt_R_holdsInTrial.2.1 303 = .ok (.iconst 0, 1) := by decide +kernel
theorem d_R_holdsInTrial_304 : decode mt_R_holdsInTrial.2.1 304 = .ok (.ireturn, 1) := by decide +kernel
theorem d_R_holdsInTrial_305 : decode mt_R_holdsInTrial.2.1 305 = .ok (.iconst 0, 1) := by decide +kernel
theorem d_R_holdsInTrial_306 : decode mt_R_holdsInTrial.2.1 306 = .ok (.ireturn, 1) := by decide +kernel
theorem d_R_isSentInTrial_0 : decode mt_R_isSentInTrial.2.1 0 = .ok (.iload_n 1, 1) := by decide +kernel
theorem d_R_isSentInTrial_1 : decode mt_R_isSentInTrial.2.1 1 = .ok (.iconst 2, 1) := by decide +kernel
theorem d_R_isSentInTrial_2 : decode mt_R_isSentInTrial.2.1 2 = .ok (.if_icmp .gt 26, 3) := by decide +kernel
theorem d_R_isSentInTrial_5 : decode mt_R_isSentInTrial.2.1 5 = .ok (.aload_n 0, 1) := by decide +kernel
theorem d_R_isSentInTrial_6 : decode mt_R_isSentInTrial.2.1 6 = .ok (.iload_n 2, 1) := by decide +kernel
theorem d_R_isSentInTrial_7 : decode mt_R_isSentInTrial.2.1 7 = .ok (.invokevirtual 88, 3) := by decide +kernel
theorem d_R_isSentInTrial_10 : decode mt_R_isSentInTrial.2.1 10 = .ok (.ifCond .eq 18, 3) := by decide +kernel
theorem d_R_isSentInTrial_13 : decode mt_R_isSentInTrial.2.1 13 = .ok (.aload_n 0, 1) := by decide +kernel
theorem d_R_isSentInTrial_14 : decode mt_R_isSentInTrial.2.1 14 = .ok (.getfield 30, 3) := by decide +kernel
theorem d_R_isSentInTrial_17 : decode mt_R_isSentInTrial.2.1 17 = .ok (.getfield 118, 3) := by decide +kernel
theorem d_R_isSentInTrial_20 : decode mt_R_isSentInTrial.2.1 20 = .ok (.getfield 122, 3) := by decide +kernel
theorem d_R_isSentInTrial_23 : decode mt_R_isSentInTrial.2.1 23 = .ok (.bipush 8, 2) := by decide +kernel
theorem d_R_isSentInTrial_25 : decode mt_R_isSentInTrial.2.1 25 = .ok (.if_icmp .lt 5, 3) := by decide +kernel
theorem d_R_isSentInTrial_28 : decode mt_R_isSentInTrial.2.1 28 = .ok (.iconst 0, 1) := by decide +kernel
theorem d_R_isSentInTrial_29 : decode mt_R_isSentInTrial.2.1 29 = .ok (.ireturn, 1) := by decide +kernel
theorem d_R_isSentInTrial_30 : decode mt_R_isSentInTrial.2.1 30 = .ok (.aload_n 0, 1) := by decide +kernel
theorem d_R_isSentInTrial_31 : decode mt_R_isSentInTrial.2.1 31 = .ok (.getfield 30, 3) := by decide +kernel
theorem d_R_isSentInTrial_34 : decode mt_R_isSentInTrial.2.1 34 = .ok (.getfield 118, 3) := by decide +kernel
theorem d_R_isSentInTrial_37 : decode mt_R_isSentInTrial.2.1 37 = .ok (.iload_n 1, 1) := by decide +kernel
theorem d_R_isSentInTrial_38 : decode mt_R_isSentInTrial.2.1 38 = .ok (.iload_n 2, 1) := by decide +kernel
theorem d_R_isSentInTrial_39 : decode mt_R_isSentInTrial.2.1 39 = .ok (.iconst 0, 1) := by decide +kernel
theorem d_R_isSentInTrial_40 : decode mt_R_isSentInTrial.2.1 40 = .ok (.iconst 0, 1) := by decide +kernel
theorem d_R_isSentInTrial_41 : decode mt_R_isSentInTrial.2.1 41 = .ok (.invokevirtual 144, 3) := by decide +kernel
theorem d_R_isSentInTrial_44 : decode mt_R_isSentInTrial.2.1 44 = .ok (.iconst 1, 1) := by decide +kernel
theorem d_R_isSentInTrial_45 : decode mt_R_isSentInTrial.2.1 45 = .ok (.ireturn, 1) := by decide +kernel
theorem d_R_see_0 : decode mt_R_see.2.1 0 = .ok (.iload_n 1, 1) := by decide +kernel
theorem d_R_see_1 : decode mt_R_see.2.1 1 = .ok (.bipush 10, 2) := by decide +kernel
theorem d_R_see_3 : decode mt_R_see.2.1 3 = .ok (.invokestatic 111, 3) := by decide +kernel
theorem d_R_see_6 : decode mt_R_see.2.1 6 = .ok (.ifCond .eq 22, 3) := by decide +kernel
theorem d_R_see_9 : decode mt_R_see.2.1 9 = .ok (.iload_n 2, 1) := by decide +kernel
theorem d_R_see_10 : decode mt_R_see.2.1 10 = .ok (.iconst 3, 1) := by decide +kernel
theorem d_R_see_11 : decode mt_R_see.2.1 11 = .ok (.invokestatic 111, 3) := by decide +kernel
theorem d_R_see_14 : decode mt_R_see.2.1 14 = .ok (.ifCond .eq 14, 3) := by decide +kernel
theorem d_R_see_17 : decode mt_R_see.2.1 17 = .ok (.iload_n 3, 1) := by decide +kernel
theorem d_R_see_18 : decode mt_R_see.2.1 18 = .ok (.iload_n 2, 1) := by decide +kernel
theorem d_R_see_19 : decode mt_R_see.2.1 19 = .ok (.invokestatic 199, 3) := by decide +kernel
theorem d_R_see_22 : decode mt_R_see.2.1 22 = .ok (.invokestatic 111, 3) := by decide +kernel
theorem d_R_see_25 : decode mt_R_see.2.1 25 = .ok (.ifCond .ne 6, 3) := by decide +kernel
theorem d_R_see_28 : decode mt_R_see.2.1 28 = .ok (.bipush (-2), 2) := by decide +kernel
theorem d_R_see_30 : decode mt_R_see.2.1 30 = .ok (.ireturn, 1) := by decide +kernel
theorem d_R_see_31 : decode mt_R_see.2.1 31 = .ok (.aload_n 0, 1) := by decide +kernel
theorem d_R_see_32 : decode mt_R_see.2.1 32 = .ok (.getfield 51, 3) := by decide +kernel
theorem d_R_see_35 : decode mt_R_see.2.1 35 = .ok (.iload_n 1, 1) := by decide +kernel
theorem d_R_see_36 : decode mt_R_see.2.1 36 = .ok (.iload_n 2, 1) := by decide +kernel
theorem d_R_see_37 : decode mt_R_see.2.1 37 = .ok (.iload_n 3, 1) := by decide +kernel
theorem d_R_see_38 : decode mt_R_see.2.1 38 = .ok (.invokevirtual 202, 3) := by decide +kernel
theorem d_R_see_41 : decode mt_R_see.2.1 41 = .ok (.ifCond .eq 13, 3) := by decide +kernel
theorem d_R_see_44 : decode mt_R_see.2.1 44 = .ok (.aload_n 0, 1) := by decide +kernel
theorem d_R_see_45 : decode mt_R_see.2.1 45 = .ok (.getfield 51, 3) := by decide +kernel
theorem d_R_see_48 : decode mt_R_see.2.1 48 = .ok (.getfield 205, 3) := by decide +kernel
theorem d_R_see_51 : decode mt_R_see.2.1 51 = .ok (.goto 5, 3) := by decide +kernel
theorem d_R_see_54 : decode mt_R_see.2.1 54 = .ok (.bipush (-4), 2) := by decide +kernel
theorem d_R_see_56 : decode mt_R_see.2.1 56 = .ok (.ireturn, 1) := by decide +kernel
theorem d_G_range_0 : decode mt_G_range.2.1 0 = .ok (.iload_n 0, 1) := by decide +kernel
theorem d_G_range_1 : decode mt_G_range.2.1 1 = .ok (.lookupswitch 32 #[(0, 27), (1, 30)], 27) := by decide +kernel
theorem d_G_range_28 : decode mt_G_range.2.1 28 = .ok (.bipush 16, 2) := by decide +kernel
theorem d_G_range_30 : decode mt_G_range.2.1 30 = .ok (.ireturn, 1) := by decide +kernel
theorem d_G_range_31 : decode mt_G_range.2.1 31 = .ok (.iconst 3, 1) := by decide +kernel
theorem d_G_range_32 : decode mt_G_range.2.1 32 = .ok (.ireturn, 1) := by decide +kernel
theorem d_G_range_33 : decode mt_G_range.2.1 33 = .ok (.sipush 1000, 3) := by decide +kernel
theorem d_G_range_36 : decode mt_G_range.2.1 36 = .ok (.ireturn, 1) := by decide +kernel
theorem d_G_append_0 : decode mt_G_append.2.1 0 = .ok (.aload_n 0, 1) := by decide +kernel
theorem d_G_append_1 : decode mt_G_append.2.1 1 = .ok (.getfield 21, 3) := by decide +kernel
theorem d_G_append_4 : decode mt_G_append.2.1 4 = .ok (.bipush 6, 2) := by decide +kernel
theorem d_G_append_6 : decode mt_G_append.2.1 6 = .ok (.if_icmp .lt 5, 3) := by decide +kernel
theorem d_G_append_9 : decode mt_G_append.2.1 9 = .ok (.iconst 0, 1) := by decide +kernel
theorem d_G_append_10 : decode mt_G_append.2.1 10 = .ok (.ireturn, 1) := by decide +kernel
theorem d_G_append_11 : decode mt_G_append.2.1 11 = .ok (.aload_n 0, 1) := by decide +kernel
theorem d_G_append_12 : decode mt_G_append.2.1 12 = .ok (.getfield 9, 3) := by decide +kernel
theorem d_G_append_15 : decode mt_G_append.2.1 15 = .ok (.aload_n 0, 1) := by decide +kernel
theorem d_G_append_16 : decode mt_G_append.2.1 16 = .ok (.getfield 21, 3) := by decide +kernel
theorem d_G_append_19 : decode mt_G_append.2.1 19 = .ok (.iload_n 1, 1) := by decide +kernel
theorem d_G_append_20 : decode mt_G_append.2.1 20 = .ok (.iastore, 1) := by decide +kernel
theorem d_G_append_21 : decode mt_G_append.2.1 21 = .ok (.aload_n 0, 1) := by decide +kernel
theorem d_G_append_22 : decode mt_G_append.2.1 22 = .ok (.getfield 15, 3) := by decide +kernel
theorem d_G_append_25 : decode mt_G_append.2.1 25 = .ok (.aload_n 0, 1) := by decide +kernel
theorem d_G_append_26 : decode mt_G_append.2.1 26 = .ok (.getfield 21, 3) := by decide +kernel
theorem d_G_append_29 : decode mt_G_append.2.1 29 = .ok (.iload_n 2, 1) := by decide +kernel
theorem d_G_append_30 : decode mt_G_append.2.1 30 = .ok (.iastore, 1) := by decide +kernel
theorem d_G_append_31 : decode mt_G_append.2.1 31 = .ok (.aload_n 0, 1) := by decide +kernel
theorem d_G_append_32 : decode mt_G_append.2.1 32 = .ok (.getfield 18, 3) := by decide +kernel
theorem d_G_append_35 : decode mt_G_append.2.1 35 = .ok (.aload_n 0, 1) := by decide +kernel
theorem d_G_append_36 : decode mt_G_append.2.1 36 = .ok (.getfield 21, 3) := by decide +kernel
theorem d_G_append_39 : decode mt_G_append.2.1 39 = .ok (.iload_n 3, 1) := by decide +kernel
theorem d_G_append_40 : decode mt_G_append.2.1 40 = .ok (.iastore, 1) := by decide +kernel
theorem d_G_append_41 : decode mt_G_append.2.1 41 = .ok (.aload_n 0, 1) := by decide +kernel
theorem d_G_append_42 : decode mt_G_append.2.1 42 = .ok (.dup, 1) := by decide +kernel
theorem d_G_append_43 : decode mt_G_append.2.1 43 = .ok (.getfield 21, 3) := by decide +kernel
theorem d_G_append_46 : decode mt_G_append.2.1 46 = .ok (.iconst 1, 1) := by decide +kernel
theorem d_G_append_47 : decode mt_G_append.2.1 47 = .ok (.iadd, 1) := by decide +kernel
theorem d_G_append_48 : decode mt_G_append.2.1 48 = .ok (.putfield 21, 3) := by decide +kernel
theorem d_G_append_51 : decode mt_G_append.2.1 51 = .ok (.iconst 1, 1) := by decide +kernel
theorem d_G_append_52 : decode mt_G_append.2.1 52 = .ok (.ireturn, 1) := by decide +kernel
theorem d_R_unsee_0 : decode mt_R_unsee.2.1 0 = .ok (.aload_n 0, 1) := by decide +kernel
theorem d_R_unsee_1 : decode mt_R_unsee.2.1 1 = .ok (.getfield 51, 3) := by decide +kernel
theorem d_R_unsee_4 : decode mt_R_unsee.2.1 4 = .ok (.getfield 205, 3) := by decide +kernel
theorem d_R_unsee_7 : decode mt_R_unsee.2.1 7 = .ok (.istore_n 1, 1) := by decide +kernel
theorem d_R_unsee_8 : decode mt_R_unsee.2.1 8 = .ok (.aload_n 0, 1) := by decide +kernel
theorem d_R_unsee_9 : decode mt_R_unsee.2.1 9 = .ok (.getfield 51, 3) := by decide +kernel
theorem d_R_unsee_12 : decode mt_R_unsee.2.1 12 = .ok (.iconst 0, 1) := by decide +kernel
theorem d_R_unsee_13 : decode mt_R_unsee.2.1 13 = .ok (.putfield 205, 3) := by decide +kernel
theorem d_R_unsee_16 : decode mt_R_unsee.2.1 16 = .ok (.iload_n 1, 1) := by decide +kernel
theorem d_R_unsee_17 : decode mt_R_unsee.2.1 17 = .ok (.ireturn, 1) := by decide +kernel
theorem d_R_which_0 : decode mt_R_which.2.1 0 = .ok (.aload_n 0, 1) := by decide +kernel
theorem d_R_which_1 : decode mt_R_which.2.1 1 = .ok (.getfield 26, 3) := by decide +kernel
theorem d_R_which_4 : decode mt_R_which.2.1 4 = .ok (.invokevirtual 178, 3) := by decide +kernel
theorem d_R_which_7 : decode mt_R_which.2.1 7 = .ok (.istore_n 1, 1) := by decide +kernel
theorem d_R_which_8 : decode mt_R_which.2.1 8 = .ok (.aload_n 0, 1) := by decide +kernel
theorem d_R_which_9 : decode mt_R_which.2.1 9 = .ok (.getfield 30, 3) := by decide +kernel
theorem d_R_which_12 : decode mt_R_which.2.1 12 = .ok (.aload_n 0, 1) := by decide +kernel
theorem d_R_which_13 : decode mt_R_which.2.1 13 = .ok (.getfield 26, 3) := by decide +kernel
theorem d_R_which_16 : decode mt_R_which.2.1 16 = .ok (.invokevirtual 79, 3) := by decide +kernel
theorem d_R_which_19 : decode mt_R_which.2.1 19 = .ok (.iconst 0, 1) := by decide +kernel
theorem d_R_which_20 : decode mt_R_which.2.1 20 = .ok (.istore_n 2, 1) := by decide +kernel
theorem d_R_which_21 : decode mt_R_which.2.1 21 = .ok (.iload_n 2, 1) := by decide +kernel
theorem d_R_which_22 : decode mt_R_which.2.1 22 = .ok (.bipush 9, 2) := by decide +kernel
theorem d_R_which_24 : decode mt_R_which.2.1 24 = .ok (.if_icmp .gt 72, 3) := by decide +kernel
theorem d_R_which_27 : decode mt_R_which.2.1 27 = .ok (.iload_n 2, 1) := by decide +kernel
theorem d_R_which_28 : decode mt_R_which.2.1 28 = .ok (.ifCond .le 15, 3) := by decide +kernel
theorem d_R_which_31 : decode mt_R_which.2.1 31 = .ok (.aload_n 0, 1) := by decide +kernel
theorem d_R_which_32 : decode mt_R_which.2.1 32 = .ok (.getfield 30, 3) := by decide +kernel
theorem d_R_which_35 : decode mt_R_which.2.1 35 = .ok (.aload_n 0, 1) := by decide +kernel
theorem d_R_which_36 : decode mt_R_which.2.1 36 = .ok (.getfield 19, 3) := by decide +kernel
theorem d_R_which_39 : decode mt_R_which.2.1 39 = .ok (.iconst 1, 1) := by decide +kernel
theorem d_R_which_40 : decode mt_R_which.2.1 40 = .ok (.invokevirtual 137, 3) := by decide +kernel
theorem d_R_which_43 : decode mt_R_which.2.1 43 = .ok (.iconst 0, 1) := by decide +kernel
theorem d_R_which_44 : decode mt_R_which.2.1 44 = .ok (.istore_n 3, 1) := by decide +kernel
theorem d_R_which_45 : decode mt_R_which.2.1 45 = .ok (.iload_n 3, 1) := by decide +kernel
theorem d_R_which_46 : decode mt_R_which.2.1 46 = .ok (.aload_n 0, 1) := by decide +kernel
theorem d_R_which_47 : decode mt_R_which.2.1 47 = .ok (.getfield 30, 3) := by decide +kernel
theorem d_R_which_50 : decode mt_R_which.2.1 50 = .ok (.getfield 85, 3) := by decide +kernel
theorem d_R_which_53 : decode mt_R_which.2.1 53 = .ok (.if_icmp .ge 37, 3) := by decide +kernel
theorem d_R_which_56 : decode mt_R_which.2.1 56 = .ok (.aload_n 0, 1) := by decide +kernel
theorem d_R_which_57 : decode mt_R_which.2.1 57 = .ok (.getfield 51, 3) := by decide +kernel
theorem d_R_which_60 : decode mt_R_which.2.1 60 = .ok (.iload_n 2, 1) := by decide +kernel
theorem d_R_which_61 : decode mt_R_which.2.1 61 = .ok (.aload_n 0, 1) := by decide +kernel
theorem d_R_which_62 : decode mt_R_which.2.1 62 = .ok (.getfield 30, 3) := by decide +kernel
theorem d_R_which_65 : decode mt_R_which.2.1 65 = .ok (.getfield 91, 3) := by decide +kernel
theorem d_R_which_68 : decode mt_R_which.2.1 68 = .ok (.iload_n 3, 1) := by decide +kernel
theorem d_R_which_69 : decode mt_R_which.2.1 69 = .ok (.aaload, 1) := by decide +kernel
theorem d_R_which_70 : decode mt_R_which.2.1 70 = .ok (.invokevirtual 206, 3) := by decide +kernel
theorem d_R_which_73 : decode mt_R_which.2.1 73 = .ok (.ifCond .ne 11, 3) := by decide +kernel
theorem d_R_which_76 : decode mt_R_which.2.1 76 = .ok (.iload_n 1, 1) := by decide +kernel
theorem d_R_which_77 : decode mt_R_which.2.1 77 = .ok (.iconst 1, 1) := by decide +kernel
theorem d_R_which_78 : decode mt_R_which.2.1 78 = .ok (.iload_n 3, 1) := by decide +kernel
theorem d_R_which_79 : decode mt_R_which.2.1 79 = .ok (.ishl, 1) := by decide +kernel
theorem d_R_which_80 : decode mt_R_which.2.1 80 = .ok (.iconst (-1), 1) := by decide +kernel
theorem d_R_which_81 : decode mt_R_which.2.1 81 = .ok (.ixor, 1) := by decide +kernel
theorem d_R_which_82 : decode mt_R_which.2.1 82 = .ok (.iand, 1) := by decide +kernel
theorem d_R_which_83 : decode mt_R_which.2.1 83 = .ok (.istore_n 1, 1) := by decide +kernel
theorem d_R_which_84 : decode mt_R_which.2.1 84 = .ok (.iinc 3 1, 3) := by decide +kernel
theorem d_R_which_87 : decode mt_R_which.2.1 87 = .ok (.goto (-42), 3) := by decide +kernel
theorem d_R_which_90 : decode mt_R_which.2.1 90 = .ok (.iinc 2 1, 3) := by decide +kernel
theorem d_R_which_93 : decode mt_R_which.2.1 93 = .ok (.goto (-72), 3) := by decide +kernel
theorem d_R_which_96 : decode mt_R_which.2.1 96 = .ok (.iload_n 1, 1) := by decide +kernel
theorem d_R_which_97 : decode mt_R_which.2.1 97 = .ok (.ireturn, 1) := by decide +kernel
theorem d_G_allow_0 : decode mt_G_allow.2.1 0 = .ok (.iconst 0, 1) := by decide +kernel
theorem d_G_allow_1 : decode mt_G_allow.2.1 1 = .ok (.istore_n 3, 1) := by decide +kernel
theorem d_G_allow_2 : decode mt_G_allow.2.1 2 = .ok (.iload_n 3, 1) := by decide +kernel
theorem d_G_allow_3 : decode mt_G_allow.2.1 3 = .ok (.aload_n 0, 1) := by decide +kernel
theorem d_G_allow_4 : decode mt_G_allow.2.1 4 = .ok (.getfield 21, 3) := by decide +kernel
theorem d_G_allow_7 : decode mt_G_allow.2.1 7 = .ok (.if_icmp .ge 40, 3) := by decide +kernel
theorem d_G_allow_10 : decode mt_G_allow.2.1 10 = .ok (.aload_n 0, 1) := by decide +kernel
theorem d_G_allow_11 : decode mt_G_allow.2.1 11 = .ok (.getfield 9, 3) := by decide +kernel
theorem d_G_allow_14 : decode mt_G_allow.2.1 14 = .ok (.iload_n 3, 1) := by decide +kernel
theorem d_G_allow_15 : decode mt_G_allow.2.1 15 = .ok (.iaload, 1) := by decide +kernel
theorem d_G_allow_16 : decode mt_G_allow.2.1 16 = .ok (.iload_n 1, 1) := by decide +kernel
theorem d_G_allow_17 : decode mt_G_allow.2.1 17 = .ok (.if_icmp .ne 24, 3) := by decide +kernel
theorem d_G_allow_20 : decode mt_G_allow.2.1 20 = .ok (.aload_n 2, 1) := by decide +kernel
theorem d_G_allow_21 : decode mt_G_allow.2.1 21 = .ok (.aload_n 0, 1) := by decide +kernel
theorem d_G_allow_22 : decode mt_G_allow.2.1 22 = .ok (.getfield 15, 3) := by decide +kernel
theorem d_G_allow_25 : decode mt_G_allow.2.1 25 = .ok (.iload_n 3, 1) := by decide +kernel
theorem d_G_allow_26 : decode mt_G_allow.2.1 26 = .ok (.iaload, 1) := by decide +kernel
theorem d_G_allow_27 : decode mt_G_allow.2.1 27 = .ok (.invokestatic 25, 3) := by decide +kernel
theorem d_G_allow_30 : decode mt_G_allow.2.1 30 = .ok (.aload_n 0, 1) := by decide +kernel
theorem d_G_allow_31 : decode mt_G_allow.2.1 31 = .ok (.getfield 18, 3) := by decide +kernel
theorem d_G_allow_34 : decode mt_G_allow.2.1 34 = .ok (.iload_n 3, 1) := by decide +kernel
theorem d_G_allow_35 : decode mt_G_allow.2.1 35 = .ok (.iaload, 1) := by decide +kernel
theorem d_G_allow_36 : decode mt_G_allow.2.1 36 = .ok (.if_icmp .eq 5, 3) := by decide +kernel
theorem d_G_allow_39 : decode mt_G_allow.2.1 39 = .ok (.iconst 0, 1) := by decide +kernel
theorem d_G_allow_40 : decode mt_G_allow.2.1 40 = .ok (.ireturn, 1) := by decide +kernel
theorem d_G_allow_41 : decode mt_G_allow.2.1 41 = .ok (.iinc 3 1, 3) := by decide +kernel
theorem d_G_allow_44 : decode mt_G_allow.2.1 44 = .ok (.goto (-42), 3) := by decide +kernel
theorem d_G_allow_47 : decode mt_G_allow.2.1 47 = .ok (.iconst 1, 1) := by decide +kernel
theorem d_G_allow_48 : decode mt_G_allow.2.1 48 = .ok (.ireturn, 1) := by decide +kernel
theorem d_G_seen_0 : decode mt_G_seen.2.1 0 = .ok (.iload_n 1, 1) := by decide +kernel
theorem d_G_seen_1 : decode mt_G_seen.2.1 1 = .ok (.lookupswitch 37 #[(0, 27), (1, 32)], 27) := by decide +kernel
theorem d_G_seen_28 : decode mt_G_seen.2.1 28 = .ok (.aload_n 0, 1) := by decide +kernel
theorem d_G_seen_29 : decode mt_G_seen.2.1 29 = .ok (.getfield 29, 3) := by decide +kernel
theorem d_G_seen_32 : decode mt_G_seen.2.1 32 = .ok (.ireturn, 1) := by decide +kernel
theorem d_G_seen_33 : decode mt_G_seen.2.1 33 = .ok (.aload_n 0, 1) := by decide +kernel
theorem d_G_seen_34 : decode mt_G_seen.2.1 34 = .ok (.getfield 34, 3) := by decide +kernel
theorem d_G_seen_37 : decode mt_G_seen.2.1 37 = .ok (.ireturn, 1) := by decide +kernel
theorem d_G_seen_38 : decode mt_G_seen.2.1 38 = .ok (.aload_n 0, 1) := by decide +kernel
theorem d_G_seen_39 : decode mt_G_seen.2.1 39 = .ok (.getfield 37, 3) := by decide +kernel
theorem d_G_seen_42 : decode mt_G_seen.2.1 42 = .ok (.iconst 0, 1) := by decide +kernel
theorem d_G_seen_43 : decode mt_G_seen.2.1 43 = .ok (.iaload, 1) := by decide +kernel
theorem d_G_seen_44 : decode mt_G_seen.2.1 44 = .ok (.ireturn, 1) := by decide +kernel
theorem d_R_share_0 : decode mt_R_share.2.1 0 = .ok (.aload_n 0, 1) := by decide +kernel
theorem d_R_share_1 : decode mt_R_share.2.1 1 = .ok (.iload_n 1, 1) := by decide +kernel
theorem d_R_share_2 : decode mt_R_share.2.1 2 = .ok (.invokevirtual 101, 3) := by decide +kernel
theorem d_R_share_5 : decode mt_R_share.2.1 5 = .ok (.ifCond .ne 5, 3) := by decide +kernel
theorem d_R_share_8 : decode mt_R_share.2.1 8 = .ok (.iconst (-1), 1) := by decide +kernel
theorem d_R_share_9 : decode mt_R_share.2.1 9 = .ok (.ireturn, 1) := by decide +kernel
theorem d_R_share_10 : decode mt_R_share.2.1 10 = .ok (.aload_n 0, 1) := by decide +kernel
theorem d_R_share_11 : decode mt_R_share.2.1 11 = .ok (.getfield 26, 3) := by decide +kernel
theorem d_R_share_14 : decode mt_R_share.2.1 14 = .ok (.getfield 210, 3) := by decide +kernel
theorem d_R_share_17 : decode mt_R_share.2.1 17 = .ok (.istore_n 3, 1) := by decide +kernel
theorem d_R_share_18 : decode mt_R_share.2.1 18 = .ok (.iconst 0, 1) := by decide +kernel
theorem d_R_share_19 : decode mt_R_share.2.1 19 = .ok (.istore 4, 2) := by decide +kernel
theorem d_R_share_21 : decode mt_R_share.2.1 21 = .ok (.iload 4, 2) := by decide +kernel
theorem d_R_share_23 : decode mt_R_share.2.1 23 = .ok (.iconst 1, 1) := by decide +kernel
theorem d_R_share_24 : decode mt_R_share.2.1 24 = .ok (.iload_n 3, 1) := by decide +kernel
theorem d_R_share_25 : decode mt_R_share.2.1 25 = .ok (.ishl, 1) := by decide +kernel
theorem d_R_share_26 : decode mt_R_share.2.1 26 = .ok (.if_icmp .ge 22, 3) := by decide +kernel
theorem d_R_share_29 : decode mt_R_share.2.1 29 = .ok (.aload_n 0, 1) := by decide +kernel
theorem d_R_share_30 : decode mt_R_share.2.1 30 = .ok (.getfield 55, 3) := by decide +kernel
theorem d_R_share_33 : decode mt_R_share.2.1 33 = .ok (.iload 4, 2) := by decide +kernel
theorem d_R_share_35 : decode mt_R_share.2.1 35 = .ok (.aload_n 0, 1) := by decide +kernel
theorem d_R_share_36 : decode mt_R_share.2.1 36 = .ok (.iload 4, 2) := by decide +kernel
theorem d_R_share_38 : decode mt_R_share.2.1 38 = .ok (.invokevirtual 213, 3) := by decide +kernel
theorem d_R_share_41 : decode mt_R_share.2.1 41 = .ok (.iastore, 1) := by decide +kernel
theorem d_R_share_42 : decode mt_R_share.2.1 42 = .ok (.iinc 4 1, 3) := by decide +kernel
theorem d_R_share_45 : decode mt_R_share.2.1 45 = .ok (.goto (-24), 3) := by decide +kernel
theorem d_R_share_48 : decode mt_R_share.2.1 48 = .ok (.lconst 0, 1) := by decide +kernel
theorem d_R_share_49 : decode mt_R_share.2.1 49 = .ok (.lstore 4, 2) := by decide +kernel
theorem d_R_share_51 : decode mt_R_share.2.1 51 = .ok (.iconst 0, 1) := by decide +kernel
theorem d_R_share_52 : decode mt_R_share.2.1 52 = .ok (.istore 6, 2) := by decide +kernel
theorem d_R_share_54 : decode mt_R_share.2.1 54 = .ok (.iload 6, 2) := by decide +kernel
theorem d_R_share_56 : decode mt_R_share.2.1 56 = .ok (.iconst 1, 1) := by decide +kernel
theorem d_R_share_57 : decode mt_R_share.2.1 57 = .ok (.iload_n 3, 1) := by decide +kernel
theorem d_R_share_58 : decode mt_R_share.2.1 58 = .ok (.ishl, 1) := by decide +kernel
theorem d_R_share_59 : decode mt_R_share.2.1 59 = .ok (.if_icmp .ge 73, 3) := by decide +kernel
theorem d_R_share_62 : decode mt_R_share.2.1 62 = .ok (.iload 6, 2) := by decide +kernel
theorem d_R_share_64 : decode mt_R_share.2.1 64 = .ok (.iload_n 1, 1) := by decide +kernel
theorem d_R_share_65 : decode mt_R_share.2.1 65 = .ok (.ishr, 1) := by decide +kernel
theorem d_R_share_66 : decode mt_R_share.2.1 66 = .ok (.iconst 1, 1) := by decide +kernel
theorem d_R_share_67 : decode mt_R_share.2.1 67 = .ok (.iand, 1) := by decide +kernel
theorem d_R_share_68 : decode mt_R_share.2.1 68 = .ok (.ifCond .ne 58, 3) := by decide +kernel
theorem d_R_share_71 : decode mt_R_share.2.1 71 = .ok (.iload 6, 2) := by decide +kernel
theorem d_R_share_73 : decode mt_R_share.2.1 73 = .ok (.invokestatic 184, 3) := by decide +kernel
theorem d_R_share_76 : decode mt_R_share.2.1 76 = .ok (.istore 7, 2) := by decide +kernel
theorem d_R_share_78 : decode mt_R_share.2.1 78 = .ok (.getstatic 216, 3) := by decide +kernel
theorem d_R_share_81 : decode mt_R_share.2.1 81 = .ok (.iload 7, 2) := by decide +kernel
theorem d_R_share_83 : decode mt_R_share.2.1 83 = .ok (.iaload, 1) := by decide +kernel
theorem d_R_share_84 : decode mt_R_share.2.1 84 = .ok (.getstatic 216, 3) := by decide +kernel
theorem d_R_share_87 : decode mt_R_share.2.1 87 = .ok (.iload_n 3, 1) := by decide +kernel
theorem d_R_share_88 : decode mt_R_share.2.1 88 = .ok (.iconst 1, 1) := by decide +kernel
theorem d_R_share_89 : decode mt_R_share.2.1 89 = .ok (.isub, 1) := by decide +kernel
theorem d_R_share_90 : decode mt_R_share.2.1 90 = .ok (.iload 7, 2) := by decide +kernel
theorem d_R_share_92 : decode mt_R_share.2.1 92 = .ok (.isub, 1) := by decide +kernel
theorem d_R_share_93 : decode mt_R_share.2.1 93 = .ok (.iaload, 1) := by decide +kernel
theorem d_R_share_94 : decode mt_R_share.2.1 94 = .ok (.imul, 1) := by decide +kernel
theorem d_R_share_95 : decode mt_R_share.2.1 95 = .ok (.istore 8, 2) := by decide +kernel
theorem d_R_share_97 : decode mt_R_share.2.1 97 = .ok (.lload 4, 2) := by decide +kernel
theorem d_R_share_99 : decode mt_R_share.2.1 99 = .ok (.iload 8, 2) := by decide +kernel
theorem d_R_share_101 : decode mt_R_share.2.1 101 = .ok (.i2l, 1) := by decide +kernel
theorem d_R_share_102 : decode mt_R_share.2.1 102 = .ok (.aload_n 0, 1) := by decide +kernel
theorem d_R_share_103 : decode mt_R_share.2.1 103 = .ok (.getfield 55, 3) := by decide +kernel
theorem d_R_share_106 : decode mt_R_share.2.1 106 = .ok (.iload 6, 2) := by decide +kernel
theorem d_R_share_108 : decode mt_R_share.2.1 108 = .ok (.iconst 1, 1) := by decide +kernel
theorem d_R_share_109 : decode mt_R_share.2.1 109 = .ok (.iload_n 1, 1) := by decide +kernel
theorem d_R_share_110 : decode mt_R_share.2.1 110 = .ok (.ishl, 1) := by decide +kernel
theorem d_R_share_111 : decode mt_R_share.2.1 111 = .ok (.ior, 1) := by decide +kernel
theorem d_R_share_112 : decode mt_R_share.2.1 112 = .ok (.iaload, 1) := by decide +kernel
theorem d_R_share_113 : decode mt_R_share.2.1 113 = .ok (.aload_n 0, 1) := by decide +kernel
theorem d_R_share_114 : decode mt_R_share.2.1 114 = .ok (.getfield 55, 3) := by decide +kernel
theorem d_R_share_117 : decode mt_R_share.2.1 117 = .ok (.iload 6, 2) := by decide +kernel
theorem d_R_share_119 : decode mt_R_share.2.1 119 = .ok (.iaload, 1) := by decide +kernel
theorem d_R_share_120 : decode mt_R_share.2.1 120 = .ok (.isub, 1) := by decide +kernel
theorem d_R_share_121 : decode mt_R_share.2.1 121 = .ok (.i2l, 1) := by decide +kernel
theorem d_R_share_122 : decode mt_R_share.2.1 122 = .ok (.lmul, 1) := by decide +kernel
theorem d_R_share_123 : decode mt_R_share.2.1 123 = .ok (.ladd, 1) := by decide +kernel
theorem d_R_share_124 : decode mt_R_share.2.1 124 = .ok (.lstore 4, 2) := by decide +kernel
theorem d_R_share_126 : decode mt_R_share.2.1 126 = .ok (.iinc 6 1, 3) := by decide +kernel
theorem d_R_share_129 : decode mt_R_share.2.1 129 = .ok (.goto (-75), 3) := by decide +kernel
theorem d_R_share_132 : decode mt_R_share.2.1 132 = .ok (.lload 4, 2) := by decide +kernel
theorem d_R_share_134 : decode mt_R_share.2.1 134 = .ok (.getstatic 216, 3) := by decide +kernel
theorem d_R_share_137 : decode mt_R_share.2.1 137 = .ok (.iload_n 3, 1) := by decide +kernel
theorem d_R_share_138 : decode mt_R_share.2.1 138 = .ok (.iaload, 1) := by decide +kernel
theorem d_R_share_139 : decode mt_R_share.2.1 139 = .ok (.i2l, 1) := by decide +kernel
theorem d_R_share_140 : decode mt_R_share.2.1 140 = .ok (.iload_n 2, 1) := by decide +kernel
theorem d_R_share_141 : decode mt_R_share.2.1 141 = .ok (.invokestatic 219, 3) := by decide +kernel
theorem d_R_share_144 : decode mt_R_share.2.1 144 = .ok (.ireturn, 1) := by decide +kernel
theorem d_R_worth_0 : decode mt_R_worth.2.1 0 = .ok (.iconst 0, 1) := by decide +kernel
theorem d_R_worth_1 : decode mt_R_worth.2.1 1 = .ok (.istore_n 2, 1) := by decide +kernel
theorem d_R_worth_2 : decode mt_R_worth.2.1 2 = .ok (.aload_n 0, 1) := by decide +kernel
theorem d_R_worth_3 : decode mt_R_worth.2.1 3 = .ok (.getfield 30, 3) := by decide +kernel
theorem d_R_worth_6 : decode mt_R_worth.2.1 6 = .ok (.aload_n 0, 1) := by decide +kernel
theorem d_R_worth_7 : decode mt_R_worth.2.1 7 = .ok (.getfield 26, 3) := by decide +kernel
theorem d_R_worth_10 : decode mt_R_worth.2.1 10 = .ok (.invokevirtual 79, 3) := by decide +kernel
theorem d_R_worth_13 : decode mt_R_worth.2.1 13 = .ok (.aload_n 0, 1) := by decide +kernel
theorem d_R_worth_14 : decode mt_R_worth.2.1 14 = .ok (.getfield 30, 3) := by decide +kernel
theorem d_R_worth_17 : decode mt_R_worth.2.1 17 = .ok (.iload_n 1, 1) := by decide +kernel
theorem d_R_worth_18 : decode mt_R_worth.2.1 18 = .ok (.iconst (-1), 1) := by decide +kernel
theorem d_R_worth_19 : decode mt_R_worth.2.1 19 = .ok (.ixor, 1) := by decide +kernel
theorem d_R_worth_20 : decode mt_R_worth.2.1 20 = .ok (.putfield 270, 3) := by decide +kernel
theorem d_R_worth_23 : decode mt_R_worth.2.1 23 = .ok (.iconst 0, 1) := by decide +kernel
theorem d_R_worth_24 : decode mt_R_worth.2.1 24 = .ok (.istore_n 3, 1) := by decide +kernel
theorem d_R_worth_25 : decode mt_R_worth.2.1 25 = .ok (.iload_n 3, 1) := by decide +kernel
theorem d_R_worth_26 : decode mt_R_worth.2.1 26 = .ok (.bipush 20, 2) := by decide +kernel
theorem d_R_worth_28 : decode mt_R_worth.2.1 28 = .ok (.if_icmp .ge 31, 3) := by decide +kernel
theorem d_R_worth_31 : decode mt_R_worth.2.1 31 = .ok (.aload_n 0, 1) := by decide +kernel
theorem d_R_worth_32 : decode mt_R_worth.2.1 32 = .ok (.getfield 30, 3) := by decide +kernel
theorem d_R_worth_35 : decode mt_R_worth.2.1 35 = .ok (.aload_n 0, 1) := by decide +kernel
theorem d_R_worth_36 : decode mt_R_worth.2.1 36 = .ok (.getfield 19, 3) := by decide +kernel
theorem d_R_worth_39 : decode mt_R_worth.2.1 39 = .ok (.iconst 1, 1) := by decide +kernel
theorem d_R_worth_40 : decode mt_R_worth.2.1 40 = .ok (.invokevirtual 137, 3) := by decide +kernel
theorem d_R_worth_43 : decode mt_R_worth.2.1 43 = .ok (.iload_n 2, 1) := by decide +kernel
theorem d_R_worth_44 : decode mt_R_worth.2.1 44 = .ok (.aload_n 0, 1) := by decide +kernel
theorem d_R_worth_45 : decode mt_R_worth.2.1 45 = .ok (.getfield 30, 3) := by decide +kernel
theorem d_R_worth_48 : decode mt_R_worth.2.1 48 = .ok (.invokevirtual 141, 3) := by decide +kernel
theorem d_R_worth_51 : decode mt_R_worth.2.1 51 = .ok (.iadd, 1) := by decide +kernel
theorem d_R_worth_52 : decode mt_R_worth.2.1 52 = .ok (.istore_n 2, 1) := by decide +kernel
theorem d_R_worth_53 : decode mt_R_worth.2.1 53 = .ok (.iinc 3 1, 3) := by decide +kernel
theorem d_R_worth_56 : decode mt_R_worth.2.1 56 = .ok (.goto (-31), 3) := by decide +kernel
theorem d_R_worth_59 : decode mt_R_worth.2.1 59 = .ok (.iload_n 2, 1) := by decide +kernel
theorem d_R_worth_60 : decode mt_R_worth.2.1 60 = .ok (.ireturn, 1) := by decide +kernel
theorem d_R_part_0 : decode mt_R_part.2.1 0 = .ok (.lload_n 2, 1) := by decide +kernel
theorem d_R_part_1 : decode mt_R_part.2.1 1 = .ok (.lstore 5, 2) := by decide +kernel
theorem d_R_part_3 : decode mt_R_part.2.1 3 = .ok (.lload_n 0, 1) := by decide +kernel
theorem d_R_part_4 : decode mt_R_part.2.1 4 = .ok (.invokestatic 277, 3) := by decide +kernel
theorem d_R_part_7 : decode mt_R_part.2.1 7 = .ok (.lstore 7, 2) := by decide +kernel
theorem d_R_part_9 : decode mt_R_part.2.1 9 = .ok (.iconst 0, 1) := by decide +kernel
theorem d_R_part_10 : decode mt_R_part.2.1 10 = .ok (.istore 9, 2) := by decide +kernel
theorem d_R_part_12 : decode mt_R_part.2.1 12 = .ok (.iload 9, 2) := by decide +kernel
theorem d_R_part_14 : decode mt_R_part.2.1 14 = .ok (.bipush 100, 2) := by decide +kernel
theorem d_R_part_16 : decode mt_R_part.2.1 16 = .ok (.if_icmp .ge 31, 3) := by decide +kernel
theorem d_R_part_19 : decode mt_R_part.2.1 19 = .ok (.lload 7, 2) := by decide +kernel
theorem d_R_part_21 : decode mt_R_part.2.1 21 = .ok (.lconst 0, 1) := by decide +kernel
theorem d_R_part_22 : decode mt_R_part.2.1 22 = .ok (.lcmp, 1) := by decide +kernel
theorem d_R_part_23 : decode mt_R_part.2.1 23 = .ok (.ifCond .eq 24, 3) := by decide +kernel
theorem d_R_part_26 : decode mt_R_part.2.1 26 = .ok (.lload 5, 2) := by decide +kernel
theorem d_R_part_28 : decode mt_R_part.2.1 28 = .ok (.lload 7, 2) := by decide +kernel
theorem d_R_part_30 : decode mt_R_part.2.1 30 = .ok (.lrem, 1) := by decide +kernel
theorem d_R_part_31 : decode mt_R_part.2.1 31 = .ok (.lstore 10, 2) := by decide +kernel
theorem d_R_part_33 : decode mt_R_part.2.1 33 = .ok (.lload 7, 2) := by decide +kernel
theorem d_R_part_35 : decode mt_R_part.2.1 35 = .ok (.lstore 5, 2) := by decide +kernel
theorem d_R_part_37 : decode mt_R_part.2.1 37 = .ok (.lload 10, 2) := by decide +kernel
theorem d_R_part_39 : decode mt_R_part.2.1 39 = .ok (.lstore 7, 2) := by decide +kernel
theorem d_R_part_41 : decode mt_R_part.2.1 41 = .ok (.iinc 9 1, 3) := by decide +kernel
theorem d_R_part_44 : decode mt_R_part.2.1 44 = .ok (.goto (-32), 3) := by decide +kernel
theorem d_R_part_47 : decode mt_R_part.2.1 47 = .ok (.lload 5, 2) := by decide +kernel
theorem d_R_part_49 : decode mt_R_part.2.1 49 = .ok (.lconst 0, 1) := by decide +kernel
theorem d_R_part_50 : decode mt_R_part.2.1 50 = .ok (.lcmp, 1) := by decide +kernel
theorem d_R_part_51 : decode mt_R_part.2.1 51 = .ok (.ifCond .ne 5, 3) := by decide +kernel
theorem d_R_part_54 : decode mt_R_part.2.1 54 = .ok (.iconst 0, 1) := by decide +kernel
theorem d_R_part_55 : decode mt_R_part.2.1 55 = .ok (.ireturn, 1) := by decide +kernel
theorem d_R_part_56 : decode mt_R_part.2.1 56 = .ok (.iload 4, 2) := by decide +kernel
theorem d_R_part_58 : decode mt_R_part.2.1 58 = .ok (.ifCond .eq 7, 3) := by decide +kernel
theorem d_R_part_61 : decode mt_R_part.2.1 61 = .ok (.lload_n 0, 1) := by decide +kernel
theorem d_R_part_62 : decode mt_R_part.2.1 62 = .ok (.goto 4, 3) := by decide +kernel
theorem d_R_part_65 : decode mt_R_part.2.1 65 = .ok (.lload_n 2, 1) := by decide +kernel
theorem d_R_part_66 : decode mt_R_part.2.1 66 = .ok (.lload 5, 2) := by decide +kernel
theorem d_R_part_68 : decode mt_R_part.2.1 68 = .ok (.ldiv, 1) := by decide +kernel
theorem d_R_part_69 : decode mt_R_part.2.1 69 = .ok (.l2i, 1) := by decide +kernel
theorem d_R_part_70 : decode mt_R_part.2.1 70 = .ok (.ireturn, 1) := by decide +kernel
theorem d_JM_abs_0 : decode mt_JM_abs.2.1 0 = .ok (.lload_n 0, 1) := by decide +kernel
theorem d_JM_abs_1 : decode mt_JM_abs.2.1 1 = .ok (.lconst 0, 1) := by decide +kernel
theorem d_JM_abs_2 : decode mt_JM_abs.2.1 2 = .ok (.lcmp, 1) := by decide +kernel
theorem d_JM_abs_3 : decode mt_JM_abs.2.1 3 = .ok (.ifCond .ge 8, 3) := by decide +kernel
theorem d_JM_abs_6 : decode mt_JM_abs.2.1 6 = .ok (.lload_n 0, 1) := by decide +kernel
theorem d_JM_abs_7 : decode mt_JM_abs.2.1 7 = .ok (.lneg, 1) := by decide +kernel
theorem d_JM_abs_8 : decode mt_JM_abs.2.1 8 = .ok (.goto 4, 3) := by decide +kernel
theorem d_JM_abs_11 : decode mt_JM_abs.2.1 11 = .ok (.lload_n 0, 1) := by decide +kernel
theorem d_JM_abs_12 : decode mt_JM_abs.2.1 12 = .ok (.lreturn, 1) := by decide +kernel
theorem d_R_lost_0 : decode mt_R_lost.2.1 0 = .ok (.iload_n 1, 1) := by decide +kernel
theorem d_R_lost_1 : decode mt_R_lost.2.1 1 = .ok (.bipush 11, 2) := by decide +kernel
theorem d_R_lost_3 : decode mt_R_lost.2.1 3 = .ok (.invokestatic 111, 3) := by decide +kernel
theorem d_R_lost_6 : decode mt_R_lost.2.1 6 = .ok (.ifCond .ne 6, 3) := by decide +kernel
theorem d_R_lost_9 : decode mt_R_lost.2.1 9 = .ok (.bipush (-2), 2) := by decide +kernel
theorem d_R_lost_11 : decode mt_R_lost.2.1 11 = .ok (.ireturn, 1) := by decide +kernel
theorem d_R_lost_12 : decode mt_R_lost.2.1 12 = .ok (.aload_n 0, 1) := by decide +kernel
theorem d_R_lost_13 : decode mt_R_lost.2.1 13 = .ok (.getfield 26, 3) := by decide +kernel
theorem d_R_lost_16 : decode mt_R_lost.2.1 16 = .ok (.getfield 118, 3) := by decide +kernel
theorem d_R_lost_19 : decode mt_R_lost.2.1 19 = .ok (.getfield 122, 3) := by decide +kernel
theorem d_R_lost_22 : decode mt_R_lost.2.1 22 = .ok (.istore_n 3, 1) := by decide +kernel
theorem d_R_lost_23 : decode mt_R_lost.2.1 23 = .ok (.lconst 0, 1) := by decide +kernel
theorem d_R_lost_24 : decode mt_R_lost.2.1 24 = .ok (.lstore 4, 2) := by decide +kernel
theorem d_R_lost_26 : decode mt_R_lost.2.1 26 = .ok (.iconst 0, 1) := by decide +kernel
theorem d_R_lost_27 : decode mt_R_lost.2.1 27 = .ok (.istore 6, 2) := by decide +kernel
theorem d_R_lost_29 : decode mt_R_lost.2.1 29 = .ok (.iload 6, 2) := by decide +kernel
theorem d_R_lost_31 : decode mt_R_lost.2.1 31 = .ok (.iconst 1, 1) := by decide +kernel
theorem d_R_lost_32 : decode mt_R_lost.2.1 32 = .ok (.iload_n 3, 1) := by decide +kernel
theorem d_R_lost_33 : decode mt_R_lost.2.1 33 = .ok (.ishl, 1) := by decide +kernel
theorem d_R_lost_34 : decode mt_R_lost.2.1 34 = .ok (.if_icmp .ge 59, 3) := by decide +kernel
theorem d_R_lost_37 : decode mt_R_lost.2.1 37 = .ok (.iload 6, 2) := by decide +kernel
theorem d_R_lost_39 : decode mt_R_lost.2.1 39 = .ok (.invokestatic 184, 3) := by decide +kernel
theorem d_R_lost_42 : decode mt_R_lost.2.1 42 = .ok (.istore 7, 2) := by decide +kernel
theorem d_R_lost_44 : decode mt_R_lost.2.1 44 = .ok (.iload_n 1, 1) := by decide +kernel
theorem d_R_lost_45 : decode mt_R_lost.2.1 45 = .ok (.iload 7, 2) := by decide +kernel
theorem d_R_lost_47 : decode mt_R_lost.2.1 47 = .ok (.invokestatic 190, 3) := by decide +kernel
theorem d_R_lost_50 : decode mt_R_lost.2.1 50 = .ok (.bipush 10, 2) := by decide +kernel
theorem d_R_lost_52 : decode mt_R_lost.2.1 52 = .ok (.iload_n 1, 1) := by decide +kernel
theorem d_R_lost_53 : decode mt_R_lost.2.1 53 = .ok (.isub, 1) := by decide +kernel
theorem d_R_lost_54 : decode mt_R_lost.2.1 54 = .ok (.iload_n 3, 1) := by decide +kernel
theorem d_R_lost_55 : decode mt_R_lost.2.1 55 = .ok (.iload 7, 2) := by decide +kernel
theorem d_R_lost_57 : decode mt_R_lost.2.1 57 = .ok (.isub, 1) := by decide +kernel
theorem d_R_lost_58 : decode mt_R_lost.2.1 58 = .ok (.invokestatic 190, 3) := by decide +kernel
theorem d_R_lost_61 : decode mt_R_lost.2.1 61 = .ok (.lmul, 1) := by decide +kernel
theorem d_R_lost_62 : decode mt_R_lost.2.1 62 = .ok (.lstore 8, 2) := by decide +kernel
theorem d_R_lost_64 : decode mt_R_lost.2.1 64 = .ok (.lload 8, 2) := by decide +kernel
theorem d_R_lost_66 : decode mt_R_lost.2.1 66 = .ok (.lconst 0, 1) := by decide +kernel
theorem d_R_lost_67 : decode mt_R_lost.2.1 67 = .ok (.lcmp, 1) := by decide +kernel
theorem d_R_lost_68 : decode mt_R_lost.2.1 68 = .ok (.ifCond .eq 19, 3) := by decide +kernel
theorem d_R_lost_71 : decode mt_R_lost.2.1 71 = .ok (.aload_n 0, 1) := by decide +kernel
theorem d_R_lost_72 : decode mt_R_lost.2.1 72 = .ok (.iload 6, 2) := by decide +kernel
theorem d_R_lost_74 : decode mt_R_lost.2.1 74 = .ok (.invokevirtual 223, 3) := by decide +kernel
theorem d_R_lost_77 : decode mt_R_lost.2.1 77 = .ok (.ifCond .eq 10, 3) := by decide +kernel
theorem d_R_lost_80 : decode mt_R_lost.2.1 80 = .ok (.lload 4, 2) := by decide +kernel
theorem d_R_lost_82 : decode mt_R_lost.2.1 82 = .ok (.lload 8, 2) := by decide +kernel
theorem d_R_lost_84 : decode mt_R_lost.2.1 84 = .ok (.ladd, 1) := by decide +kernel
theorem d_R_lost_85 : decode mt_R_lost.2.1 85 = .ok (.lstore 4, 2) := by decide +kernel
theorem d_R_lost_87 : decode mt_R_lost.2.1 87 = .ok (.iinc 6 1, 3) := by decide +kernel
theorem d_R_lost_90 : decode mt_R_lost.2.1 90 = .ok (.goto (-61), 3) := by decide +kernel
theorem d_R_lost_93 : decode mt_R_lost.2.1 93 = .ok (.lload 4, 2) := by decide +kernel
theorem d_R_lost_95 : decode mt_R_lost.2.1 95 = .ok (.bipush 10, 2) := by decide +kernel
theorem d_R_lost_97 : decode mt_R_lost.2.1 97 = .ok (.iload_n 3, 1) := by decide +kernel
theorem d_R_lost_98 : decode mt_R_lost.2.1 98 = .ok (.invokestatic 190, 3) := by decide +kernel
theorem d_R_lost_101 : decode mt_R_lost.2.1 101 = .ok (.iload_n 2, 1) := by decide +kernel
theorem d_R_lost_102 : decode mt_R_lost.2.1 102 = .ok (.invokestatic 219, 3) := by decide +kernel
theorem d_R_lost_105 : decode mt_R_lost.2.1 105 = .ok (.ireturn, 1) := by decide +kernel
theorem d_R_endsHaltedWithout_0 : decode mt_R_endsHaltedWithout.2.1 0 = .ok (.aload_n 0, 1) := by decide +kernel
theorem d_R_endsHaltedWithout_1 : decode mt_R_endsHaltedWithout.2.1 1 = .ok (.getfield 30, 3) := by decide +kernel
theorem d_R_endsHaltedWithout_4 : decode mt_R_endsHaltedWithout.2.1 4 = .ok (.aload_n 0, 1) := by decide +kernel
theorem d_R_endsHaltedWithout_5 : decode mt_R_endsHaltedWithout.2.1 5 = .ok (.getfield 26, 3) := by decide +kernel
theorem d_R_endsHaltedWithout_8 : decode mt_R_endsHaltedWithout.2.1 8 = .ok (.invokevirtual 79, 3) := by decide +kernel
theorem d_R_endsHaltedWithout_11 : decode mt_R_endsHaltedWithout.2.1 11 = .ok (.aload_n 0, 1) := by decide +kernel
theorem d_R_endsHaltedWithout_12 : decode mt_R_endsHaltedWithout.2.1 12 = .ok (.getfield 30, 3) := by decide +kernel
theorem d_R_endsHaltedWithout_15 : decode mt_R_endsHaltedWithout.2.1 15 = .ok (.getfield 118, 3) := by decide +kernel
theorem d_R_endsHaltedWithout_18 : decode mt_R_endsHaltedWithout.2.1 18 = .ok (.iload_n 1, 1) := by decide +kernel
theorem d_R_endsHaltedWithout_19 : decode mt_R_endsHaltedWithout.2.1 19 = .ok (.invokevirtual 273, 3) := by decide +kernel
theorem d_R_endsHaltedWithout_22 : decode mt_R_endsHaltedWithout.2.1 22 = .ok (.aload_n 0, 1) := by decide +kernel
theorem d_R_endsHaltedWithout_23 : decode mt_R_endsHaltedWithout.2.1 23 = .ok (.getfield 30, 3) := by decide +kernel
theorem d_R_endsHaltedWithout_26 : decode mt_R_endsHaltedWithout.2.1 26 = .ok (.aload_n 0, 1) := by decide +kernel
theorem d_R_endsHaltedWithout_27 : decode mt_R_endsHaltedWithout.2.1 27 = .ok (.getfield 19, 3) := by decide +kernel
theorem d_R_endsHaltedWithout_30 : decode mt_R_endsHaltedWithout.2.1 30 = .ok (.bipush 10, 2) := by decide +kernel
theorem d_R_endsHaltedWithout_32 : decode mt_R_endsHaltedWithout.2.1 32 = .ok (.invokevirtual 137, 3) := by decide +kernel
theorem d_R_endsHaltedWithout_35 : decode mt_R_endsHaltedWithout.2.1 35 = .ok (.aload_n 0, 1) := by decide +kernel
theorem d_R_endsHaltedWithout_36 : decode mt_R_endsHaltedWithout.2.1 36 = .ok (.getfield 30, 3) := by decide +kernel
theorem d_R_endsHaltedWithout_39 : decode mt_R_endsHaltedWithout.2.1 39 = .ok (.invokevirtual 235, 3) := by decide +kernel
theorem d_R_endsHaltedWithout_42 : decode mt_R_endsHaltedWithout.2.1 42 = .ok (.aload_n 0, 1) := by decide +kernel
theorem d_R_endsHaltedWithout_43 : decode mt_R_endsHaltedWithout.2.1 43 = .ok (.getfield 30, 3) := by decide +kernel
theorem d_R_endsHaltedWithout_46 : decode mt_R_endsHaltedWithout.2.1 46 = .ok (.invokevirtual 178, 3) := by decide +kernel
theorem d_R_endsHaltedWithout_49 : decode mt_R_endsHaltedWithout.2.1 49 = .ok (.if_icmp .ne 7, 3) := by decide +kernel
theorem d_R_endsHaltedWithout_52 : decode mt_R_endsHaltedWithout.2.1 52 = .ok (.iconst 1, 1) := by decide +kernel
theorem d_R_endsHaltedWithout_53 : decode mt_R_endsHaltedWithout.2.1 53 = .ok (.goto 4, 3) := by decide +kernel
theorem d_R_endsHaltedWithout_56 : decode mt_R_endsHaltedWithout.2.1 56 = .ok (.iconst 0, 1) := by decide +kernel
theorem d_R_endsHaltedWithout_57 : decode mt_R_endsHaltedWithout.2.1 57 = .ok (.ireturn, 1) := by decide +kernel
theorem d_D_lose_0 : decode mt_D_lose.2.1 0 = .ok (.iconst 0, 1) := by decide +kernel
theorem d_D_lose_1 : decode mt_D_lose.2.1 1 = .ok (.istore_n 2, 1) := by decide +kernel
theorem d_D_lose_2 : decode mt_D_lose.2.1 2 = .ok (.iconst 0, 1) := by decide +kernel
theorem d_D_lose_3 : decode mt_D_lose.2.1 3 = .ok (.istore_n 3, 1) := by decide +kernel
theorem d_D_lose_4 : decode mt_D_lose.2.1 4 = .ok (.iload_n 3, 1) := by decide +kernel
theorem d_D_lose_5 : decode mt_D_lose.2.1 5 = .ok (.aload_n 0, 1) := by decide +kernel
theorem d_D_lose_6 : decode mt_D_lose.2.1 6 = .ok (.getfield 22, 3) := by decide +kernel
theorem d_D_lose_9 : decode mt_D_lose.2.1 9 = .ok (.if_icmp .ge 26, 3) := by decide +kernel
theorem d_D_lose_12 : decode mt_D_lose.2.1 12 = .ok (.iload_n 1, 1) := by decide +kernel
theorem d_D_lose_13 : decode mt_D_lose.2.1 13 = .ok (.iload_n 3, 1) := by decide +kernel
theorem d_D_lose_14 : decode mt_D_lose.2.1 14 = .ok (.ishr, 1) := by decide +kernel
theorem d_D_lose_15 : decode mt_D_lose.2.1 15 = .ok (.iconst 1, 1) := by decide +kernel
theorem d_D_lose_16 : decode mt_D_lose.2.1 16 = .ok (.iand, 1) := by decide +kernel
theorem d_D_lose_17 : decode mt_D_lose.2.1 17 = .ok (.ifCond .ne 12, 3) := by decide +kernel
theorem d_D_lose_20 : decode mt_D_lose.2.1 20 = .ok (.aload_n 0, 1) := by decide +kernel
theorem d_D_lose_21 : decode mt_D_lose.2.1 21 = .ok (.iload_n 3, 1) := by decide +kernel
theorem d_D_lose_22 : decode mt_D_lose.2.1 22 = .ok (.iload_n 2, 1) := by decide +kernel
theorem d_D_lose_23 : decode mt_D_lose.2.1 23 = .ok (.invokevirtual 74, 3) := by decide +kernel
theorem d_D_lose_26 : decode mt_D_lose.2.1 26 = .ok (.iinc 2 1, 3) := by decide +kernel
theorem d_D_lose_29 : decode mt_D_lose.2.1 29 = .ok (.iinc 3 1, 3) := by decide +kernel
theorem d_D_lose_32 : decode mt_D_lose.2.1 32 = .ok (.goto (-28), 3) := by decide +kernel
theorem d_D_lose_35 : decode mt_D_lose.2.1 35 = .ok (.aload_n 0, 1) := by decide +kernel
theorem d_D_lose_36 : decode mt_D_lose.2.1 36 = .ok (.iload_n 2, 1) := by decide +kernel
theorem d_D_lose_37 : decode mt_D_lose.2.1 37 = .ok (.putfield 22, 3) := by decide +kernel
theorem d_D_lose_40 : decode mt_D_lose.2.1 40 = .ok (.return_, 1) := by decide +kernel
theorem d_R_seed_0 : decode mt_R_seed.2.1 0 = .ok (.aload_n 0, 1) := by decide +kernel
theorem d_R_seed_1 : decode mt_R_seed.2.1 1 = .ok (.getfield 226, 3) := by decide +kernel
theorem d_R_seed_4 : decode mt_R_seed.2.1 4 = .ok (.lstore_n 3, 1) := by decide +kernel
theorem d_R_seed_5 : decode mt_R_seed.2.1 5 = .ok (.aload_n 0, 1) := by decide +kernel
theorem d_R_seed_6 : decode mt_R_seed.2.1 6 = .ok (.lload_n 1, 1) := by decide +kernel
theorem d_R_seed_7 : decode mt_R_seed.2.1 7 = .ok (.putfield 226, 3) := by decide +kernel
theorem d_R_seed_10 : decode mt_R_seed.2.1 10 = .ok (.lload_n 3, 1) := by decide +kernel
theorem d_R_seed_11 : decode mt_R_seed.2.1 11 = .ok (.lreturn, 1) := by decide +kernel
theorem d_R_drawn_0 : decode mt_R_drawn.2.1 0 = .ok (.iload_n 1, 1) := by decide +kernel
theorem d_R_drawn_1 : decode mt_R_drawn.2.1 1 = .ok (.iconst 1, 1) := by decide +kernel
theorem d_R_drawn_2 : decode mt_R_drawn.2.1 2 = .ok (.if_icmp .lt 9, 3) := by decide +kernel
theorem d_R_drawn_5 : decode mt_R_drawn.2.1 5 = .ok (.iload_n 1, 1) := by decide +kernel
theorem d_R_drawn_6 : decode mt_R_drawn.2.1 6 = .ok (.bipush 20, 2) := by decide +kernel
theorem d_R_drawn_8 : decode mt_R_drawn.2.1 8 = .ok (.if_icmp .le 6, 3) := by decide +kernel
theorem d_R_drawn_11 : decode mt_R_drawn.2.1 11 = .ok (.bipush (-2), 2) := by decide +kernel
theorem d_R_drawn_13 : decode mt_R_drawn.2.1 13 = .ok (.ireturn, 1) := by decide +kernel
theorem d_R_drawn_14 : decode mt_R_drawn.2.1 14 = .ok (.iconst 0, 1) := by decide +kernel
theorem d_R_drawn_15 : decode mt_R_drawn.2.1 15 = .ok (.istore_n 2, 1) := by decide +kernel
theorem d_R_drawn_16 : decode mt_R_drawn.2.1 16 = .ok (.aload_n 0, 1) := by decide +kernel
theorem d_R_drawn_17 : decode mt_R_drawn.2.1 17 = .ok (.getfield 30, 3) := by decide +kernel
theorem d_R_drawn_20 : decode mt_R_drawn.2.1 20 = .ok (.aload_n 0, 1) := by decide +kernel
theorem d_R_drawn_21 : decode mt_R_drawn.2.1 21 = .ok (.getfield 26, 3) := by decide +kernel
theorem d_R_drawn_24 : decode mt_R_drawn.2.1 24 = .ok (.invokevirtual 79, 3) := by decide +kernel
theorem d_R_drawn_27 : decode mt_R_drawn.2.1 27 = .ok (.iconst 0, 1) := by decide +kernel
theorem d_R_drawn_28 : decode mt_R_drawn.2.1 28 = .ok (.istore_n 3, 1) := by decide +kernel
theorem d_R_drawn_29 : decode mt_R_drawn.2.1 29 = .ok (.iload_n 3, 1) := by decide +kernel
theorem d_R_drawn_30 : decode mt_R_drawn.2.1 30 = .ok (.iload_n 1, 1) := by decide +kernel
theorem d_R_drawn_31 : decode mt_R_drawn.2.1 31 = .ok (.if_icmp .ge 110, 3) := by decide +kernel
theorem d_R_drawn_34 : decode mt_R_drawn.2.1 34 = .ok (.aload_n 0, 1) := by decide +kernel
theorem d_R_drawn_35 : decode mt_R_drawn.2.1 35 = .ok (.aload_n 0, 1) := by decide +kernel
theorem d_R_drawn_36 : decode mt_R_drawn.2.1 36 = .ok (.getfield 226, 3) := by decide +kernel
theorem d_R_drawn_39 : decode mt_R_drawn.2.1 39 = .ok (.ldc2_w 230, 3) := by decide +kernel
theorem d_R_drawn_42 : decode mt_R_drawn.2.1 42 = .ok (.lmul, 1) := by decide +kernel
theorem d_R_drawn_43 : decode mt_R_drawn.2.1 43 = .ok (.ldc2_w 232, 3) := by decide +kernel
theorem d_R_drawn_46 : decode mt_R_drawn.2.1 46 = .ok (.ladd, 1) := by decide +kernel
theorem d_R_drawn_47 : decode mt_R_drawn.2.1 47 = .ok (.putfield 226, 3) := by decide +kernel
theorem d_R_drawn_50 : decode mt_R_drawn.2.1 50 = .ok (.aload_n 0, 1) := by decide +kernel
theorem d_R_drawn_51 : decode mt_R_drawn.2.1 51 = .ok (.getfield 30, 3) := by decide +kernel
theorem d_R_drawn_54 : decode mt_R_drawn.2.1 54 = .ok (.getfield 85, 3) := by decide +kernel
theorem d_R_drawn_57 : decode mt_R_drawn.2.1 57 = .ok (.ifCond .le 78, 3) := by decide +kernel
theorem d_R_drawn_60 : decode mt_R_drawn.2.1 60 = .ok (.aload_n 0, 1) := by decide +kernel
theorem d_R_drawn_61 : decode mt_R_drawn.2.1 61 = .ok (.getfield 226, 3) := by decide +kernel
theorem d_R_drawn_64 : decode mt_R_drawn.2.1 64 = .ok (.bipush 33, 2) := by decide +kernel
theorem d_R_drawn_66 : decode mt_R_drawn.2.1 66 = .ok (.lushr, 1) := by decide +kernel
theorem d_R_drawn_67 : decode mt_R_drawn.2.1 67 = .ok (.l2i, 1) := by decide +kernel
theorem d_R_drawn_68 : decode mt_R_drawn.2.1 68 = .ok (.istore 4, 2) := by decide +kernel
theorem d_R_drawn_70 : decode mt_R_drawn.2.1 70 = .ok (.aload_n 0, 1) := by decide +kernel
theorem d_R_drawn_71 : decode mt_R_drawn.2.1 71 = .ok (.getfield 30, 3) := by decide +kernel
theorem d_R_drawn_74 : decode mt_R_drawn.2.1 74 = .ok (.getfield 118, 3) := by decide +kernel
theorem d_R_drawn_77 : decode mt_R_drawn.2.1 77 = .ok (.getfield 122, 3) := by decide +kernel
theorem d_R_drawn_80 : decode mt_R_drawn.2.1 80 = .ok (.bipush 8, 2) := by decide +kernel
theorem d_R_drawn_82 : decode mt_R_drawn.2.1 82 = .ok (.if_icmp .ge 31, 3) := by decide +kernel
theorem d_R_drawn_85 : decode mt_R_drawn.2.1 85 = .ok (.aload_n 0, 1) := by decide +kernel
theorem d_R_drawn_86 : decode mt_R_drawn.2.1 86 = .ok (.getfield 30, 3) := by decide +kernel
theorem d_R_drawn_89 : decode mt_R_drawn.2.1 89 = .ok (.getfield 118, 3) := by decide +kernel
theorem d_R_drawn_92 : decode mt_R_drawn.2.1 92 = .ok (.iload 4, 2) := by decide +kernel
theorem d_R_drawn_94 : decode mt_R_drawn.2.1 94 = .ok (.iconst 3, 1) := by decide +kernel
theorem d_R_drawn_95 : decode mt_R_drawn.2.1 95 = .ok (.irem, 1) := by decide +kernel
theorem d_R_drawn_96 : decode mt_R_drawn.2.1 96 = .ok (.iload 4, 2) := by decide +kernel
theorem d_R_drawn_98 : decode mt_R_drawn.2.1 98 = .ok (.iconst 4, 1) := by decide +kernel
theorem d_R_drawn_99 : decode mt_R_drawn.2.1 99 = .ok (.idiv, 1) := by decide +kernel
theorem d_R_drawn_100 : decode mt_R_drawn.2.1 100 = .ok (.aload_n 0, 1) := by decide +kernel
theorem d_R_drawn_101 : decode mt_R_drawn.2.1 101 = .ok (.getfield 30, 3) := by decide +kernel
theorem d_R_drawn_104 : decode mt_R_drawn.2.1 104 = .ok (.getfield 85, 3) := by decide +kernel
theorem d_R_drawn_107 : decode mt_R_drawn.2.1 107 = .ok (.irem, 1) := by decide +kernel
theorem d_R_drawn_108 : decode mt_R_drawn.2.1 108 = .ok (.iconst 0, 1) := by decide +kernel
theorem d_R_drawn_109 : decode mt_R_drawn.2.1 109 = .ok (.iconst 0, 1) := by decide +kernel
theorem d_R_drawn_110 : decode mt_R_drawn.2.1 110 = .ok (.invokevirtual 144, 3) := by decide +kernel
theorem d_R_drawn_113 : decode mt_R_drawn.2.1 113 = .ok (.aload_n 0, 1) := by decide +kernel
theorem d_R_drawn_114 : decode mt_R_drawn.2.1 114 = .ok (.getfield 30, 3) := by decide +kernel
theorem d_R_drawn_117 : decode mt_R_drawn.2.1 117 = .ok (.aload_n 0, 1) := by decide +kernel
theorem d_R_drawn_118 : decode mt_R_drawn.2.1 118 = .ok (.getfield 19, 3) := by decide +kernel
theorem d_R_drawn_121 : decode mt_R_drawn.2.1 121 = .ok (.iconst 1, 1) := by decide +kernel
theorem d_R_drawn_122 : decode mt_R_drawn.2.1 122 = .ok (.invokevirtual 137, 3) := by decide +kernel
theorem d_R_drawn_125 : decode mt_R_drawn.2.1 125 = .ok (.iload_n 2, 1) := by decide +kernel
theorem d_R_drawn_126 : decode mt_R_drawn.2.1 126 = .ok (.aload_n 0, 1) := by decide +kernel
theorem d_R_drawn_127 : decode mt_R_drawn.2.1 127 = .ok (.getfield 30, 3) := by decide +kernel
theorem d_R_drawn_130 : decode mt_R_drawn.2.1 130 = .ok (.invokevirtual 141, 3) := by decide +kernel
theorem d_R_drawn_133 : decode mt_R_drawn.2.1 133 = .ok (.iadd, 1) := by decide +kernel
theorem d_R_drawn_134 : decode mt_R_drawn.2.1 134 = .ok (.istore_n 2, 1) := by decide +kernel
theorem d_R_drawn_135 : decode mt_R_drawn.2.1 135 = .ok (.iinc 3 1, 3) := by decide +kernel
theorem d_R_drawn_138 : decode mt_R_drawn.2.1 138 = .ok (.goto (-109), 3) := by decide +kernel
theorem d_R_drawn_141 : decode mt_R_drawn.2.1 141 = .ok (.iload_n 2, 1) := by decide +kernel
theorem d_R_drawn_142 : decode mt_R_drawn.2.1 142 = .ok (.ireturn, 1) := by decide +kernel
theorem d_R_keep_0 : decode mt_R_keep.2.1 0 = .ok (.iload_n 1, 1) := by decide +kernel
theorem d_R_keep_1 : decode mt_R_keep.2.1 1 = .ok (.iconst 2, 1) := by decide +kernel
theorem d_R_keep_2 : decode mt_R_keep.2.1 2 = .ok (.invokestatic 111, 3) := by decide +kernel
theorem d_R_keep_5 : decode mt_R_keep.2.1 5 = .ok (.ifCond .ne 5, 3) := by decide +kernel
theorem d_R_keep_8 : decode mt_R_keep.2.1 8 = .ok (.iconst (-1), 1) := by decide +kernel
theorem d_R_keep_9 : decode mt_R_keep.2.1 9 = .ok (.ireturn, 1) := by decide +kernel
theorem d_R_keep_10 : decode mt_R_keep.2.1 10 = .ok (.aload_n 0, 1) := by decide +kernel
theorem d_R_keep_11 : decode mt_R_keep.2.1 11 = .ok (.getfield 40, 3) := by decide +kernel
theorem d_R_keep_14 : decode mt_R_keep.2.1 14 = .ok (.iload_n 1, 1) := by decide +kernel
theorem d_R_keep_15 : decode mt_R_keep.2.1 15 = .ok (.aaload, 1) := by decide +kernel
theorem d_R_keep_16 : decode mt_R_keep.2.1 16 = .ok (.aload_n 0, 1) := by decide +kernel
theorem d_R_keep_17 : decode mt_R_keep.2.1 17 = .ok (.getfield 26, 3) := by decide +kernel
theorem d_R_keep_20 : decode mt_R_keep.2.1 20 = .ok (.invokevirtual 79, 3) := by decide +kernel
theorem d_R_keep_23 : decode mt_R_keep.2.1 23 = .ok (.aload_n 0, 1) := by decide +kernel
theorem d_R_keep_24 : decode mt_R_keep.2.1 24 = .ok (.getfield 44, 3) := by decide +kernel
theorem d_R_keep_27 : decode mt_R_keep.2.1 27 = .ok (.iload_n 1, 1) := by decide +kernel
theorem d_R_keep_28 : decode mt_R_keep.2.1 28 = .ok (.iconst 1, 1) := by decide +kernel
theorem d_R_keep_29 : decode mt_R_keep.2.1 29 = .ok (.bastore, 1) := by decide +kernel
theorem d_R_keep_30 : decode mt_R_keep.2.1 30 = .ok (.aload_n 0, 1) := by decide +kernel
theorem d_R_keep_31 : decode mt_R_keep.2.1 31 = .ok (.getfield 26, 3) := by decide +kernel
theorem d_R_keep_34 : decode mt_R_keep.2.1 34 = .ok (.getfield 85, 3) := by decide +kernel
theorem d_R_keep_37 : decode mt_R_keep.2.1 37 = .ok (.ireturn, 1) := by decide +kernel
theorem d_R_again_0 : decode mt_R_again.2.1 0 = .ok (.iload_n 1, 1) := by decide +kernel
theorem d_R_again_1 : decode mt_R_again.2.1 1 = .ok (.iconst 2, 1) := by decide +kernel
theorem d_R_again_2 : decode mt_R_again.2.1 2 = .ok (.invokestatic 111, 3) := by decide +kernel
theorem d_R_again_5 : decode mt_R_again.2.1 5 = .ok (.ifCond .ne 5, 3) := by decide +kernel
theorem d_R_again_8 : decode mt_R_again.2.1 8 = .ok (.iconst (-1), 1) := by decide +kernel
theorem d_R_again_9 : decode mt_R_again.2.1 9 = .ok (.ireturn, 1) := by decide +kernel
theorem d_R_again_10 : decode mt_R_again.2.1 10 = .ok (.aload_n 0, 1) := by decide +kernel
theorem d_R_again_11 : decode mt_R_again.2.1 11 = .ok (.getfield 44, 3) := by decide +kernel
theorem d_R_again_14 : decode mt_R_again.2.1 14 = .ok (.iload_n 1, 1) := by decide +kernel
theorem d_R_again_15 : decode mt_R_again.2.1 15 = .ok (.baload, 1) := by decide +kernel
theorem d_R_again_16 : decode mt_R_again.2.1 16 = .ok (.ifCond .ne 6, 3) := by decide +kernel
theorem d_R_again_19 : decode mt_R_again.2.1 19 = .ok (.bipush (-3), 2) := by decide +kernel
theorem d_R_again_21 : decode mt_R_again.2.1 21 = .ok (.ireturn, 1) := by decide +kernel
theorem d_R_again_22 : decode mt_R_again.2.1 22 = .ok (.aload_n 0, 1) := by decide +kernel
theorem d_R_again_23 : decode mt_R_again.2.1 23 = .ok (.getfield 26, 3) := by decide +kernel
theorem d_R_again_26 : decode mt_R_again.2.1 26 = .ok (.aload_n 0, 1) := by decide +kernel
theorem d_R_again_27 : decode mt_R_again.2.1 27 = .ok (.getfield 40, 3) := by decide +kernel
theorem d_R_again_30 : decode mt_R_again.2.1 30 = .ok (.iload_n 1, 1) := by decide +kernel
theorem d_R_again_31 : decode mt_R_again.2.1 31 = .ok (.aaload, 1) := by decide +kernel
theorem d_R_again_32 : decode mt_R_again.2.1 32 = .ok (.invokevirtual 79, 3) := by decide +kernel
theorem d_R_again_35 : decode mt_R_again.2.1 35 = .ok (.aload_n 0, 1) := by decide +kernel
theorem d_R_again_36 : decode mt_R_again.2.1 36 = .ok (.getfield 36, 3) := by decide +kernel
theorem d_R_again_39 : decode mt_R_again.2.1 39 = .ok (.invokevirtual 82, 3) := by decide +kernel
theorem d_R_again_42 : decode mt_R_again.2.1 42 = .ok (.aload_n 0, 1) := by decide +kernel
theorem d_R_again_43 : decode mt_R_again.2.1 43 = .ok (.getfield 26, 3) := by decide +kernel
theorem d_R_again_46 : decode mt_R_again.2.1 46 = .ok (.getfield 85, 3) := by decide +kernel
theorem d_R_again_49 : decode mt_R_again.2.1 49 = .ok (.ireturn, 1) := by decide +kernel
theorem d_R_count_0 : decode mt_R_count.2.1 0 = .ok (.iload_n 1, 1) := by decide +kernel
theorem d_R_count_1 : decode mt_R_count.2.1 1 = .ok (.tableswitch 178 0 11 #[63, 71, 79, 87, 95, 103, 114, 125, 136, 149, 162, 170], 63) := by decide +kernel
theorem d_R_count_64 : decode mt_R_count.2.1 64 = .ok (.aload_n 0, 1) := by decide +kernel
theorem d_R_count_65 : decode mt_R_count.2.1 65 = .ok (.getfield 10, 3) := by decide +kernel
theorem d_R_count_68 : decode mt_R_count.2.1 68 = .ok (.getfield 63, 3) := by decide +kernel
theorem d_R_count_71 : decode mt_R_count.2.1 71 = .ok (.ireturn, 1) := by decide +kernel
theorem d_R_count_72 : decode mt_R_count.2.1 72 = .ok (.aload_n 0, 1) := by decide +kernel
theorem d_R_count_73 : decode mt_R_count.2.1 73 = .ok (.getfield 19, 3) := by decide +kernel
theorem d_R_count_76 : decode mt_R_count.2.1 76 = .ok (.getfield 234, 3) := by decide +kernel
theorem d_R_count_79 : decode mt_R_count.2.1 79 = .ok (.ireturn, 1) := by decide +kernel
theorem d_R_count_80 : decode mt_R_count.2.1 80 = .ok (.aload_n 0, 1) := by decide +kernel
theorem d_R_count_81 : decode mt_R_count.2.1 81 = .ok (.getfield 26, 3) := by decide +kernel
theorem d_R_count_84 : decode mt_R_count.2.1 84 = .ok (.getfield 85, 3) := by decide +kernel
theorem d_R_count_87 : decode mt_R_count.2.1 87 = .ok (.ireturn, 1) := by decide +kernel
theorem d_R_count_88 : decode mt_R_count.2.1 88 = .ok (.aload_n 0, 1) := by decide +kernel
theorem d_R_count_89 : decode mt_R_count.2.1 89 = .ok (.getfield 26, 3) := by decide +kernel
theorem d_R_count_92 : decode mt_R_count.2.1 92 = .ok (.getfield 210, 3) := by decide +kernel
theorem d_R_count_95 : decode mt_R_count.2.1 95 = .ok (.ireturn, 1) := by decide +kernel
theorem d_R_count_96 : decode mt_R_count.2.1 96 = .ok (.aload_n 0, 1) := by decide +kernel
theorem d_R_count_97 : decode mt_R_count.2.1 97 = .ok (.getfield 26, 3) := by decide +kernel
theorem d_R_count_100 : decode mt_R_count.2.1 100 = .ok (.invokevirtual 235, 3) := by decide +kernel
theorem d_R_count_103 : decode mt_R_count.2.1 103 = .ok (.ireturn, 1) := by decide +kernel
theorem d_R_count_104 : decode mt_R_count.2.1 104 = .ok (.aload_n 0, 1) := by decide +kernel
theorem d_R_count_105 : decode mt_R_count.2.1 105 = .ok (.getfield 26, 3) := by decide +kernel
theorem d_R_count_108 : decode mt_R_count.2.1 108 = .ok (.getfield 118, 3) := by decide +kernel
theorem d_R_count_111 : decode mt_R_count.2.1 111 = .ok (.getfield 122, 3) := by decide +kernel
theorem d_R_count_114 : decode mt_R_count.2.1 114 = .ok (.ireturn, 1) := by decide +kernel
theorem d_R_count_115 : decode mt_R_count.2.1 115 = .ok (.aload_n 0, 1) := by decide +kernel
theorem d_R_count_116 : decode mt_R_count.2.1 116 = .ok (.getfield 26, 3) := by decide +kernel
theorem d_R_count_119 : decode mt_R_count.2.1 119 = .ok (.getfield 118, 3) := by decide +kernel
theorem d_R_count_122 : decode mt_R_count.2.1 122 = .ok (.getfield 148, 3) := by decide +kernel
theorem d_R_count_125 : decode mt_R_count.2.1 125 = .ok (.ireturn, 1) := by decide +kernel
theorem d_R_count_126 : decode mt_R_count.2.1 126 = .ok (.aload_n 0, 1) := by decide +kernel
theorem d_R_count_127 : decode mt_R_count.2.1 127 = .ok (.getfield 26, 3) := by decide +kernel
theorem d_R_count_130 : decode mt_R_count.2.1 130 = .ok (.getfield 118, 3) := by decide +kernel
theorem d_R_count_133 : decode mt_R_count.2.1 133 = .ok (.getfield 238, 3) := by decide +kernel
theorem d_R_count_136 : decode mt_R_count.2.1 136 = .ok (.ireturn, 1) := by decide +kernel
theorem d_R_count_137 : decode mt_R_count.2.1 137 = .ok (.aload_n 0, 1) := by decide +kernel
theorem d_R_count_138 : decode mt_R_count.2.1 138 = .ok (.getfield 26, 3) := by decide +kernel
theorem d_R_count_141 : decode mt_R_count.2.1 141 = .ok (.getfield 118, 3) := by decide +kernel
theorem d_R_count_144 : decode mt_R_count.2.1 144 = .ok (.getfield 161, 3) := by decide +kernel
theorem d_R_count_147 : decode mt_R_count.2.1 147 = .ok (.iconst 0, 1) := by decide +kernel
theorem d_R_count_148 : decode mt_R_count.2.1 148 = .ok (.iaload, 1) := by decide +kernel
theorem d_R_count_149 : decode mt_R_count.2.1 149 = .ok (.ireturn, 1) := by decide +kernel
theorem d_R_count_150 : decode mt_R_count.2.1 150 = .ok (.aload_n 0, 1) := by decide +kernel
theorem d_R_count_151 : decode mt_R_count.2.1 151 = .ok (.getfield 26, 3) := by decide +kernel
theorem d_R_count_154 : decode mt_R_count.2.1 154 = .ok (.getfield 118, 3) := by decide +kernel
theorem d_R_count_157 : decode mt_R_count.2.1 157 = .ok (.getfield 161, 3) := by decide +kernel
theorem d_R_count_160 : decode mt_R_count.2.1 160 = .ok (.iconst 1, 1) := by decide +kernel
theorem d_R_count_161 : decode mt_R_count.2.1 161 = .ok (.iaload, 1) := by decide +kernel
theorem d_R_count_162 : decode mt_R_count.2.1 162 = .ok (.ireturn, 1) := by decide +kernel
theorem d_R_count_163 : decode mt_R_count.2.1 163 = .ok (.aload_n 0, 1) := by decide +kernel
theorem d_R_count_164 : decode mt_R_count.2.1 164 = .ok (.getfield 36, 3) := by decide +kernel
theorem d_R_count_167 : decode mt_R_count.2.1 167 = .ok (.getfield 168, 3) := by decide +kernel
theorem d_R_count_170 : decode mt_R_count.2.1 170 = .ok (.ireturn, 1) := by decide +kernel
theorem d_R_count_171 : decode mt_R_count.2.1 171 = .ok (.aload_n 0, 1) := by decide +kernel
theorem d_R_count_172 : decode mt_R_count.2.1 172 = .ok (.getfield 51, 3) := by decide +kernel
theorem d_R_count_175 : decode mt_R_count.2.1 175 = .ok (.getfield 205, 3) := by decide +kernel
theorem d_R_count_178 : decode mt_R_count.2.1 178 = .ok (.ireturn, 1) := by decide +kernel
theorem d_R_count_179 : decode mt_R_count.2.1 179 = .ok (.bipush (-2), 2) := by decide +kernel
theorem d_R_count_181 : decode mt_R_count.2.1 181 = .ok (.ireturn, 1) := by decide +kernel
theorem d_M_init_0 : decode mt_M_init.2.1 0 = .ok (.aload_n 0, 1) := by decide +kernel
theorem d_M_init_1 : decode mt_M_init.2.1 1 = .ok (.invokespecial 1, 3) := by decide +kernel
theorem d_M_init_4 : decode mt_M_init.2.1 4 = .ok (.aload_n 0, 1) := by decide +kernel
theorem d_M_init_5 : decode mt_M_init.2.1 5 = .ok (.sipush 150, 3) := by decide +kernel
theorem d_M_init_8 : decode mt_M_init.2.1 8 = .ok (.newarray .int, 2) := by decide +kernel
theorem d_M_init_10 : decode mt_M_init.2.1 10 = .ok (.putfield 7, 3) := by decide +kernel
theorem d_M_init_13 : decode mt_M_init.2.1 13 = .ok (.aload_n 0, 1) := by decide +kernel
theorem d_M_init_14 : decode mt_M_init.2.1 14 = .ok (.bipush 16, 2) := by decide +kernel
theorem d_M_init_16 : decode mt_M_init.2.1 16 = .ok (.newarray .int, 2) := by decide +kernel
theorem d_M_init_18 : decode mt_M_init.2.1 18 = .ok (.putfield 13, 3) := by decide +kernel
theorem d_M_init_21 : decode mt_M_init.2.1 21 = .ok (.aload_n 0, 1) := by decide +kernel
theorem d_M_init_22 : decode mt_M_init.2.1 22 = .ok (.iconst 4, 1) := by decide +kernel
theorem d_M_init_23 : decode mt_M_init.2.1 23 = .ok (.newarray .int, 2) := by decide +kernel
theorem d_M_init_25 : decode mt_M_init.2.1 25 = .ok (.putfield 16, 3) := by decide +kernel
theorem d_M_init_28 : decode mt_M_init.2.1 28 = .ok (.aload_n 0, 1) := by decide +kernel
theorem d_M_init_29 : decode mt_M_init.2.1 29 = .ok (.iconst 4, 1) := by decide +kernel
theorem d_M_init_30 : decode mt_M_init.2.1 30 = .ok (.newarray .int, 2) := by decide +kernel
theorem d_M_init_32 : decode mt_M_init.2.1 32 = .ok (.putfield 19, 3) := by decide +kernel
theorem d_M_init_35 : decode mt_M_init.2.1 35 = .ok (.aload_n 0, 1) := by decide +kernel
theorem d_M_init_36 : decode mt_M_init.2.1 36 = .ok (.bipush 6, 2) := by decide +kernel
theorem d_M_init_38 : decode mt_M_init.2.1 38 = .ok (.newarray .int, 2) := by decide +kernel
theorem d_M_init_40 : decode mt_M_init.2.1 40 = .ok (.putfield 22, 3) := by decide +kernel
theorem d_M_init_43 : decode mt_M_init.2.1 43 = .ok (.aload_n 0, 1) := by decide +kernel
theorem d_M_init_44 : decode mt_M_init.2.1 44 = .ok (.bipush 16, 2) := by decide +kernel
theorem d_M_init_46 : decode mt_M_init.2.1 46 = .ok (.newarray .int, 2) := by decide +kernel
theorem d_M_init_48 : decode mt_M_init.2.1 48 = .ok (.putfield 25, 3) := by decide +kernel
theorem d_M_init_51 : decode mt_M_init.2.1 51 = .ok (.aload_n 0, 1) := by decide +kernel
theorem d_M_init_52 : decode mt_M_init.2.1 52 = .ok (.iconst 4, 1) := by decide +kernel
theorem d_M_init_53 : decode mt_M_init.2.1 53 = .ok (.newarray .int, 2) := by decide +kernel
theorem d_M_init_55 : decode mt_M_init.2.1 55 = .ok (.putfield 28, 3) := by decide +kernel
theorem d_M_init_58 : decode mt_M_init.2.1 58 = .ok (.aload_n 0, 1) := by decide +kernel
theorem d_M_init_59 : decode mt_M_init.2.1 59 = .ok (.iconst 4, 1) := by decide +kernel
theorem d_M_init_60 : decode mt_M_init.2.1 60 = .ok (.newarray .int, 2) := by decide +kernel
theorem d_M_init_62 : decode mt_M_init.2.1 62 = .ok (.putfield 31, 3) := by decide +kernel
theorem d_M_init_65 : decode mt_M_init.2.1 65 = .ok (.aload_n 0, 1) := by decide +kernel
theorem d_M_init_66 : decode mt_M_init.2.1 66 = .ok (.bipush 6, 2) := by decide +kernel
theorem d_M_init_68 : decode mt_M_init.2.1 68 = .ok (.newarray .int, 2) := by decide +kernel
theorem d_M_init_70 : decode mt_M_init.2.1 70 = .ok (.putfield 34, 3) := by decide +kernel
theorem d_M_init_73 : decode mt_M_init.2.1 73 = .ok (.aload_n 0, 1) := by decide +kernel
theorem d_M_init_74 : decode mt_M_init.2.1 74 = .ok (.sipush 165, 3) := by decide +kernel
theorem d_M_init_77 : decode mt_M_init.2.1 77 = .ok (.newarray .int, 2) := by decide +kernel
theorem d_M_init_79 : decode mt_M_init.2.1 79 = .ok (.putfield 37, 3) := by decide +kernel
theorem d_M_init_82 : decode mt_M_init.2.1 82 = .ok (.aload_n 0, 1) := by decide +kernel
theorem d_M_init_83 : decode mt_M_init.2.1 83 = .ok (.sipush 165, 3) := by decide +kernel
theorem d_M_init_86 : decode mt_M_init.2.1 86 = .ok (.newarray .int, 2) := by decide +kernel
theorem d_M_init_88 : decode mt_M_init.2.1 88 = .ok (.putfield 40, 3) := by decide +kernel
theorem d_M_init_91 : decode mt_M_init.2.1 91 = .ok (.aload_n 0, 1) := by decide +kernel
theorem d_M_init_92 : decode mt_M_init.2.1 92 = .ok (.sipush 165, 3) := by decide +kernel
theorem d_M_init_95 : decode mt_M_init.2.1 95 = .ok (.newarray .int, 2) := by decide +kernel
theorem d_M_init_97 : decode mt_M_init.2.1 97 = .ok (.putfield 43, 3) := by decide +kernel
theorem d_M_init_100 : decode mt_M_init.2.1 100 = .ok (.aload_n 0, 1) := by decide +kernel
theorem d_M_init_101 : decode mt_M_init.2.1 101 = .ok (.sipush 165, 3) := by decide +kernel
theorem d_M_init_104 : decode mt_M_init.2.1 104 = .ok (.newarray .int, 2) := by decide +kernel
theorem d_M_init_106 : decode mt_M_init.2.1 106 = .ok (.putfield 46, 3) := by decide +kernel
theorem d_M_init_109 : decode mt_M_init.2.1 109 = .ok (.aload_n 0, 1) := by decide +kernel
theorem d_M_init_110 : decode mt_M_init.2.1 110 = .ok (.sipush 2310, 3) := by decide +kernel
theorem d_M_init_113 : decode mt_M_init.2.1 113 = .ok (.newarray .int, 2) := by decide +kernel
theorem d_M_init_115 : decode mt_M_init.2.1 115 = .ok (.putfield 49, 3) := by decide +kernel
theorem d_M_init_118 : decode mt_M_init.2.1 118 = .ok (.aload_n 0, 1) := by decide +kernel
theorem d_M_init_119 : decode mt_M_init.2.1 119 = .ok (.sipush 330, 3) := by decide +kernel
theorem d_M_init_122 : decode mt_M_init.2.1 122 = .ok (.newarray .int, 2) := by decide +kernel
theorem d_M_init_124 : decode mt_M_init.2.1 124 = .ok (.putfield 52, 3) := by decide +kernel
theorem d_M_init_127 : decode mt_M_init.2.1 127 = .ok (.aload_n 0, 1) := by decide +kernel
theorem d_M_init_128 : decode mt_M_init.2.1 128 = .ok (.iconst 2, 1) := by decide +kernel
theorem d_M_init_129 : decode mt_M_init.2.1 129 = .ok (.newarray .boolean, 2) := by decide +kernel
theorem d_M_init_131 : decode mt_M_init.2.1 131 = .ok (.putfield 55, 3) := by decide +kernel
theorem d_M_init_134 : decode mt_M_init.2.1 134 = .ok (.aload_n 0, 1) := by decide +kernel
theorem d_M_init_135 : decode mt_M_init.2.1 135 = .ok (.bipush 6, 2) := by decide +kernel
theorem d_M_init_137 : decode mt_M_init.2.1 137 = .ok (.newarray .int, 2) := by decide +kernel
theorem d_M_init_139 : decode mt_M_init.2.1 139 = .ok (.putfield 59, 3) := by decide +kernel
theorem d_M_init_142 : decode mt_M_init.2.1 142 = .ok (.aload_n 0, 1) := by decide +kernel
theorem d_M_init_143 : decode mt_M_init.2.1 143 = .ok (.bipush 6, 2) := by decide +kernel
theorem d_M_init_145 : decode mt_M_init.2.1 145 = .ok (.newarray .int, 2) := by decide +kernel
theorem d_M_init_147 : decode mt_M_init.2.1 147 = .ok (.putfield 62, 3) := by decide +kernel
theorem d_M_init_150 : decode mt_M_init.2.1 150 = .ok (.aload_n 0, 1) := by decide +kernel
theorem d_M_init_151 : decode mt_M_init.2.1 151 = .ok (.bipush 6, 2) := by decide +kernel
theorem d_M_init_153 : decode mt_M_init.2.1 153 = .ok (.newarray .int, 2) := by decide +kernel
theorem d_M_init_155 : decode mt_M_init.2.1 155 = .ok (.putfield 65, 3) := by decide +kernel
theorem d_M_init_158 : decode mt_M_init.2.1 158 = .ok (.aload_n 0, 1) := by decide +kernel
theorem d_M_init_159 : decode mt_M_init.2.1 159 = .ok (.bipush 63, 2) := by decide +kernel
theorem d_M_init_161 : decode mt_M_init.2.1 161 = .ok (.putfield 68, 3) := by decide +kernel
theorem d_M_init_164 : decode mt_M_init.2.1 164 = .ok (.aload_n 0, 1) := by decide +kernel
theorem d_M_init_165 : decode mt_M_init.2.1 165 = .ok (.bipush 64, 2) := by decide +kernel
theorem d_M_init_167 : decode mt_M_init.2.1 167 = .ok (.newarray .int, 2) := by decide +kernel
theorem d_M_init_169 : decode mt_M_init.2.1 169 = .ok (.putfield 72, 3) := by decide +kernel
theorem d_M_init_172 : decode mt_M_init.2.1 172 = .ok (.return_, 1) := by decide +kernel
theorem d_M_write_0 : decode mt_M_write.2.1 0 = .ok (.aload_n 0, 1) := by decide +kernel
theorem d_M_write_1 : decode mt_M_write.2.1 1 = .ok (.iconst 0, 1) := by decide +kernel
theorem d_M_write_2 : decode mt_M_write.2.1 2 = .ok (.putfield 75, 3) := by decide +kernel
theorem d_M_write_5 : decode mt_M_write.2.1 5 = .ok (.iload_n 1, 1) := by decide +kernel
theorem d_M_write_6 : decode mt_M_write.2.1 6 = .ok (.i2l, 1) := by decide +kernel
theorem d_M_write_7 : decode mt_M_write.2.1 7 = .ok (.lconst 0, 1) := by decide +kernel
theorem d_M_write_8 : decode mt_M_write.2.1 8 = .ok (.ldc2_w 85, 3) := by decide +kernel
theorem d_M_write_11 : decode mt_M_write.2.1 11 = .ok (.invokestatic 81, 3) := by decide +kernel
theorem d_M_write_14 : decode mt_M_write.2.1 14 = .ok (.ifCond .ne 6, 3) := by decide +kernel
theorem d_M_write_17 : decode mt_M_write.2.1 17 = .ok (.bipush (-2), 2) := by decide +kernel
theorem d_M_write_19 : decode mt_M_write.2.1 19 = .ok (.ireturn, 1) := by decide +kernel
theorem d_M_write_20 : decode mt_M_write.2.1 20 = .ok (.aload_n 0, 1) := by decide +kernel
theorem d_M_write_21 : decode mt_M_write.2.1 21 = .ok (.getfield 87, 3) := by decide +kernel
theorem d_M_write_24 : decode mt_M_write.2.1 24 = .ok (.sipush 150, 3) := by decide +kernel
theorem d_M_write_27 : decode mt_M_write.2.1 27 = .ok (.if_icmp .ne 6, 3) := by decide +kernel
theorem d_M_write_30 : decode mt_M_write.2.1 30 = .ok (.bipush (-4), 2) := by decide +kernel
theorem d_M_write_32 : decode mt_M_write.2.1 32 = .ok (.ireturn, 1) := by decide +kernel
theorem d_M_write_33 : decode mt_M_write.2.1 33 = .ok (.aload_n 0, 1) := by decide +kernel
theorem d_M_write_34 : decode mt_M_write.2.1 34 = .ok (.getfield 7, 3) := by decide +kernel
theorem d_M_write_37 : decode mt_M_write.2.1 37 = .ok (.aload_n 0, 1) := by decide +kernel
theorem d_M_write_38 : decode mt_M_write.2.1 38 = .ok (.getfield 87, 3) := by decide +kernel
theorem d_M_write_41 : decode mt_M_write.2.1 41 = .ok (.iload_n 1, 1) := by decide +kernel
theorem d_M_write_42 : decode mt_M_write.2.1 42 = .ok (.iastore, 1) := by decide +kernel
theorem d_M_write_43 : decode mt_M_write.2.1 43 = .ok (.aload_n 0, 1) := by decide +kernel
theorem d_M_write_44 : decode mt_M_write.2.1 44 = .ok (.dup, 1) := by decide +kernel
theorem d_M_write_45 : decode mt_M_write.2.1 45 = .ok (.getfield 87, 3) := by decide +kernel
theorem d_M_write_48 : decode mt_M_write.2.1 48 = .ok (.iconst 1, 1) := by decide +kernel
theorem d_M_write_49 : decode mt_M_write.2.1 49 = .ok (.iadd, 1) := by decide +kernel
theorem d_M_write_50 : decode mt_M_write.2.1 50 = .ok (.putfield 87, 3) := by decide +kernel
theorem d_M_write_53 : decode mt_M_write.2.1 53 = .ok (.aload_n 0, 1) := by decide +kernel
theorem d_M_write_54 : decode mt_M_write.2.1 54 = .ok (.getfield 87, 3) := by decide +kernel
theorem d_M_write_57 : decode mt_M_write.2.1 57 = .ok (.ireturn, 1) := by decide +kernel
theorem d_M_in_0 : decode mt_M_in.2.1 0 = .ok (.lload_n 0, 1) := by decide +kernel
theorem d_M_in_1 : decode mt_M_in.2.1 1 = .ok (.lload_n 2, 1) := by decide +kernel
theorem d_M_in_2 : decode mt_M_in.2.1 2 = .ok (.lcmp, 1) := by decide +kernel
theorem d_M_in_3 : decode mt_M_in.2.1 3 = .ok (.ifCond .lt 14, 3) := by decide +kernel
theorem d_M_in_6 : decode mt_M_in.2.1 6 = .ok (.lload_n 0, 1) := by decide +kernel
theorem d_M_in_7 : decode mt_M_in.2.1 7 = .ok (.lload 4, 2) := by decide +kernel
theorem d_M_in_9 : decode mt_M_in.2.1 9 = .ok (.lcmp, 1) := by decide +kernel
theorem d_M_in_10 : decode mt_M_in.2.1 10 = .ok (.ifCond .gt 7, 3) := by decide +kernel
theorem d_M_in_13 : decode mt_M_in.2.1 13 = .ok (.iconst 1, 1) := by decide +kernel
theorem d_M_in_14 : decode mt_M_in.2.1 14 = .ok (.goto 4, 3) := by decide +kernel
theorem d_M_in_17 : decode mt_M_in.2.1 17 = .ok (.iconst 0, 1) := by decide +kernel
theorem d_M_in_18 : decode mt_M_in.2.1 18 = .ok (.ireturn, 1) := by decide +kernel
theorem d_M_wipe_0 : decode mt_M_wipe.2.1 0 = .ok (.aload_n 0, 1) := by decide +kernel
theorem d_M_wipe_1 : decode mt_M_wipe.2.1 1 = .ok (.iconst 0, 1) := by decide +kernel
theorem d_M_wipe_2 : decode mt_M_wipe.2.1 2 = .ok (.putfield 75, 3) := by decide +kernel
theorem d_M_wipe_5 : decode mt_M_wipe.2.1 5 = .ok (.aload_n 0, 1) := by decide +kernel
theorem d_M_wipe_6 : decode mt_M_wipe.2.1 6 = .ok (.getfield 87, 3) := by decide +kernel
theorem d_M_wipe_9 : decode mt_M_wipe.2.1 9 = .ok (.istore_n 1, 1) := by decide +kernel
theorem d_M_wipe_10 : decode mt_M_wipe.2.1 10 = .ok (.aload_n 0, 1) := by decide +kernel
theorem d_M_wipe_11 : decode mt_M_wipe.2.1 11 = .ok (.iconst 0, 1) := by decide +kernel
theorem d_M_wipe_12 : decode mt_M_wipe.2.1 12 = .ok (.putfield 87, 3) := by decide +kernel
theorem d_M_wipe_15 : decode mt_M_wipe.2.1 15 = .ok (.iload_n 1, 1) := by decide +kernel
theorem d_M_wipe_16 : decode mt_M_wipe.2.1 16 = .ok (.ireturn, 1) := by decide +kernel
theorem d_M_fault_0 : decode mt_M_fault.2.1 0 = .ok (.aload_n 0, 1) := by decide +kernel
theorem d_M_fault_1 : decode mt_M_fault.2.1 1 = .ok (.iconst 0, 1) := by decide +kernel
theorem d_M_fault_2 : decode mt_M_fault.2.1 2 = .ok (.putfield 75, 3) := by decide +kernel
theorem d_M_fault_5 : decode mt_M_fault.2.1 5 = .ok (.aload_n 0, 1) := by decide +kernel
theorem d_M_fault_6 : decode mt_M_fault.2.1 6 = .ok (.invokevirtual 127, 3) := by decide +kernel
theorem d_M_fault_9 : decode mt_M_fault.2.1 9 = .ok (.ireturn, 1) := by decide +kernel
theorem d_M_readBoard_0 : decode mt_M_readBoard.2.1 0 = .ok (.aload_n 0, 1) := by decide +kernel
theorem d_M_readBoard_1 : decode mt_M_readBoard.2.1 1 = .ok (.iconst 0, 1) := by decide +kernel
theorem d_M_readBoard_2 : decode mt_M_readBoard.2.1 2 = .ok (.putfield 93, 3) := by decide +kernel
theorem d_M_readBoard_5 : decode mt_M_readBoard.2.1 5 = .ok (.aload_n 0, 1) := by decide +kernel
theorem d_M_readBoard_6 : decode mt_M_readBoard.2.1 6 = .ok (.iconst 0, 1) := by decide +kernel
theorem d_M_readBoard_7 : decode mt_M_readBoard.2.1 7 = .ok (.putfield 107, 3) := by decide +kernel
theorem d_M_readBoard_10 : decode mt_M_readBoard.2.1 10 = .ok (.aload_n 0, 1) := by decide +kernel
theorem d_M_readBoard_11 : decode mt_M_readBoard.2.1 11 = .ok (.iconst 0, 1) := by decide +kernel
theorem d_M_readBoard_12 : decode mt_M_readBoard.2.1 12 = .ok (.putfield 110, 3) := by decide +kernel
theorem d_M_readBoard_15 : decode mt_M_readBoard.2.1 15 = .ok (.iconst 0, 1) := by decide +kernel
theorem d_M_readBoard_16 : decode mt_M_readBoard.2.1 16 = .ok (.istore_n 1, 1) := by decide +kernel
theorem d_M_readBoard_17 : decode mt_M_readBoard.2.1 17 = .ok (.iload_n 1, 1) := by decide +kernel
theorem d_M_readBoard_18 : decode mt_M_readBoard.2.1 18 = .ok (.sipush 165, 3) := by decide +kernel
theorem d_M_readBoard_21 : decode mt_M_readBoard.2.1 21 = .ok (.if_icmp .ge 16, 3) := by decide +kernel
theorem d_M_readBoard_24 : decode mt_M_readBoard.2.1 24 = .ok (.aload_n 0, 1) := by decide +kernel
theorem d_M_readBoard_25 : decode mt_M_readBoard.2.1 25 = .ok (.getfield 37, 3) := by decide +kernel
theorem d_M_readBoard_28 : decode mt_M_readBoard.2.1 28 = .ok (.iload_n 1, 1) := by decide +kernel
theorem d_M_readBoard_29 : decode mt_M_readBoard.2.1 29 = .ok (.iconst 0, 1) := by decide +kernel
theorem d_M_readBoard_30 : decode mt_M_readBoard.2.1 30 = .ok (.iastore, 1) := by decide +kernel
theorem d_M_readBoard_31 : decode mt_M_readBoard.2.1 31 = .ok (.iinc 1 1, 3) := by decide +kernel
theorem d_M_readBoard_34 : decode mt_M_readBoard.2.1 34 = .ok (.goto (-17), 3) := by decide +kernel
theorem d_M_readBoard_37 : decode mt_M_readBoard.2.1 37 = .ok (.aload_n 0, 1) := by decide +kernel
theorem d_M_readBoard_38 : decode mt_M_readBoard.2.1 38 = .ok (.getfield 87, 3) := by decide +kernel
theorem d_M_readBoard_41 : decode mt_M_readBoard.2.1 41 = .ok (.ifCond .eq 14, 3) := by decide +kernel
theorem d_M_readBoard_44 : decode mt_M_readBoard.2.1 44 = .ok (.aload_n 0, 1) := by decide +kernel
theorem d_M_readBoard_45 : decode mt_M_readBoard.2.1 45 = .ok (.getfield 7, 3) := by decide +kernel
theorem d_M_readBoard_48 : decode mt_M_readBoard.2.1 48 = .ok (.iconst 0, 1) := by decide +kernel
theorem d_M_readBoard_49 : decode mt_M_readBoard.2.1 49 = .ok (.iaload, 1) := by decide +kernel
theorem d_M_readBoard_50 : decode mt_M_readBoard.2.1 50 = .ok (.bipush 82, 2) := by decide +kernel
theorem d_M_readBoard_52 : decode mt_M_readBoard.2.1 52 = .ok (.if_icmp .eq 5, 3) := by decide +kernel
theorem d_M_readBoard_55 : decode mt_M_readBoard.2.1 55 = .ok (.iconst 0, 1) := by decide +kernel
theorem d_M_readBoard_56 : decode mt_M_readBoard.2.1 56 = .ok (.ireturn, 1) := by decide +kernel
theorem d_M_readBoard_57 : decode mt_M_readBoard.2.1 57 = .ok (.aload_n 0, 1) := by decide +kernel
theorem d_M_readBoard_58 : decode mt_M_readBoard.2.1 58 = .ok (.iconst 1, 1) := by decide +kernel
theorem d_M_readBoard_59 : decode mt_M_readBoard.2.1 59 = .ok (.putfield 90, 3) := by decide +kernel
theorem d_M_readBoard_62 : decode mt_M_readBoard.2.1 62 = .ok (.aload_n 0, 1) := by decide +kernel
theorem d_M_readBoard_63 : decode mt_M_readBoard.2.1 63 = .ok (.getfield 90, 3) := by decide +kernel
theorem d_M_readBoard_66 : decode mt_M_readBoard.2.1 66 = .ok (.aload_n 0, 1) := by decide +kernel
theorem d_M_readBoard_67 : decode mt_M_readBoard.2.1 67 = .ok (.getfield 87, 3) := by decide +kernel
theorem d_M_readBoard_70 : decode mt_M_readBoard.2.1 70 = .ok (.if_icmp .ge 15, 3) := by decide +kernel
theorem d_M_readBoard_73 : decode mt_M_readBoard.2.1 73 = .ok (.aload_n 0, 1) := by decide +kernel
theorem d_M_readBoard_74 : decode mt_M_readBoard.2.1 74 = .ok (.invokevirtual 124, 3) := by decide +kernel
theorem d_M_readBoard_77 : decode mt_M_readBoard.2.1 77 = .ok (.ifCond .ne (-15), 3) := by decide +kernel
theorem d_M_readBoard_80 : decode mt_M_readBoard.2.1 80 = .ok (.aload_n 0, 1) := by decide +kernel
theorem d_M_readBoard_81 : decode mt_M_readBoard.2.1 81 = .ok (.getfield 90, 3) := by decide +kernel
theorem d_M_readBoard_84 : decode mt_M_readBoard.2.1 84 = .ok (.ireturn, 1) := by decide +kernel
theorem d_M_readBoard_85 : decode mt_M_readBoard.2.1 85 = .ok (.bipush (-9), 2) := by decide +kernel
theorem d_M_readBoard_87 : decode mt_M_readBoard.2.1 87 = .ok (.ireturn, 1) := by decide +kernel
theorem d_M_readPart_0 : decode mt_M_readPart.2.1 0 = .ok (.aload_n 0, 1) := by decide +kernel
theorem d_M_readPart_1 : decode mt_M_readPart.2.1 1 = .ok (.getfield 7, 3) := by decide +kernel
theorem d_M_readPart_4 : decode mt_M_readPart.2.1 4 = .ok (.aload_n 0, 1) := by decide +kernel
theorem d_M_readPart_5 : decode mt_M_readPart.2.1 5 = .ok (.getfield 90, 3) := by decide +kernel
theorem d_M_readPart_8 : decode mt_M_readPart.2.1 8 = .ok (.iaload, 1) := by decide +kernel
theorem d_M_readPart_9 : decode mt_M_readPart.2.1 9 = .ok (.lookupswitch 65 #[(84, 59), (104, 48), (105, 43), (116, 53)], 43) := by decide +kernel
theorem d_M_readPart_52 : decode mt_M_readPart.2.1 52 = .ok (.aload_n 0, 1) := by decide +kernel
theorem d_M_readPart_53 : decode mt_M_readPart.2.1 53 = .ok (.invokevirtual 113, 3) := by decide +kernel
theorem d_M_readPart_56 : decode mt_M_readPart.2.1 56 = .ok (.ireturn, 1) := by decide +kernel
theorem d_M_readPart_57 : decode mt_M_readPart.2.1 57 = .ok (.aload_n 0, 1) := by decide +kernel
theorem d_M_readPart_58 : decode mt_M_readPart.2.1 58 = .ok (.invokevirtual 117, 3) := by decide +kernel
theorem d_M_readPart_61 : decode mt_M_readPart.2.1 61 = .ok (.ireturn, 1) := by decide +kernel
theorem d_M_readPart_62 : decode mt_M_readPart.2.1 62 = .ok (.aload_n 0, 1) := by decide +kernel
theorem d_M_readPart_63 : decode mt_M_readPart.2.1 63 = .ok (.iconst 0, 1) := by decide +kernel
theorem d_M_readPart_64 : decode mt_M_readPart.2.1 64 = .ok (.invokevirtual 120, 3) := by decide +kernel
theorem d_M_readPart_67 : decode mt_M_readPart.2.1 67 = .ok (.ireturn, 1) := by decide +kernel
theorem d_M_readPart_68 : decode mt_M_readPart.2.1 68 = .ok (.aload_n 0, 1) := by decide +kernel
theorem d_M_readPart_69 : decode mt_M_readPart.2.1 69 = .ok (.iconst 1, 1) := by decide +kernel
theorem d_M_readPart_70 : decode mt_M_readPart.2.1 70 = .ok (.invokevirtual 120, 3) := by decide +kernel
theorem d_M_readPart_73 : decode mt_M_readPart.2.1 73 = .ok (.ireturn, 1) := by decide +kernel
theorem d_M_readPart_74 : decode mt_M_readPart.2.1 74 = .ok (.iconst 0, 1) := by decide +kernel
theorem d_M_readPart_75 : decode mt_M_readPart.2.1 75 = .ok (.ireturn, 1) := by decide +kernel
theorem d_M_readInstruction_0 : decode mt_M_readInstruction.2.1 0 = .ok (.aload_n 0, 1) := by decide +kernel
theorem d_M_readInstruction_1 : decode mt_M_readInstruction.2.1 1 = .ok (.getfield 93, 3) := by decide +kernel
theorem d_M_readInstruction_4 : decode mt_M_readInstruction.2.1 4 = .ok (.bipush 16, 2) := by decide +kernel
theorem d_M_readInstruction_6 : decode mt_M_readInstruction.2.1 6 = .ok (.if_icmp .ne 5, 3) := by decide +kernel
theorem d_M_readInstruction_9 : decode mt_M_readInstruction.2.1 9 = .ok (.iconst 0, 1) := by decide +kernel
theorem d_M_readInstruction_10 : decode mt_M_readInstruction.2.1 10 = .ok (.ireturn, 1) := by decide +kernel
theorem d_M_readInstruction_11 : decode mt_M_readInstruction.2.1 11 = .ok (.aload_n 0, 1) := by decide +kernel
theorem d_M_readInstruction_12 : decode mt_M_readInstruction.2.1 12 = .ok (.dup, 1) := by decide +kernel
theorem d_M_readInstruction_13 : decode mt_M_readInstruction.2.1 13 = .ok (.getfield 90, 3) := by decide +kernel
theorem d_M_readInstruction_16 : decode mt_M_readInstruction.2.1 16 = .ok (.iconst 1, 1) := by decide +kernel
theorem d_M_readInstruction_17 : decode mt_M_readInstruction.2.1 17 = .ok (.iadd, 1) := by decide +kernel
theorem d_M_readInstruction_18 : decode mt_M_readInstruction.2.1 18 = .ok (.putfield 90, 3) := by decide +kernel
theorem d_M_readInstruction_21 : decode mt_M_readInstruction.2.1 21 = .ok (.aload_n 0, 1) := by decide +kernel
theorem d_M_readInstruction_22 : decode mt_M_readInstruction.2.1 22 = .ok (.getfield 90, 3) := by decide +kernel
theorem d_M_readInstruction_25 : decode mt_M_readInstruction.2.1 25 = .ok (.aload_n 0, 1) := by decide +kernel
theorem d_M_readInstruction_26 : decode mt_M_readInstruction.2.1 26 = .ok (.getfield 87, 3) := by decide +kernel
theorem d_M_readInstruction_29 : decode mt_M_readInstruction.2.1 29 = .ok (.if_icmp .ge 18, 3) := by decide +kernel
theorem d_M_readInstruction_32 : decode mt_M_readInstruction.2.1 32 = .ok (.aload_n 0, 1) := by decide +kernel
theorem d_M_readInstruction_33 : decode mt_M_readInstruction.2.1 33 = .ok (.getfield 7, 3) := by decide +kernel
theorem d_M_readInstruction_36 : decode mt_M_readInstruction.2.1 36 = .ok (.aload_n 0, 1) := by decide +kernel
theorem d_M_readInstruction_37 : decode mt_M_readInstruction.2.1 37 = .ok (.getfield 90, 3) := by decide +kernel
theorem d_M_readInstruction_40 : decode mt_M_readInstruction.2.1 40 = .ok (.iaload, 1) := by decide +kernel
theorem d_M_readInstruction_41 : decode mt_M_readInstruction.2.1 41 = .ok (.invokestatic 96, 3) := by decide +kernel
theorem d_M_readInstruction_44 : decode mt_M_readInstruction.2.1 44 = .ok (.goto 4, 3) := by decide +kernel
theorem d_M_readInstruction_47 : decode mt_M_readInstruction.2.1 47 = .ok (.iconst 0, 1) := by decide +kernel
theorem d_M_readInstruction_48 : decode mt_M_readInstruction.2.1 48 = .ok (.istore_n 1, 1) := by decide +kernel
theorem d_M_readInstruction_49 : decode mt_M_readInstruction.2.1 49 = .ok (.iload_n 1, 1) := by decide +kernel
theorem d_M_readInstruction_50 : decode mt_M_readInstruction.2.1 50 = .ok (.ifCond .ne 5, 3) := by decide +kernel
theorem d_M_readInstruction_53 : decode mt_M_readInstruction.2.1 53 = .ok (.iconst 0, 1) := by decide +kernel
theorem d_M_readInstruction_54 : decode mt_M_readInstruction.2.1 54 = .ok (.ireturn, 1) := by decide +kernel
theorem d_M_readInstruction_55 : decode mt_M_readInstruction.2.1 55 = .ok (.aload_n 0, 1) := by decide +kernel
theorem d_M_readInstruction_56 : decode mt_M_readInstruction.2.1 56 = .ok (.dup, 1) := by decide +kernel
theorem d_M_readInstruction_57 : decode mt_M_readInstruction.2.1 57 = .ok (.getfield 90, 3) := by decide +kernel
theorem d_M_readInstruction_60 : decode mt_M_readInstruction.2.1 60 = .ok (.iconst 1, 1) := by decide +kernel
theorem d_M_readInstruction_61 : decode mt_M_readInstruction.2.1 61 = .ok (.iadd, 1) := by decide +kernel
theorem d_M_readInstruction_62 : decode mt_M_readInstruction.2.1 62 = .ok (.putfield 90, 3) := by decide +kernel
theorem d_M_readInstruction_65 : decode mt_M_readInstruction.2.1 65 = .ok (.sipush 1000, 3) := by decide +kernel
theorem d_M_readInstruction_68 : decode mt_M_readInstruction.2.1 68 = .ok (.iload_n 1, 1) := by decide +kernel
theorem d_M_readInstruction_69 : decode mt_M_readInstruction.2.1 69 = .ok (.imul, 1) := by decide +kernel
theorem d_M_readInstruction_70 : decode mt_M_readInstruction.2.1 70 = .ok (.istore_n 2, 1) := by decide +kernel
theorem d_M_readInstruction_71 : decode mt_M_readInstruction.2.1 71 = .ok (.iload_n 1, 1) := by decide +kernel
theorem d_M_readInstruction_72 : decode mt_M_readInstruction.2.1 72 = .ok (.bipush 7, 2) := by decide +kernel
theorem d_M_readInstruction_74 : decode mt_M_readInstruction.2.1 74 = .ok (.if_icmp .ge 28, 3) := by decide +kernel
theorem d_M_readInstruction_77 : decode mt_M_readInstruction.2.1 77 = .ok (.aload_n 0, 1) := by decide +kernel
theorem d_M_readInstruction_78 : decode mt_M_readInstruction.2.1 78 = .ok (.bipush 48, 2) := by decide +kernel
theorem d_M_readInstruction_80 : decode mt_M_readInstruction.2.1 80 = .ok (.iconst 0, 1) := by decide +kernel
theorem d_M_readInstruction_81 : decode mt_M_readInstruction.2.1 81 = .ok (.iconst 3, 1) := by decide +kernel
theorem d_M_readInstruction_82 : decode mt_M_readInstruction.2.1 82 = .ok (.invokevirtual 100, 3) := by decide +kernel
theorem d_M_readInstruction_85 : decode mt_M_readInstruction.2.1 85 = .ok (.ifCond .ne 5, 3) := by decide +kernel
theorem d_M_readInstruction_88 : decode mt_M_readInstruction.2.1 88 = .ok (.iconst 0, 1) := by decide +kernel
theorem d_M_readInstruction_89 : decode mt_M_readInstruction.2.1 89 = .ok (.ireturn, 1) := by decide +kernel
theorem d_M_readInstruction_90 : decode mt_M_readInstruction.2.1 90 = .ok (.iload_n 2, 1) := by decide +kernel
theorem d_M_readInstruction_91 : decode mt_M_readInstruction.2.1 91 = .ok (.bipush 100, 2) := by decide +kernel
theorem d_M_readInstruction_93 : decode mt_M_readInstruction.2.1 93 = .ok (.aload_n 0, 1) := by decide +kernel
theorem d_M_readInstruction_94 : decode mt_M_readInstruction.2.1 94 = .ok (.bipush 48, 2) := by decide +kernel
theorem d_M_readInstruction_96 : decode mt_M_readInstruction.2.1 96 = .ok (.invokevirtual 104, 3) := by decide +kernel
theorem d_M_readInstruction_99 : decode mt_M_readInstruction.2.1 99 = .ok (.imul, 1) := by decide +kernel
theorem d_M_readInstruction_100 : decode mt_M_readInstruction.2.1 100 = .ok (.iadd, 1) := by decide +kernel
theorem d_M_readInstruction_101 : decode mt_M_readInstruction.2.1 101 = .ok (.istore_n 2, 1) := by decide +kernel
theorem d_M_readInstruction_102 : decode mt_M_readInstruction.2.1 102 = .ok (.iload_n 1, 1) := by decide +kernel
theorem d_M_readInstruction_103 : decode mt_M_readInstruction.2.1 103 = .ok (.bipush 6, 2) := by decide +kernel
theorem d_M_readInstruction_105 : decode mt_M_readInstruction.2.1 105 = .ok (.if_icmp .ne 29, 3) := by decide +kernel
theorem d_M_readInstruction_108 : decode mt_M_readInstruction.2.1 108 = .ok (.aload_n 0, 1) := by decide +kernel
theorem d_M_readInstruction_109 : decode mt_M_readInstruction.2.1 109 = .ok (.bipush 97, 2) := by decide +kernel
theorem d_M_readInstruction_111 : decode mt_M_readInstruction.2.1 111 = .ok (.iconst 0, 1) := by decide +kernel
theorem d_M_readInstruction_112 : decode mt_M_readInstruction.2.1 112 = .ok (.bipush 15, 2) := by decide +kernel
theorem d_M_readInstruction_114 : decode mt_M_readInstruction.2.1 114 = .ok (.invokevirtual 100, 3) := by decide +kernel
theorem d_M_readInstruction_117 : decode mt_M_readInstruction.2.1 117 = .ok (.ifCond .ne 5, 3) := by decide +kernel
theorem d_M_readInstruction_120 : decode mt_M_readInstruction.2.1 120 = .ok (.iconst 0, 1) := by decide +kernel
theorem d_M_readInstruction_121 : decode mt_M_readInstruction.2.1 121 = .ok (.ireturn, 1) := by decide +kernel
theorem d_M_readInstruction_122 : decode mt_M_readInstruction.2.1 122 = .ok (.iload_n 2, 1) := by decide +kernel
theorem d_M_readInstruction_123 : decode mt_M_readInstruction.2.1 123 = .ok (.aload_n 0, 1) := by decide +kernel
theorem d_M_readInstruction_124 : decode mt_M_readInstruction.2.1 124 = .ok (.bipush 97, 2) := by decide +kernel
theorem d_M_readInstruction_126 : decode mt_M_readInstruction.2.1 126 = .ok (.invokevirtual 104, 3) := by decide +kernel
theorem d_M_readInstruction_129 : decode mt_M_readInstruction.2.1 129 = .ok (.iadd, 1) := by decide +kernel
theorem d_M_readInstruction_130 : decode mt_M_readInstruction.2.1 130 = .ok (.istore_n 2, 1) := by decide +kernel
theorem d_M_readInstruction_131 : decode mt_M_readInstruction.2.1 131 = .ok (.goto 56, 3) := by decide +kernel
theorem d_M_readInstruction_134 : decode mt_M_readInstruction.2.1 134 = .ok (.iload_n 1, 1) := by decide +kernel
theorem d_M_readInstruction_135 : decode mt_M_readInstruction.2.1 135 = .ok (.bipush 6, 2) := by decide +kernel
theorem d_M_readInstruction_137 : decode mt_M_readInstruction.2.1 137 = .ok (.if_icmp .ge 50, 3) := by decide +kernel
theorem d_M_readInstruction_140 : decode mt_M_readInstruction.2.1 140 = .ok (.iload_n 1, 1) := by decide +kernel
theorem d_M_readInstruction_141 : decode mt_M_readInstruction.2.1 141 = .ok (.iconst 2, 1) := by decide +kernel
theorem d_M_readInstruction_142 : decode mt_M_readInstruction.2.1 142 = .ok (.if_icmp .eq 45, 3) := by decide +kernel
theorem d_M_readInstruction_145 : decode mt_M_readInstruction.2.1 145 = .ok (.aload_n 0, 1) := by decide +kernel
theorem d_M_readInstruction_146 : decode mt_M_readInstruction.2.1 146 = .ok (.bipush 48, 2) := by decide +kernel
theorem d_M_readInstruction_148 : decode mt_M_readInstruction.2.1 148 = .ok (.iconst 0, 1) := by decide +kernel
theorem d_M_readInstruction_149 : decode mt_M_readInstruction.2.1 149 = .ok (.iload_n 1, 1) := by decide +kernel
theorem d_M_readInstruction_150 : decode mt_M_readInstruction.2.1 150 = .ok (.iconst 1, 1) := by decide +kernel
theorem d_M_readInstruction_151 : decode mt_M_readInstruction.2.1 151 = .ok (.if_icmp .ne 8, 3) := by decide +kernel
theorem d_M_readInstruction_154 : decode mt_M_readInstruction.2.1 154 = .ok (.bipush 9, 2) := by decide +kernel
theorem d_M_readInstruction_156 : decode mt_M_readInstruction.2.1 156 = .ok (.goto 14, 3) := by decide +kernel
theorem d_M_readInstruction_159 : decode mt_M_readInstruction.2.1 159 = .ok (.iload_n 1, 1) := by decide +kernel
theorem d_M_readInstruction_160 : decode mt_M_readInstruction.2.1 160 = .ok (.iconst 3, 1) := by decide +kernel
theorem d_M_readInstruction_161 : decode mt_M_readInstruction.2.1 161 = .ok (.if_icmp .ne 7, 3) := by decide +kernel
theorem d_M_readInstruction_164 : decode mt_M_readInstruction.2.1 164 = .ok (.iconst 3, 1) := by decide +kernel
theorem d_M_readInstruction_165 : decode mt_M_readInstruction.2.1 165 = .ok (.goto 5, 3) := by decide +kernel
theorem d_M_readInstruction_168 : decode mt_M_readInstruction.2.1 168 = .ok (.bipush 7, 2) := by decide +kernel
theorem d_M_readInstruction_170 : decode mt_M_readInstruction.2.1 170 = .ok (.invokevirtual 100, 3) := by decide +kernel
theorem d_M_readInstruction_173 : decode mt_M_readInstruction.2.1 173 = .ok (.ifCond .ne 5, 3) := by decide +kernel
theorem d_M_readInstruction_176 : decode mt_M_readInstruction.2.1 176 = .ok (.iconst 0, 1) := by decide +kernel
theorem d_M_readInstruction_177 : decode mt_M_readInstruction.2.1 177 = .ok (.ireturn, 1) := by decide +kernel
theorem d_M_readInstruction_178 : decode mt_M_readInstruction.2.1 178 = .ok (.iload_n 2, 1) := by decide +kernel
theorem d_M_readInstruction_179 : decode mt_M_readInstruction.2.1 179 = .ok (.aload_n 0, 1) := by decide +kernel
theorem d_M_readInstruction_180 : decode mt_M_readInstruction.2.1 180 = .ok (.bipush 48, 2) := by decide +kernel
theorem d_M_readInstruction_182 : decode mt_M_readInstruction.2.1 182 = .ok (.invokevirtual 104, 3) := by decide +kernel
theorem d_M_readInstruction_185 : decode mt_M_readInstruction.2.1 185 = .ok (.iadd, 1) := by decide +kernel
theorem d_M_readInstruction_186 : decode mt_M_readInstruction.2.1 186 = .ok (.istore_n 2, 1) := by decide +kernel
theorem d_M_readInstruction_187 : decode mt_M_readInstruction.2.1 187 = .ok (.aload_n 0, 1) := by decide +kernel
theorem d_M_readInstruction_188 : decode mt_M_readInstruction.2.1 188 = .ok (.getfield 25, 3) := by decide +kernel
theorem d_M_readInstruction_191 : decode mt_M_readInstruction.2.1 191 = .ok (.aload_n 0, 1) := by decide +kernel
theorem d_M_readInstruction_192 : decode mt_M_readInstruction.2.1 192 = .ok (.getfield 93, 3) := by decide +kernel
theorem d_M_readInstruction_195 : decode mt_M_readInstruction.2.1 195 = .ok (.iload_n 2, 1) := by decide +kernel
theorem d_M_readInstruction_196 : decode mt_M_readInstruction.2.1 196 = .ok (.iastore, 1) := by decide +kernel
theorem d_M_readInstruction_197 : decode mt_M_readInstruction.2.1 197 = .ok (.aload_n 0, 1) := by decide +kernel
theorem d_M_readInstruction_198 : decode mt_M_readInstruction.2.1 198 = .ok (.dup, 1) := by decide +kernel
theorem d_M_readInstruction_199 : decode mt_M_readInstruction.2.1 199 = .ok (.getfield 93, 3) := by decide +kernel
theorem d_M_readInstruction_202 : decode mt_M_readInstruction.2.1 202 = .ok (.iconst 1, 1) := by decide +kernel
theorem d_M_readInstruction_203 : decode mt_M_readInstruction.2.1 203 = .ok (.iadd, 1) := by decide +kernel
theorem d_M_readInstruction_204 : decode mt_M_readInstruction.2.1 204 = .ok (.putfield 93, 3) := by decide +kernel
theorem d_M_readInstruction_207 : decode mt_M_readInstruction.2.1 207 = .ok (.iconst 1, 1) := by decide +kernel
theorem d_M_readInstruction_208 : decode mt_M_readInstruction.2.1 208 = .ok (.ireturn, 1) := by decide +kernel
theorem d_M_kindOf_0 : decode mt_M_kindOf.2.1 0 = .ok (.iload_n 0, 1) := by decide +kernel
theorem d_M_kindOf_1 : decode mt_M_kindOf.2.1 1 = .ok (.tableswitch 138 97 122 #[119, 135, 123, 121, 138, 138, 138, 138, 138, 129, 138, 125, 138, 138, 138, 138, 138, 138, 138, 138, 138, 138, 127, 138, 138, 132], 119) := by decide +kernel
theorem d_M_kindOf_120 : decode mt_M_kindOf.2.1 120 = .ok (.iconst 1, 1) := by decide +kernel
theorem d_M_kindOf_121 : decode mt_M_kindOf.2.1 121 = .ok (.ireturn, 1) := by decide +kernel
theorem d_M_kindOf_122 : decode mt_M_kindOf.2.1 122 = .ok (.iconst 2, 1) := by decide +kernel
theorem d_M_kindOf_123 : decode mt_M_kindOf.2.1 123 = .ok (.ireturn, 1) := by decide +kernel
theorem d_M_kindOf_124 : decode mt_M_kindOf.2.1 124 = .ok (.iconst 3, 1) := by decide +kernel
theorem d_M_kindOf_125 : decode mt_M_kindOf.2.1 125 = .ok (.ireturn, 1) := by decide +kernel
theorem d_M_kindOf_126 : decode mt_M_kindOf.2.1 126 = .ok (.iconst 4, 1) := by decide +kernel
theorem d_M_kindOf_127 : decode mt_M_kindOf.2.1 127 = .ok (.ireturn, 1) := by decide +kernel
theorem d_M_kindOf_128 : decode mt_M_kindOf.2.1 128 = .ok (.iconst 5, 1) := by decide +kernel
theorem d_M_kindOf_129 : decode mt_M_kindOf.2.1 129 = .ok (.ireturn, 1) := by decide +kernel
theorem d_M_kindOf_130 : decode mt_M_kindOf.2.1 130 = .ok (.bipush 6, 2) := by decide +kernel
theorem d_M_kindOf_132 : decode mt_M_kindOf.2.1 132 = .ok (.ireturn, 1) := by decide +kernel
theorem d_M_kindOf_133 : decode mt_M_kindOf.2.1 133 = .ok (.bipush 7, 2) := by decide +kernel
theorem d_M_kindOf_135 : decode mt_M_kindOf.2.1 135 = .ok (.ireturn, 1) := by decide +kernel
theorem d_M_kindOf_136 : decode mt_M_kindOf.2.1 136 = .ok (.bipush 8, 2) := by decide +kernel
theorem d_M_kindOf_138 : decode mt_M_kindOf.2.1 138 = .ok (.ireturn, 1) := by decide +kernel
theorem d_M_kindOf_139 : decode mt_M_kindOf.2.1 139 = .ok (.iconst 0, 1) := by decide +kernel
theorem d_M_kindOf_140 : decode mt_M_kindOf.2.1 140 = .ok (.ireturn, 1) := by decide +kernel
theorem d_M_isNext_0 : decode mt_M_isNext.2.1 0 = .ok (.aload_n 0, 1) := by decide +kernel
theorem d_M_isNext_1 : decode mt_M_isNext.2.1 1 = .ok (.getfield 90, 3) := by decide +kernel
theorem d_M_isNext_4 : decode mt_M_isNext.2.1 4 = .ok (.aload_n 0, 1) := by decide +kernel
theorem d_M_isNext_5 : decode mt_M_isNext.2.1 5 = .ok (.getfield 87, 3) := by decide +kernel
theorem d_M_isNext_8 : decode mt_M_isNext.2.1 8 = .ok (.if_icmp .ge 29, 3) := by decide +kernel
theorem d_M_isNext_11 : decode mt_M_isNext.2.1 11 = .ok (.aload_n 0, 1) := by decide +kernel
theorem d_M_isNext_12 : decode mt_M_isNext.2.1 12 = .ok (.getfield 7, 3) := by decide +kernel
theorem d_M_isNext_15 : decode mt_M_isNext.2.1 15 = .ok (.aload_n 0, 1) := by decide +kernel
theorem d_M_isNext_16 : decode mt_M_isNext.2.1 16 = .ok (.getfield 90, 3) := by decide +kernel
theorem d_M_isNext_19 : decode mt_M_isNext.2.1 19 = .ok (.iaload, 1) := by decide +kernel
theorem d_M_isNext_20 : decode mt_M_isNext.2.1 20 = .ok (.iload_n 1, 1) := by decide +kernel
theorem d_M_isNext_21 : decode mt_M_isNext.2.1 21 = .ok (.isub, 1) := by decide +kernel
theorem d_M_isNext_22 : decode mt_M_isNext.2.1 22 = .ok (.i2l, 1) := by decide +kernel
theorem d_M_isNext_23 : decode mt_M_isNext.2.1 23 = .ok (.iload_n 2, 1) := by decide +kernel
