theorem d_S_pass_2 : decode mt_S_pass.2.1 2 = .ok (.iload_n 3, 1) := by decide +kernel
theorem d_S_pass_3 : decode mt_S_pass.2.1 3 = .ok (.iload_n 2, 1) := by decide +kernel
theorem d_S_pass_4 : decode mt_S_pass.2.1 4 = .ok (.if_icmp .ge 73, 3) := by decide +kernel
theorem d_S_pass_7 : decode mt_S_pass.2.1 7 = .ok (.aload_n 0, 1) := by decide +kernel
theorem d_S_pass_8 : decode mt_S_pass.2.1 8 = .ok (.invokevirtual 83, 3) := by decide +kernel
theorem d_S_pass_11 : decode mt_S_pass.2.1 11 = .ok (.istore 4, 2) := by decide +kernel
theorem d_S_pass_13 : decode mt_S_pass.2.1 13 = .ok (.aload_n 0, 1) := by decide +kernel
theorem d_S_pass_14 : decode mt_S_pass.2.1 14 = .ok (.iconst 0, 1) := by decide +kernel
theorem d_S_pass_15 : decode mt_S_pass.2.1 15 = .ok (.putfield 93, 3) := by decide +kernel
theorem d_S_pass_18 : decode mt_S_pass.2.1 18 = .ok (.aload_n 0, 1) := by decide +kernel
theorem d_S_pass_19 : decode mt_S_pass.2.1 19 = .ok (.invokevirtual 97, 3) := by decide +kernel
theorem d_S_pass_22 : decode mt_S_pass.2.1 22 = .ok (.iconst 0, 1) := by decide +kernel
theorem d_S_pass_23 : decode mt_S_pass.2.1 23 = .ok (.istore 5, 2) := by decide +kernel
theorem d_S_pass_25 : decode mt_S_pass.2.1 25 = .ok (.iload 5, 2) := by decide +kernel
theorem d_S_pass_27 : decode mt_S_pass.2.1 27 = .ok (.aload_n 0, 1) := by decide +kernel
theorem d_S_pass_28 : decode mt_S_pass.2.1 28 = .ok (.getfield 36, 3) := by decide +kernel
theorem d_S_pass_31 : decode mt_S_pass.2.1 31 = .ok (.if_icmp .ge 16, 3) := by decide +kernel
theorem d_S_pass_34 : decode mt_S_pass.2.1 34 = .ok (.aload_n 0, 1) := by decide +kernel
theorem d_S_pass_35 : decode mt_S_pass.2.1 35 = .ok (.iload 5, 2) := by decide +kernel
theorem d_S_pass_37 : decode mt_S_pass.2.1 37 = .ok (.aload_n 1, 1) := by decide +kernel
theorem d_S_pass_38 : decode mt_S_pass.2.1 38 = .ok (.invokevirtual 100, 3) := by decide +kernel
theorem d_S_pass_41 : decode mt_S_pass.2.1 41 = .ok (.iinc 5 1, 3) := by decide +kernel
theorem d_S_pass_44 : decode mt_S_pass.2.1 44 = .ok (.goto (-19), 3) := by decide +kernel
theorem d_S_pass_47 : decode mt_S_pass.2.1 47 = .ok (.aload_n 0, 1) := by decide +kernel
theorem d_S_pass_48 : decode mt_S_pass.2.1 48 = .ok (.aload_n 0, 1) := by decide +kernel
theorem d_S_pass_49 : decode mt_S_pass.2.1 49 = .ok (.invokevirtual 83, 3) := by decide +kernel
theorem d_S_pass_52 : decode mt_S_pass.2.1 52 = .ok (.iload 4, 2) := by decide +kernel
theorem d_S_pass_54 : decode mt_S_pass.2.1 54 = .ok (.iconst (-1), 1) := by decide +kernel
theorem d_S_pass_55 : decode mt_S_pass.2.1 55 = .ok (.ixor, 1) := by decide +kernel
theorem d_S_pass_56 : decode mt_S_pass.2.1 56 = .ok (.iand, 1) := by decide +kernel
theorem d_S_pass_57 : decode mt_S_pass.2.1 57 = .ok (.invokevirtual 104, 3) := by decide +kernel
theorem d_S_pass_60 : decode mt_S_pass.2.1 60 = .ok (.aload_n 0, 1) := by decide +kernel
theorem d_S_pass_61 : decode mt_S_pass.2.1 61 = .ok (.getfield 93, 3) := by decide +kernel
theorem d_S_pass_64 : decode mt_S_pass.2.1 64 = .ok (.ifCond .eq 7, 3) := by decide +kernel
theorem d_S_pass_67 : decode mt_S_pass.2.1 67 = .ok (.aload_n 0, 1) := by decide +kernel
theorem d_S_pass_68 : decode mt_S_pass.2.1 68 = .ok (.invokevirtual 108, 3) := by decide +kernel
theorem d_S_pass_71 : decode mt_S_pass.2.1 71 = .ok (.iinc 3 1, 3) := by decide +kernel
theorem d_S_pass_74 : decode mt_S_pass.2.1 74 = .ok (.goto (-72), 3) := by decide +kernel
theorem d_S_pass_77 : decode mt_S_pass.2.1 77 = .ok (.return_, 1) := by decide +kernel
theorem d_S_haltedSet_0 : decode mt_S_haltedSet.2.1 0 = .ok (.iconst 0, 1) := by decide +kernel
theorem d_S_haltedSet_1 : decode mt_S_haltedSet.2.1 1 = .ok (.istore_n 1, 1) := by decide +kernel
theorem d_S_haltedSet_2 : decode mt_S_haltedSet.2.1 2 = .ok (.iconst 0, 1) := by decide +kernel
theorem d_S_haltedSet_3 : decode mt_S_haltedSet.2.1 3 = .ok (.istore_n 2, 1) := by decide +kernel
theorem d_S_haltedSet_4 : decode mt_S_haltedSet.2.1 4 = .ok (.iload_n 2, 1) := by decide +kernel
theorem d_S_haltedSet_5 : decode mt_S_haltedSet.2.1 5 = .ok (.aload_n 0, 1) := by decide +kernel
theorem d_S_haltedSet_6 : decode mt_S_haltedSet.2.1 6 = .ok (.getfield 36, 3) := by decide +kernel
theorem d_S_haltedSet_9 : decode mt_S_haltedSet.2.1 9 = .ok (.if_icmp .ge 28, 3) := by decide +kernel
theorem d_S_haltedSet_12 : decode mt_S_haltedSet.2.1 12 = .ok (.aload_n 0, 1) := by decide +kernel
theorem d_S_haltedSet_13 : decode mt_S_haltedSet.2.1 13 = .ok (.getfield 20, 3) := by decide +kernel
theorem d_S_haltedSet_16 : decode mt_S_haltedSet.2.1 16 = .ok (.iload_n 2, 1) := by decide +kernel
theorem d_S_haltedSet_17 : decode mt_S_haltedSet.2.1 17 = .ok (.aaload, 1) := by decide +kernel
theorem d_S_haltedSet_18 : decode mt_S_haltedSet.2.1 18 = .ok (.getfield 80, 3) := by decide +kernel
theorem d_S_haltedSet_21 : decode mt_S_haltedSet.2.1 21 = .ok (.iconst 2, 1) := by decide +kernel
theorem d_S_haltedSet_22 : decode mt_S_haltedSet.2.1 22 = .ok (.if_icmp .ne 9, 3) := by decide +kernel
theorem d_S_haltedSet_25 : decode mt_S_haltedSet.2.1 25 = .ok (.iload_n 1, 1) := by decide +kernel
theorem d_S_haltedSet_26 : decode mt_S_haltedSet.2.1 26 = .ok (.iconst 1, 1) := by decide +kernel
theorem d_S_haltedSet_27 : decode mt_S_haltedSet.2.1 27 = .ok (.iload_n 2, 1) := by decide +kernel
theorem d_S_haltedSet_28 : decode mt_S_haltedSet.2.1 28 = .ok (.ishl, 1) := by decide +kernel
theorem d_S_haltedSet_29 : decode mt_S_haltedSet.2.1 29 = .ok (.ior, 1) := by decide +kernel
theorem d_S_haltedSet_30 : decode mt_S_haltedSet.2.1 30 = .ok (.istore_n 1, 1) := by decide +kernel
theorem d_S_haltedSet_31 : decode mt_S_haltedSet.2.1 31 = .ok (.iinc 2 1, 3) := by decide +kernel
theorem d_S_haltedSet_34 : decode mt_S_haltedSet.2.1 34 = .ok (.goto (-30), 3) := by decide +kernel
theorem d_S_haltedSet_37 : decode mt_S_haltedSet.2.1 37 = .ok (.iload_n 1, 1) := by decide +kernel
theorem d_S_haltedSet_38 : decode mt_S_haltedSet.2.1 38 = .ok (.ireturn, 1) := by decide +kernel
theorem d_S_moveOrders_0 : decode mt_S_moveOrders.2.1 0 = .ok (.iconst 0, 1) := by decide +kernel
theorem d_S_moveOrders_1 : decode mt_S_moveOrders.2.1 1 = .ok (.istore_n 1, 1) := by decide +kernel
theorem d_S_moveOrders_2 : decode mt_S_moveOrders.2.1 2 = .ok (.iconst 0, 1) := by decide +kernel
theorem d_S_moveOrders_3 : decode mt_S_moveOrders.2.1 3 = .ok (.istore_n 2, 1) := by decide +kernel
theorem d_S_moveOrders_4 : decode mt_S_moveOrders.2.1 4 = .ok (.iload_n 2, 1) := by decide +kernel
theorem d_S_moveOrders_5 : decode mt_S_moveOrders.2.1 5 = .ok (.aload_n 0, 1) := by decide +kernel
theorem d_S_moveOrders_6 : decode mt_S_moveOrders.2.1 6 = .ok (.getfield 12, 3) := by decide +kernel
theorem d_S_moveOrders_9 : decode mt_S_moveOrders.2.1 9 = .ok (.getfield 111, 3) := by decide +kernel
theorem d_S_moveOrders_12 : decode mt_S_moveOrders.2.1 12 = .ok (.if_icmp .ge 83, 3) := by decide +kernel
theorem d_S_moveOrders_15 : decode mt_S_moveOrders.2.1 15 = .ok (.aload_n 0, 1) := by decide +kernel
theorem d_S_moveOrders_16 : decode mt_S_moveOrders.2.1 16 = .ok (.getfield 12, 3) := by decide +kernel
theorem d_S_moveOrders_19 : decode mt_S_moveOrders.2.1 19 = .ok (.getfield 114, 3) := by decide +kernel
theorem d_S_moveOrders_22 : decode mt_S_moveOrders.2.1 22 = .ok (.iload_n 2, 1) := by decide +kernel
theorem d_S_moveOrders_23 : decode mt_S_moveOrders.2.1 23 = .ok (.aaload, 1) := by decide +kernel
theorem d_S_moveOrders_24 : decode mt_S_moveOrders.2.1 24 = .ok (.astore_n 3, 1) := by decide +kernel
theorem d_S_moveOrders_25 : decode mt_S_moveOrders.2.1 25 = .ok (.aload_n 3, 1) := by decide +kernel
theorem d_S_moveOrders_26 : decode mt_S_moveOrders.2.1 26 = .ok (.dup, 1) := by decide +kernel
theorem d_S_moveOrders_27 : decode mt_S_moveOrders.2.1 27 = .ok (.getfield 118, 3) := by decide +kernel
theorem d_S_moveOrders_30 : decode mt_S_moveOrders.2.1 30 = .ok (.iconst 1, 1) := by decide +kernel
theorem d_S_moveOrders_31 : decode mt_S_moveOrders.2.1 31 = .ok (.iadd, 1) := by decide +kernel
theorem d_S_moveOrders_32 : decode mt_S_moveOrders.2.1 32 = .ok (.putfield 118, 3) := by decide +kernel
theorem d_S_moveOrders_35 : decode mt_S_moveOrders.2.1 35 = .ok (.aload_n 3, 1) := by decide +kernel
theorem d_S_moveOrders_36 : decode mt_S_moveOrders.2.1 36 = .ok (.getfield 118, 3) := by decide +kernel
theorem d_S_moveOrders_39 : decode mt_S_moveOrders.2.1 39 = .ok (.aload_n 3, 1) := by decide +kernel
theorem d_S_moveOrders_40 : decode mt_S_moveOrders.2.1 40 = .ok (.getfield 123, 3) := by decide +kernel
theorem d_S_moveOrders_43 : decode mt_S_moveOrders.2.1 43 = .ok (.iconst 1, 1) := by decide +kernel
theorem d_S_moveOrders_44 : decode mt_S_moveOrders.2.1 44 = .ok (.iadd, 1) := by decide +kernel
theorem d_S_moveOrders_45 : decode mt_S_moveOrders.2.1 45 = .ok (.if_icmp .ne 8, 3) := by decide +kernel
theorem d_S_moveOrders_48 : decode mt_S_moveOrders.2.1 48 = .ok (.aload_n 0, 1) := by decide +kernel
theorem d_S_moveOrders_49 : decode mt_S_moveOrders.2.1 49 = .ok (.aload_n 3, 1) := by decide +kernel
theorem d_S_moveOrders_50 : decode mt_S_moveOrders.2.1 50 = .ok (.invokevirtual 126, 3) := by decide +kernel
theorem d_S_moveOrders_53 : decode mt_S_moveOrders.2.1 53 = .ok (.aload_n 3, 1) := by decide +kernel
theorem d_S_moveOrders_54 : decode mt_S_moveOrders.2.1 54 = .ok (.getfield 118, 3) := by decide +kernel
theorem d_S_moveOrders_57 : decode mt_S_moveOrders.2.1 57 = .ok (.aload_n 0, 1) := by decide +kernel
theorem d_S_moveOrders_58 : decode mt_S_moveOrders.2.1 58 = .ok (.getfield 36, 3) := by decide +kernel
theorem d_S_moveOrders_61 : decode mt_S_moveOrders.2.1 61 = .ok (.iconst 1, 1) := by decide +kernel
theorem d_S_moveOrders_62 : decode mt_S_moveOrders.2.1 62 = .ok (.iadd, 1) := by decide +kernel
theorem d_S_moveOrders_63 : decode mt_S_moveOrders.2.1 63 = .ok (.if_icmp .ne 14, 3) := by decide +kernel
theorem d_S_moveOrders_66 : decode mt_S_moveOrders.2.1 66 = .ok (.aload_n 0, 1) := by decide +kernel
theorem d_S_moveOrders_67 : decode mt_S_moveOrders.2.1 67 = .ok (.getfield 12, 3) := by decide +kernel
theorem d_S_moveOrders_70 : decode mt_S_moveOrders.2.1 70 = .ok (.aload_n 3, 1) := by decide +kernel
theorem d_S_moveOrders_71 : decode mt_S_moveOrders.2.1 71 = .ok (.invokevirtual 130, 3) := by decide +kernel
theorem d_S_moveOrders_74 : decode mt_S_moveOrders.2.1 74 = .ok (.goto 15, 3) := by decide +kernel
theorem d_S_moveOrders_77 : decode mt_S_moveOrders.2.1 77 = .ok (.aload_n 0, 1) := by decide +kernel
theorem d_S_moveOrders_78 : decode mt_S_moveOrders.2.1 78 = .ok (.getfield 12, 3) := by decide +kernel
theorem d_S_moveOrders_81 : decode mt_S_moveOrders.2.1 81 = .ok (.iload_n 2, 1) := by decide +kernel
theorem d_S_moveOrders_82 : decode mt_S_moveOrders.2.1 82 = .ok (.iload_n 1, 1) := by decide +kernel
theorem d_S_moveOrders_83 : decode mt_S_moveOrders.2.1 83 = .ok (.invokevirtual 133, 3) := by decide +kernel
theorem d_S_moveOrders_86 : decode mt_S_moveOrders.2.1 86 = .ok (.iinc 1 1, 3) := by decide +kernel
theorem d_S_moveOrders_89 : decode mt_S_moveOrders.2.1 89 = .ok (.iinc 2 1, 3) := by decide +kernel
theorem d_S_moveOrders_92 : decode mt_S_moveOrders.2.1 92 = .ok (.goto (-88), 3) := by decide +kernel
theorem d_S_moveOrders_95 : decode mt_S_moveOrders.2.1 95 = .ok (.aload_n 0, 1) := by decide +kernel
theorem d_S_moveOrders_96 : decode mt_S_moveOrders.2.1 96 = .ok (.getfield 12, 3) := by decide +kernel
theorem d_S_moveOrders_99 : decode mt_S_moveOrders.2.1 99 = .ok (.iload_n 1, 1) := by decide +kernel
theorem d_S_moveOrders_100 : decode mt_S_moveOrders.2.1 100 = .ok (.putfield 111, 3) := by decide +kernel
theorem d_S_moveOrders_103 : decode mt_S_moveOrders.2.1 103 = .ok (.return_, 1) := by decide +kernel
theorem d_S_reach_0 : decode mt_S_reach.2.1 0 = .ok (.aload_n 0, 1) := by decide +kernel
theorem d_S_reach_1 : decode mt_S_reach.2.1 1 = .ok (.getfield 20, 3) := by decide +kernel
theorem d_S_reach_4 : decode mt_S_reach.2.1 4 = .ok (.aload_n 1, 1) := by decide +kernel
theorem d_S_reach_5 : decode mt_S_reach.2.1 5 = .ok (.getfield 123, 3) := by decide +kernel
theorem d_S_reach_8 : decode mt_S_reach.2.1 8 = .ok (.aaload, 1) := by decide +kernel
theorem d_S_reach_9 : decode mt_S_reach.2.1 9 = .ok (.astore_n 2, 1) := by decide +kernel
theorem d_S_reach_10 : decode mt_S_reach.2.1 10 = .ok (.aload_n 1, 1) := by decide +kernel
theorem d_S_reach_11 : decode mt_S_reach.2.1 11 = .ok (.invokevirtual 137, 3) := by decide +kernel
theorem d_S_reach_14 : decode mt_S_reach.2.1 14 = .ok (.ifCond .eq 17, 3) := by decide +kernel
theorem d_S_reach_17 : decode mt_S_reach.2.1 17 = .ok (.aload_n 2, 1) := by decide +kernel
theorem d_S_reach_18 : decode mt_S_reach.2.1 18 = .ok (.getfield 80, 3) := by decide +kernel
theorem d_S_reach_21 : decode mt_S_reach.2.1 21 = .ok (.iconst 2, 1) := by decide +kernel
theorem d_S_reach_22 : decode mt_S_reach.2.1 22 = .ok (.if_icmp .eq 9, 3) := by decide +kernel
theorem d_S_reach_25 : decode mt_S_reach.2.1 25 = .ok (.aload_n 1, 1) := by decide +kernel
theorem d_S_reach_26 : decode mt_S_reach.2.1 26 = .ok (.iconst 4, 1) := by decide +kernel
theorem d_S_reach_27 : decode mt_S_reach.2.1 27 = .ok (.putfield 141, 3) := by decide +kernel
theorem d_S_reach_30 : decode mt_S_reach.2.1 30 = .ok (.return_, 1) := by decide +kernel
theorem d_S_reach_31 : decode mt_S_reach.2.1 31 = .ok (.aload_n 1, 1) := by decide +kernel
theorem d_S_reach_32 : decode mt_S_reach.2.1 32 = .ok (.getfield 144, 3) := by decide +kernel
theorem d_S_reach_35 : decode mt_S_reach.2.1 35 = .ok (.tableswitch 91 0 4 #[33, 41, 48, 59, 75], 33) := by decide +kernel
theorem d_S_reach_68 : decode mt_S_reach.2.1 68 = .ok (.aload_n 2, 1) := by decide +kernel
theorem d_S_reach_69 : decode mt_S_reach.2.1 69 = .ok (.iconst 1, 1) := by decide +kernel
theorem d_S_reach_70 : decode mt_S_reach.2.1 70 = .ok (.invokevirtual 147, 3) := by decide +kernel
theorem d_S_reach_73 : decode mt_S_reach.2.1 73 = .ok (.goto 62, 3) := by decide +kernel
theorem d_S_reach_76 : decode mt_S_reach.2.1 76 = .ok (.aload_n 2, 1) := by decide +kernel
theorem d_S_reach_77 : decode mt_S_reach.2.1 77 = .ok (.invokevirtual 150, 3) := by decide +kernel
theorem d_S_reach_80 : decode mt_S_reach.2.1 80 = .ok (.goto 55, 3) := by decide +kernel
theorem d_S_reach_83 : decode mt_S_reach.2.1 83 = .ok (.aload_n 0, 1) := by decide +kernel
theorem d_S_reach_84 : decode mt_S_reach.2.1 84 = .ok (.aload_n 1, 1) := by decide +kernel
theorem d_S_reach_85 : decode mt_S_reach.2.1 85 = .ok (.getfield 123, 3) := by decide +kernel
theorem d_S_reach_88 : decode mt_S_reach.2.1 88 = .ok (.invokevirtual 153, 3) := by decide +kernel
theorem d_S_reach_91 : decode mt_S_reach.2.1 91 = .ok (.goto 44, 3) := by decide +kernel
theorem d_S_reach_94 : decode mt_S_reach.2.1 94 = .ok (.aload_n 1, 1) := by decide +kernel
theorem d_S_reach_95 : decode mt_S_reach.2.1 95 = .ok (.aload_n 2, 1) := by decide +kernel
theorem d_S_reach_96 : decode mt_S_reach.2.1 96 = .ok (.getfield 155, 3) := by decide +kernel
theorem d_S_reach_99 : decode mt_S_reach.2.1 99 = .ok (.aload_n 1, 1) := by decide +kernel
theorem d_S_reach_100 : decode mt_S_reach.2.1 100 = .ok (.getfield 158, 3) := by decide +kernel
theorem d_S_reach_103 : decode mt_S_reach.2.1 103 = .ok (.iaload, 1) := by decide +kernel
theorem d_S_reach_104 : decode mt_S_reach.2.1 104 = .ok (.putfield 161, 3) := by decide +kernel
theorem d_S_reach_107 : decode mt_S_reach.2.1 107 = .ok (.goto 28, 3) := by decide +kernel
theorem d_S_reach_110 : decode mt_S_reach.2.1 110 = .ok (.aload_n 2, 1) := by decide +kernel
theorem d_S_reach_111 : decode mt_S_reach.2.1 111 = .ok (.getfield 155, 3) := by decide +kernel
theorem d_S_reach_114 : decode mt_S_reach.2.1 114 = .ok (.aload_n 1, 1) := by decide +kernel
theorem d_S_reach_115 : decode mt_S_reach.2.1 115 = .ok (.getfield 158, 3) := by decide +kernel
theorem d_S_reach_118 : decode mt_S_reach.2.1 118 = .ok (.aload_n 1, 1) := by decide +kernel
theorem d_S_reach_119 : decode mt_S_reach.2.1 119 = .ok (.getfield 164, 3) := by decide +kernel
theorem d_S_reach_122 : decode mt_S_reach.2.1 122 = .ok (.iastore, 1) := by decide +kernel
theorem d_S_reach_123 : decode mt_S_reach.2.1 123 = .ok (.goto 12, 3) := by decide +kernel
theorem d_S_reach_126 : decode mt_S_reach.2.1 126 = .ok (.aload_n 1, 1) := by decide +kernel
theorem d_S_reach_127 : decode mt_S_reach.2.1 127 = .ok (.aload_n 0, 1) := by decide +kernel
theorem d_S_reach_128 : decode mt_S_reach.2.1 128 = .ok (.aload_n 2, 1) := by decide +kernel
theorem d_S_reach_129 : decode mt_S_reach.2.1 129 = .ok (.invokevirtual 167, 3) := by decide +kernel
theorem d_S_reach_132 : decode mt_S_reach.2.1 132 = .ok (.putfield 141, 3) := by decide +kernel
theorem d_S_reach_135 : decode mt_S_reach.2.1 135 = .ok (.return_, 1) := by decide +kernel
theorem d_O_isAbstract_0 : decode mt_O_isAbstract.2.1 0 = .ok (.aload_n 0, 1) := by decide +kernel
theorem d_O_isAbstract_1 : decode mt_O_isAbstract.2.1 1 = .ok (.getfield 9, 3) := by decide +kernel
theorem d_O_isAbstract_4 : decode mt_O_isAbstract.2.1 4 = .ok (.iconst 3, 1) := by decide +kernel
theorem d_O_isAbstract_5 : decode mt_O_isAbstract.2.1 5 = .ok (.if_icmp .lt 7, 3) := by decide +kernel
theorem d_O_isAbstract_8 : decode mt_O_isAbstract.2.1 8 = .ok (.iconst 1, 1) := by decide +kernel
theorem d_O_isAbstract_9 : decode mt_O_isAbstract.2.1 9 = .ok (.goto 4, 3) := by decide +kernel
theorem d_O_isAbstract_12 : decode mt_O_isAbstract.2.1 12 = .ok (.iconst 0, 1) := by decide +kernel
theorem d_O_isAbstract_13 : decode mt_O_isAbstract.2.1 13 = .ok (.ireturn, 1) := by decide +kernel
theorem d_H_halt_0 : decode mt_H_halt.2.1 0 = .ok (.aload_n 0, 1) := by decide +kernel
theorem d_H_halt_1 : decode mt_H_halt.2.1 1 = .ok (.getfield 31, 3) := by decide +kernel
theorem d_H_halt_4 : decode mt_H_halt.2.1 4 = .ok (.iconst 2, 1) := by decide +kernel
theorem d_H_halt_5 : decode mt_H_halt.2.1 5 = .ok (.if_icmp .eq 13, 3) := by decide +kernel
theorem d_H_halt_8 : decode mt_H_halt.2.1 8 = .ok (.aload_n 0, 1) := by decide +kernel
theorem d_H_halt_9 : decode mt_H_halt.2.1 9 = .ok (.iconst 2, 1) := by decide +kernel
theorem d_H_halt_10 : decode mt_H_halt.2.1 10 = .ok (.putfield 31, 3) := by decide +kernel
theorem d_H_halt_13 : decode mt_H_halt.2.1 13 = .ok (.aload_n 0, 1) := by decide +kernel
theorem d_H_halt_14 : decode mt_H_halt.2.1 14 = .ok (.iload_n 1, 1) := by decide +kernel
theorem d_H_halt_15 : decode mt_H_halt.2.1 15 = .ok (.putfield 34, 3) := by decide +kernel
theorem d_H_halt_18 : decode mt_H_halt.2.1 18 = .ok (.return_, 1) := by decide +kernel
theorem d_H_resume_0 : decode mt_H_resume.2.1 0 = .ok (.aload_n 0, 1) := by decide +kernel
theorem d_H_resume_1 : decode mt_H_resume.2.1 1 = .ok (.getfield 31, 3) := by decide +kernel
theorem d_H_resume_4 : decode mt_H_resume.2.1 4 = .ok (.iconst 2, 1) := by decide +kernel
theorem d_H_resume_5 : decode mt_H_resume.2.1 5 = .ok (.if_icmp .ne 24, 3) := by decide +kernel
theorem d_H_resume_8 : decode mt_H_resume.2.1 8 = .ok (.aload_n 0, 1) := by decide +kernel
theorem d_H_resume_9 : decode mt_H_resume.2.1 9 = .ok (.aload_n 0, 1) := by decide +kernel
theorem d_H_resume_10 : decode mt_H_resume.2.1 10 = .ok (.getfield 37, 3) := by decide +kernel
theorem d_H_resume_13 : decode mt_H_resume.2.1 13 = .ok (.ifCond .eq 7, 3) := by decide +kernel
theorem d_H_resume_16 : decode mt_H_resume.2.1 16 = .ok (.iconst 1, 1) := by decide +kernel
theorem d_H_resume_17 : decode mt_H_resume.2.1 17 = .ok (.goto 4, 3) := by decide +kernel
theorem d_H_resume_20 : decode mt_H_resume.2.1 20 = .ok (.iconst 0, 1) := by decide +kernel
theorem d_H_resume_21 : decode mt_H_resume.2.1 21 = .ok (.putfield 31, 3) := by decide +kernel
theorem d_H_resume_24 : decode mt_H_resume.2.1 24 = .ok (.aload_n 0, 1) := by decide +kernel
theorem d_H_resume_25 : decode mt_H_resume.2.1 25 = .ok (.iconst 0, 1) := by decide +kernel
theorem d_H_resume_26 : decode mt_H_resume.2.1 26 = .ok (.putfield 34, 3) := by decide +kernel
theorem d_H_resume_29 : decode mt_H_resume.2.1 29 = .ok (.return_, 1) := by decide +kernel
theorem d_S_restart_0 : decode mt_S_restart.2.1 0 = .ok (.aload_n 0, 1) := by decide +kernel
theorem d_S_restart_1 : decode mt_S_restart.2.1 1 = .ok (.getfield 20, 3) := by decide +kernel
theorem d_S_restart_4 : decode mt_S_restart.2.1 4 = .ok (.iload_n 1, 1) := by decide +kernel
theorem d_S_restart_5 : decode mt_S_restart.2.1 5 = .ok (.aaload, 1) := by decide +kernel
theorem d_S_restart_6 : decode mt_S_restart.2.1 6 = .ok (.invokevirtual 46, 3) := by decide +kernel
theorem d_S_restart_9 : decode mt_S_restart.2.1 9 = .ok (.iconst 0, 1) := by decide +kernel
theorem d_S_restart_10 : decode mt_S_restart.2.1 10 = .ok (.istore_n 2, 1) := by decide +kernel
theorem d_S_restart_11 : decode mt_S_restart.2.1 11 = .ok (.iload_n 2, 1) := by decide +kernel
theorem d_S_restart_12 : decode mt_S_restart.2.1 12 = .ok (.aload_n 0, 1) := by decide +kernel
theorem d_S_restart_13 : decode mt_S_restart.2.1 13 = .ok (.getfield 49, 3) := by decide +kernel
theorem d_S_restart_16 : decode mt_S_restart.2.1 16 = .ok (.if_icmp .ge 40, 3) := by decide +kernel
theorem d_S_restart_19 : decode mt_S_restart.2.1 19 = .ok (.aload_n 0, 1) := by decide +kernel
theorem d_S_restart_20 : decode mt_S_restart.2.1 20 = .ok (.getfield 26, 3) := by decide +kernel
theorem d_S_restart_23 : decode mt_S_restart.2.1 23 = .ok (.iload_n 2, 1) := by decide +kernel
theorem d_S_restart_24 : decode mt_S_restart.2.1 24 = .ok (.aaload, 1) := by decide +kernel
theorem d_S_restart_25 : decode mt_S_restart.2.1 25 = .ok (.getfield 58, 3) := by decide +kernel
theorem d_S_restart_28 : decode mt_S_restart.2.1 28 = .ok (.iload_n 1, 1) := by decide +kernel
theorem d_S_restart_29 : decode mt_S_restart.2.1 29 = .ok (.if_icmp .ne 21, 3) := by decide +kernel
theorem d_S_restart_32 : decode mt_S_restart.2.1 32 = .ok (.aload_n 0, 1) := by decide +kernel
theorem d_S_restart_33 : decode mt_S_restart.2.1 33 = .ok (.getfield 26, 3) := by decide +kernel
theorem d_S_restart_36 : decode mt_S_restart.2.1 36 = .ok (.iload_n 2, 1) := by decide +kernel
theorem d_S_restart_37 : decode mt_S_restart.2.1 37 = .ok (.aaload, 1) := by decide +kernel
theorem d_S_restart_38 : decode mt_S_restart.2.1 38 = .ok (.aload_n 0, 1) := by decide +kernel
theorem d_S_restart_39 : decode mt_S_restart.2.1 39 = .ok (.getfield 26, 3) := by decide +kernel
theorem d_S_restart_42 : decode mt_S_restart.2.1 42 = .ok (.iload_n 2, 1) := by decide +kernel
theorem d_S_restart_43 : decode mt_S_restart.2.1 43 = .ok (.aaload, 1) := by decide +kernel
theorem d_S_restart_44 : decode mt_S_restart.2.1 44 = .ok (.getfield 171, 3) := by decide +kernel
theorem d_S_restart_47 : decode mt_S_restart.2.1 47 = .ok (.putfield 174, 3) := by decide +kernel
theorem d_S_restart_50 : decode mt_S_restart.2.1 50 = .ok (.iinc 2 1, 3) := by decide +kernel
theorem d_S_restart_53 : decode mt_S_restart.2.1 53 = .ok (.goto (-42), 3) := by decide +kernel
theorem d_S_restart_56 : decode mt_S_restart.2.1 56 = .ok (.return_, 1) := by decide +kernel
theorem d_S_runBuffer_0 : decode mt_S_runBuffer.2.1 0 = .ok (.iconst 0, 1) := by decide +kernel
theorem d_S_runBuffer_1 : decode mt_S_runBuffer.2.1 1 = .ok (.istore_n 2, 1) := by decide +kernel
theorem d_S_runBuffer_2 : decode mt_S_runBuffer.2.1 2 = .ok (.iload_n 2, 1) := by decide +kernel
theorem d_S_runBuffer_3 : decode mt_S_runBuffer.2.1 3 = .ok (.iconst 2, 1) := by decide +kernel
theorem d_S_runBuffer_4 : decode mt_S_runBuffer.2.1 4 = .ok (.if_icmp .ge 62, 3) := by decide +kernel
theorem d_S_runBuffer_7 : decode mt_S_runBuffer.2.1 7 = .ok (.aload_n 0, 1) := by decide +kernel
theorem d_S_runBuffer_8 : decode mt_S_runBuffer.2.1 8 = .ok (.getfield 12, 3) := by decide +kernel
theorem d_S_runBuffer_11 : decode mt_S_runBuffer.2.1 11 = .ok (.getfield 177, 3) := by decide +kernel
theorem d_S_runBuffer_14 : decode mt_S_runBuffer.2.1 14 = .ok (.iload_n 2, 1) := by decide +kernel
theorem d_S_runBuffer_15 : decode mt_S_runBuffer.2.1 15 = .ok (.iaload, 1) := by decide +kernel
theorem d_S_runBuffer_16 : decode mt_S_runBuffer.2.1 16 = .ok (.ifCond .eq 50, 3) := by decide +kernel
theorem d_S_runBuffer_19 : decode mt_S_runBuffer.2.1 19 = .ok (.aload_n 0, 1) := by decide +kernel
theorem d_S_runBuffer_20 : decode mt_S_runBuffer.2.1 20 = .ok (.getfield 12, 3) := by decide +kernel
theorem d_S_runBuffer_23 : decode mt_S_runBuffer.2.1 23 = .ok (.getfield 177, 3) := by decide +kernel
theorem d_S_runBuffer_26 : decode mt_S_runBuffer.2.1 26 = .ok (.iload_n 2, 1) := by decide +kernel
theorem d_S_runBuffer_27 : decode mt_S_runBuffer.2.1 27 = .ok (.iaload, 1) := by decide +kernel
theorem d_S_runBuffer_28 : decode mt_S_runBuffer.2.1 28 = .ok (.istore_n 3, 1) := by decide +kernel
theorem d_S_runBuffer_29 : decode mt_S_runBuffer.2.1 29 = .ok (.iload_n 3, 1) := by decide +kernel
theorem d_S_runBuffer_30 : decode mt_S_runBuffer.2.1 30 = .ok (.bipush 100, 2) := by decide +kernel
theorem d_S_runBuffer_32 : decode mt_S_runBuffer.2.1 32 = .ok (.idiv, 1) := by decide +kernel
theorem d_S_runBuffer_33 : decode mt_S_runBuffer.2.1 33 = .ok (.bipush 6, 2) := by decide +kernel
theorem d_S_runBuffer_35 : decode mt_S_runBuffer.2.1 35 = .ok (.if_icmp .lt 5, 3) := by decide +kernel
theorem d_S_runBuffer_38 : decode mt_S_runBuffer.2.1 38 = .ok (.iconst 3, 1) := by decide +kernel
theorem d_S_runBuffer_39 : decode mt_S_runBuffer.2.1 39 = .ok (.ireturn, 1) := by decide +kernel
theorem d_S_runBuffer_40 : decode mt_S_runBuffer.2.1 40 = .ok (.aload_n 0, 1) := by decide +kernel
theorem d_S_runBuffer_41 : decode mt_S_runBuffer.2.1 41 = .ok (.aload_n 1, 1) := by decide +kernel
theorem d_S_runBuffer_42 : decode mt_S_runBuffer.2.1 42 = .ok (.iload_n 3, 1) := by decide +kernel
theorem d_S_runBuffer_43 : decode mt_S_runBuffer.2.1 43 = .ok (.bipush 100, 2) := by decide +kernel
theorem d_S_runBuffer_45 : decode mt_S_runBuffer.2.1 45 = .ok (.idiv, 1) := by decide +kernel
theorem d_S_runBuffer_46 : decode mt_S_runBuffer.2.1 46 = .ok (.iload_n 3, 1) := by decide +kernel
theorem d_S_runBuffer_47 : decode mt_S_runBuffer.2.1 47 = .ok (.bipush 10, 2) := by decide +kernel
theorem d_S_runBuffer_49 : decode mt_S_runBuffer.2.1 49 = .ok (.idiv, 1) := by decide +kernel
theorem d_S_runBuffer_50 : decode mt_S_runBuffer.2.1 50 = .ok (.bipush 10, 2) := by decide +kernel
theorem d_S_runBuffer_52 : decode mt_S_runBuffer.2.1 52 = .ok (.irem, 1) := by decide +kernel
theorem d_S_runBuffer_53 : decode mt_S_runBuffer.2.1 53 = .ok (.iload_n 3, 1) := by decide +kernel
theorem d_S_runBuffer_54 : decode mt_S_runBuffer.2.1 54 = .ok (.bipush 10, 2) := by decide +kernel
theorem d_S_runBuffer_56 : decode mt_S_runBuffer.2.1 56 = .ok (.irem, 1) := by decide +kernel
theorem d_S_runBuffer_57 : decode mt_S_runBuffer.2.1 57 = .ok (.invokevirtual 180, 3) := by decide +kernel
theorem d_S_runBuffer_60 : decode mt_S_runBuffer.2.1 60 = .ok (.iinc 2 1, 3) := by decide +kernel
theorem d_S_runBuffer_63 : decode mt_S_runBuffer.2.1 63 = .ok (.goto (-61), 3) := by decide +kernel
theorem d_S_runBuffer_66 : decode mt_S_runBuffer.2.1 66 = .ok (.iconst 0, 1) := by decide +kernel
theorem d_S_runBuffer_67 : decode mt_S_runBuffer.2.1 67 = .ok (.ireturn, 1) := by decide +kernel
theorem d_S_calculate_0 : decode mt_S_calculate.2.1 0 = .ok (.aload_n 1, 1) := by decide +kernel
theorem d_S_calculate_1 : decode mt_S_calculate.2.1 1 = .ok (.getfield 155, 3) := by decide +kernel
theorem d_S_calculate_4 : decode mt_S_calculate.2.1 4 = .ok (.astore 5, 2) := by decide +kernel
theorem d_S_calculate_6 : decode mt_S_calculate.2.1 6 = .ok (.iload_n 2, 1) := by decide +kernel
theorem d_S_calculate_7 : decode mt_S_calculate.2.1 7 = .ok (.tableswitch 138 1 5 #[33, 51, 75, 87, 101], 33) := by decide +kernel
theorem d_S_calculate_40 : decode mt_S_calculate.2.1 40 = .ok (.aload 5, 2) := by decide +kernel
theorem d_S_calculate_42 : decode mt_S_calculate.2.1 42 = .ok (.iload_n 3, 1) := by decide +kernel
theorem d_S_calculate_43 : decode mt_S_calculate.2.1 43 = .ok (.aload 5, 2) := by decide +kernel
theorem d_S_calculate_45 : decode mt_S_calculate.2.1 45 = .ok (.iload_n 3, 1) := by decide +kernel
theorem d_S_calculate_46 : decode mt_S_calculate.2.1 46 = .ok (.iaload, 1) := by decide +kernel
theorem d_S_calculate_47 : decode mt_S_calculate.2.1 47 = .ok (.iload 4, 2) := by decide +kernel
theorem d_S_calculate_49 : decode mt_S_calculate.2.1 49 = .ok (.iadd, 1) := by decide +kernel
theorem d_S_calculate_50 : decode mt_S_calculate.2.1 50 = .ok (.sipush 1000, 3) := by decide +kernel
theorem d_S_calculate_53 : decode mt_S_calculate.2.1 53 = .ok (.irem, 1) := by decide +kernel
theorem d_S_calculate_54 : decode mt_S_calculate.2.1 54 = .ok (.iastore, 1) := by decide +kernel
theorem d_S_calculate_55 : decode mt_S_calculate.2.1 55 = .ok (.goto 90, 3) := by decide +kernel
theorem d_S_calculate_58 : decode mt_S_calculate.2.1 58 = .ok (.aload 5, 2) := by decide +kernel
theorem d_S_calculate_60 : decode mt_S_calculate.2.1 60 = .ok (.iload_n 3, 1) := by decide +kernel
theorem d_S_calculate_61 : decode mt_S_calculate.2.1 61 = .ok (.aload 5, 2) := by decide +kernel
theorem d_S_calculate_63 : decode mt_S_calculate.2.1 63 = .ok (.iload_n 3, 1) := by decide +kernel
theorem d_S_calculate_64 : decode mt_S_calculate.2.1 64 = .ok (.iaload, 1) := by decide +kernel
theorem d_S_calculate_65 : decode mt_S_calculate.2.1 65 = .ok (.ifCond .le 12, 3) := by decide +kernel
theorem d_S_calculate_68 : decode mt_S_calculate.2.1 68 = .ok (.aload 5, 2) := by decide +kernel
theorem d_S_calculate_70 : decode mt_S_calculate.2.1 70 = .ok (.iload_n 3, 1) := by decide +kernel
theorem d_S_calculate_71 : decode mt_S_calculate.2.1 71 = .ok (.iaload, 1) := by decide +kernel
theorem d_S_calculate_72 : decode mt_S_calculate.2.1 72 = .ok (.iconst 1, 1) := by decide +kernel
theorem d_S_calculate_73 : decode mt_S_calculate.2.1 73 = .ok (.isub, 1) := by decide +kernel
theorem d_S_calculate_74 : decode mt_S_calculate.2.1 74 = .ok (.goto 4, 3) := by decide +kernel
theorem d_S_calculate_77 : decode mt_S_calculate.2.1 77 = .ok (.iconst 0, 1) := by decide +kernel
theorem d_S_calculate_78 : decode mt_S_calculate.2.1 78 = .ok (.iastore, 1) := by decide +kernel
theorem d_S_calculate_79 : decode mt_S_calculate.2.1 79 = .ok (.goto 66, 3) := by decide +kernel
theorem d_S_calculate_82 : decode mt_S_calculate.2.1 82 = .ok (.aload 5, 2) := by decide +kernel
theorem d_S_calculate_84 : decode mt_S_calculate.2.1 84 = .ok (.iload_n 3, 1) := by decide +kernel
theorem d_S_calculate_85 : decode mt_S_calculate.2.1 85 = .ok (.aload 5, 2) := by decide +kernel
theorem d_S_calculate_87 : decode mt_S_calculate.2.1 87 = .ok (.iload 4, 2) := by decide +kernel
theorem d_S_calculate_89 : decode mt_S_calculate.2.1 89 = .ok (.iaload, 1) := by decide +kernel
theorem d_S_calculate_90 : decode mt_S_calculate.2.1 90 = .ok (.iastore, 1) := by decide +kernel
theorem d_S_calculate_91 : decode mt_S_calculate.2.1 91 = .ok (.goto 54, 3) := by decide +kernel
theorem d_S_calculate_94 : decode mt_S_calculate.2.1 94 = .ok (.aload 5, 2) := by decide +kernel
theorem d_S_calculate_96 : decode mt_S_calculate.2.1 96 = .ok (.iload_n 3, 1) := by decide +kernel
theorem d_S_calculate_97 : decode mt_S_calculate.2.1 97 = .ok (.aload_n 0, 1) := by decide +kernel
theorem d_S_calculate_98 : decode mt_S_calculate.2.1 98 = .ok (.getfield 30, 3) := by decide +kernel
theorem d_S_calculate_101 : decode mt_S_calculate.2.1 101 = .ok (.iload 4, 2) := by decide +kernel
theorem d_S_calculate_103 : decode mt_S_calculate.2.1 103 = .ok (.iaload, 1) := by decide +kernel
theorem d_S_calculate_104 : decode mt_S_calculate.2.1 104 = .ok (.iastore, 1) := by decide +kernel
theorem d_S_calculate_105 : decode mt_S_calculate.2.1 105 = .ok (.goto 40, 3) := by decide +kernel
theorem d_S_calculate_108 : decode mt_S_calculate.2.1 108 = .ok (.aload_n 0, 1) := by decide +kernel
theorem d_S_calculate_109 : decode mt_S_calculate.2.1 109 = .ok (.getfield 30, 3) := by decide +kernel
theorem d_S_calculate_112 : decode mt_S_calculate.2.1 112 = .ok (.iload 4, 2) := by decide +kernel
theorem d_S_calculate_114 : decode mt_S_calculate.2.1 114 = .ok (.aload 5, 2) := by decide +kernel
theorem d_S_calculate_116 : decode mt_S_calculate.2.1 116 = .ok (.iload_n 3, 1) := by decide +kernel
theorem d_S_calculate_117 : decode mt_S_calculate.2.1 117 = .ok (.iaload, 1) := by decide +kernel
theorem d_S_calculate_118 : decode mt_S_calculate.2.1 118 = .ok (.iastore, 1) := by decide +kernel
theorem d_S_calculate_119 : decode mt_S_calculate.2.1 119 = .ok (.aload_n 0, 1) := by decide +kernel
theorem d_S_calculate_120 : decode mt_S_calculate.2.1 120 = .ok (.aload_n 0, 1) := by decide +kernel
theorem d_S_calculate_121 : decode mt_S_calculate.2.1 121 = .ok (.getfield 93, 3) := by decide +kernel
theorem d_S_calculate_124 : decode mt_S_calculate.2.1 124 = .ok (.ifCond .ne 10, 3) := by decide +kernel
theorem d_S_calculate_127 : decode mt_S_calculate.2.1 127 = .ok (.iload 4, 2) := by decide +kernel
theorem d_S_calculate_129 : decode mt_S_calculate.2.1 129 = .ok (.bipush 7, 2) := by decide +kernel
theorem d_S_calculate_131 : decode mt_S_calculate.2.1 131 = .ok (.if_icmp .ne 7, 3) := by decide +kernel
theorem d_S_calculate_134 : decode mt_S_calculate.2.1 134 = .ok (.iconst 1, 1) := by decide +kernel
theorem d_S_calculate_135 : decode mt_S_calculate.2.1 135 = .ok (.goto 4, 3) := by decide +kernel
theorem d_S_calculate_138 : decode mt_S_calculate.2.1 138 = .ok (.iconst 0, 1) := by decide +kernel
theorem d_S_calculate_139 : decode mt_S_calculate.2.1 139 = .ok (.putfield 93, 3) := by decide +kernel
theorem d_S_calculate_142 : decode mt_S_calculate.2.1 142 = .ok (.goto 3, 3) := by decide +kernel
theorem d_S_calculate_145 : decode mt_S_calculate.2.1 145 = .ok (.return_, 1) := by decide +kernel
theorem d_D_finish_0 : decode mt_D_finish.2.1 0 = .ok (.aload_n 1, 1) := by decide +kernel
theorem d_D_finish_1 : decode mt_D_finish.2.1 1 = .ok (.getfield 68, 3) := by decide +kernel
theorem d_D_finish_4 : decode mt_D_finish.2.1 4 = .ok (.ifCond .eq 28, 3) := by decide +kernel
theorem d_D_finish_7 : decode mt_D_finish.2.1 7 = .ok (.aload_n 0, 1) := by decide +kernel
theorem d_D_finish_8 : decode mt_D_finish.2.1 8 = .ok (.aload_n 0, 1) := by decide +kernel
theorem d_D_finish_9 : decode mt_D_finish.2.1 9 = .ok (.getfield 36, 3) := by decide +kernel
theorem d_D_finish_12 : decode mt_D_finish.2.1 12 = .ok (.ifCond .ne 10, 3) := by decide +kernel
theorem d_D_finish_15 : decode mt_D_finish.2.1 15 = .ok (.aload_n 1, 1) := by decide +kernel
theorem d_D_finish_16 : decode mt_D_finish.2.1 16 = .ok (.getfield 68, 3) := by decide +kernel
theorem d_D_finish_19 : decode mt_D_finish.2.1 19 = .ok (.goto 7, 3) := by decide +kernel
theorem d_D_finish_22 : decode mt_D_finish.2.1 22 = .ok (.aload_n 0, 1) := by decide +kernel
theorem d_D_finish_23 : decode mt_D_finish.2.1 23 = .ok (.getfield 36, 3) := by decide +kernel
theorem d_D_finish_26 : decode mt_D_finish.2.1 26 = .ok (.putfield 36, 3) := by decide +kernel
theorem d_D_finish_29 : decode mt_D_finish.2.1 29 = .ok (.goto 19, 3) := by decide +kernel
theorem d_D_finish_32 : decode mt_D_finish.2.1 32 = .ok (.aload_n 1, 1) := by decide +kernel
theorem d_D_finish_33 : decode mt_D_finish.2.1 33 = .ok (.getfield 53, 3) := by decide +kernel
theorem d_D_finish_36 : decode mt_D_finish.2.1 36 = .ok (.iconst 3, 1) := by decide +kernel
theorem d_D_finish_37 : decode mt_D_finish.2.1 37 = .ok (.if_icmp .ne 11, 3) := by decide +kernel
theorem d_D_finish_40 : decode mt_D_finish.2.1 40 = .ok (.aload_n 0, 1) := by decide +kernel
theorem d_D_finish_41 : decode mt_D_finish.2.1 41 = .ok (.aload_n 1, 1) := by decide +kernel
theorem d_D_finish_42 : decode mt_D_finish.2.1 42 = .ok (.getfield 71, 3) := by decide +kernel
theorem d_D_finish_45 : decode mt_D_finish.2.1 45 = .ok (.putfield 39, 3) := by decide +kernel
theorem d_D_finish_48 : decode mt_D_finish.2.1 48 = .ok (.return_, 1) := by decide +kernel
theorem d_D_moveForward_0 : decode mt_D_moveForward.2.1 0 = .ok (.aload_n 0, 1) := by decide +kernel
theorem d_D_moveForward_1 : decode mt_D_moveForward.2.1 1 = .ok (.getfield 11, 3) := by decide +kernel
theorem d_D_moveForward_4 : decode mt_D_moveForward.2.1 4 = .ok (.iload_n 1, 1) := by decide +kernel
theorem d_D_moveForward_5 : decode mt_D_moveForward.2.1 5 = .ok (.aaload, 1) := by decide +kernel
theorem d_D_moveForward_6 : decode mt_D_moveForward.2.1 6 = .ok (.astore_n 3, 1) := by decide +kernel
theorem d_D_moveForward_7 : decode mt_D_moveForward.2.1 7 = .ok (.aload_n 0, 1) := by decide +kernel
theorem d_D_moveForward_8 : decode mt_D_moveForward.2.1 8 = .ok (.getfield 11, 3) := by decide +kernel
theorem d_D_moveForward_11 : decode mt_D_moveForward.2.1 11 = .ok (.iload_n 1, 1) := by decide +kernel
theorem d_D_moveForward_12 : decode mt_D_moveForward.2.1 12 = .ok (.aload_n 0, 1) := by decide +kernel
theorem d_D_moveForward_13 : decode mt_D_moveForward.2.1 13 = .ok (.getfield 11, 3) := by decide +kernel
theorem d_D_moveForward_16 : decode mt_D_moveForward.2.1 16 = .ok (.iload_n 2, 1) := by decide +kernel
theorem d_D_moveForward_17 : decode mt_D_moveForward.2.1 17 = .ok (.aaload, 1) := by decide +kernel
theorem d_D_moveForward_18 : decode mt_D_moveForward.2.1 18 = .ok (.aastore, 1) := by decide +kernel
theorem d_D_moveForward_19 : decode mt_D_moveForward.2.1 19 = .ok (.aload_n 0, 1) := by decide +kernel
theorem d_D_moveForward_20 : decode mt_D_moveForward.2.1 20 = .ok (.getfield 11, 3) := by decide +kernel
theorem d_D_moveForward_23 : decode mt_D_moveForward.2.1 23 = .ok (.iload_n 2, 1) := by decide +kernel
theorem d_D_moveForward_24 : decode mt_D_moveForward.2.1 24 = .ok (.aload_n 3, 1) := by decide +kernel
theorem d_D_moveForward_25 : decode mt_D_moveForward.2.1 25 = .ok (.aastore, 1) := by decide +kernel
theorem d_D_moveForward_26 : decode mt_D_moveForward.2.1 26 = .ok (.return_, 1) := by decide +kernel
theorem d_S_step_0 : decode mt_S_step.2.1 0 = .ok (.aload_n 0, 1) := by decide +kernel
theorem d_S_step_1 : decode mt_S_step.2.1 1 = .ok (.getfield 20, 3) := by decide +kernel
theorem d_S_step_4 : decode mt_S_step.2.1 4 = .ok (.iload_n 1, 1) := by decide +kernel
theorem d_S_step_5 : decode mt_S_step.2.1 5 = .ok (.aaload, 1) := by decide +kernel
theorem d_S_step_6 : decode mt_S_step.2.1 6 = .ok (.astore_n 3, 1) := by decide +kernel
theorem d_S_step_7 : decode mt_S_step.2.1 7 = .ok (.aload_n 3, 1) := by decide +kernel
theorem d_S_step_8 : decode mt_S_step.2.1 8 = .ok (.getfield 80, 3) := by decide +kernel
theorem d_S_step_11 : decode mt_S_step.2.1 11 = .ok (.ifCond .ne 10, 3) := by decide +kernel
theorem d_S_step_14 : decode mt_S_step.2.1 14 = .ok (.aload_n 2, 1) := by decide +kernel
theorem d_S_step_15 : decode mt_S_step.2.1 15 = .ok (.getfield 184, 3) := by decide +kernel
theorem d_S_step_18 : decode mt_S_step.2.1 18 = .ok (.ifCond .ne 4, 3) := by decide +kernel
theorem d_S_step_21 : decode mt_S_step.2.1 21 = .ok (.return_, 1) := by decide +kernel
theorem d_S_step_22 : decode mt_S_step.2.1 22 = .ok (.aload_n 3, 1) := by decide +kernel
theorem d_S_step_23 : decode mt_S_step.2.1 23 = .ok (.getfield 189, 3) := by decide +kernel
theorem d_S_step_26 : decode mt_S_step.2.1 26 = .ok (.aload_n 2, 1) := by decide +kernel
theorem d_S_step_27 : decode mt_S_step.2.1 27 = .ok (.getfield 184, 3) := by decide +kernel
theorem d_S_step_30 : decode mt_S_step.2.1 30 = .ok (.if_icmp .lt 8, 3) := by decide +kernel
theorem d_S_step_33 : decode mt_S_step.2.1 33 = .ok (.aload_n 3, 1) := by decide +kernel
theorem d_S_step_34 : decode mt_S_step.2.1 34 = .ok (.iconst 0, 1) := by decide +kernel
theorem d_S_step_35 : decode mt_S_step.2.1 35 = .ok (.putfield 189, 3) := by decide +kernel
theorem d_S_step_38 : decode mt_S_step.2.1 38 = .ok (.aload_n 0, 1) := by decide +kernel
theorem d_S_step_39 : decode mt_S_step.2.1 39 = .ok (.iload_n 1, 1) := by decide +kernel
theorem d_S_step_40 : decode mt_S_step.2.1 40 = .ok (.invokevirtual 192, 3) := by decide +kernel
theorem d_S_step_43 : decode mt_S_step.2.1 43 = .ok (.ifCond .eq 9, 3) := by decide +kernel
theorem d_S_step_46 : decode mt_S_step.2.1 46 = .ok (.aload_n 3, 1) := by decide +kernel
theorem d_S_step_47 : decode mt_S_step.2.1 47 = .ok (.iconst 2, 1) := by decide +kernel
theorem d_S_step_48 : decode mt_S_step.2.1 48 = .ok (.invokevirtual 147, 3) := by decide +kernel
theorem d_S_step_51 : decode mt_S_step.2.1 51 = .ok (.return_, 1) := by decide +kernel
theorem d_S_step_52 : decode mt_S_step.2.1 52 = .ok (.aload_n 3, 1) := by decide +kernel
theorem d_S_step_53 : decode mt_S_step.2.1 53 = .ok (.getfield 189, 3) := by decide +kernel
theorem d_S_step_56 : decode mt_S_step.2.1 56 = .ok (.istore 4, 2) := by decide +kernel
theorem d_S_step_58 : decode mt_S_step.2.1 58 = .ok (.aload_n 2, 1) := by decide +kernel
theorem d_S_step_59 : decode mt_S_step.2.1 59 = .ok (.getfield 196, 3) := by decide +kernel
theorem d_S_step_62 : decode mt_S_step.2.1 62 = .ok (.iload 4, 2) := by decide +kernel
theorem d_S_step_64 : decode mt_S_step.2.1 64 = .ok (.iaload, 1) := by decide +kernel
theorem d_S_step_65 : decode mt_S_step.2.1 65 = .ok (.istore 5, 2) := by decide +kernel
theorem d_S_step_67 : decode mt_S_step.2.1 67 = .ok (.aload_n 2, 1) := by decide +kernel
theorem d_S_step_68 : decode mt_S_step.2.1 68 = .ok (.getfield 199, 3) := by decide +kernel
theorem d_S_step_71 : decode mt_S_step.2.1 71 = .ok (.iload 4, 2) := by decide +kernel
theorem d_S_step_73 : decode mt_S_step.2.1 73 = .ok (.iaload, 1) := by decide +kernel
theorem d_S_step_74 : decode mt_S_step.2.1 74 = .ok (.istore 6, 2) := by decide +kernel
theorem d_S_step_76 : decode mt_S_step.2.1 76 = .ok (.aload_n 3, 1) := by decide +kernel
theorem d_S_step_77 : decode mt_S_step.2.1 77 = .ok (.iload 4, 2) := by decide +kernel
theorem d_S_step_79 : decode mt_S_step.2.1 79 = .ok (.iconst 1, 1) := by decide +kernel
theorem d_S_step_80 : decode mt_S_step.2.1 80 = .ok (.iadd, 1) := by decide +kernel
theorem d_S_step_81 : decode mt_S_step.2.1 81 = .ok (.putfield 189, 3) := by decide +kernel
theorem d_S_step_84 : decode mt_S_step.2.1 84 = .ok (.aload_n 2, 1) := by decide +kernel
theorem d_S_step_85 : decode mt_S_step.2.1 85 = .ok (.getfield 202, 3) := by decide +kernel
theorem d_S_step_88 : decode mt_S_step.2.1 88 = .ok (.iload 4, 2) := by decide +kernel
theorem d_S_step_90 : decode mt_S_step.2.1 90 = .ok (.iaload, 1) := by decide +kernel
theorem d_S_step_91 : decode mt_S_step.2.1 91 = .ok (.tableswitch 66 6 8 #[25, 51, 58], 25) := by decide +kernel
theorem d_S_step_116 : decode mt_S_step.2.1 116 = .ok (.aload_n 3, 1) := by decide +kernel
theorem d_S_step_117 : decode mt_S_step.2.1 117 = .ok (.aload_n 3, 1) := by decide +kernel
theorem d_S_step_118 : decode mt_S_step.2.1 118 = .ok (.getfield 155, 3) := by decide +kernel
theorem d_S_step_121 : decode mt_S_step.2.1 121 = .ok (.iload 5, 2) := by decide +kernel
theorem d_S_step_123 : decode mt_S_step.2.1 123 = .ok (.iaload, 1) := by decide +kernel
theorem d_S_step_124 : decode mt_S_step.2.1 124 = .ok (.ifCond .eq 8, 3) := by decide +kernel
theorem d_S_step_127 : decode mt_S_step.2.1 127 = .ok (.iload 6, 2) := by decide +kernel
theorem d_S_step_129 : decode mt_S_step.2.1 129 = .ok (.goto 7, 3) := by decide +kernel
theorem d_S_step_132 : decode mt_S_step.2.1 132 = .ok (.iload 4, 2) := by decide +kernel
theorem d_S_step_134 : decode mt_S_step.2.1 134 = .ok (.iconst 1, 1) := by decide +kernel
theorem d_S_step_135 : decode mt_S_step.2.1 135 = .ok (.iadd, 1) := by decide +kernel
theorem d_S_step_136 : decode mt_S_step.2.1 136 = .ok (.putfield 189, 3) := by decide +kernel
theorem d_S_step_139 : decode mt_S_step.2.1 139 = .ok (.goto 34, 3) := by decide +kernel
theorem d_S_step_142 : decode mt_S_step.2.1 142 = .ok (.aload_n 3, 1) := by decide +kernel
theorem d_S_step_143 : decode mt_S_step.2.1 143 = .ok (.invokevirtual 205, 3) := by decide +kernel
theorem d_S_step_146 : decode mt_S_step.2.1 146 = .ok (.goto 27, 3) := by decide +kernel
theorem d_S_step_149 : decode mt_S_step.2.1 149 = .ok (.aload_n 3, 1) := by decide +kernel
theorem d_S_step_150 : decode mt_S_step.2.1 150 = .ok (.iconst 3, 1) := by decide +kernel
theorem d_S_step_151 : decode mt_S_step.2.1 151 = .ok (.invokevirtual 147, 3) := by decide +kernel
theorem d_S_step_154 : decode mt_S_step.2.1 154 = .ok (.goto 19, 3) := by decide +kernel
theorem d_S_step_157 : decode mt_S_step.2.1 157 = .ok (.aload_n 0, 1) := by decide +kernel
theorem d_S_step_158 : decode mt_S_step.2.1 158 = .ok (.aload_n 3, 1) := by decide +kernel
theorem d_S_step_159 : decode mt_S_step.2.1 159 = .ok (.aload_n 2, 1) := by decide +kernel
theorem d_S_step_160 : decode mt_S_step.2.1 160 = .ok (.getfield 202, 3) := by decide +kernel
theorem d_S_step_163 : decode mt_S_step.2.1 163 = .ok (.iload 4, 2) := by decide +kernel
theorem d_S_step_165 : decode mt_S_step.2.1 165 = .ok (.iaload, 1) := by decide +kernel
theorem d_S_step_166 : decode mt_S_step.2.1 166 = .ok (.iload 5, 2) := by decide +kernel
theorem d_S_step_168 : decode mt_S_step.2.1 168 = .ok (.iload 6, 2) := by decide +kernel
theorem d_S_step_170 : decode mt_S_step.2.1 170 = .ok (.invokevirtual 180, 3) := by decide +kernel
theorem d_S_step_173 : decode mt_S_step.2.1 173 = .ok (.return_, 1) := by decide +kernel
theorem d_S_isStopped_0 : decode mt_S_isStopped.2.1 0 = .ok (.bipush (-9), 2) := by decide +kernel
theorem d_S_isStopped_2 : decode mt_S_isStopped.2.1 2 = .ok (.istore_n 2, 1) := by decide +kernel
theorem d_S_isStopped_3 : decode mt_S_isStopped.2.1 3 = .ok (.iconst 0, 1) := by decide +kernel
theorem d_S_isStopped_4 : decode mt_S_isStopped.2.1 4 = .ok (.istore_n 3, 1) := by decide +kernel
theorem d_S_isStopped_5 : decode mt_S_isStopped.2.1 5 = .ok (.iconst 0, 1) := by decide +kernel
theorem d_S_isStopped_6 : decode mt_S_isStopped.2.1 6 = .ok (.istore 4, 2) := by decide +kernel
theorem d_S_isStopped_8 : decode mt_S_isStopped.2.1 8 = .ok (.iload 4, 2) := by decide +kernel
theorem d_S_isStopped_10 : decode mt_S_isStopped.2.1 10 = .ok (.aload_n 0, 1) := by decide +kernel
theorem d_S_isStopped_11 : decode mt_S_isStopped.2.1 11 = .ok (.getfield 49, 3) := by decide +kernel
theorem d_S_isStopped_14 : decode mt_S_isStopped.2.1 14 = .ok (.if_icmp .ge 105, 3) := by decide +kernel
theorem d_S_isStopped_17 : decode mt_S_isStopped.2.1 17 = .ok (.aload_n 0, 1) := by decide +kernel
theorem d_S_isStopped_18 : decode mt_S_isStopped.2.1 18 = .ok (.getfield 26, 3) := by decide +kernel
theorem d_S_isStopped_21 : decode mt_S_isStopped.2.1 21 = .ok (.iload 4, 2) := by decide +kernel
theorem d_S_isStopped_23 : decode mt_S_isStopped.2.1 23 = .ok (.aaload, 1) := by decide +kernel
theorem d_S_isStopped_24 : decode mt_S_isStopped.2.1 24 = .ok (.getfield 58, 3) := by decide +kernel
theorem d_S_isStopped_27 : decode mt_S_isStopped.2.1 27 = .ok (.iload_n 1, 1) := by decide +kernel
theorem d_S_isStopped_28 : decode mt_S_isStopped.2.1 28 = .ok (.if_icmp .ne 85, 3) := by decide +kernel
theorem d_S_isStopped_31 : decode mt_S_isStopped.2.1 31 = .ok (.iload_n 2, 1) := by decide +kernel
theorem d_S_isStopped_32 : decode mt_S_isStopped.2.1 32 = .ok (.bipush (-9), 2) := by decide +kernel
theorem d_S_isStopped_34 : decode mt_S_isStopped.2.1 34 = .ok (.if_icmp .ne 8, 3) := by decide +kernel
theorem d_S_isStopped_37 : decode mt_S_isStopped.2.1 37 = .ok (.iload 4, 2) := by decide +kernel
theorem d_S_isStopped_39 : decode mt_S_isStopped.2.1 39 = .ok (.istore_n 2, 1) := by decide +kernel
theorem d_S_isStopped_40 : decode mt_S_isStopped.2.1 40 = .ok (.iconst 1, 1) := by decide +kernel
theorem d_S_isStopped_41 : decode mt_S_isStopped.2.1 41 = .ok (.istore_n 3, 1) := by decide +kernel
theorem d_S_isStopped_42 : decode mt_S_isStopped.2.1 42 = .ok (.iload_n 3, 1) := by decide +kernel
theorem d_S_isStopped_43 : decode mt_S_isStopped.2.1 43 = .ok (.ifCond .eq 38, 3) := by decide +kernel
theorem d_S_isStopped_46 : decode mt_S_isStopped.2.1 46 = .ok (.aload_n 0, 1) := by decide +kernel
theorem d_S_isStopped_47 : decode mt_S_isStopped.2.1 47 = .ok (.getfield 77, 3) := by decide +kernel
theorem d_S_isStopped_50 : decode mt_S_isStopped.2.1 50 = .ok (.iload 4, 2) := by decide +kernel
theorem d_S_isStopped_52 : decode mt_S_isStopped.2.1 52 = .ok (.ishr, 1) := by decide +kernel
theorem d_S_isStopped_53 : decode mt_S_isStopped.2.1 53 = .ok (.iconst 1, 1) := by decide +kernel
theorem d_S_isStopped_54 : decode mt_S_isStopped.2.1 54 = .ok (.iand, 1) := by decide +kernel
theorem d_S_isStopped_55 : decode mt_S_isStopped.2.1 55 = .ok (.ifCond .ne 26, 3) := by decide +kernel
theorem d_S_isStopped_58 : decode mt_S_isStopped.2.1 58 = .ok (.aload_n 0, 1) := by decide +kernel
theorem d_S_isStopped_59 : decode mt_S_isStopped.2.1 59 = .ok (.getfield 26, 3) := by decide +kernel
theorem d_S_isStopped_62 : decode mt_S_isStopped.2.1 62 = .ok (.iload 4, 2) := by decide +kernel
theorem d_S_isStopped_64 : decode mt_S_isStopped.2.1 64 = .ok (.aaload, 1) := by decide +kernel
theorem d_S_isStopped_65 : decode mt_S_isStopped.2.1 65 = .ok (.aload_n 0, 1) := by decide +kernel
theorem d_S_isStopped_66 : decode mt_S_isStopped.2.1 66 = .ok (.getfield 20, 3) := by decide +kernel
theorem d_S_isStopped_69 : decode mt_S_isStopped.2.1 69 = .ok (.iload_n 1, 1) := by decide +kernel
theorem d_S_isStopped_70 : decode mt_S_isStopped.2.1 70 = .ok (.aaload, 1) := by decide +kernel
theorem d_S_isStopped_71 : decode mt_S_isStopped.2.1 71 = .ok (.invokevirtual 208, 3) := by decide +kernel
theorem d_S_isStopped_74 : decode mt_S_isStopped.2.1 74 = .ok (.ifCond .eq 7, 3) := by decide +kernel
theorem d_S_isStopped_77 : decode mt_S_isStopped.2.1 77 = .ok (.iconst 1, 1) := by decide +kernel
theorem d_S_isStopped_78 : decode mt_S_isStopped.2.1 78 = .ok (.goto 4, 3) := by decide +kernel
theorem d_S_isStopped_81 : decode mt_S_isStopped.2.1 81 = .ok (.iconst 0, 1) := by decide +kernel
theorem d_S_isStopped_82 : decode mt_S_isStopped.2.1 82 = .ok (.istore_n 3, 1) := by decide +kernel
theorem d_S_isStopped_83 : decode mt_S_isStopped.2.1 83 = .ok (.aload_n 0, 1) := by decide +kernel
theorem d_S_isStopped_84 : decode mt_S_isStopped.2.1 84 = .ok (.iload 4, 2) := by decide +kernel
theorem d_S_isStopped_86 : decode mt_S_isStopped.2.1 86 = .ok (.invokevirtual 212, 3) := by decide +kernel
theorem d_S_isStopped_89 : decode mt_S_isStopped.2.1 89 = .ok (.ifCond .ne 24, 3) := by decide +kernel
theorem d_S_isStopped_92 : decode mt_S_isStopped.2.1 92 = .ok (.iload_n 3, 1) := by decide +kernel
theorem d_S_isStopped_93 : decode mt_S_isStopped.2.1 93 = .ok (.ifCond .eq 17, 3) := by decide +kernel
theorem d_S_isStopped_96 : decode mt_S_isStopped.2.1 96 = .ok (.aload_n 0, 1) := by decide +kernel
theorem d_S_isStopped_97 : decode mt_S_isStopped.2.1 97 = .ok (.getfield 26, 3) := by decide +kernel
theorem d_S_isStopped_100 : decode mt_S_isStopped.2.1 100 = .ok (.iload_n 2, 1) := by decide +kernel
theorem d_S_isStopped_101 : decode mt_S_isStopped.2.1 101 = .ok (.aaload, 1) := by decide +kernel
theorem d_S_isStopped_102 : decode mt_S_isStopped.2.1 102 = .ok (.invokevirtual 215, 3) := by decide +kernel
theorem d_S_isStopped_105 : decode mt_S_isStopped.2.1 105 = .ok (.ifCond .eq 5, 3) := by decide +kernel
theorem d_S_isStopped_108 : decode mt_S_isStopped.2.1 108 = .ok (.iconst 1, 1) := by decide +kernel
theorem d_S_isStopped_109 : decode mt_S_isStopped.2.1 109 = .ok (.ireturn, 1) := by decide +kernel
theorem d_S_isStopped_110 : decode mt_S_isStopped.2.1 110 = .ok (.bipush (-9), 2) := by decide +kernel
theorem d_S_isStopped_112 : decode mt_S_isStopped.2.1 112 = .ok (.istore_n 2, 1) := by decide +kernel
theorem d_S_isStopped_113 : decode mt_S_isStopped.2.1 113 = .ok (.iinc 4 1, 3) := by decide +kernel
theorem d_S_isStopped_116 : decode mt_S_isStopped.2.1 116 = .ok (.goto (-108), 3) := by decide +kernel
theorem d_S_isStopped_119 : decode mt_S_isStopped.2.1 119 = .ok (.iconst 0, 1) := by decide +kernel
theorem d_S_isStopped_120 : decode mt_S_isStopped.2.1 120 = .ok (.ireturn, 1) := by decide +kernel
theorem d_U_matches_0 : decode mt_U_matches.2.1 0 = .ok (.aload_n 0, 1) := by decide +kernel
theorem d_U_matches_1 : decode mt_U_matches.2.1 1 = .ok (.getfield 15, 3) := by decide +kernel
theorem d_U_matches_4 : decode mt_U_matches.2.1 4 = .ok (.ifCond .ne 22, 3) := by decide +kernel
theorem d_U_matches_7 : decode mt_U_matches.2.1 7 = .ok (.aload_n 1, 1) := by decide +kernel
theorem d_U_matches_8 : decode mt_U_matches.2.1 8 = .ok (.getfield 34, 3) := by decide +kernel
theorem d_U_matches_11 : decode mt_U_matches.2.1 11 = .ok (.aload_n 0, 1) := by decide +kernel
theorem d_U_matches_12 : decode mt_U_matches.2.1 12 = .ok (.getfield 18, 3) := by decide +kernel
theorem d_U_matches_15 : decode mt_U_matches.2.1 15 = .ok (.if_icmp .ne 7, 3) := by decide +kernel
theorem d_U_matches_18 : decode mt_U_matches.2.1 18 = .ok (.iconst 1, 1) := by decide +kernel
theorem d_U_matches_19 : decode mt_U_matches.2.1 19 = .ok (.goto 28, 3) := by decide +kernel
theorem d_U_matches_22 : decode mt_U_matches.2.1 22 = .ok (.iconst 0, 1) := by decide +kernel
theorem d_U_matches_23 : decode mt_U_matches.2.1 23 = .ok (.goto 24, 3) := by decide +kernel
theorem d_U_matches_26 : decode mt_U_matches.2.1 26 = .ok (.aload_n 1, 1) := by decide +kernel
theorem d_U_matches_27 : decode mt_U_matches.2.1 27 = .ok (.getfield 39, 3) := by decide +kernel
theorem d_U_matches_30 : decode mt_U_matches.2.1 30 = .ok (.aload_n 0, 1) := by decide +kernel
theorem d_U_matches_31 : decode mt_U_matches.2.1 31 = .ok (.getfield 18, 3) := by decide +kernel
theorem d_U_matches_34 : decode mt_U_matches.2.1 34 = .ok (.iaload, 1) := by decide +kernel
theorem d_U_matches_35 : decode mt_U_matches.2.1 35 = .ok (.aload_n 0, 1) := by decide +kernel
theorem d_U_matches_36 : decode mt_U_matches.2.1 36 = .ok (.getfield 21, 3) := by decide +kernel
theorem d_U_matches_39 : decode mt_U_matches.2.1 39 = .ok (.if_icmp .ne 7, 3) := by decide +kernel
theorem d_U_matches_42 : decode mt_U_matches.2.1 42 = .ok (.iconst 1, 1) := by decide +kernel
theorem d_U_matches_43 : decode mt_U_matches.2.1 43 = .ok (.goto 4, 3) := by decide +kernel
theorem d_U_matches_46 : decode mt_U_matches.2.1 46 = .ok (.iconst 0, 1) := by decide +kernel
theorem d_U_matches_47 : decode mt_U_matches.2.1 47 = .ok (.ireturn, 1) := by decide +kernel
theorem d_S_isJoined_0 : decode mt_S_isJoined.2.1 0 = .ok (.aload_n 0, 1) := by decide +kernel
theorem d_S_isJoined_1 : decode mt_S_isJoined.2.1 1 = .ok (.getfield 26, 3) := by decide +kernel
theorem d_S_isJoined_4 : decode mt_S_isJoined.2.1 4 = .ok (.iload_n 1, 1) := by decide +kernel
theorem d_S_isJoined_5 : decode mt_S_isJoined.2.1 5 = .ok (.aaload, 1) := by decide +kernel
theorem d_S_isJoined_6 : decode mt_S_isJoined.2.1 6 = .ok (.getfield 218, 3) := by decide +kernel
theorem d_S_isJoined_9 : decode mt_S_isJoined.2.1 9 = .ok (.ifCond .eq 40, 3) := by decide +kernel
theorem d_S_isJoined_12 : decode mt_S_isJoined.2.1 12 = .ok (.iload_n 1, 1) := by decide +kernel
theorem d_S_isJoined_13 : decode mt_S_isJoined.2.1 13 = .ok (.iconst 1, 1) := by decide +kernel
theorem d_S_isJoined_14 : decode mt_S_isJoined.2.1 14 = .ok (.iadd, 1) := by decide +kernel
theorem d_S_isJoined_15 : decode mt_S_isJoined.2.1 15 = .ok (.aload_n 0, 1) := by decide +kernel
theorem d_S_isJoined_16 : decode mt_S_isJoined.2.1 16 = .ok (.getfield 49, 3) := by decide +kernel
theorem d_S_isJoined_19 : decode mt_S_isJoined.2.1 19 = .ok (.if_icmp .ge 30, 3) := by decide +kernel
theorem d_S_isJoined_22 : decode mt_S_isJoined.2.1 22 = .ok (.aload_n 0, 1) := by decide +kernel
theorem d_S_isJoined_23 : decode mt_S_isJoined.2.1 23 = .ok (.getfield 26, 3) := by decide +kernel
theorem d_S_isJoined_26 : decode mt_S_isJoined.2.1 26 = .ok (.iload_n 1, 1) := by decide +kernel
theorem d_S_isJoined_27 : decode mt_S_isJoined.2.1 27 = .ok (.iconst 1, 1) := by decide +kernel
theorem d_S_isJoined_28 : decode mt_S_isJoined.2.1 28 = .ok (.iadd, 1) := by decide +kernel
theorem d_S_isJoined_29 : decode mt_S_isJoined.2.1 29 = .ok (.aaload, 1) := by decide +kernel
theorem d_S_isJoined_30 : decode mt_S_isJoined.2.1 30 = .ok (.getfield 58, 3) := by decide +kernel
theorem d_S_isJoined_33 : decode mt_S_isJoined.2.1 33 = .ok (.aload_n 0, 1) := by decide +kernel
theorem d_S_isJoined_34 : decode mt_S_isJoined.2.1 34 = .ok (.getfield 26, 3) := by decide +kernel
theorem d_S_isJoined_37 : decode mt_S_isJoined.2.1 37 = .ok (.iload_n 1, 1) := by decide +kernel
theorem d_S_isJoined_38 : decode mt_S_isJoined.2.1 38 = .ok (.aaload, 1) := by decide +kernel
theorem d_S_isJoined_39 : decode mt_S_isJoined.2.1 39 = .ok (.getfield 58, 3) := by decide +kernel
theorem d_S_isJoined_42 : decode mt_S_isJoined.2.1 42 = .ok (.if_icmp .ne 7, 3) := by decide +kernel
theorem d_S_isJoined_45 : decode mt_S_isJoined.2.1 45 = .ok (.iconst 1, 1) := by decide +kernel
theorem d_S_isJoined_46 : decode mt_S_isJoined.2.1 46 = .ok (.goto 4, 3) := by decide +kernel
theorem d_S_isJoined_49 : decode mt_S_isJoined.2.1 49 = .ok (.iconst 0, 1) := by decide +kernel
theorem d_S_isJoined_50 : decode mt_S_isJoined.2.1 50 = .ok (.ireturn, 1) := by decide +kernel
theorem d_U_countsDown_0 : decode mt_U_countsDown.2.1 0 = .ok (.aload_n 0, 1) := by decide +kernel
theorem d_U_countsDown_1 : decode mt_U_countsDown.2.1 1 = .ok (.dup, 1) := by decide +kernel
theorem d_U_countsDown_2 : decode mt_U_countsDown.2.1 2 = .ok (.getfield 27, 3) := by decide +kernel
theorem d_U_countsDown_5 : decode mt_U_countsDown.2.1 5 = .ok (.iconst 1, 1) := by decide +kernel
theorem d_U_countsDown_6 : decode mt_U_countsDown.2.1 6 = .ok (.isub, 1) := by decide +kernel
theorem d_U_countsDown_7 : decode mt_U_countsDown.2.1 7 = .ok (.putfield 27, 3) := by decide +kernel
theorem d_U_countsDown_10 : decode mt_U_countsDown.2.1 10 = .ok (.aload_n 0, 1) := by decide +kernel
theorem d_U_countsDown_11 : decode mt_U_countsDown.2.1 11 = .ok (.getfield 27, 3) := by decide +kernel
theorem d_U_countsDown_14 : decode mt_U_countsDown.2.1 14 = .ok (.ifCond .le 5, 3) := by decide +kernel
theorem d_U_countsDown_17 : decode mt_U_countsDown.2.1 17 = .ok (.iconst 0, 1) := by decide +kernel
theorem d_U_countsDown_18 : decode mt_U_countsDown.2.1 18 = .ok (.ireturn, 1) := by decide +kernel
theorem d_U_countsDown_19 : decode mt_U_countsDown.2.1 19 = .ok (.aload_n 0, 1) := by decide +kernel
theorem d_U_countsDown_20 : decode mt_U_countsDown.2.1 20 = .ok (.aload_n 0, 1) := by decide +kernel
theorem d_U_countsDown_21 : decode mt_U_countsDown.2.1 21 = .ok (.getfield 24, 3) := by decide +kernel
theorem d_U_countsDown_24 : decode mt_U_countsDown.2.1 24 = .ok (.putfield 27, 3) := by decide +kernel
theorem d_U_countsDown_27 : decode mt_U_countsDown.2.1 27 = .ok (.iconst 1, 1) := by decide +kernel
theorem d_U_countsDown_28 : decode mt_U_countsDown.2.1 28 = .ok (.ireturn, 1) := by decide +kernel
theorem d_H_sleep_0 : decode mt_H_sleep.2.1 0 = .ok (.aload_n 0, 1) := by decide +kernel
theorem d_H_sleep_1 : decode mt_H_sleep.2.1 1 = .ok (.iconst 1, 1) := by decide +kernel
theorem d_H_sleep_2 : decode mt_H_sleep.2.1 2 = .ok (.putfield 31, 3) := by decide +kernel
theorem d_H_sleep_5 : decode mt_H_sleep.2.1 5 = .ok (.aload_n 0, 1) := by decide +kernel
theorem d_H_sleep_6 : decode mt_H_sleep.2.1 6 = .ok (.iconst 1, 1) := by decide +kernel
theorem d_H_sleep_7 : decode mt_H_sleep.2.1 7 = .ok (.putfield 37, 3) := by decide +kernel
theorem d_H_sleep_10 : decode mt_H_sleep.2.1 10 = .ok (.return_, 1) := by decide +kernel
theorem d_S_spreadHalts_0 : decode mt_S_spreadHalts.2.1 0 = .ok (.iconst 0, 1) := by decide +kernel
theorem d_S_spreadHalts_1 : decode mt_S_spreadHalts.2.1 1 = .ok (.istore_n 2, 1) := by decide +kernel
theorem d_S_spreadHalts_2 : decode mt_S_spreadHalts.2.1 2 = .ok (.iconst 0, 1) := by decide +kernel
theorem d_S_spreadHalts_3 : decode mt_S_spreadHalts.2.1 3 = .ok (.istore_n 3, 1) := by decide +kernel
theorem d_S_spreadHalts_4 : decode mt_S_spreadHalts.2.1 4 = .ok (.iload_n 3, 1) := by decide +kernel
theorem d_S_spreadHalts_5 : decode mt_S_spreadHalts.2.1 5 = .ok (.aload_n 0, 1) := by decide +kernel
theorem d_S_spreadHalts_6 : decode mt_S_spreadHalts.2.1 6 = .ok (.getfield 36, 3) := by decide +kernel
theorem d_S_spreadHalts_9 : decode mt_S_spreadHalts.2.1 9 = .ok (.if_icmp .ge 31, 3) := by decide +kernel
theorem d_S_spreadHalts_12 : decode mt_S_spreadHalts.2.1 12 = .ok (.iload_n 1, 1) := by decide +kernel
theorem d_S_spreadHalts_13 : decode mt_S_spreadHalts.2.1 13 = .ok (.iload_n 3, 1) := by decide +kernel
theorem d_S_spreadHalts_14 : decode mt_S_spreadHalts.2.1 14 = .ok (.ishr, 1) := by decide +kernel
theorem d_S_spreadHalts_15 : decode mt_S_spreadHalts.2.1 15 = .ok (.iconst 1, 1) := by decide +kernel
theorem d_S_spreadHalts_16 : decode mt_S_spreadHalts.2.1 16 = .ok (.iand, 1) := by decide +kernel
theorem d_S_spreadHalts_17 : decode mt_S_spreadHalts.2.1 17 = .ok (.ifCond .eq 17, 3) := by decide +kernel
theorem d_S_spreadHalts_20 : decode mt_S_spreadHalts.2.1 20 = .ok (.iload_n 2, 1) := by decide +kernel
theorem d_S_spreadHalts_21 : decode mt_S_spreadHalts.2.1 21 = .ok (.iconst 1, 1) := by decide +kernel
theorem d_S_spreadHalts_22 : decode mt_S_spreadHalts.2.1 22 = .ok (.aload_n 0, 1) := by decide +kernel
theorem d_S_spreadHalts_23 : decode mt_S_spreadHalts.2.1 23 = .ok (.getfield 20, 3) := by decide +kernel
theorem d_S_spreadHalts_26 : decode mt_S_spreadHalts.2.1 26 = .ok (.iload_n 3, 1) := by decide +kernel
theorem d_S_spreadHalts_27 : decode mt_S_spreadHalts.2.1 27 = .ok (.aaload, 1) := by decide +kernel
theorem d_S_spreadHalts_28 : decode mt_S_spreadHalts.2.1 28 = .ok (.getfield 43, 3) := by decide +kernel
theorem d_S_spreadHalts_31 : decode mt_S_spreadHalts.2.1 31 = .ok (.ishl, 1) := by decide +kernel
theorem d_S_spreadHalts_32 : decode mt_S_spreadHalts.2.1 32 = .ok (.ior, 1) := by decide +kernel
theorem d_S_spreadHalts_33 : decode mt_S_spreadHalts.2.1 33 = .ok (.istore_n 2, 1) := by decide +kernel
theorem d_S_spreadHalts_34 : decode mt_S_spreadHalts.2.1 34 = .ok (.iinc 3 1, 3) := by decide +kernel
theorem d_S_spreadHalts_37 : decode mt_S_spreadHalts.2.1 37 = .ok (.goto (-33), 3) := by decide +kernel
theorem d_S_spreadHalts_40 : decode mt_S_spreadHalts.2.1 40 = .ok (.iconst 0, 1) := by decide +kernel
theorem d_S_spreadHalts_41 : decode mt_S_spreadHalts.2.1 41 = .ok (.istore_n 3, 1) := by decide +kernel
theorem d_S_spreadHalts_42 : decode mt_S_spreadHalts.2.1 42 = .ok (.iload_n 3, 1) := by decide +kernel
theorem d_S_spreadHalts_43 : decode mt_S_spreadHalts.2.1 43 = .ok (.aload_n 0, 1) := by decide +kernel
theorem d_S_spreadHalts_44 : decode mt_S_spreadHalts.2.1 44 = .ok (.getfield 36, 3) := by decide +kernel
theorem d_S_spreadHalts_47 : decode mt_S_spreadHalts.2.1 47 = .ok (.if_icmp .ge 47, 3) := by decide +kernel
theorem d_S_spreadHalts_50 : decode mt_S_spreadHalts.2.1 50 = .ok (.aload_n 0, 1) := by decide +kernel
theorem d_S_spreadHalts_51 : decode mt_S_spreadHalts.2.1 51 = .ok (.getfield 20, 3) := by decide +kernel
theorem d_S_spreadHalts_54 : decode mt_S_spreadHalts.2.1 54 = .ok (.iload_n 3, 1) := by decide +kernel
theorem d_S_spreadHalts_55 : decode mt_S_spreadHalts.2.1 55 = .ok (.aaload, 1) := by decide +kernel
theorem d_S_spreadHalts_56 : decode mt_S_spreadHalts.2.1 56 = .ok (.getfield 43, 3) := by decide +kernel
theorem d_S_spreadHalts_59 : decode mt_S_spreadHalts.2.1 59 = .ok (.ifCond .eq 29, 3) := by decide +kernel
theorem d_S_spreadHalts_62 : decode mt_S_spreadHalts.2.1 62 = .ok (.iload_n 2, 1) := by decide +kernel
theorem d_S_spreadHalts_63 : decode mt_S_spreadHalts.2.1 63 = .ok (.aload_n 0, 1) := by decide +kernel
theorem d_S_spreadHalts_64 : decode mt_S_spreadHalts.2.1 64 = .ok (.getfield 20, 3) := by decide +kernel
theorem d_S_spreadHalts_67 : decode mt_S_spreadHalts.2.1 67 = .ok (.iload_n 3, 1) := by decide +kernel
theorem d_S_spreadHalts_68 : decode mt_S_spreadHalts.2.1 68 = .ok (.aaload, 1) := by decide +kernel
theorem d_S_spreadHalts_69 : decode mt_S_spreadHalts.2.1 69 = .ok (.getfield 43, 3) := by decide +kernel
theorem d_S_spreadHalts_72 : decode mt_S_spreadHalts.2.1 72 = .ok (.ishr, 1) := by decide +kernel
theorem d_S_spreadHalts_73 : decode mt_S_spreadHalts.2.1 73 = .ok (.iconst 1, 1) := by decide +kernel
theorem d_S_spreadHalts_74 : decode mt_S_spreadHalts.2.1 74 = .ok (.iand, 1) := by decide +kernel
theorem d_S_spreadHalts_75 : decode mt_S_spreadHalts.2.1 75 = .ok (.ifCond .eq 13, 3) := by decide +kernel
theorem d_S_spreadHalts_78 : decode mt_S_spreadHalts.2.1 78 = .ok (.aload_n 0, 1) := by decide +kernel
theorem d_S_spreadHalts_79 : decode mt_S_spreadHalts.2.1 79 = .ok (.getfield 20, 3) := by decide +kernel
theorem d_S_spreadHalts_82 : decode mt_S_spreadHalts.2.1 82 = .ok (.iload_n 3, 1) := by decide +kernel
theorem d_S_spreadHalts_83 : decode mt_S_spreadHalts.2.1 83 = .ok (.aaload, 1) := by decide +kernel
theorem d_S_spreadHalts_84 : decode mt_S_spreadHalts.2.1 84 = .ok (.iconst 4, 1) := by decide +kernel
theorem d_S_spreadHalts_85 : decode mt_S_spreadHalts.2.1 85 = .ok (.invokevirtual 147, 3) := by decide +kernel
theorem d_S_spreadHalts_88 : decode mt_S_spreadHalts.2.1 88 = .ok (.iinc 3 1, 3) := by decide +kernel
theorem d_S_spreadHalts_91 : decode mt_S_spreadHalts.2.1 91 = .ok (.goto (-49), 3) := by decide +kernel
theorem d_S_spreadHalts_94 : decode mt_S_spreadHalts.2.1 94 = .ok (.return_, 1) := by decide +kernel
theorem d_S_wakeAll_0 : decode mt_S_wakeAll.2.1 0 = .ok (.iconst 0, 1) := by decide +kernel
theorem d_S_wakeAll_1 : decode mt_S_wakeAll.2.1 1 = .ok (.istore_n 1, 1) := by decide +kernel
theorem d_S_wakeAll_2 : decode mt_S_wakeAll.2.1 2 = .ok (.iload_n 1, 1) := by decide +kernel
theorem d_S_wakeAll_3 : decode mt_S_wakeAll.2.1 3 = .ok (.aload_n 0, 1) := by decide +kernel
theorem d_S_wakeAll_4 : decode mt_S_wakeAll.2.1 4 = .ok (.getfield 36, 3) := by decide +kernel
theorem d_S_wakeAll_7 : decode mt_S_wakeAll.2.1 7 = .ok (.if_icmp .ge 18, 3) := by decide +kernel
theorem d_S_wakeAll_10 : decode mt_S_wakeAll.2.1 10 = .ok (.aload_n 0, 1) := by decide +kernel
theorem d_S_wakeAll_11 : decode mt_S_wakeAll.2.1 11 = .ok (.getfield 20, 3) := by decide +kernel
theorem d_S_wakeAll_14 : decode mt_S_wakeAll.2.1 14 = .ok (.iload_n 1, 1) := by decide +kernel
theorem d_S_wakeAll_15 : decode mt_S_wakeAll.2.1 15 = .ok (.aaload, 1) := by decide +kernel
theorem d_S_wakeAll_16 : decode mt_S_wakeAll.2.1 16 = .ok (.invokevirtual 221, 3) := by decide +kernel
theorem d_S_wakeAll_19 : decode mt_S_wakeAll.2.1 19 = .ok (.iinc 1 1, 3) := by decide +kernel
theorem d_S_wakeAll_22 : decode mt_S_wakeAll.2.1 22 = .ok (.goto (-20), 3) := by decide +kernel
theorem d_S_wakeAll_25 : decode mt_S_wakeAll.2.1 25 = .ok (.return_, 1) := by decide +kernel
theorem d_H_wake_0 : decode mt_H_wake.2.1 0 = .ok (.aload_n 0, 1) := by decide +kernel
theorem d_H_wake_1 : decode mt_H_wake.2.1 1 = .ok (.iconst 0, 1) := by decide +kernel
theorem d_H_wake_2 : decode mt_H_wake.2.1 2 = .ok (.putfield 37, 3) := by decide +kernel
theorem d_H_wake_5 : decode mt_H_wake.2.1 5 = .ok (.aload_n 0, 1) := by decide +kernel
theorem d_H_wake_6 : decode mt_H_wake.2.1 6 = .ok (.getfield 31, 3) := by decide +kernel
theorem d_H_wake_9 : decode mt_H_wake.2.1 9 = .ok (.iconst 1, 1) := by decide +kernel
theorem d_H_wake_10 : decode mt_H_wake.2.1 10 = .ok (.if_icmp .ne 8, 3) := by decide +kernel
theorem d_H_wake_13 : decode mt_H_wake.2.1 13 = .ok (.aload_n 0, 1) := by decide +kernel
theorem d_H_wake_14 : decode mt_H_wake.2.1 14 = .ok (.iconst 0, 1) := by decide +kernel
theorem d_H_wake_15 : decode mt_H_wake.2.1 15 = .ok (.putfield 31, 3) := by decide +kernel
theorem d_H_wake_18 : decode mt_H_wake.2.1 18 = .ok (.return_, 1) := by decide +kernel
theorem d_S_haltedCount_0 : decode mt_S_haltedCount.2.1 0 = .ok (.aload_n 0, 1) := by decide +kernel
theorem d_S_haltedCount_1 : decode mt_S_haltedCount.2.1 1 = .ok (.invokevirtual 83, 3) := by decide +kernel
theorem d_S_haltedCount_4 : decode mt_S_haltedCount.2.1 4 = .ok (.invokestatic 87, 3) := by decide +kernel
theorem d_S_haltedCount_7 : decode mt_S_haltedCount.2.1 7 = .ok (.ireturn, 1) := by decide +kernel
theorem d_JI_bitCount_0 : decode mt_JI_bitCount.2.1 0 = .ok (.iload_n 0, 1) := by decide +kernel
theorem d_JI_bitCount_1 : decode mt_JI_bitCount.2.1 1 = .ok (.iload_n 0, 1) := by decide +kernel
theorem d_JI_bitCount_2 : decode mt_JI_bitCount.2.1 2 = .ok (.iconst 1, 1) := by decide +kernel
theorem d_JI_bitCount_3 : decode mt_JI_bitCount.2.1 3 = .ok (.iushr, 1) := by decide +kernel
theorem d_JI_bitCount_4 : decode mt_JI_bitCount.2.1 4 = .ok (.ldc_w 265, 3) := by decide +kernel
theorem d_JI_bitCount_7 : decode mt_JI_bitCount.2.1 7 = .ok (.iand, 1) := by decide +kernel
theorem d_JI_bitCount_8 : decode mt_JI_bitCount.2.1 8 = .ok (.isub, 1) := by decide +kernel
theorem d_JI_bitCount_9 : decode mt_JI_bitCount.2.1 9 = .ok (.istore_n 0, 1) := by decide +kernel
theorem d_JI_bitCount_10 : decode mt_JI_bitCount.2.1 10 = .ok (.iload_n 0, 1) := by decide +kernel
theorem d_JI_bitCount_11 : decode mt_JI_bitCount.2.1 11 = .ok (.ldc_w 266, 3) := by decide +kernel
theorem d_JI_bitCount_14 : decode mt_JI_bitCount.2.1 14 = .ok (.iand, 1) := by decide +kernel
theorem d_JI_bitCount_15 : decode mt_JI_bitCount.2.1 15 = .ok (.iload_n 0, 1) := by decide +kernel
theorem d_JI_bitCount_16 : decode mt_JI_bitCount.2.1 16 = .ok (.iconst 2, 1) := by decide +kernel
theorem d_JI_bitCount_17 : decode mt_JI_bitCount.2.1 17 = .ok (.iushr, 1) := by decide +kernel
theorem d_JI_bitCount_18 : decode mt_JI_bitCount.2.1 18 = .ok (.ldc_w 266, 3) := by decide +kernel
theorem d_JI_bitCount_21 : decode mt_JI_bitCount.2.1 21 = .ok (.iand, 1) := by decide +kernel
theorem d_JI_bitCount_22 : decode mt_JI_bitCount.2.1 22 = .ok (.iadd, 1) := by decide +kernel
theorem d_JI_bitCount_23 : decode mt_JI_bitCount.2.1 23 = .ok (.istore_n 0, 1) := by decide +kernel
theorem d_JI_bitCount_24 : decode mt_JI_bitCount.2.1 24 = .ok (.iload_n 0, 1) := by decide +kernel
theorem d_JI_bitCount_25 : decode mt_JI_bitCount.2.1 25 = .ok (.iload_n 0, 1) := by decide +kernel
theorem d_JI_bitCount_26 : decode mt_JI_bitCount.2.1 26 = .ok (.iconst 4, 1) := by decide +kernel
theorem d_JI_bitCount_27 : decode mt_JI_bitCount.2.1 27 = .ok (.iushr, 1) := by decide +kernel
theorem d_JI_bitCount_28 : decode mt_JI_bitCount.2.1 28 = .ok (.iadd, 1) := by decide +kernel
theorem d_JI_bitCount_29 : decode mt_JI_bitCount.2.1 29 = .ok (.ldc_w 267, 3) := by decide +kernel
theorem d_JI_bitCount_32 : decode mt_JI_bitCount.2.1 32 = .ok (.iand, 1) := by decide +kernel
theorem d_JI_bitCount_33 : decode mt_JI_bitCount.2.1 33 = .ok (.istore_n 0, 1) := by decide +kernel
theorem d_JI_bitCount_34 : decode mt_JI_bitCount.2.1 34 = .ok (.iload_n 0, 1) := by decide +kernel
theorem d_JI_bitCount_35 : decode mt_JI_bitCount.2.1 35 = .ok (.iload_n 0, 1) := by decide +kernel
theorem d_JI_bitCount_36 : decode mt_JI_bitCount.2.1 36 = .ok (.bipush 8, 2) := by decide +kernel
theorem d_JI_bitCount_38 : decode mt_JI_bitCount.2.1 38 = .ok (.iushr, 1) := by decide +kernel
theorem d_JI_bitCount_39 : decode mt_JI_bitCount.2.1 39 = .ok (.iadd, 1) := by decide +kernel
theorem d_JI_bitCount_40 : decode mt_JI_bitCount.2.1 40 = .ok (.istore_n 0, 1) := by decide +kernel
theorem d_JI_bitCount_41 : decode mt_JI_bitCount.2.1 41 = .ok (.iload_n 0, 1) := by decide +kernel
theorem d_JI_bitCount_42 : decode mt_JI_bitCount.2.1 42 = .ok (.iload_n 0, 1) := by decide +kernel
theorem d_JI_bitCount_43 : decode mt_JI_bitCount.2.1 43 = .ok (.bipush 16, 2) := by decide +kernel
theorem d_JI_bitCount_45 : decode mt_JI_bitCount.2.1 45 = .ok (.iushr, 1) := by decide +kernel
theorem d_JI_bitCount_46 : decode mt_JI_bitCount.2.1 46 = .ok (.iadd, 1) := by decide +kernel
theorem d_JI_bitCount_47 : decode mt_JI_bitCount.2.1 47 = .ok (.istore_n 0, 1) := by decide +kernel
theorem d_JI_bitCount_48 : decode mt_JI_bitCount.2.1 48 = .ok (.iload_n 0, 1) := by decide +kernel
theorem d_JI_bitCount_49 : decode mt_JI_bitCount.2.1 49 = .ok (.bipush 63, 2) := by decide +kernel
theorem d_JI_bitCount_51 : decode mt_JI_bitCount.2.1 51 = .ok (.iand, 1) := by decide +kernel
theorem d_JI_bitCount_52 : decode mt_JI_bitCount.2.1 52 = .ok (.ireturn, 1) := by decide +kernel
theorem d_R_send_0 : decode mt_R_send.2.1 0 = .ok (.iload_n 1, 1) := by decide +kernel
theorem d_R_send_1 : decode mt_R_send.2.1 1 = .ok (.bipush 6, 2) := by decide +kernel
theorem d_R_send_3 : decode mt_R_send.2.1 3 = .ok (.invokestatic 111, 3) := by decide +kernel
theorem d_R_send_6 : decode mt_R_send.2.1 6 = .ok (.ifCond .ne 6, 3) := by decide +kernel
theorem d_R_send_9 : decode mt_R_send.2.1 9 = .ok (.bipush (-2), 2) := by decide +kernel
theorem d_R_send_11 : decode mt_R_send.2.1 11 = .ok (.ireturn, 1) := by decide +kernel
theorem d_R_send_12 : decode mt_R_send.2.1 12 = .ok (.aload_n 0, 1) := by decide +kernel
theorem d_R_send_13 : decode mt_R_send.2.1 13 = .ok (.iload_n 2, 1) := by decide +kernel
theorem d_R_send_14 : decode mt_R_send.2.1 14 = .ok (.invokevirtual 88, 3) := by decide +kernel
theorem d_R_send_17 : decode mt_R_send.2.1 17 = .ok (.ifCond .ne 5, 3) := by decide +kernel
theorem d_R_send_20 : decode mt_R_send.2.1 20 = .ok (.iconst (-1), 1) := by decide +kernel
theorem d_R_send_21 : decode mt_R_send.2.1 21 = .ok (.ireturn, 1) := by decide +kernel
theorem d_R_send_22 : decode mt_R_send.2.1 22 = .ok (.iload_n 1, 1) := by decide +kernel
theorem d_R_send_23 : decode mt_R_send.2.1 23 = .ok (.iconst 3, 1) := by decide +kernel
theorem d_R_send_24 : decode mt_R_send.2.1 24 = .ok (.if_icmp .eq 8, 3) := by decide +kernel
theorem d_R_send_27 : decode mt_R_send.2.1 27 = .ok (.iload_n 1, 1) := by decide +kernel
theorem d_R_send_28 : decode mt_R_send.2.1 28 = .ok (.iconst 4, 1) := by decide +kernel
theorem d_R_send_29 : decode mt_R_send.2.1 29 = .ok (.if_icmp .ne 7, 3) := by decide +kernel
theorem d_R_send_32 : decode mt_R_send.2.1 32 = .ok (.iconst 1, 1) := by decide +kernel
theorem d_R_send_33 : decode mt_R_send.2.1 33 = .ok (.goto 4, 3) := by decide +kernel
theorem d_R_send_36 : decode mt_R_send.2.1 36 = .ok (.iconst 0, 1) := by decide +kernel
theorem d_R_send_37 : decode mt_R_send.2.1 37 = .ok (.istore 5, 2) := by decide +kernel
theorem d_R_send_39 : decode mt_R_send.2.1 39 = .ok (.iload_n 3, 1) := by decide +kernel
theorem d_R_send_40 : decode mt_R_send.2.1 40 = .ok (.iload 5, 2) := by decide +kernel
theorem d_R_send_42 : decode mt_R_send.2.1 42 = .ok (.ifCond .eq 7, 3) := by decide +kernel
theorem d_R_send_45 : decode mt_R_send.2.1 45 = .ok (.iconst 4, 1) := by decide +kernel
theorem d_R_send_46 : decode mt_R_send.2.1 46 = .ok (.goto 4, 3) := by decide +kernel
theorem d_R_send_49 : decode mt_R_send.2.1 49 = .ok (.iconst 1, 1) := by decide +kernel
theorem d_R_send_50 : decode mt_R_send.2.1 50 = .ok (.invokestatic 111, 3) := by decide +kernel
theorem d_R_send_53 : decode mt_R_send.2.1 53 = .ok (.ifCond .eq 23, 3) := by decide +kernel
theorem d_R_send_56 : decode mt_R_send.2.1 56 = .ok (.iload 4, 2) := by decide +kernel
theorem d_R_send_58 : decode mt_R_send.2.1 58 = .ok (.iload_n 1, 1) := by decide +kernel
theorem d_R_send_59 : decode mt_R_send.2.1 59 = .ok (.iconst 4, 1) := by decide +kernel
theorem d_R_send_60 : decode mt_R_send.2.1 60 = .ok (.if_icmp .ne 9, 3) := by decide +kernel
theorem d_R_send_63 : decode mt_R_send.2.1 63 = .ok (.sipush 1000, 3) := by decide +kernel
theorem d_R_send_66 : decode mt_R_send.2.1 66 = .ok (.goto 4, 3) := by decide +kernel
theorem d_R_send_69 : decode mt_R_send.2.1 69 = .ok (.iconst 1, 1) := by decide +kernel
theorem d_R_send_70 : decode mt_R_send.2.1 70 = .ok (.invokestatic 111, 3) := by decide +kernel
theorem d_R_send_73 : decode mt_R_send.2.1 73 = .ok (.ifCond .ne 6, 3) := by decide +kernel
theorem d_R_send_76 : decode mt_R_send.2.1 76 = .ok (.bipush (-2), 2) := by decide +kernel
theorem d_R_send_78 : decode mt_R_send.2.1 78 = .ok (.ireturn, 1) := by decide +kernel
theorem d_R_send_79 : decode mt_R_send.2.1 79 = .ok (.aload_n 0, 1) := by decide +kernel
theorem d_R_send_80 : decode mt_R_send.2.1 80 = .ok (.getfield 26, 3) := by decide +kernel
theorem d_R_send_83 : decode mt_R_send.2.1 83 = .ok (.getfield 118, 3) := by decide +kernel
theorem d_R_send_86 : decode mt_R_send.2.1 86 = .ok (.getfield 122, 3) := by decide +kernel
theorem d_R_send_89 : decode mt_R_send.2.1 89 = .ok (.bipush 8, 2) := by decide +kernel
theorem d_R_send_91 : decode mt_R_send.2.1 91 = .ok (.if_icmp .lt 6, 3) := by decide +kernel
theorem d_R_send_94 : decode mt_R_send.2.1 94 = .ok (.bipush (-4), 2) := by decide +kernel
theorem d_R_send_96 : decode mt_R_send.2.1 96 = .ok (.ireturn, 1) := by decide +kernel
theorem d_R_send_97 : decode mt_R_send.2.1 97 = .ok (.aload_n 0, 1) := by decide +kernel
theorem d_R_send_98 : decode mt_R_send.2.1 98 = .ok (.getfield 36, 3) := by decide +kernel
theorem d_R_send_101 : decode mt_R_send.2.1 101 = .ok (.aload_n 0, 1) := by decide +kernel
theorem d_R_send_102 : decode mt_R_send.2.1 102 = .ok (.getfield 26, 3) := by decide +kernel
theorem d_R_send_105 : decode mt_R_send.2.1 105 = .ok (.invokevirtual 134, 3) := by decide +kernel
theorem d_R_send_108 : decode mt_R_send.2.1 108 = .ok (.aload_n 0, 1) := by decide +kernel
theorem d_R_send_109 : decode mt_R_send.2.1 109 = .ok (.getfield 26, 3) := by decide +kernel
theorem d_R_send_112 : decode mt_R_send.2.1 112 = .ok (.getfield 118, 3) := by decide +kernel
theorem d_R_send_115 : decode mt_R_send.2.1 115 = .ok (.iload_n 1, 1) := by decide +kernel
theorem d_R_send_116 : decode mt_R_send.2.1 116 = .ok (.iload_n 2, 1) := by decide +kernel
theorem d_R_send_117 : decode mt_R_send.2.1 117 = .ok (.iload_n 3, 1) := by decide +kernel
theorem d_R_send_118 : decode mt_R_send.2.1 118 = .ok (.iload 4, 2) := by decide +kernel
theorem d_R_send_120 : decode mt_R_send.2.1 120 = .ok (.invokevirtual 144, 3) := by decide +kernel
theorem d_R_send_123 : decode mt_R_send.2.1 123 = .ok (.aload_n 0, 1) := by decide +kernel
theorem d_R_send_124 : decode mt_R_send.2.1 124 = .ok (.getfield 26, 3) := by decide +kernel
theorem d_R_send_127 : decode mt_R_send.2.1 127 = .ok (.getfield 118, 3) := by decide +kernel
theorem d_R_send_130 : decode mt_R_send.2.1 130 = .ok (.getfield 148, 3) := by decide +kernel
theorem d_R_send_133 : decode mt_R_send.2.1 133 = .ok (.ireturn, 1) := by decide +kernel
theorem d_D_accept_0 : decode mt_D_accept.2.1 0 = .ok (.iload_n 1, 1) := by decide +kernel
theorem d_D_accept_1 : decode mt_D_accept.2.1 1 = .ok (.iconst 3, 1) := by decide +kernel
theorem d_D_accept_2 : decode mt_D_accept.2.1 2 = .ok (.if_icmp .lt 11, 3) := by decide +kernel
theorem d_D_accept_5 : decode mt_D_accept.2.1 5 = .ok (.aload_n 0, 1) := by decide +kernel
theorem d_D_accept_6 : decode mt_D_accept.2.1 6 = .ok (.getfield 36, 3) := by decide +kernel
theorem d_D_accept_9 : decode mt_D_accept.2.1 9 = .ok (.ifCond .eq 4, 3) := by decide +kernel
theorem d_D_accept_12 : decode mt_D_accept.2.1 12 = .ok (.return_, 1) := by decide +kernel
theorem d_D_accept_13 : decode mt_D_accept.2.1 13 = .ok (.iload_n 1, 1) := by decide +kernel
theorem d_D_accept_14 : decode mt_D_accept.2.1 14 = .ok (.iconst 3, 1) := by decide +kernel
theorem d_D_accept_15 : decode mt_D_accept.2.1 15 = .ok (.if_icmp .lt 16, 3) := by decide +kernel
theorem d_D_accept_18 : decode mt_D_accept.2.1 18 = .ok (.aload_n 0, 1) := by decide +kernel
theorem d_D_accept_19 : decode mt_D_accept.2.1 19 = .ok (.invokevirtual 42, 3) := by decide +kernel
theorem d_D_accept_22 : decode mt_D_accept.2.1 22 = .ok (.ifCond .eq 9, 3) := by decide +kernel
theorem d_D_accept_25 : decode mt_D_accept.2.1 25 = .ok (.aload_n 0, 1) := by decide +kernel
theorem d_D_accept_26 : decode mt_D_accept.2.1 26 = .ok (.iconst 1, 1) := by decide +kernel
theorem d_D_accept_27 : decode mt_D_accept.2.1 27 = .ok (.putfield 36, 3) := by decide +kernel
theorem d_D_accept_30 : decode mt_D_accept.2.1 30 = .ok (.return_, 1) := by decide +kernel
theorem d_D_accept_31 : decode mt_D_accept.2.1 31 = .ok (.aload_n 0, 1) := by decide +kernel
theorem d_D_accept_32 : decode mt_D_accept.2.1 32 = .ok (.iload_n 1, 1) := by decide +kernel
theorem d_D_accept_33 : decode mt_D_accept.2.1 33 = .ok (.iload_n 2, 1) := by decide +kernel
theorem d_D_accept_34 : decode mt_D_accept.2.1 34 = .ok (.iload_n 3, 1) := by decide +kernel
theorem d_D_accept_35 : decode mt_D_accept.2.1 35 = .ok (.iload 4, 2) := by decide +kernel
theorem d_D_accept_37 : decode mt_D_accept.2.1 37 = .ok (.invokevirtual 46, 3) := by decide +kernel
theorem d_D_accept_40 : decode mt_D_accept.2.1 40 = .ok (.return_, 1) := by decide +kernel
theorem d_D_hasAbstract_0 : decode mt_D_hasAbstract.2.1 0 = .ok (.iconst 0, 1) := by decide +kernel
theorem d_D_hasAbstract_1 : decode mt_D_hasAbstract.2.1 1 = .ok (.istore_n 1, 1) := by decide +kernel
theorem d_D_hasAbstract_2 : decode mt_D_hasAbstract.2.1 2 = .ok (.iload_n 1, 1) := by decide +kernel
theorem d_D_hasAbstract_3 : decode mt_D_hasAbstract.2.1 3 = .ok (.aload_n 0, 1) := by decide +kernel
theorem d_D_hasAbstract_4 : decode mt_D_hasAbstract.2.1 4 = .ok (.getfield 22, 3) := by decide +kernel
theorem d_D_hasAbstract_7 : decode mt_D_hasAbstract.2.1 7 = .ok (.if_icmp .ge 23, 3) := by decide +kernel
theorem d_D_hasAbstract_10 : decode mt_D_hasAbstract.2.1 10 = .ok (.aload_n 0, 1) := by decide +kernel
theorem d_D_hasAbstract_11 : decode mt_D_hasAbstract.2.1 11 = .ok (.getfield 11, 3) := by decide +kernel
theorem d_D_hasAbstract_14 : decode mt_D_hasAbstract.2.1 14 = .ok (.iload_n 1, 1) := by decide +kernel
theorem d_D_hasAbstract_15 : decode mt_D_hasAbstract.2.1 15 = .ok (.aaload, 1) := by decide +kernel
theorem d_D_hasAbstract_16 : decode mt_D_hasAbstract.2.1 16 = .ok (.invokevirtual 50, 3) := by decide +kernel
theorem d_D_hasAbstract_19 : decode mt_D_hasAbstract.2.1 19 = .ok (.ifCond .eq 5, 3) := by decide +kernel
theorem d_D_hasAbstract_22 : decode mt_D_hasAbstract.2.1 22 = .ok (.iconst 1, 1) := by decide +kernel
theorem d_D_hasAbstract_23 : decode mt_D_hasAbstract.2.1 23 = .ok (.ireturn, 1) := by decide +kernel
theorem d_D_hasAbstract_24 : decode mt_D_hasAbstract.2.1 24 = .ok (.iinc 1 1, 3) := by decide +kernel
theorem d_D_hasAbstract_27 : decode mt_D_hasAbstract.2.1 27 = .ok (.goto (-25), 3) := by decide +kernel
theorem d_D_hasAbstract_30 : decode mt_D_hasAbstract.2.1 30 = .ok (.iconst 0, 1) := by decide +kernel
theorem d_D_hasAbstract_31 : decode mt_D_hasAbstract.2.1 31 = .ok (.ireturn, 1) := by decide +kernel
theorem d_D_append_0 : decode mt_D_append.2.1 0 = .ok (.aload_n 0, 1) := by decide +kernel
theorem d_D_append_1 : decode mt_D_append.2.1 1 = .ok (.getfield 22, 3) := by decide +kernel
theorem d_D_append_4 : decode mt_D_append.2.1 4 = .ok (.aload_n 0, 1) := by decide +kernel
theorem d_D_append_5 : decode mt_D_append.2.1 5 = .ok (.getfield 11, 3) := by decide +kernel
theorem d_D_append_8 : decode mt_D_append.2.1 8 = .ok (.arraylength, 1) := by decide +kernel
theorem d_D_append_9 : decode mt_D_append.2.1 9 = .ok (.if_icmp .lt 4, 3) := by decide +kernel
theorem d_D_append_12 : decode mt_D_append.2.1 12 = .ok (.return_, 1) := by decide +kernel
theorem d_D_append_13 : decode mt_D_append.2.1 13 = .ok (.aload_n 0, 1) := by decide +kernel
theorem d_D_append_14 : decode mt_D_append.2.1 14 = .ok (.getfield 11, 3) := by decide +kernel
theorem d_D_append_17 : decode mt_D_append.2.1 17 = .ok (.aload_n 0, 1) := by decide +kernel
theorem d_D_append_18 : decode mt_D_append.2.1 18 = .ok (.getfield 22, 3) := by decide +kernel
theorem d_D_append_21 : decode mt_D_append.2.1 21 = .ok (.aaload, 1) := by decide +kernel
theorem d_D_append_22 : decode mt_D_append.2.1 22 = .ok (.astore 5, 2) := by decide +kernel
theorem d_D_append_24 : decode mt_D_append.2.1 24 = .ok (.aload 5, 2) := by decide +kernel
theorem d_D_append_26 : decode mt_D_append.2.1 26 = .ok (.iload_n 1, 1) := by decide +kernel
theorem d_D_append_27 : decode mt_D_append.2.1 27 = .ok (.putfield 53, 3) := by decide +kernel
theorem d_D_append_30 : decode mt_D_append.2.1 30 = .ok (.aload 5, 2) := by decide +kernel
theorem d_D_append_32 : decode mt_D_append.2.1 32 = .ok (.iload_n 2, 1) := by decide +kernel
theorem d_D_append_33 : decode mt_D_append.2.1 33 = .ok (.putfield 56, 3) := by decide +kernel
theorem d_D_append_36 : decode mt_D_append.2.1 36 = .ok (.aload 5, 2) := by decide +kernel
theorem d_D_append_38 : decode mt_D_append.2.1 38 = .ok (.iload_n 3, 1) := by decide +kernel
theorem d_D_append_39 : decode mt_D_append.2.1 39 = .ok (.putfield 59, 3) := by decide +kernel
theorem d_D_append_42 : decode mt_D_append.2.1 42 = .ok (.aload 5, 2) := by decide +kernel
theorem d_D_append_44 : decode mt_D_append.2.1 44 = .ok (.iload 4, 2) := by decide +kernel
theorem d_D_append_46 : decode mt_D_append.2.1 46 = .ok (.putfield 62, 3) := by decide +kernel
theorem d_D_append_49 : decode mt_D_append.2.1 49 = .ok (.aload 5, 2) := by decide +kernel
theorem d_D_append_51 : decode mt_D_append.2.1 51 = .ok (.iconst 0, 1) := by decide +kernel
theorem d_D_append_52 : decode mt_D_append.2.1 52 = .ok (.putfield 65, 3) := by decide +kernel
theorem d_D_append_55 : decode mt_D_append.2.1 55 = .ok (.aload 5, 2) := by decide +kernel
theorem d_D_append_57 : decode mt_D_append.2.1 57 = .ok (.iconst 0, 1) := by decide +kernel
theorem d_D_append_58 : decode mt_D_append.2.1 58 = .ok (.putfield 68, 3) := by decide +kernel
theorem d_D_append_61 : decode mt_D_append.2.1 61 = .ok (.aload 5, 2) := by decide +kernel
theorem d_D_append_63 : decode mt_D_append.2.1 63 = .ok (.iconst 0, 1) := by decide +kernel
theorem d_D_append_64 : decode mt_D_append.2.1 64 = .ok (.putfield 71, 3) := by decide +kernel
theorem d_D_append_67 : decode mt_D_append.2.1 67 = .ok (.aload_n 0, 1) := by decide +kernel
theorem d_D_append_68 : decode mt_D_append.2.1 68 = .ok (.dup, 1) := by decide +kernel
theorem d_D_append_69 : decode mt_D_append.2.1 69 = .ok (.getfield 22, 3) := by decide +kernel
theorem d_D_append_72 : decode mt_D_append.2.1 72 = .ok (.iconst 1, 1) := by decide +kernel
theorem d_D_append_73 : decode mt_D_append.2.1 73 = .ok (.iadd, 1) := by decide +kernel
theorem d_D_append_74 : decode mt_D_append.2.1 74 = .ok (.putfield 22, 3) := by decide +kernel
theorem d_D_append_77 : decode mt_D_append.2.1 77 = .ok (.return_, 1) := by decide +kernel
theorem d_R_set_0 : decode mt_R_set.2.1 0 = .ok (.aload_n 0, 1) := by decide +kernel
theorem d_R_set_1 : decode mt_R_set.2.1 1 = .ok (.iload_n 1, 1) := by decide +kernel
theorem d_R_set_2 : decode mt_R_set.2.1 2 = .ok (.invokevirtual 101, 3) := by decide +kernel
theorem d_R_set_5 : decode mt_R_set.2.1 5 = .ok (.ifCond .ne 5, 3) := by decide +kernel
theorem d_R_set_8 : decode mt_R_set.2.1 8 = .ok (.iconst (-1), 1) := by decide +kernel
theorem d_R_set_9 : decode mt_R_set.2.1 9 = .ok (.ireturn, 1) := by decide +kernel
theorem d_R_set_10 : decode mt_R_set.2.1 10 = .ok (.iload_n 2, 1) := by decide +kernel
theorem d_R_set_11 : decode mt_R_set.2.1 11 = .ok (.iconst 2, 1) := by decide +kernel
theorem d_R_set_12 : decode mt_R_set.2.1 12 = .ok (.invokestatic 111, 3) := by decide +kernel
theorem d_R_set_15 : decode mt_R_set.2.1 15 = .ok (.ifCond .eq 52, 3) := by decide +kernel
theorem d_R_set_18 : decode mt_R_set.2.1 18 = .ok (.iload_n 3, 1) := by decide +kernel
theorem d_R_set_19 : decode mt_R_set.2.1 19 = .ok (.iload_n 2, 1) := by decide +kernel
theorem d_R_set_20 : decode mt_R_set.2.1 20 = .ok (.ifCond .ne 8, 3) := by decide +kernel
theorem d_R_set_23 : decode mt_R_set.2.1 23 = .ok (.bipush 16, 2) := by decide +kernel
theorem d_R_set_25 : decode mt_R_set.2.1 25 = .ok (.goto 4, 3) := by decide +kernel
theorem d_R_set_28 : decode mt_R_set.2.1 28 = .ok (.iconst 4, 1) := by decide +kernel
theorem d_R_set_29 : decode mt_R_set.2.1 29 = .ok (.invokestatic 111, 3) := by decide +kernel
theorem d_R_set_32 : decode mt_R_set.2.1 32 = .ok (.ifCond .eq 35, 3) := by decide +kernel
theorem d_R_set_35 : decode mt_R_set.2.1 35 = .ok (.iload 4, 2) := by decide +kernel
theorem d_R_set_37 : decode mt_R_set.2.1 37 = .ok (.iload_n 2, 1) := by decide +kernel
theorem d_R_set_38 : decode mt_R_set.2.1 38 = .ok (.ifCond .ne 7, 3) := by decide +kernel
theorem d_R_set_41 : decode mt_R_set.2.1 41 = .ok (.iconst 1, 1) := by decide +kernel
theorem d_R_set_42 : decode mt_R_set.2.1 42 = .ok (.goto 6, 3) := by decide +kernel
theorem d_R_set_45 : decode mt_R_set.2.1 45 = .ok (.sipush 1000, 3) := by decide +kernel
theorem d_R_set_48 : decode mt_R_set.2.1 48 = .ok (.invokestatic 111, 3) := by decide +kernel
theorem d_R_set_51 : decode mt_R_set.2.1 51 = .ok (.ifCond .eq 16, 3) := by decide +kernel
theorem d_R_set_54 : decode mt_R_set.2.1 54 = .ok (.iload 5, 2) := by decide +kernel
theorem d_R_set_56 : decode mt_R_set.2.1 56 = .ok (.iconst 1, 1) := by decide +kernel
theorem d_R_set_57 : decode mt_R_set.2.1 57 = .ok (.if_icmp .lt 10, 3) := by decide +kernel
theorem d_R_set_60 : decode mt_R_set.2.1 60 = .ok (.iload 5, 2) := by decide +kernel
theorem d_R_set_62 : decode mt_R_set.2.1 62 = .ok (.bipush 9, 2) := by decide +kernel
theorem d_R_set_64 : decode mt_R_set.2.1 64 = .ok (.if_icmp .le 6, 3) := by decide +kernel
theorem d_R_set_67 : decode mt_R_set.2.1 67 = .ok (.bipush (-2), 2) := by decide +kernel
theorem d_R_set_69 : decode mt_R_set.2.1 69 = .ok (.ireturn, 1) := by decide +kernel
theorem d_R_set_70 : decode mt_R_set.2.1 70 = .ok (.aload_n 0, 1) := by decide +kernel
theorem d_R_set_71 : decode mt_R_set.2.1 71 = .ok (.getfield 36, 3) := by decide +kernel
theorem d_R_set_74 : decode mt_R_set.2.1 74 = .ok (.aload_n 0, 1) := by decide +kernel
theorem d_R_set_75 : decode mt_R_set.2.1 75 = .ok (.getfield 26, 3) := by decide +kernel
theorem d_R_set_78 : decode mt_R_set.2.1 78 = .ok (.invokevirtual 134, 3) := by decide +kernel
theorem d_R_set_81 : decode mt_R_set.2.1 81 = .ok (.aload_n 0, 1) := by decide +kernel
theorem d_R_set_82 : decode mt_R_set.2.1 82 = .ok (.getfield 26, 3) := by decide +kernel
theorem d_R_set_85 : decode mt_R_set.2.1 85 = .ok (.getfield 104, 3) := by decide +kernel
theorem d_R_set_88 : decode mt_R_set.2.1 88 = .ok (.iload_n 1, 1) := by decide +kernel
theorem d_R_set_89 : decode mt_R_set.2.1 89 = .ok (.aaload, 1) := by decide +kernel
theorem d_R_set_90 : decode mt_R_set.2.1 90 = .ok (.astore 7, 2) := by decide +kernel
theorem d_R_set_92 : decode mt_R_set.2.1 92 = .ok (.aload 7, 2) := by decide +kernel
theorem d_R_set_94 : decode mt_R_set.2.1 94 = .ok (.getfield 151, 3) := by decide +kernel
theorem d_R_set_97 : decode mt_R_set.2.1 97 = .ok (.istore 8, 2) := by decide +kernel
theorem d_R_set_99 : decode mt_R_set.2.1 99 = .ok (.aload 7, 2) := by decide +kernel
theorem d_R_set_101 : decode mt_R_set.2.1 101 = .ok (.iload_n 2, 1) := by decide +kernel
theorem d_R_set_102 : decode mt_R_set.2.1 102 = .ok (.iload_n 3, 1) := by decide +kernel
theorem d_R_set_103 : decode mt_R_set.2.1 103 = .ok (.iload 4, 2) := by decide +kernel
theorem d_R_set_105 : decode mt_R_set.2.1 105 = .ok (.iload 5, 2) := by decide +kernel
theorem d_R_set_107 : decode mt_R_set.2.1 107 = .ok (.iload 6, 2) := by decide +kernel
theorem d_R_set_109 : decode mt_R_set.2.1 109 = .ok (.invokevirtual 154, 3) := by decide +kernel
theorem d_R_set_112 : decode mt_R_set.2.1 112 = .ok (.iload 8, 2) := by decide +kernel
theorem d_R_set_114 : decode mt_R_set.2.1 114 = .ok (.ireturn, 1) := by decide +kernel
theorem d_R_buffer_0 : decode mt_R_buffer.2.1 0 = .ok (.iload_n 1, 1) := by decide +kernel
theorem d_R_buffer_1 : decode mt_R_buffer.2.1 1 = .ok (.iconst 2, 1) := by decide +kernel
theorem d_R_buffer_2 : decode mt_R_buffer.2.1 2 = .ok (.invokestatic 111, 3) := by decide +kernel
theorem d_R_buffer_5 : decode mt_R_buffer.2.1 5 = .ok (.ifCond .eq 10, 3) := by decide +kernel
theorem d_R_buffer_8 : decode mt_R_buffer.2.1 8 = .ok (.iload_n 2, 1) := by decide +kernel
theorem d_R_buffer_9 : decode mt_R_buffer.2.1 9 = .ok (.invokestatic 158, 3) := by decide +kernel
theorem d_R_buffer_12 : decode mt_R_buffer.2.1 12 = .ok (.ifCond .ne 6, 3) := by decide +kernel
theorem d_R_buffer_15 : decode mt_R_buffer.2.1 15 = .ok (.bipush (-2), 2) := by decide +kernel
theorem d_R_buffer_17 : decode mt_R_buffer.2.1 17 = .ok (.ireturn, 1) := by decide +kernel
theorem d_R_buffer_18 : decode mt_R_buffer.2.1 18 = .ok (.aload_n 0, 1) := by decide +kernel
theorem d_R_buffer_19 : decode mt_R_buffer.2.1 19 = .ok (.getfield 36, 3) := by decide +kernel
theorem d_R_buffer_22 : decode mt_R_buffer.2.1 22 = .ok (.aload_n 0, 1) := by decide +kernel
theorem d_R_buffer_23 : decode mt_R_buffer.2.1 23 = .ok (.getfield 26, 3) := by decide +kernel
theorem d_R_buffer_26 : decode mt_R_buffer.2.1 26 = .ok (.invokevirtual 134, 3) := by decide +kernel
theorem d_R_buffer_29 : decode mt_R_buffer.2.1 29 = .ok (.aload_n 0, 1) := by decide +kernel
theorem d_R_buffer_30 : decode mt_R_buffer.2.1 30 = .ok (.getfield 26, 3) := by decide +kernel
theorem d_R_buffer_33 : decode mt_R_buffer.2.1 33 = .ok (.getfield 118, 3) := by decide +kernel
theorem d_R_buffer_36 : decode mt_R_buffer.2.1 36 = .ok (.getfield 161, 3) := by decide +kernel
theorem d_R_buffer_39 : decode mt_R_buffer.2.1 39 = .ok (.iload_n 1, 1) := by decide +kernel
theorem d_R_buffer_40 : decode mt_R_buffer.2.1 40 = .ok (.iaload, 1) := by decide +kernel
theorem d_R_buffer_41 : decode mt_R_buffer.2.1 41 = .ok (.istore_n 3, 1) := by decide +kernel
theorem d_R_buffer_42 : decode mt_R_buffer.2.1 42 = .ok (.aload_n 0, 1) := by decide +kernel
theorem d_R_buffer_43 : decode mt_R_buffer.2.1 43 = .ok (.getfield 26, 3) := by decide +kernel
theorem d_R_buffer_46 : decode mt_R_buffer.2.1 46 = .ok (.getfield 118, 3) := by decide +kernel
theorem d_R_buffer_49 : decode mt_R_buffer.2.1 49 = .ok (.getfield 161, 3) := by decide +kernel
theorem d_R_buffer_52 : decode mt_R_buffer.2.1 52 = .ok (.iload_n 1, 1) := by decide +kernel
theorem d_R_buffer_53 : decode mt_R_buffer.2.1 53 = .ok (.iload_n 2, 1) := by decide +kernel
theorem d_R_buffer_54 : decode mt_R_buffer.2.1 54 = .ok (.iastore, 1) := by decide +kernel
theorem d_R_buffer_55 : decode mt_R_buffer.2.1 55 = .ok (.iload_n 3, 1) := by decide +kernel
theorem d_R_buffer_56 : decode mt_R_buffer.2.1 56 = .ok (.ireturn, 1) := by decide +kernel
theorem d_R_isBuffered_0 : decode mt_R_isBuffered.2.1 0 = .ok (.iload_n 0, 1) := by decide +kernel
theorem d_R_isBuffered_1 : decode mt_R_isBuffered.2.1 1 = .ok (.bipush 100, 2) := by decide +kernel
theorem d_R_isBuffered_3 : decode mt_R_isBuffered.2.1 3 = .ok (.idiv, 1) := by decide +kernel
theorem d_R_isBuffered_4 : decode mt_R_isBuffered.2.1 4 = .ok (.istore_n 1, 1) := by decide +kernel
theorem d_R_isBuffered_5 : decode mt_R_isBuffered.2.1 5 = .ok (.iload_n 0, 1) := by decide +kernel
theorem d_R_isBuffered_6 : decode mt_R_isBuffered.2.1 6 = .ok (.ifCond .lt 9, 3) := by decide +kernel
theorem d_R_isBuffered_9 : decode mt_R_isBuffered.2.1 9 = .ok (.iload_n 1, 1) := by decide +kernel
theorem d_R_isBuffered_10 : decode mt_R_isBuffered.2.1 10 = .ok (.bipush 8, 2) := by decide +kernel
theorem d_R_isBuffered_12 : decode mt_R_isBuffered.2.1 12 = .ok (.if_icmp .le 5, 3) := by decide +kernel
theorem d_R_isBuffered_15 : decode mt_R_isBuffered.2.1 15 = .ok (.iconst 0, 1) := by decide +kernel
theorem d_R_isBuffered_16 : decode mt_R_isBuffered.2.1 16 = .ok (.ireturn, 1) := by decide +kernel
theorem d_R_isBuffered_17 : decode mt_R_isBuffered.2.1 17 = .ok (.iconst 1, 1) := by decide +kernel
theorem d_R_isBuffered_18 : decode mt_R_isBuffered.2.1 18 = .ok (.bipush 10, 2) := by decide +kernel
theorem d_R_isBuffered_20 : decode mt_R_isBuffered.2.1 20 = .ok (.getstatic 241, 3) := by decide +kernel
theorem d_R_isBuffered_23 : decode mt_R_isBuffered.2.1 23 = .ok (.iload_n 1, 1) := by decide +kernel
theorem d_R_isBuffered_24 : decode mt_R_isBuffered.2.1 24 = .ok (.iaload, 1) := by decide +kernel
theorem d_R_isBuffered_25 : decode mt_R_isBuffered.2.1 25 = .ok (.invokestatic 244, 3) := by decide +kernel
theorem d_R_isBuffered_28 : decode mt_R_isBuffered.2.1 28 = .ok (.invokestatic 249, 3) := by decide +kernel
theorem d_R_isBuffered_31 : decode mt_R_isBuffered.2.1 31 = .ok (.istore_n 2, 1) := by decide +kernel
theorem d_R_isBuffered_32 : decode mt_R_isBuffered.2.1 32 = .ok (.iload_n 0, 1) := by decide +kernel
theorem d_R_isBuffered_33 : decode mt_R_isBuffered.2.1 33 = .ok (.bipush 10, 2) := by decide +kernel
theorem d_R_isBuffered_35 : decode mt_R_isBuffered.2.1 35 = .ok (.idiv, 1) := by decide +kernel
theorem d_R_isBuffered_36 : decode mt_R_isBuffered.2.1 36 = .ok (.bipush 10, 2) := by decide +kernel
theorem d_R_isBuffered_38 : decode mt_R_isBuffered.2.1 38 = .ok (.irem, 1) := by decide +kernel
theorem d_R_isBuffered_39 : decode mt_R_isBuffered.2.1 39 = .ok (.iload_n 1, 1) := by decide +kernel
theorem d_R_isBuffered_40 : decode mt_R_isBuffered.2.1 40 = .ok (.invokestatic 252, 3) := by decide +kernel
theorem d_R_isBuffered_43 : decode mt_R_isBuffered.2.1 43 = .ok (.ifCond .eq 7, 3) := by decide +kernel
theorem d_R_isBuffered_46 : decode mt_R_isBuffered.2.1 46 = .ok (.iconst 4, 1) := by decide +kernel
theorem d_R_isBuffered_47 : decode mt_R_isBuffered.2.1 47 = .ok (.goto 4, 3) := by decide +kernel
theorem d_R_isBuffered_50 : decode mt_R_isBuffered.2.1 50 = .ok (.iconst 1, 1) := by decide +kernel
theorem d_R_isBuffered_51 : decode mt_R_isBuffered.2.1 51 = .ok (.if_icmp .ge 15, 3) := by decide +kernel
theorem d_R_isBuffered_54 : decode mt_R_isBuffered.2.1 54 = .ok (.iload_n 0, 1) := by decide +kernel
theorem d_R_isBuffered_55 : decode mt_R_isBuffered.2.1 55 = .ok (.bipush 10, 2) := by decide +kernel
theorem d_R_isBuffered_57 : decode mt_R_isBuffered.2.1 57 = .ok (.irem, 1) := by decide +kernel
theorem d_R_isBuffered_58 : decode mt_R_isBuffered.2.1 58 = .ok (.iload_n 2, 1) := by decide +kernel
theorem d_R_isBuffered_59 : decode mt_R_isBuffered.2.1 59 = .ok (.if_icmp .ge 7, 3) := by decide +kernel
theorem d_R_isBuffered_62 : decode mt_R_isBuffered.2.1 62 = .ok (.iconst 1, 1) := by decide +kernel
theorem d_R_isBuffered_63 : decode mt_R_isBuffered.2.1 63 = .ok (.goto 4, 3) := by decide +kernel
theorem d_R_isBuffered_66 : decode mt_R_isBuffered.2.1 66 = .ok (.iconst 0, 1) := by decide +kernel
theorem d_R_isBuffered_67 : decode mt_R_isBuffered.2.1 67 = .ok (.ireturn, 1) := by decide +kernel
theorem d_R_clear_0 : decode mt_R_clear.2.1 0 = .ok (.aload_n 0, 1) := by decide +kernel
theorem d_R_clear_1 : decode mt_R_clear.2.1 1 = .ok (.getfield 36, 3) := by decide +kernel
theorem d_R_clear_4 : decode mt_R_clear.2.1 4 = .ok (.aload_n 0, 1) := by decide +kernel
theorem d_R_clear_5 : decode mt_R_clear.2.1 5 = .ok (.getfield 26, 3) := by decide +kernel
theorem d_R_clear_8 : decode mt_R_clear.2.1 8 = .ok (.invokevirtual 134, 3) := by decide +kernel
theorem d_R_clear_11 : decode mt_R_clear.2.1 11 = .ok (.aload_n 0, 1) := by decide +kernel
theorem d_R_clear_12 : decode mt_R_clear.2.1 12 = .ok (.getfield 26, 3) := by decide +kernel
theorem d_R_clear_15 : decode mt_R_clear.2.1 15 = .ok (.getfield 118, 3) := by decide +kernel
theorem d_R_clear_18 : decode mt_R_clear.2.1 18 = .ok (.getfield 148, 3) := by decide +kernel
theorem d_R_clear_21 : decode mt_R_clear.2.1 21 = .ok (.istore_n 1, 1) := by decide +kernel
theorem d_R_clear_22 : decode mt_R_clear.2.1 22 = .ok (.aload_n 0, 1) := by decide +kernel
theorem d_R_clear_23 : decode mt_R_clear.2.1 23 = .ok (.getfield 26, 3) := by decide +kernel
theorem d_R_clear_26 : decode mt_R_clear.2.1 26 = .ok (.getfield 118, 3) := by decide +kernel
theorem d_R_clear_29 : decode mt_R_clear.2.1 29 = .ok (.iconst 0, 1) := by decide +kernel
theorem d_R_clear_30 : decode mt_R_clear.2.1 30 = .ok (.putfield 148, 3) := by decide +kernel
theorem d_R_clear_33 : decode mt_R_clear.2.1 33 = .ok (.iload_n 1, 1) := by decide +kernel
theorem d_R_clear_34 : decode mt_R_clear.2.1 34 = .ok (.ireturn, 1) := by decide +kernel
theorem d_R_poke_0 : decode mt_R_poke.2.1 0 = .ok (.iload_n 1, 1) := by decide +kernel
theorem d_R_poke_1 : decode mt_R_poke.2.1 1 = .ok (.bipush 8, 2) := by decide +kernel
theorem d_R_poke_3 : decode mt_R_poke.2.1 3 = .ok (.invokestatic 111, 3) := by decide +kernel
theorem d_R_poke_6 : decode mt_R_poke.2.1 6 = .ok (.ifCond .eq 13, 3) := by decide +kernel
theorem d_R_poke_9 : decode mt_R_poke.2.1 9 = .ok (.iload_n 2, 1) := by decide +kernel
theorem d_R_poke_10 : decode mt_R_poke.2.1 10 = .ok (.sipush 1000, 3) := by decide +kernel
theorem d_R_poke_13 : decode mt_R_poke.2.1 13 = .ok (.invokestatic 111, 3) := by decide +kernel
theorem d_R_poke_16 : decode mt_R_poke.2.1 16 = .ok (.ifCond .ne 6, 3) := by decide +kernel
theorem d_R_poke_19 : decode mt_R_poke.2.1 19 = .ok (.bipush (-2), 2) := by decide +kernel
theorem d_R_poke_21 : decode mt_R_poke.2.1 21 = .ok (.ireturn, 1) := by decide +kernel
theorem d_R_poke_22 : decode mt_R_poke.2.1 22 = .ok (.aload_n 0, 1) := by decide +kernel
theorem d_R_poke_23 : decode mt_R_poke.2.1 23 = .ok (.getfield 36, 3) := by decide +kernel
theorem d_R_poke_26 : decode mt_R_poke.2.1 26 = .ok (.aload_n 0, 1) := by decide +kernel
theorem d_R_poke_27 : decode mt_R_poke.2.1 27 = .ok (.getfield 26, 3) := by decide +kernel
theorem d_R_poke_30 : decode mt_R_poke.2.1 30 = .ok (.invokevirtual 134, 3) := by decide +kernel
theorem d_R_poke_33 : decode mt_R_poke.2.1 33 = .ok (.aload_n 0, 1) := by decide +kernel
theorem d_R_poke_34 : decode mt_R_poke.2.1 34 = .ok (.getfield 26, 3) := by decide +kernel
theorem d_R_poke_37 : decode mt_R_poke.2.1 37 = .ok (.getfield 115, 3) := by decide +kernel
theorem d_R_poke_40 : decode mt_R_poke.2.1 40 = .ok (.iload_n 1, 1) := by decide +kernel
theorem d_R_poke_41 : decode mt_R_poke.2.1 41 = .ok (.iaload, 1) := by decide +kernel
theorem d_R_poke_42 : decode mt_R_poke.2.1 42 = .ok (.istore_n 3, 1) := by decide +kernel
theorem d_R_poke_43 : decode mt_R_poke.2.1 43 = .ok (.aload_n 0, 1) := by decide +kernel
theorem d_R_poke_44 : decode mt_R_poke.2.1 44 = .ok (.getfield 26, 3) := by decide +kernel
theorem d_R_poke_47 : decode mt_R_poke.2.1 47 = .ok (.getfield 115, 3) := by decide +kernel
theorem d_R_poke_50 : decode mt_R_poke.2.1 50 = .ok (.iload_n 1, 1) := by decide +kernel
theorem d_R_poke_51 : decode mt_R_poke.2.1 51 = .ok (.iload_n 2, 1) := by decide +kernel
theorem d_R_poke_52 : decode mt_R_poke.2.1 52 = .ok (.iastore, 1) := by decide +kernel
theorem d_R_poke_53 : decode mt_R_poke.2.1 53 = .ok (.iload_n 3, 1) := by decide +kernel
theorem d_R_poke_54 : decode mt_R_poke.2.1 54 = .ok (.ireturn, 1) := by decide +kernel
theorem d_R_undo_0 : decode mt_R_undo.2.1 0 = .ok (.aload_n 0, 1) := by decide +kernel
theorem d_R_undo_1 : decode mt_R_undo.2.1 1 = .ok (.getfield 36, 3) := by decide +kernel
theorem d_R_undo_4 : decode mt_R_undo.2.1 4 = .ok (.aload_n 0, 1) := by decide +kernel
theorem d_R_undo_5 : decode mt_R_undo.2.1 5 = .ok (.getfield 26, 3) := by decide +kernel
theorem d_R_undo_8 : decode mt_R_undo.2.1 8 = .ok (.invokevirtual 164, 3) := by decide +kernel
theorem d_R_undo_11 : decode mt_R_undo.2.1 11 = .ok (.ifCond .eq 13, 3) := by decide +kernel
theorem d_R_undo_14 : decode mt_R_undo.2.1 14 = .ok (.aload_n 0, 1) := by decide +kernel
theorem d_R_undo_15 : decode mt_R_undo.2.1 15 = .ok (.getfield 36, 3) := by decide +kernel
theorem d_R_undo_18 : decode mt_R_undo.2.1 18 = .ok (.getfield 168, 3) := by decide +kernel
theorem d_R_undo_21 : decode mt_R_undo.2.1 21 = .ok (.goto 5, 3) := by decide +kernel
theorem d_R_undo_24 : decode mt_R_undo.2.1 24 = .ok (.bipush (-3), 2) := by decide +kernel
theorem d_R_undo_26 : decode mt_R_undo.2.1 26 = .ok (.ireturn, 1) := by decide +kernel
theorem d_A_popInto_0 : decode mt_A_popInto.2.1 0 = .ok (.aload_n 0, 1) := by decide +kernel
theorem d_A_popInto_1 : decode mt_A_popInto.2.1 1 = .ok (.getfield 18, 3) := by decide +kernel
theorem d_A_popInto_4 : decode mt_A_popInto.2.1 4 = .ok (.ifCond .ne 5, 3) := by decide +kernel
theorem d_A_popInto_7 : decode mt_A_popInto.2.1 7 = .ok (.iconst 0, 1) := by decide +kernel
theorem d_A_popInto_8 : decode mt_A_popInto.2.1 8 = .ok (.ireturn, 1) := by decide +kernel
theorem d_A_popInto_9 : decode mt_A_popInto.2.1 9 = .ok (.aload_n 0, 1) := by decide +kernel
theorem d_A_popInto_10 : decode mt_A_popInto.2.1 10 = .ok (.aload_n 0, 1) := by decide +kernel
theorem d_A_popInto_11 : decode mt_A_popInto.2.1 11 = .ok (.getfield 22, 3) := by decide +kernel
theorem d_A_popInto_14 : decode mt_A_popInto.2.1 14 = .ok (.bipush 14, 2) := by decide +kernel
theorem d_A_popInto_16 : decode mt_A_popInto.2.1 16 = .ok (.iadd, 1) := by decide +kernel
theorem d_A_popInto_17 : decode mt_A_popInto.2.1 17 = .ok (.iconst 1, 1) := by decide +kernel
theorem d_A_popInto_18 : decode mt_A_popInto.2.1 18 = .ok (.isub, 1) := by decide +kernel
theorem d_A_popInto_19 : decode mt_A_popInto.2.1 19 = .ok (.bipush 14, 2) := by decide +kernel
theorem d_A_popInto_21 : decode mt_A_popInto.2.1 21 = .ok (.irem, 1) := by decide +kernel
theorem d_A_popInto_22 : decode mt_A_popInto.2.1 22 = .ok (.putfield 22, 3) := by decide +kernel
theorem d_A_popInto_25 : decode mt_A_popInto.2.1 25 = .ok (.aload_n 0, 1) := by decide +kernel
theorem d_A_popInto_26 : decode mt_A_popInto.2.1 26 = .ok (.dup, 1) := by decide +kernel
theorem d_A_popInto_27 : decode mt_A_popInto.2.1 27 = .ok (.getfield 18, 3) := by decide +kernel
theorem d_A_popInto_30 : decode mt_A_popInto.2.1 30 = .ok (.iconst 1, 1) := by decide +kernel
theorem d_A_popInto_31 : decode mt_A_popInto.2.1 31 = .ok (.isub, 1) := by decide +kernel
theorem d_A_popInto_32 : decode mt_A_popInto.2.1 32 = .ok (.putfield 18, 3) := by decide +kernel
theorem d_A_popInto_35 : decode mt_A_popInto.2.1 35 = .ok (.aload_n 1, 1) := by decide +kernel
theorem d_A_popInto_36 : decode mt_A_popInto.2.1 36 = .ok (.aload_n 0, 1) := by decide +kernel
theorem d_A_popInto_37 : decode mt_A_popInto.2.1 37 = .ok (.getfield 11, 3) := by decide +kernel
theorem d_A_popInto_40 : decode mt_A_popInto.2.1 40 = .ok (.aload_n 0, 1) := by decide +kernel
theorem d_A_popInto_41 : decode mt_A_popInto.2.1 41 = .ok (.getfield 22, 3) := by decide +kernel
theorem d_A_popInto_44 : decode mt_A_popInto.2.1 44 = .ok (.aaload, 1) := by decide +kernel
theorem d_A_popInto_45 : decode mt_A_popInto.2.1 45 = .ok (.invokevirtual 25, 3) := by decide +kernel
theorem d_A_popInto_48 : decode mt_A_popInto.2.1 48 = .ok (.iconst 1, 1) := by decide +kernel
theorem d_A_popInto_49 : decode mt_A_popInto.2.1 49 = .ok (.ireturn, 1) := by decide +kernel
theorem d_R_ahead_0 : decode mt_R_ahead.2.1 0 = .ok (.aload_n 0, 1) := by decide +kernel
theorem d_R_ahead_1 : decode mt_R_ahead.2.1 1 = .ok (.iload_n 2, 1) := by decide +kernel
theorem d_R_ahead_2 : decode mt_R_ahead.2.1 2 = .ok (.invokevirtual 88, 3) := by decide +kernel
theorem d_R_ahead_5 : decode mt_R_ahead.2.1 5 = .ok (.ifCond .ne 5, 3) := by decide +kernel
theorem d_R_ahead_8 : decode mt_R_ahead.2.1 8 = .ok (.iconst (-1), 1) := by decide +kernel
theorem d_R_ahead_9 : decode mt_R_ahead.2.1 9 = .ok (.ireturn, 1) := by decide +kernel
theorem d_R_ahead_10 : decode mt_R_ahead.2.1 10 = .ok (.iload_n 1, 1) := by decide +kernel
theorem d_R_ahead_11 : decode mt_R_ahead.2.1 11 = .ok (.bipush 100, 2) := by decide +kernel
theorem d_R_ahead_13 : decode mt_R_ahead.2.1 13 = .ok (.invokestatic 111, 3) := by decide +kernel
theorem d_R_ahead_16 : decode mt_R_ahead.2.1 16 = .ok (.ifCond .ne 6, 3) := by decide +kernel
theorem d_R_ahead_19 : decode mt_R_ahead.2.1 19 = .ok (.bipush (-2), 2) := by decide +kernel
theorem d_R_ahead_21 : decode mt_R_ahead.2.1 21 = .ok (.ireturn, 1) := by decide +kernel
theorem d_R_ahead_22 : decode mt_R_ahead.2.1 22 = .ok (.aload_n 0, 1) := by decide +kernel
theorem d_R_ahead_23 : decode mt_R_ahead.2.1 23 = .ok (.getfield 30, 3) := by decide +kernel
theorem d_R_ahead_26 : decode mt_R_ahead.2.1 26 = .ok (.aload_n 0, 1) := by decide +kernel
theorem d_R_ahead_27 : decode mt_R_ahead.2.1 27 = .ok (.getfield 26, 3) := by decide +kernel
theorem d_R_ahead_30 : decode mt_R_ahead.2.1 30 = .ok (.invokevirtual 79, 3) := by decide +kernel
theorem d_R_ahead_33 : decode mt_R_ahead.2.1 33 = .ok (.aload_n 0, 1) := by decide +kernel
theorem d_R_ahead_34 : decode mt_R_ahead.2.1 34 = .ok (.getfield 30, 3) := by decide +kernel
theorem d_R_ahead_37 : decode mt_R_ahead.2.1 37 = .ok (.aload_n 0, 1) := by decide +kernel
theorem d_R_ahead_38 : decode mt_R_ahead.2.1 38 = .ok (.getfield 19, 3) := by decide +kernel
theorem d_R_ahead_41 : decode mt_R_ahead.2.1 41 = .ok (.iload_n 1, 1) := by decide +kernel
theorem d_R_ahead_42 : decode mt_R_ahead.2.1 42 = .ok (.invokevirtual 137, 3) := by decide +kernel
theorem d_R_ahead_45 : decode mt_R_ahead.2.1 45 = .ok (.aload_n 0, 1) := by decide +kernel
theorem d_R_ahead_46 : decode mt_R_ahead.2.1 46 = .ok (.getfield 30, 3) := by decide +kernel
theorem d_R_ahead_49 : decode mt_R_ahead.2.1 49 = .ok (.getfield 91, 3) := by decide +kernel
theorem d_R_ahead_52 : decode mt_R_ahead.2.1 52 = .ok (.iload_n 2, 1) := by decide +kernel
theorem d_R_ahead_53 : decode mt_R_ahead.2.1 53 = .ok (.aaload, 1) := by decide +kernel
theorem d_R_ahead_54 : decode mt_R_ahead.2.1 54 = .ok (.iload_n 3, 1) := by decide +kernel
theorem d_R_ahead_55 : decode mt_R_ahead.2.1 55 = .ok (.invokevirtual 95, 3) := by decide +kernel
theorem d_R_ahead_58 : decode mt_R_ahead.2.1 58 = .ok (.ireturn, 1) := by decide +kernel
theorem d_R_halts_0 : decode mt_R_halts.2.1 0 = .ok (.aload_n 0, 1) := by decide +kernel
theorem d_R_halts_1 : decode mt_R_halts.2.1 1 = .ok (.iload_n 1, 1) := by decide +kernel
theorem d_R_halts_2 : decode mt_R_halts.2.1 2 = .ok (.invokevirtual 88, 3) := by decide +kernel
theorem d_R_halts_5 : decode mt_R_halts.2.1 5 = .ok (.ifCond .ne 5, 3) := by decide +kernel
theorem d_R_halts_8 : decode mt_R_halts.2.1 8 = .ok (.iconst (-1), 1) := by decide +kernel
theorem d_R_halts_9 : decode mt_R_halts.2.1 9 = .ok (.ireturn, 1) := by decide +kernel
theorem d_R_halts_10 : decode mt_R_halts.2.1 10 = .ok (.aload_n 0, 1) := by decide +kernel
theorem d_R_halts_11 : decode mt_R_halts.2.1 11 = .ok (.getfield 30, 3) := by decide +kernel
theorem d_R_halts_14 : decode mt_R_halts.2.1 14 = .ok (.aload_n 0, 1) := by decide +kernel
theorem d_R_halts_15 : decode mt_R_halts.2.1 15 = .ok (.getfield 26, 3) := by decide +kernel
theorem d_R_halts_18 : decode mt_R_halts.2.1 18 = .ok (.invokevirtual 79, 3) := by decide +kernel
theorem d_R_halts_21 : decode mt_R_halts.2.1 21 = .ok (.aload_n 0, 1) := by decide +kernel
theorem d_R_halts_22 : decode mt_R_halts.2.1 22 = .ok (.iconst 1, 1) := by decide +kernel
theorem d_R_halts_23 : decode mt_R_halts.2.1 23 = .ok (.iload_n 1, 1) := by decide +kernel
theorem d_R_halts_24 : decode mt_R_halts.2.1 24 = .ok (.ishl, 1) := by decide +kernel
theorem d_R_halts_25 : decode mt_R_halts.2.1 25 = .ok (.bipush 60, 2) := by decide +kernel
theorem d_R_halts_27 : decode mt_R_halts.2.1 27 = .ok (.invokevirtual 171, 3) := by decide +kernel
theorem d_R_halts_30 : decode mt_R_halts.2.1 30 = .ok (.ireturn, 1) := by decide +kernel
theorem d_R_ticksUntilHalted_0 : decode mt_R_ticksUntilHalted.2.1 0 = .ok (.iconst 0, 1) := by decide +kernel
theorem d_R_ticksUntilHalted_1 : decode mt_R_ticksUntilHalted.2.1 1 = .ok (.istore_n 3, 1) := by decide +kernel
theorem d_R_ticksUntilHalted_2 : decode mt_R_ticksUntilHalted.2.1 2 = .ok (.iload_n 3, 1) := by decide +kernel
theorem d_R_ticksUntilHalted_3 : decode mt_R_ticksUntilHalted.2.1 3 = .ok (.iload_n 2, 1) := by decide +kernel
theorem d_R_ticksUntilHalted_4 : decode mt_R_ticksUntilHalted.2.1 4 = .ok (.if_icmp .gt 40, 3) := by decide +kernel
theorem d_R_ticksUntilHalted_7 : decode mt_R_ticksUntilHalted.2.1 7 = .ok (.iload_n 3, 1) := by decide +kernel
theorem d_R_ticksUntilHalted_8 : decode mt_R_ticksUntilHalted.2.1 8 = .ok (.ifCond .le 15, 3) := by decide +kernel
theorem d_R_ticksUntilHalted_11 : decode mt_R_ticksUntilHalted.2.1 11 = .ok (.aload_n 0, 1) := by decide +kernel
theorem d_R_ticksUntilHalted_12 : decode mt_R_ticksUntilHalted.2.1 12 = .ok (.getfield 30, 3) := by decide +kernel
theorem d_R_ticksUntilHalted_15 : decode mt_R_ticksUntilHalted.2.1 15 = .ok (.aload_n 0, 1) := by decide +kernel
theorem d_R_ticksUntilHalted_16 : decode mt_R_ticksUntilHalted.2.1 16 = .ok (.getfield 19, 3) := by decide +kernel
theorem d_R_ticksUntilHalted_19 : decode mt_R_ticksUntilHalted.2.1 19 = .ok (.iconst 1, 1) := by decide +kernel
theorem d_R_ticksUntilHalted_20 : decode mt_R_ticksUntilHalted.2.1 20 = .ok (.invokevirtual 137, 3) := by decide +kernel
theorem d_R_ticksUntilHalted_23 : decode mt_R_ticksUntilHalted.2.1 23 = .ok (.aload_n 0, 1) := by decide +kernel
theorem d_R_ticksUntilHalted_24 : decode mt_R_ticksUntilHalted.2.1 24 = .ok (.getfield 30, 3) := by decide +kernel
theorem d_R_ticksUntilHalted_27 : decode mt_R_ticksUntilHalted.2.1 27 = .ok (.invokevirtual 235, 3) := by decide +kernel
theorem d_R_ticksUntilHalted_30 : decode mt_R_ticksUntilHalted.2.1 30 = .ok (.iload_n 1, 1) := by decide +kernel
theorem d_R_ticksUntilHalted_31 : decode mt_R_ticksUntilHalted.2.1 31 = .ok (.iand, 1) := by decide +kernel
theorem d_R_ticksUntilHalted_32 : decode mt_R_ticksUntilHalted.2.1 32 = .ok (.iload_n 1, 1) := by decide +kernel
theorem d_R_ticksUntilHalted_33 : decode mt_R_ticksUntilHalted.2.1 33 = .ok (.if_icmp .ne 5, 3) := by decide +kernel
theorem d_R_ticksUntilHalted_36 : decode mt_R_ticksUntilHalted.2.1 36 = .ok (.iload_n 3, 1) := by decide +kernel
theorem d_R_ticksUntilHalted_37 : decode mt_R_ticksUntilHalted.2.1 37 = .ok (.ireturn, 1) := by decide +kernel
theorem d_R_ticksUntilHalted_38 : decode mt_R_ticksUntilHalted.2.1 38 = .ok (.iinc 3 1, 3) := by decide +kernel
theorem d_R_ticksUntilHalted_41 : decode mt_R_ticksUntilHalted.2.1 41 = .ok (.goto (-39), 3) := by decide +kernel
theorem d_R_ticksUntilHalted_44 : decode mt_R_ticksUntilHalted.2.1 44 = .ok (.bipush (-9), 2) := by decide +kernel
theorem d_R_ticksUntilHalted_46 : decode mt_R_ticksUntilHalted.2.1 46 = .ok (.ireturn, 1) := by decide +kernel
theorem d_R_soonest_0 : decode mt_R_soonest.2.1 0 = .ok (.aload_n 0, 1) := by decide +kernel
theorem d_R_soonest_1 : decode mt_R_soonest.2.1 1 = .ok (.iload_n 1, 1) := by decide +kernel
theorem d_R_soonest_2 : decode mt_R_soonest.2.1 2 = .ok (.invokevirtual 101, 3) := by decide +kernel
theorem d_R_soonest_5 : decode mt_R_soonest.2.1 5 = .ok (.ifCond .ne 5, 3) := by decide +kernel
theorem d_R_soonest_8 : decode mt_R_soonest.2.1 8 = .ok (.iconst (-1), 1) := by decide +kernel
theorem d_R_soonest_9 : decode mt_R_soonest.2.1 9 = .ok (.ireturn, 1) := by decide +kernel
theorem d_R_soonest_10 : decode mt_R_soonest.2.1 10 = .ok (.iconst 1, 1) := by decide +kernel
theorem d_R_soonest_11 : decode mt_R_soonest.2.1 11 = .ok (.aload_n 0, 1) := by decide +kernel
theorem d_R_soonest_12 : decode mt_R_soonest.2.1 12 = .ok (.getfield 26, 3) := by decide +kernel
theorem d_R_soonest_15 : decode mt_R_soonest.2.1 15 = .ok (.getfield 104, 3) := by decide +kernel
theorem d_R_soonest_18 : decode mt_R_soonest.2.1 18 = .ok (.iload_n 1, 1) := by decide +kernel
theorem d_R_soonest_19 : decode mt_R_soonest.2.1 19 = .ok (.aaload, 1) := by decide +kernel
theorem d_R_soonest_20 : decode mt_R_soonest.2.1 20 = .ok (.getfield 175, 3) := by decide +kernel
theorem d_R_soonest_23 : decode mt_R_soonest.2.1 23 = .ok (.ishl, 1) := by decide +kernel
theorem d_R_soonest_24 : decode mt_R_soonest.2.1 24 = .ok (.istore_n 2, 1) := by decide +kernel
theorem d_R_soonest_25 : decode mt_R_soonest.2.1 25 = .ok (.bipush (-9), 2) := by decide +kernel
theorem d_R_soonest_27 : decode mt_R_soonest.2.1 27 = .ok (.istore_n 3, 1) := by decide +kernel
theorem d_R_soonest_28 : decode mt_R_soonest.2.1 28 = .ok (.bipush 60, 2) := by decide +kernel
theorem d_R_soonest_30 : decode mt_R_soonest.2.1 30 = .ok (.istore 4, 2) := by decide +kernel
theorem d_R_soonest_32 : decode mt_R_soonest.2.1 32 = .ok (.iconst 0, 1) := by decide +kernel
theorem d_R_soonest_33 : decode mt_R_soonest.2.1 33 = .ok (.istore 5, 2) := by decide +kernel
theorem d_R_soonest_35 : decode mt_R_soonest.2.1 35 = .ok (.iload 5, 2) := by decide +kernel
theorem d_R_soonest_37 : decode mt_R_soonest.2.1 37 = .ok (.bipush 16, 2) := by decide +kernel
theorem d_R_soonest_39 : decode mt_R_soonest.2.1 39 = .ok (.if_icmp .ge 68, 3) := by decide +kernel
theorem d_R_soonest_42 : decode mt_R_soonest.2.1 42 = .ok (.iload 4, 2) := by decide +kernel
theorem d_R_soonest_44 : decode mt_R_soonest.2.1 44 = .ok (.ifCond .lt 63, 3) := by decide +kernel
theorem d_R_soonest_47 : decode mt_R_soonest.2.1 47 = .ok (.aload_n 0, 1) := by decide +kernel
theorem d_R_soonest_48 : decode mt_R_soonest.2.1 48 = .ok (.getfield 30, 3) := by decide +kernel
theorem d_R_soonest_51 : decode mt_R_soonest.2.1 51 = .ok (.aload_n 0, 1) := by decide +kernel
theorem d_R_soonest_52 : decode mt_R_soonest.2.1 52 = .ok (.getfield 26, 3) := by decide +kernel
theorem d_R_soonest_55 : decode mt_R_soonest.2.1 55 = .ok (.invokevirtual 79, 3) := by decide +kernel
theorem d_R_soonest_58 : decode mt_R_soonest.2.1 58 = .ok (.aload_n 0, 1) := by decide +kernel
theorem d_R_soonest_59 : decode mt_R_soonest.2.1 59 = .ok (.getfield 30, 3) := by decide +kernel
theorem d_R_soonest_62 : decode mt_R_soonest.2.1 62 = .ok (.getfield 104, 3) := by decide +kernel
theorem d_R_soonest_65 : decode mt_R_soonest.2.1 65 = .ok (.iload_n 1, 1) := by decide +kernel
theorem d_R_soonest_66 : decode mt_R_soonest.2.1 66 = .ok (.aaload, 1) := by decide +kernel
theorem d_R_soonest_67 : decode mt_R_soonest.2.1 67 = .ok (.iconst 0, 1) := by decide +kernel
theorem d_R_soonest_68 : decode mt_R_soonest.2.1 68 = .ok (.iload 5, 2) := by decide +kernel
theorem d_R_soonest_70 : decode mt_R_soonest.2.1 70 = .ok (.iconst 0, 1) := by decide +kernel
theorem d_R_soonest_71 : decode mt_R_soonest.2.1 71 = .ok (.iconst 1, 1) := by decide +kernel
theorem d_R_soonest_72 : decode mt_R_soonest.2.1 72 = .ok (.iconst 0, 1) := by decide +kernel
theorem d_R_soonest_73 : decode mt_R_soonest.2.1 73 = .ok (.invokevirtual 154, 3) := by decide +kernel
theorem d_R_soonest_76 : decode mt_R_soonest.2.1 76 = .ok (.aload_n 0, 1) := by decide +kernel
theorem d_R_soonest_77 : decode mt_R_soonest.2.1 77 = .ok (.iload_n 2, 1) := by decide +kernel
theorem d_R_soonest_78 : decode mt_R_soonest.2.1 78 = .ok (.iload 4, 2) := by decide +kernel
theorem d_R_soonest_80 : decode mt_R_soonest.2.1 80 = .ok (.invokevirtual 171, 3) := by decide +kernel
theorem d_R_soonest_83 : decode mt_R_soonest.2.1 83 = .ok (.istore 6, 2) := by decide +kernel
theorem d_R_soonest_85 : decode mt_R_soonest.2.1 85 = .ok (.iload 6, 2) := by decide +kernel
theorem d_R_soonest_87 : decode mt_R_soonest.2.1 87 = .ok (.bipush (-9), 2) := by decide +kernel
theorem d_R_soonest_89 : decode mt_R_soonest.2.1 89 = .ok (.if_icmp .eq 12, 3) := by decide +kernel
theorem d_R_soonest_92 : decode mt_R_soonest.2.1 92 = .ok (.iload 5, 2) := by decide +kernel
theorem d_R_soonest_94 : decode mt_R_soonest.2.1 94 = .ok (.istore_n 3, 1) := by decide +kernel
theorem d_R_soonest_95 : decode mt_R_soonest.2.1 95 = .ok (.iload 6, 2) := by decide +kernel
theorem d_R_soonest_97 : decode mt_R_soonest.2.1 97 = .ok (.iconst 1, 1) := by decide +kernel
theorem d_R_soonest_98 : decode mt_R_soonest.2.1 98 = .ok (.isub, 1) := by decide +kernel
theorem d_R_soonest_99 : decode mt_R_soonest.2.1 99 = .ok (.istore 4, 2) := by decide +kernel
theorem d_R_soonest_101 : decode mt_R_soonest.2.1 101 = .ok (.iinc 5 1, 3) := by decide +kernel
theorem d_R_soonest_104 : decode mt_R_soonest.2.1 104 = .ok (.goto (-69), 3) := by decide +kernel
theorem d_R_soonest_107 : decode mt_R_soonest.2.1 107 = .ok (.iload_n 3, 1) := by decide +kernel
theorem d_R_soonest_108 : decode mt_R_soonest.2.1 108 = .ok (.ireturn, 1) := by decide +kernel
theorem d_R_all_0 : decode mt_R_all.2.1 0 = .ok (.iload_n 1, 1) := by decide +kernel
theorem d_R_all_1 : decode mt_R_all.2.1 1 = .ok (.aload_n 0, 1) := by decide +kernel
theorem d_R_all_2 : decode mt_R_all.2.1 2 = .ok (.getfield 26, 3) := by decide +kernel
theorem d_R_all_5 : decode mt_R_all.2.1 5 = .ok (.invokevirtual 178, 3) := by decide +kernel
theorem d_R_all_8 : decode mt_R_all.2.1 8 = .ok (.iconst 1, 1) := by decide +kernel
theorem d_R_all_9 : decode mt_R_all.2.1 9 = .ok (.iadd, 1) := by decide +kernel
theorem d_R_all_10 : decode mt_R_all.2.1 10 = .ok (.invokestatic 111, 3) := by decide +kernel
theorem d_R_all_13 : decode mt_R_all.2.1 13 = .ok (.ifCond .eq 13, 3) := by decide +kernel
theorem d_R_all_16 : decode mt_R_all.2.1 16 = .ok (.aload_n 0, 1) := by decide +kernel
theorem d_R_all_17 : decode mt_R_all.2.1 17 = .ok (.iload_n 1, 1) := by decide +kernel
theorem d_R_all_18 : decode mt_R_all.2.1 18 = .ok (.bipush 60, 2) := by decide +kernel
theorem d_R_all_20 : decode mt_R_all.2.1 20 = .ok (.invokevirtual 181, 3) := by decide +kernel
theorem d_R_all_23 : decode mt_R_all.2.1 23 = .ok (.goto 5, 3) := by decide +kernel
theorem d_R_all_26 : decode mt_R_all.2.1 26 = .ok (.bipush (-2), 2) := by decide +kernel
theorem d_R_all_28 : decode mt_R_all.2.1 28 = .ok (.ireturn, 1) := by decide +kernel
theorem d_S_everyHart_0 : decode mt_S_everyHart.2.1 0 = .ok (.iconst 1, 1) := by decide +kernel
theorem d_S_everyHart_1 : decode mt_S_everyHart.2.1 1 = .ok (.aload_n 0, 1) := by decide +kernel
theorem d_S_everyHart_2 : decode mt_S_everyHart.2.1 2 = .ok (.getfield 36, 3) := by decide +kernel
theorem d_S_everyHart_5 : decode mt_S_everyHart.2.1 5 = .ok (.ishl, 1) := by decide +kernel
theorem d_S_everyHart_6 : decode mt_S_everyHart.2.1 6 = .ok (.iconst 1, 1) := by decide +kernel
theorem d_S_everyHart_7 : decode mt_S_everyHart.2.1 7 = .ok (.isub, 1) := by decide +kernel
theorem d_S_everyHart_8 : decode mt_S_everyHart.2.1 8 = .ok (.ireturn, 1) := by decide +kernel
theorem d_R_ticksWithHalts_0 : decode mt_R_ticksWithHalts.2.1 0 = .ok (.aload_n 0, 1) := by decide +kernel
theorem d_R_ticksWithHalts_1 : decode mt_R_ticksWithHalts.2.1 1 = .ok (.getfield 30, 3) := by decide +kernel
theorem d_R_ticksWithHalts_4 : decode mt_R_ticksWithHalts.2.1 4 = .ok (.aload_n 0, 1) := by decide +kernel
theorem d_R_ticksWithHalts_5 : decode mt_R_ticksWithHalts.2.1 5 = .ok (.getfield 26, 3) := by decide +kernel
theorem d_R_ticksWithHalts_8 : decode mt_R_ticksWithHalts.2.1 8 = .ok (.invokevirtual 79, 3) := by decide +kernel
theorem d_R_ticksWithHalts_11 : decode mt_R_ticksWithHalts.2.1 11 = .ok (.iconst 0, 1) := by decide +kernel
theorem d_R_ticksWithHalts_12 : decode mt_R_ticksWithHalts.2.1 12 = .ok (.istore_n 3, 1) := by decide +kernel
theorem d_R_ticksWithHalts_13 : decode mt_R_ticksWithHalts.2.1 13 = .ok (.iload_n 3, 1) := by decide +kernel
theorem d_R_ticksWithHalts_14 : decode mt_R_ticksWithHalts.2.1 14 = .ok (.aload_n 0, 1) := by decide +kernel
theorem d_R_ticksWithHalts_15 : decode mt_R_ticksWithHalts.2.1 15 = .ok (.getfield 30, 3) := by decide +kernel
theorem d_R_ticksWithHalts_18 : decode mt_R_ticksWithHalts.2.1 18 = .ok (.getfield 85, 3) := by decide +kernel
theorem d_R_ticksWithHalts_21 : decode mt_R_ticksWithHalts.2.1 21 = .ok (.if_icmp .ge 31, 3) := by decide +kernel
theorem d_R_ticksWithHalts_24 : decode mt_R_ticksWithHalts.2.1 24 = .ok (.iload_n 1, 1) := by decide +kernel
theorem d_R_ticksWithHalts_25 : decode mt_R_ticksWithHalts.2.1 25 = .ok (.iload_n 3, 1) := by decide +kernel
theorem d_R_ticksWithHalts_26 : decode mt_R_ticksWithHalts.2.1 26 = .ok (.ishr, 1) := by decide +kernel
theorem d_R_ticksWithHalts_27 : decode mt_R_ticksWithHalts.2.1 27 = .ok (.iconst 1, 1) := by decide +kernel
theorem d_R_ticksWithHalts_28 : decode mt_R_ticksWithHalts.2.1 28 = .ok (.iand, 1) := by decide +kernel
theorem d_R_ticksWithHalts_29 : decode mt_R_ticksWithHalts.2.1 29 = .ok (.ifCond .eq 17, 3) := by decide +kernel
theorem d_R_ticksWithHalts_32 : decode mt_R_ticksWithHalts.2.1 32 = .ok (.aload_n 0, 1) := by decide +kernel
theorem d_R_ticksWithHalts_33 : decode mt_R_ticksWithHalts.2.1 33 = .ok (.getfield 30, 3) := by decide +kernel
theorem d_R_ticksWithHalts_36 : decode mt_R_ticksWithHalts.2.1 36 = .ok (.getfield 118, 3) := by decide +kernel
theorem d_R_ticksWithHalts_39 : decode mt_R_ticksWithHalts.2.1 39 = .ok (.iconst 0, 1) := by decide +kernel
theorem d_R_ticksWithHalts_40 : decode mt_R_ticksWithHalts.2.1 40 = .ok (.iload_n 3, 1) := by decide +kernel
theorem d_R_ticksWithHalts_41 : decode mt_R_ticksWithHalts.2.1 41 = .ok (.iconst 0, 1) := by decide +kernel
theorem d_R_ticksWithHalts_42 : decode mt_R_ticksWithHalts.2.1 42 = .ok (.iconst 0, 1) := by decide +kernel
theorem d_R_ticksWithHalts_43 : decode mt_R_ticksWithHalts.2.1 43 = .ok (.invokevirtual 255, 3) := by decide +kernel
theorem d_R_ticksWithHalts_46 : decode mt_R_ticksWithHalts.2.1 46 = .ok (.iinc 3 1, 3) := by decide +kernel
theorem d_R_ticksWithHalts_49 : decode mt_R_ticksWithHalts.2.1 49 = .ok (.goto (-36), 3) := by decide +kernel
theorem d_R_ticksWithHalts_52 : decode mt_R_ticksWithHalts.2.1 52 = .ok (.aload_n 0, 1) := by decide +kernel
theorem d_R_ticksWithHalts_53 : decode mt_R_ticksWithHalts.2.1 53 = .ok (.aload_n 0, 1) := by decide +kernel
theorem d_R_ticksWithHalts_54 : decode mt_R_ticksWithHalts.2.1 54 = .ok (.getfield 30, 3) := by decide +kernel
theorem d_R_ticksWithHalts_57 : decode mt_R_ticksWithHalts.2.1 57 = .ok (.invokevirtual 178, 3) := by decide +kernel
theorem d_R_ticksWithHalts_60 : decode mt_R_ticksWithHalts.2.1 60 = .ok (.iload_n 2, 1) := by decide +kernel
theorem d_R_ticksWithHalts_61 : decode mt_R_ticksWithHalts.2.1 61 = .ok (.invokevirtual 171, 3) := by decide +kernel
theorem d_R_ticksWithHalts_64 : decode mt_R_ticksWithHalts.2.1 64 = .ok (.ireturn, 1) := by decide +kernel
