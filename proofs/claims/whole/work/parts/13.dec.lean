theorem d_M_isNext_24 : decode mt_M_isNext.2.1 24 = .ok (.i2l, 1) := by decide +kernel
theorem d_M_isNext_25 : decode mt_M_isNext.2.1 25 = .ok (.iload_n 3, 1) := by decide +kernel
theorem d_M_isNext_26 : decode mt_M_isNext.2.1 26 = .ok (.i2l, 1) := by decide +kernel
theorem d_M_isNext_27 : decode mt_M_isNext.2.1 27 = .ok (.invokestatic 81, 3) := by decide +kernel
theorem d_M_isNext_30 : decode mt_M_isNext.2.1 30 = .ok (.ifCond .eq 7, 3) := by decide +kernel
theorem d_M_isNext_33 : decode mt_M_isNext.2.1 33 = .ok (.iconst 1, 1) := by decide +kernel
theorem d_M_isNext_34 : decode mt_M_isNext.2.1 34 = .ok (.goto 4, 3) := by decide +kernel
theorem d_M_isNext_37 : decode mt_M_isNext.2.1 37 = .ok (.iconst 0, 1) := by decide +kernel
theorem d_M_isNext_38 : decode mt_M_isNext.2.1 38 = .ok (.istore 4, 2) := by decide +kernel
theorem d_M_isNext_40 : decode mt_M_isNext.2.1 40 = .ok (.aload_n 0, 1) := by decide +kernel
theorem d_M_isNext_41 : decode mt_M_isNext.2.1 41 = .ok (.dup, 1) := by decide +kernel
theorem d_M_isNext_42 : decode mt_M_isNext.2.1 42 = .ok (.getfield 90, 3) := by decide +kernel
theorem d_M_isNext_45 : decode mt_M_isNext.2.1 45 = .ok (.iload 4, 2) := by decide +kernel
theorem d_M_isNext_47 : decode mt_M_isNext.2.1 47 = .ok (.ifCond .eq 7, 3) := by decide +kernel
theorem d_M_isNext_50 : decode mt_M_isNext.2.1 50 = .ok (.iconst 1, 1) := by decide +kernel
theorem d_M_isNext_51 : decode mt_M_isNext.2.1 51 = .ok (.goto 4, 3) := by decide +kernel
theorem d_M_isNext_54 : decode mt_M_isNext.2.1 54 = .ok (.iconst 0, 1) := by decide +kernel
theorem d_M_isNext_55 : decode mt_M_isNext.2.1 55 = .ok (.iadd, 1) := by decide +kernel
theorem d_M_isNext_56 : decode mt_M_isNext.2.1 56 = .ok (.putfield 90, 3) := by decide +kernel
theorem d_M_isNext_59 : decode mt_M_isNext.2.1 59 = .ok (.iload 4, 2) := by decide +kernel
theorem d_M_isNext_61 : decode mt_M_isNext.2.1 61 = .ok (.ireturn, 1) := by decide +kernel
theorem d_M_taken_0 : decode mt_M_taken.2.1 0 = .ok (.aload_n 0, 1) := by decide +kernel
theorem d_M_taken_1 : decode mt_M_taken.2.1 1 = .ok (.getfield 7, 3) := by decide +kernel
theorem d_M_taken_4 : decode mt_M_taken.2.1 4 = .ok (.aload_n 0, 1) := by decide +kernel
theorem d_M_taken_5 : decode mt_M_taken.2.1 5 = .ok (.getfield 90, 3) := by decide +kernel
theorem d_M_taken_8 : decode mt_M_taken.2.1 8 = .ok (.iconst 1, 1) := by decide +kernel
theorem d_M_taken_9 : decode mt_M_taken.2.1 9 = .ok (.isub, 1) := by decide +kernel
theorem d_M_taken_10 : decode mt_M_taken.2.1 10 = .ok (.iaload, 1) := by decide +kernel
theorem d_M_taken_11 : decode mt_M_taken.2.1 11 = .ok (.iload_n 1, 1) := by decide +kernel
theorem d_M_taken_12 : decode mt_M_taken.2.1 12 = .ok (.isub, 1) := by decide +kernel
theorem d_M_taken_13 : decode mt_M_taken.2.1 13 = .ok (.ireturn, 1) := by decide +kernel
theorem d_M_readHart_0 : decode mt_M_readHart.2.1 0 = .ok (.aload_n 0, 1) := by decide +kernel
theorem d_M_readHart_1 : decode mt_M_readHart.2.1 1 = .ok (.getfield 107, 3) := by decide +kernel
theorem d_M_readHart_4 : decode mt_M_readHart.2.1 4 = .ok (.iconst 4, 1) := by decide +kernel
theorem d_M_readHart_5 : decode mt_M_readHart.2.1 5 = .ok (.if_icmp .ne 5, 3) := by decide +kernel
theorem d_M_readHart_8 : decode mt_M_readHart.2.1 8 = .ok (.iconst 0, 1) := by decide +kernel
theorem d_M_readHart_9 : decode mt_M_readHart.2.1 9 = .ok (.ireturn, 1) := by decide +kernel
theorem d_M_readHart_10 : decode mt_M_readHart.2.1 10 = .ok (.aload_n 0, 1) := by decide +kernel
theorem d_M_readHart_11 : decode mt_M_readHart.2.1 11 = .ok (.dup, 1) := by decide +kernel
theorem d_M_readHart_12 : decode mt_M_readHart.2.1 12 = .ok (.getfield 90, 3) := by decide +kernel
theorem d_M_readHart_15 : decode mt_M_readHart.2.1 15 = .ok (.iconst 1, 1) := by decide +kernel
theorem d_M_readHart_16 : decode mt_M_readHart.2.1 16 = .ok (.iadd, 1) := by decide +kernel
theorem d_M_readHart_17 : decode mt_M_readHart.2.1 17 = .ok (.putfield 90, 3) := by decide +kernel
theorem d_M_readHart_20 : decode mt_M_readHart.2.1 20 = .ok (.aload_n 0, 1) := by decide +kernel
theorem d_M_readHart_21 : decode mt_M_readHart.2.1 21 = .ok (.bipush 97, 2) := by decide +kernel
theorem d_M_readHart_23 : decode mt_M_readHart.2.1 23 = .ok (.iconst 0, 1) := by decide +kernel
theorem d_M_readHart_24 : decode mt_M_readHart.2.1 24 = .ok (.bipush 15, 2) := by decide +kernel
theorem d_M_readHart_26 : decode mt_M_readHart.2.1 26 = .ok (.invokevirtual 100, 3) := by decide +kernel
theorem d_M_readHart_29 : decode mt_M_readHart.2.1 29 = .ok (.ifCond .ne 5, 3) := by decide +kernel
theorem d_M_readHart_32 : decode mt_M_readHart.2.1 32 = .ok (.iconst 0, 1) := by decide +kernel
theorem d_M_readHart_33 : decode mt_M_readHart.2.1 33 = .ok (.ireturn, 1) := by decide +kernel
theorem d_M_readHart_34 : decode mt_M_readHart.2.1 34 = .ok (.aload_n 0, 1) := by decide +kernel
theorem d_M_readHart_35 : decode mt_M_readHart.2.1 35 = .ok (.getfield 28, 3) := by decide +kernel
theorem d_M_readHart_38 : decode mt_M_readHart.2.1 38 = .ok (.aload_n 0, 1) := by decide +kernel
theorem d_M_readHart_39 : decode mt_M_readHart.2.1 39 = .ok (.getfield 107, 3) := by decide +kernel
theorem d_M_readHart_42 : decode mt_M_readHart.2.1 42 = .ok (.aload_n 0, 1) := by decide +kernel
theorem d_M_readHart_43 : decode mt_M_readHart.2.1 43 = .ok (.bipush 97, 2) := by decide +kernel
theorem d_M_readHart_45 : decode mt_M_readHart.2.1 45 = .ok (.invokevirtual 104, 3) := by decide +kernel
theorem d_M_readHart_48 : decode mt_M_readHart.2.1 48 = .ok (.iastore, 1) := by decide +kernel
theorem d_M_readHart_49 : decode mt_M_readHart.2.1 49 = .ok (.aload_n 0, 1) := by decide +kernel
theorem d_M_readHart_50 : decode mt_M_readHart.2.1 50 = .ok (.bipush 48, 2) := by decide +kernel
theorem d_M_readHart_52 : decode mt_M_readHart.2.1 52 = .ok (.iconst 0, 1) := by decide +kernel
theorem d_M_readHart_53 : decode mt_M_readHart.2.1 53 = .ok (.iconst 2, 1) := by decide +kernel
theorem d_M_readHart_54 : decode mt_M_readHart.2.1 54 = .ok (.invokevirtual 100, 3) := by decide +kernel
theorem d_M_readHart_57 : decode mt_M_readHart.2.1 57 = .ok (.ifCond .ne 5, 3) := by decide +kernel
theorem d_M_readHart_60 : decode mt_M_readHart.2.1 60 = .ok (.iconst 0, 1) := by decide +kernel
theorem d_M_readHart_61 : decode mt_M_readHart.2.1 61 = .ok (.ireturn, 1) := by decide +kernel
theorem d_M_readHart_62 : decode mt_M_readHart.2.1 62 = .ok (.aload_n 0, 1) := by decide +kernel
theorem d_M_readHart_63 : decode mt_M_readHart.2.1 63 = .ok (.getfield 31, 3) := by decide +kernel
theorem d_M_readHart_66 : decode mt_M_readHart.2.1 66 = .ok (.aload_n 0, 1) := by decide +kernel
theorem d_M_readHart_67 : decode mt_M_readHart.2.1 67 = .ok (.getfield 107, 3) := by decide +kernel
theorem d_M_readHart_70 : decode mt_M_readHart.2.1 70 = .ok (.aload_n 0, 1) := by decide +kernel
theorem d_M_readHart_71 : decode mt_M_readHart.2.1 71 = .ok (.bipush 48, 2) := by decide +kernel
theorem d_M_readHart_73 : decode mt_M_readHart.2.1 73 = .ok (.invokevirtual 104, 3) := by decide +kernel
theorem d_M_readHart_76 : decode mt_M_readHart.2.1 76 = .ok (.iastore, 1) := by decide +kernel
theorem d_M_readHart_77 : decode mt_M_readHart.2.1 77 = .ok (.aload_n 0, 1) := by decide +kernel
theorem d_M_readHart_78 : decode mt_M_readHart.2.1 78 = .ok (.getfield 37, 3) := by decide +kernel
theorem d_M_readHart_81 : decode mt_M_readHart.2.1 81 = .ok (.bipush 8, 2) := by decide +kernel
theorem d_M_readHart_83 : decode mt_M_readHart.2.1 83 = .ok (.aload_n 0, 1) := by decide +kernel
theorem d_M_readHart_84 : decode mt_M_readHart.2.1 84 = .ok (.getfield 107, 3) := by decide +kernel
theorem d_M_readHart_87 : decode mt_M_readHart.2.1 87 = .ok (.imul, 1) := by decide +kernel
theorem d_M_readHart_88 : decode mt_M_readHart.2.1 88 = .ok (.aload_n 0, 1) := by decide +kernel
theorem d_M_readHart_89 : decode mt_M_readHart.2.1 89 = .ok (.getfield 28, 3) := by decide +kernel
theorem d_M_readHart_92 : decode mt_M_readHart.2.1 92 = .ok (.aload_n 0, 1) := by decide +kernel
theorem d_M_readHart_93 : decode mt_M_readHart.2.1 93 = .ok (.getfield 107, 3) := by decide +kernel
theorem d_M_readHart_96 : decode mt_M_readHart.2.1 96 = .ok (.iaload, 1) := by decide +kernel
theorem d_M_readHart_97 : decode mt_M_readHart.2.1 97 = .ok (.iastore, 1) := by decide +kernel
theorem d_M_readHart_98 : decode mt_M_readHart.2.1 98 = .ok (.aload_n 0, 1) := by decide +kernel
theorem d_M_readHart_99 : decode mt_M_readHart.2.1 99 = .ok (.dup, 1) := by decide +kernel
theorem d_M_readHart_100 : decode mt_M_readHart.2.1 100 = .ok (.getfield 107, 3) := by decide +kernel
theorem d_M_readHart_103 : decode mt_M_readHart.2.1 103 = .ok (.iconst 1, 1) := by decide +kernel
theorem d_M_readHart_104 : decode mt_M_readHart.2.1 104 = .ok (.iadd, 1) := by decide +kernel
theorem d_M_readHart_105 : decode mt_M_readHart.2.1 105 = .ok (.putfield 107, 3) := by decide +kernel
theorem d_M_readHart_108 : decode mt_M_readHart.2.1 108 = .ok (.iconst 1, 1) := by decide +kernel
theorem d_M_readHart_109 : decode mt_M_readHart.2.1 109 = .ok (.ireturn, 1) := by decide +kernel
theorem d_M_readTrigger_0 : decode mt_M_readTrigger.2.1 0 = .ok (.aload_n 0, 1) := by decide +kernel
theorem d_M_readTrigger_1 : decode mt_M_readTrigger.2.1 1 = .ok (.getfield 110, 3) := by decide +kernel
theorem d_M_readTrigger_4 : decode mt_M_readTrigger.2.1 4 = .ok (.bipush 6, 2) := by decide +kernel
theorem d_M_readTrigger_6 : decode mt_M_readTrigger.2.1 6 = .ok (.if_icmp .eq 10, 3) := by decide +kernel
theorem d_M_readTrigger_9 : decode mt_M_readTrigger.2.1 9 = .ok (.aload_n 0, 1) := by decide +kernel
theorem d_M_readTrigger_10 : decode mt_M_readTrigger.2.1 10 = .ok (.getfield 107, 3) := by decide +kernel
theorem d_M_readTrigger_13 : decode mt_M_readTrigger.2.1 13 = .ok (.ifCond .ne 5, 3) := by decide +kernel
theorem d_M_readTrigger_16 : decode mt_M_readTrigger.2.1 16 = .ok (.iconst 0, 1) := by decide +kernel
theorem d_M_readTrigger_17 : decode mt_M_readTrigger.2.1 17 = .ok (.ireturn, 1) := by decide +kernel
theorem d_M_readTrigger_18 : decode mt_M_readTrigger.2.1 18 = .ok (.aload_n 0, 1) := by decide +kernel
theorem d_M_readTrigger_19 : decode mt_M_readTrigger.2.1 19 = .ok (.dup, 1) := by decide +kernel
theorem d_M_readTrigger_20 : decode mt_M_readTrigger.2.1 20 = .ok (.getfield 90, 3) := by decide +kernel
theorem d_M_readTrigger_23 : decode mt_M_readTrigger.2.1 23 = .ok (.iconst 1, 1) := by decide +kernel
theorem d_M_readTrigger_24 : decode mt_M_readTrigger.2.1 24 = .ok (.iadd, 1) := by decide +kernel
theorem d_M_readTrigger_25 : decode mt_M_readTrigger.2.1 25 = .ok (.putfield 90, 3) := by decide +kernel
theorem d_M_readTrigger_28 : decode mt_M_readTrigger.2.1 28 = .ok (.bipush 40, 2) := by decide +kernel
theorem d_M_readTrigger_30 : decode mt_M_readTrigger.2.1 30 = .ok (.bipush 6, 2) := by decide +kernel
theorem d_M_readTrigger_32 : decode mt_M_readTrigger.2.1 32 = .ok (.aload_n 0, 1) := by decide +kernel
theorem d_M_readTrigger_33 : decode mt_M_readTrigger.2.1 33 = .ok (.getfield 110, 3) := by decide +kernel
theorem d_M_readTrigger_36 : decode mt_M_readTrigger.2.1 36 = .ok (.imul, 1) := by decide +kernel
theorem d_M_readTrigger_37 : decode mt_M_readTrigger.2.1 37 = .ok (.iadd, 1) := by decide +kernel
theorem d_M_readTrigger_38 : decode mt_M_readTrigger.2.1 38 = .ok (.istore_n 2, 1) := by decide +kernel
theorem d_M_readTrigger_39 : decode mt_M_readTrigger.2.1 39 = .ok (.aload_n 0, 1) := by decide +kernel
theorem d_M_readTrigger_40 : decode mt_M_readTrigger.2.1 40 = .ok (.bipush 48, 2) := by decide +kernel
theorem d_M_readTrigger_42 : decode mt_M_readTrigger.2.1 42 = .ok (.iconst 0, 1) := by decide +kernel
theorem d_M_readTrigger_43 : decode mt_M_readTrigger.2.1 43 = .ok (.aload_n 0, 1) := by decide +kernel
theorem d_M_readTrigger_44 : decode mt_M_readTrigger.2.1 44 = .ok (.getfield 107, 3) := by decide +kernel
theorem d_M_readTrigger_47 : decode mt_M_readTrigger.2.1 47 = .ok (.iconst 1, 1) := by decide +kernel
theorem d_M_readTrigger_48 : decode mt_M_readTrigger.2.1 48 = .ok (.isub, 1) := by decide +kernel
theorem d_M_readTrigger_49 : decode mt_M_readTrigger.2.1 49 = .ok (.invokevirtual 100, 3) := by decide +kernel
theorem d_M_readTrigger_52 : decode mt_M_readTrigger.2.1 52 = .ok (.ifCond .ne 5, 3) := by decide +kernel
theorem d_M_readTrigger_55 : decode mt_M_readTrigger.2.1 55 = .ok (.iconst 0, 1) := by decide +kernel
theorem d_M_readTrigger_56 : decode mt_M_readTrigger.2.1 56 = .ok (.ireturn, 1) := by decide +kernel
theorem d_M_readTrigger_57 : decode mt_M_readTrigger.2.1 57 = .ok (.aload_n 0, 1) := by decide +kernel
theorem d_M_readTrigger_58 : decode mt_M_readTrigger.2.1 58 = .ok (.getfield 34, 3) := by decide +kernel
theorem d_M_readTrigger_61 : decode mt_M_readTrigger.2.1 61 = .ok (.aload_n 0, 1) := by decide +kernel
theorem d_M_readTrigger_62 : decode mt_M_readTrigger.2.1 62 = .ok (.getfield 110, 3) := by decide +kernel
theorem d_M_readTrigger_65 : decode mt_M_readTrigger.2.1 65 = .ok (.aload_n 0, 1) := by decide +kernel
theorem d_M_readTrigger_66 : decode mt_M_readTrigger.2.1 66 = .ok (.bipush 48, 2) := by decide +kernel
theorem d_M_readTrigger_68 : decode mt_M_readTrigger.2.1 68 = .ok (.invokevirtual 104, 3) := by decide +kernel
theorem d_M_readTrigger_71 : decode mt_M_readTrigger.2.1 71 = .ok (.iastore, 1) := by decide +kernel
theorem d_M_readTrigger_72 : decode mt_M_readTrigger.2.1 72 = .ok (.aload_n 0, 1) := by decide +kernel
theorem d_M_readTrigger_73 : decode mt_M_readTrigger.2.1 73 = .ok (.getfield 90, 3) := by decide +kernel
theorem d_M_readTrigger_76 : decode mt_M_readTrigger.2.1 76 = .ok (.aload_n 0, 1) := by decide +kernel
theorem d_M_readTrigger_77 : decode mt_M_readTrigger.2.1 77 = .ok (.getfield 87, 3) := by decide +kernel
theorem d_M_readTrigger_80 : decode mt_M_readTrigger.2.1 80 = .ok (.if_icmp .eq 31, 3) := by decide +kernel
theorem d_M_readTrigger_83 : decode mt_M_readTrigger.2.1 83 = .ok (.aload_n 0, 1) := by decide +kernel
theorem d_M_readTrigger_84 : decode mt_M_readTrigger.2.1 84 = .ok (.getfield 7, 3) := by decide +kernel
theorem d_M_readTrigger_87 : decode mt_M_readTrigger.2.1 87 = .ok (.aload_n 0, 1) := by decide +kernel
theorem d_M_readTrigger_88 : decode mt_M_readTrigger.2.1 88 = .ok (.getfield 90, 3) := by decide +kernel
theorem d_M_readTrigger_91 : decode mt_M_readTrigger.2.1 91 = .ok (.iaload, 1) := by decide +kernel
theorem d_M_readTrigger_92 : decode mt_M_readTrigger.2.1 92 = .ok (.bipush 112, 2) := by decide +kernel
theorem d_M_readTrigger_94 : decode mt_M_readTrigger.2.1 94 = .ok (.if_icmp .eq 19, 3) := by decide +kernel
theorem d_M_readTrigger_97 : decode mt_M_readTrigger.2.1 97 = .ok (.aload_n 0, 1) := by decide +kernel
theorem d_M_readTrigger_98 : decode mt_M_readTrigger.2.1 98 = .ok (.getfield 7, 3) := by decide +kernel
theorem d_M_readTrigger_101 : decode mt_M_readTrigger.2.1 101 = .ok (.aload_n 0, 1) := by decide +kernel
theorem d_M_readTrigger_102 : decode mt_M_readTrigger.2.1 102 = .ok (.getfield 90, 3) := by decide +kernel
theorem d_M_readTrigger_105 : decode mt_M_readTrigger.2.1 105 = .ok (.iaload, 1) := by decide +kernel
theorem d_M_readTrigger_106 : decode mt_M_readTrigger.2.1 106 = .ok (.bipush 113, 2) := by decide +kernel
theorem d_M_readTrigger_108 : decode mt_M_readTrigger.2.1 108 = .ok (.if_icmp .eq 5, 3) := by decide +kernel
theorem d_M_readTrigger_111 : decode mt_M_readTrigger.2.1 111 = .ok (.iconst 0, 1) := by decide +kernel
theorem d_M_readTrigger_112 : decode mt_M_readTrigger.2.1 112 = .ok (.ireturn, 1) := by decide +kernel
theorem d_M_readTrigger_113 : decode mt_M_readTrigger.2.1 113 = .ok (.aload_n 0, 1) := by decide +kernel
theorem d_M_readTrigger_114 : decode mt_M_readTrigger.2.1 114 = .ok (.getfield 7, 3) := by decide +kernel
theorem d_M_readTrigger_117 : decode mt_M_readTrigger.2.1 117 = .ok (.aload_n 0, 1) := by decide +kernel
theorem d_M_readTrigger_118 : decode mt_M_readTrigger.2.1 118 = .ok (.getfield 90, 3) := by decide +kernel
theorem d_M_readTrigger_121 : decode mt_M_readTrigger.2.1 121 = .ok (.iaload, 1) := by decide +kernel
theorem d_M_readTrigger_122 : decode mt_M_readTrigger.2.1 122 = .ok (.bipush 112, 2) := by decide +kernel
theorem d_M_readTrigger_124 : decode mt_M_readTrigger.2.1 124 = .ok (.isub, 1) := by decide +kernel
theorem d_M_readTrigger_125 : decode mt_M_readTrigger.2.1 125 = .ok (.istore_n 3, 1) := by decide +kernel
theorem d_M_readTrigger_126 : decode mt_M_readTrigger.2.1 126 = .ok (.aload_n 0, 1) := by decide +kernel
theorem d_M_readTrigger_127 : decode mt_M_readTrigger.2.1 127 = .ok (.dup, 1) := by decide +kernel
theorem d_M_readTrigger_128 : decode mt_M_readTrigger.2.1 128 = .ok (.getfield 90, 3) := by decide +kernel
theorem d_M_readTrigger_131 : decode mt_M_readTrigger.2.1 131 = .ok (.iconst 1, 1) := by decide +kernel
theorem d_M_readTrigger_132 : decode mt_M_readTrigger.2.1 132 = .ok (.iadd, 1) := by decide +kernel
theorem d_M_readTrigger_133 : decode mt_M_readTrigger.2.1 133 = .ok (.putfield 90, 3) := by decide +kernel
theorem d_M_readTrigger_136 : decode mt_M_readTrigger.2.1 136 = .ok (.aload_n 0, 1) := by decide +kernel
theorem d_M_readTrigger_137 : decode mt_M_readTrigger.2.1 137 = .ok (.getfield 37, 3) := by decide +kernel
theorem d_M_readTrigger_140 : decode mt_M_readTrigger.2.1 140 = .ok (.iload_n 2, 1) := by decide +kernel
theorem d_M_readTrigger_141 : decode mt_M_readTrigger.2.1 141 = .ok (.iload_n 3, 1) := by decide +kernel
theorem d_M_readTrigger_142 : decode mt_M_readTrigger.2.1 142 = .ok (.iastore, 1) := by decide +kernel
theorem d_M_readTrigger_143 : decode mt_M_readTrigger.2.1 143 = .ok (.aload_n 0, 1) := by decide +kernel
theorem d_M_readTrigger_144 : decode mt_M_readTrigger.2.1 144 = .ok (.getfield 37, 3) := by decide +kernel
theorem d_M_readTrigger_147 : decode mt_M_readTrigger.2.1 147 = .ok (.iload_n 2, 1) := by decide +kernel
theorem d_M_readTrigger_148 : decode mt_M_readTrigger.2.1 148 = .ok (.iconst 2, 1) := by decide +kernel
theorem d_M_readTrigger_149 : decode mt_M_readTrigger.2.1 149 = .ok (.iadd, 1) := by decide +kernel
theorem d_M_readTrigger_150 : decode mt_M_readTrigger.2.1 150 = .ok (.iconst 0, 1) := by decide +kernel
theorem d_M_readTrigger_151 : decode mt_M_readTrigger.2.1 151 = .ok (.iastore, 1) := by decide +kernel
theorem d_M_readTrigger_152 : decode mt_M_readTrigger.2.1 152 = .ok (.iload_n 3, 1) := by decide +kernel
theorem d_M_readTrigger_153 : decode mt_M_readTrigger.2.1 153 = .ok (.ifCond .ne 18, 3) := by decide +kernel
theorem d_M_readTrigger_156 : decode mt_M_readTrigger.2.1 156 = .ok (.aload_n 0, 1) := by decide +kernel
theorem d_M_readTrigger_157 : decode mt_M_readTrigger.2.1 157 = .ok (.bipush 97, 2) := by decide +kernel
theorem d_M_readTrigger_159 : decode mt_M_readTrigger.2.1 159 = .ok (.iconst 0, 1) := by decide +kernel
theorem d_M_readTrigger_160 : decode mt_M_readTrigger.2.1 160 = .ok (.bipush 15, 2) := by decide +kernel
theorem d_M_readTrigger_162 : decode mt_M_readTrigger.2.1 162 = .ok (.invokevirtual 100, 3) := by decide +kernel
theorem d_M_readTrigger_165 : decode mt_M_readTrigger.2.1 165 = .ok (.ifCond .eq 17, 3) := by decide +kernel
theorem d_M_readTrigger_168 : decode mt_M_readTrigger.2.1 168 = .ok (.goto 16, 3) := by decide +kernel
theorem d_M_readTrigger_171 : decode mt_M_readTrigger.2.1 171 = .ok (.aload_n 0, 1) := by decide +kernel
theorem d_M_readTrigger_172 : decode mt_M_readTrigger.2.1 172 = .ok (.bipush 48, 2) := by decide +kernel
theorem d_M_readTrigger_174 : decode mt_M_readTrigger.2.1 174 = .ok (.iconst 0, 1) := by decide +kernel
theorem d_M_readTrigger_175 : decode mt_M_readTrigger.2.1 175 = .ok (.iconst 3, 1) := by decide +kernel
theorem d_M_readTrigger_176 : decode mt_M_readTrigger.2.1 176 = .ok (.invokevirtual 100, 3) := by decide +kernel
theorem d_M_readTrigger_179 : decode mt_M_readTrigger.2.1 179 = .ok (.ifCond .ne 5, 3) := by decide +kernel
theorem d_M_readTrigger_182 : decode mt_M_readTrigger.2.1 182 = .ok (.iconst 0, 1) := by decide +kernel
theorem d_M_readTrigger_183 : decode mt_M_readTrigger.2.1 183 = .ok (.ireturn, 1) := by decide +kernel
theorem d_M_readTrigger_184 : decode mt_M_readTrigger.2.1 184 = .ok (.aload_n 0, 1) := by decide +kernel
theorem d_M_readTrigger_185 : decode mt_M_readTrigger.2.1 185 = .ok (.getfield 37, 3) := by decide +kernel
theorem d_M_readTrigger_188 : decode mt_M_readTrigger.2.1 188 = .ok (.iload_n 2, 1) := by decide +kernel
theorem d_M_readTrigger_189 : decode mt_M_readTrigger.2.1 189 = .ok (.iconst 1, 1) := by decide +kernel
theorem d_M_readTrigger_190 : decode mt_M_readTrigger.2.1 190 = .ok (.iadd, 1) := by decide +kernel
theorem d_M_readTrigger_191 : decode mt_M_readTrigger.2.1 191 = .ok (.aload_n 0, 1) := by decide +kernel
theorem d_M_readTrigger_192 : decode mt_M_readTrigger.2.1 192 = .ok (.iload_n 3, 1) := by decide +kernel
theorem d_M_readTrigger_193 : decode mt_M_readTrigger.2.1 193 = .ok (.ifCond .ne 8, 3) := by decide +kernel
theorem d_M_readTrigger_196 : decode mt_M_readTrigger.2.1 196 = .ok (.bipush 97, 2) := by decide +kernel
theorem d_M_readTrigger_198 : decode mt_M_readTrigger.2.1 198 = .ok (.goto 5, 3) := by decide +kernel
theorem d_M_readTrigger_201 : decode mt_M_readTrigger.2.1 201 = .ok (.bipush 48, 2) := by decide +kernel
theorem d_M_readTrigger_203 : decode mt_M_readTrigger.2.1 203 = .ok (.invokevirtual 104, 3) := by decide +kernel
theorem d_M_readTrigger_206 : decode mt_M_readTrigger.2.1 206 = .ok (.iastore, 1) := by decide +kernel
theorem d_M_readTrigger_207 : decode mt_M_readTrigger.2.1 207 = .ok (.iconst 0, 1) := by decide +kernel
theorem d_M_readTrigger_208 : decode mt_M_readTrigger.2.1 208 = .ok (.istore 4, 2) := by decide +kernel
theorem d_M_readTrigger_210 : decode mt_M_readTrigger.2.1 210 = .ok (.iload 4, 2) := by decide +kernel
theorem d_M_readTrigger_212 : decode mt_M_readTrigger.2.1 212 = .ok (.iconst 3, 1) := by decide +kernel
theorem d_M_readTrigger_213 : decode mt_M_readTrigger.2.1 213 = .ok (.iload_n 3, 1) := by decide +kernel
theorem d_M_readTrigger_214 : decode mt_M_readTrigger.2.1 214 = .ok (.imul, 1) := by decide +kernel
theorem d_M_readTrigger_215 : decode mt_M_readTrigger.2.1 215 = .ok (.if_icmp .ge 49, 3) := by decide +kernel
theorem d_M_readTrigger_218 : decode mt_M_readTrigger.2.1 218 = .ok (.aload_n 0, 1) := by decide +kernel
theorem d_M_readTrigger_219 : decode mt_M_readTrigger.2.1 219 = .ok (.bipush 48, 2) := by decide +kernel
theorem d_M_readTrigger_221 : decode mt_M_readTrigger.2.1 221 = .ok (.iconst 0, 1) := by decide +kernel
theorem d_M_readTrigger_222 : decode mt_M_readTrigger.2.1 222 = .ok (.bipush 9, 2) := by decide +kernel
theorem d_M_readTrigger_224 : decode mt_M_readTrigger.2.1 224 = .ok (.invokevirtual 100, 3) := by decide +kernel
theorem d_M_readTrigger_227 : decode mt_M_readTrigger.2.1 227 = .ok (.ifCond .ne 5, 3) := by decide +kernel
theorem d_M_readTrigger_230 : decode mt_M_readTrigger.2.1 230 = .ok (.iconst 0, 1) := by decide +kernel
theorem d_M_readTrigger_231 : decode mt_M_readTrigger.2.1 231 = .ok (.ireturn, 1) := by decide +kernel
theorem d_M_readTrigger_232 : decode mt_M_readTrigger.2.1 232 = .ok (.aload_n 0, 1) := by decide +kernel
theorem d_M_readTrigger_233 : decode mt_M_readTrigger.2.1 233 = .ok (.getfield 37, 3) := by decide +kernel
theorem d_M_readTrigger_236 : decode mt_M_readTrigger.2.1 236 = .ok (.iload_n 2, 1) := by decide +kernel
theorem d_M_readTrigger_237 : decode mt_M_readTrigger.2.1 237 = .ok (.iconst 2, 1) := by decide +kernel
theorem d_M_readTrigger_238 : decode mt_M_readTrigger.2.1 238 = .ok (.iadd, 1) := by decide +kernel
theorem d_M_readTrigger_239 : decode mt_M_readTrigger.2.1 239 = .ok (.bipush 10, 2) := by decide +kernel
theorem d_M_readTrigger_241 : decode mt_M_readTrigger.2.1 241 = .ok (.aload_n 0, 1) := by decide +kernel
theorem d_M_readTrigger_242 : decode mt_M_readTrigger.2.1 242 = .ok (.getfield 37, 3) := by decide +kernel
theorem d_M_readTrigger_245 : decode mt_M_readTrigger.2.1 245 = .ok (.iload_n 2, 1) := by decide +kernel
theorem d_M_readTrigger_246 : decode mt_M_readTrigger.2.1 246 = .ok (.iconst 2, 1) := by decide +kernel
theorem d_M_readTrigger_247 : decode mt_M_readTrigger.2.1 247 = .ok (.iadd, 1) := by decide +kernel
theorem d_M_readTrigger_248 : decode mt_M_readTrigger.2.1 248 = .ok (.iaload, 1) := by decide +kernel
theorem d_M_readTrigger_249 : decode mt_M_readTrigger.2.1 249 = .ok (.imul, 1) := by decide +kernel
theorem d_M_readTrigger_250 : decode mt_M_readTrigger.2.1 250 = .ok (.aload_n 0, 1) := by decide +kernel
theorem d_M_readTrigger_251 : decode mt_M_readTrigger.2.1 251 = .ok (.bipush 48, 2) := by decide +kernel
theorem d_M_readTrigger_253 : decode mt_M_readTrigger.2.1 253 = .ok (.invokevirtual 104, 3) := by decide +kernel
theorem d_M_readTrigger_256 : decode mt_M_readTrigger.2.1 256 = .ok (.iadd, 1) := by decide +kernel
theorem d_M_readTrigger_257 : decode mt_M_readTrigger.2.1 257 = .ok (.iastore, 1) := by decide +kernel
theorem d_M_readTrigger_258 : decode mt_M_readTrigger.2.1 258 = .ok (.iinc 4 1, 3) := by decide +kernel
theorem d_M_readTrigger_261 : decode mt_M_readTrigger.2.1 261 = .ok (.goto (-51), 3) := by decide +kernel
theorem d_M_readTrigger_264 : decode mt_M_readTrigger.2.1 264 = .ok (.aload_n 0, 1) := by decide +kernel
theorem d_M_readTrigger_265 : decode mt_M_readTrigger.2.1 265 = .ok (.bipush 48, 2) := by decide +kernel
theorem d_M_readTrigger_267 : decode mt_M_readTrigger.2.1 267 = .ok (.iconst 1, 1) := by decide +kernel
theorem d_M_readTrigger_268 : decode mt_M_readTrigger.2.1 268 = .ok (.bipush 9, 2) := by decide +kernel
theorem d_M_readTrigger_270 : decode mt_M_readTrigger.2.1 270 = .ok (.invokevirtual 100, 3) := by decide +kernel
theorem d_M_readTrigger_273 : decode mt_M_readTrigger.2.1 273 = .ok (.ifCond .ne 5, 3) := by decide +kernel
theorem d_M_readTrigger_276 : decode mt_M_readTrigger.2.1 276 = .ok (.iconst 0, 1) := by decide +kernel
theorem d_M_readTrigger_277 : decode mt_M_readTrigger.2.1 277 = .ok (.ireturn, 1) := by decide +kernel
theorem d_M_readTrigger_278 : decode mt_M_readTrigger.2.1 278 = .ok (.aload_n 0, 1) := by decide +kernel
theorem d_M_readTrigger_279 : decode mt_M_readTrigger.2.1 279 = .ok (.getfield 37, 3) := by decide +kernel
theorem d_M_readTrigger_282 : decode mt_M_readTrigger.2.1 282 = .ok (.iload_n 2, 1) := by decide +kernel
theorem d_M_readTrigger_283 : decode mt_M_readTrigger.2.1 283 = .ok (.iconst 3, 1) := by decide +kernel
theorem d_M_readTrigger_284 : decode mt_M_readTrigger.2.1 284 = .ok (.iadd, 1) := by decide +kernel
theorem d_M_readTrigger_285 : decode mt_M_readTrigger.2.1 285 = .ok (.aload_n 0, 1) := by decide +kernel
theorem d_M_readTrigger_286 : decode mt_M_readTrigger.2.1 286 = .ok (.bipush 48, 2) := by decide +kernel
theorem d_M_readTrigger_288 : decode mt_M_readTrigger.2.1 288 = .ok (.invokevirtual 104, 3) := by decide +kernel
theorem d_M_readTrigger_291 : decode mt_M_readTrigger.2.1 291 = .ok (.iastore, 1) := by decide +kernel
theorem d_M_readTrigger_292 : decode mt_M_readTrigger.2.1 292 = .ok (.aload_n 0, 1) := by decide +kernel
theorem d_M_readTrigger_293 : decode mt_M_readTrigger.2.1 293 = .ok (.getfield 37, 3) := by decide +kernel
theorem d_M_readTrigger_296 : decode mt_M_readTrigger.2.1 296 = .ok (.iload_n 2, 1) := by decide +kernel
theorem d_M_readTrigger_297 : decode mt_M_readTrigger.2.1 297 = .ok (.iconst 4, 1) := by decide +kernel
theorem d_M_readTrigger_298 : decode mt_M_readTrigger.2.1 298 = .ok (.iadd, 1) := by decide +kernel
theorem d_M_readTrigger_299 : decode mt_M_readTrigger.2.1 299 = .ok (.aload_n 0, 1) := by decide +kernel
theorem d_M_readTrigger_300 : decode mt_M_readTrigger.2.1 300 = .ok (.bipush 48, 2) := by decide +kernel
theorem d_M_readTrigger_302 : decode mt_M_readTrigger.2.1 302 = .ok (.invokevirtual 104, 3) := by decide +kernel
theorem d_M_readTrigger_305 : decode mt_M_readTrigger.2.1 305 = .ok (.iastore, 1) := by decide +kernel
theorem d_M_readTrigger_306 : decode mt_M_readTrigger.2.1 306 = .ok (.aload_n 0, 1) := by decide +kernel
theorem d_M_readTrigger_307 : decode mt_M_readTrigger.2.1 307 = .ok (.getfield 37, 3) := by decide +kernel
theorem d_M_readTrigger_310 : decode mt_M_readTrigger.2.1 310 = .ok (.iload_n 2, 1) := by decide +kernel
theorem d_M_readTrigger_311 : decode mt_M_readTrigger.2.1 311 = .ok (.iconst 5, 1) := by decide +kernel
theorem d_M_readTrigger_312 : decode mt_M_readTrigger.2.1 312 = .ok (.iadd, 1) := by decide +kernel
theorem d_M_readTrigger_313 : decode mt_M_readTrigger.2.1 313 = .ok (.iload_n 1, 1) := by decide +kernel
theorem d_M_readTrigger_314 : decode mt_M_readTrigger.2.1 314 = .ok (.ifCond .eq 7, 3) := by decide +kernel
theorem d_M_readTrigger_317 : decode mt_M_readTrigger.2.1 317 = .ok (.iconst 1, 1) := by decide +kernel
theorem d_M_readTrigger_318 : decode mt_M_readTrigger.2.1 318 = .ok (.goto 4, 3) := by decide +kernel
theorem d_M_readTrigger_321 : decode mt_M_readTrigger.2.1 321 = .ok (.iconst 0, 1) := by decide +kernel
theorem d_M_readTrigger_322 : decode mt_M_readTrigger.2.1 322 = .ok (.iastore, 1) := by decide +kernel
theorem d_M_readTrigger_323 : decode mt_M_readTrigger.2.1 323 = .ok (.aload_n 0, 1) := by decide +kernel
theorem d_M_readTrigger_324 : decode mt_M_readTrigger.2.1 324 = .ok (.dup, 1) := by decide +kernel
theorem d_M_readTrigger_325 : decode mt_M_readTrigger.2.1 325 = .ok (.getfield 110, 3) := by decide +kernel
theorem d_M_readTrigger_328 : decode mt_M_readTrigger.2.1 328 = .ok (.iconst 1, 1) := by decide +kernel
theorem d_M_readTrigger_329 : decode mt_M_readTrigger.2.1 329 = .ok (.iadd, 1) := by decide +kernel
theorem d_M_readTrigger_330 : decode mt_M_readTrigger.2.1 330 = .ok (.putfield 110, 3) := by decide +kernel
theorem d_M_readTrigger_333 : decode mt_M_readTrigger.2.1 333 = .ok (.iconst 1, 1) := by decide +kernel
theorem d_M_readTrigger_334 : decode mt_M_readTrigger.2.1 334 = .ok (.ireturn, 1) := by decide +kernel
theorem d_M_board_0 : decode mt_M_board.2.1 0 = .ok (.aload_n 0, 1) := by decide +kernel
theorem d_M_board_1 : decode mt_M_board.2.1 1 = .ok (.iconst 0, 1) := by decide +kernel
theorem d_M_board_2 : decode mt_M_board.2.1 2 = .ok (.putfield 75, 3) := by decide +kernel
theorem d_M_board_5 : decode mt_M_board.2.1 5 = .ok (.aload_n 0, 1) := by decide +kernel
theorem d_M_board_6 : decode mt_M_board.2.1 6 = .ok (.invokevirtual 127, 3) := by decide +kernel
theorem d_M_board_9 : decode mt_M_board.2.1 9 = .ok (.bipush (-9), 2) := by decide +kernel
theorem d_M_board_11 : decode mt_M_board.2.1 11 = .ok (.if_icmp .eq 6, 3) := by decide +kernel
theorem d_M_board_14 : decode mt_M_board.2.1 14 = .ok (.bipush (-3), 2) := by decide +kernel
theorem d_M_board_16 : decode mt_M_board.2.1 16 = .ok (.ireturn, 1) := by decide +kernel
theorem d_M_board_17 : decode mt_M_board.2.1 17 = .ok (.aload_n 0, 1) := by decide +kernel
theorem d_M_board_18 : decode mt_M_board.2.1 18 = .ok (.getfield 40, 3) := by decide +kernel
theorem d_M_board_21 : decode mt_M_board.2.1 21 = .ok (.aload_n 0, 1) := by decide +kernel
theorem d_M_board_22 : decode mt_M_board.2.1 22 = .ok (.getfield 37, 3) := by decide +kernel
theorem d_M_board_25 : decode mt_M_board.2.1 25 = .ok (.invokestatic 131, 3) := by decide +kernel
theorem d_M_board_28 : decode mt_M_board.2.1 28 = .ok (.aload_n 0, 1) := by decide +kernel
theorem d_M_board_29 : decode mt_M_board.2.1 29 = .ok (.aload_n 0, 1) := by decide +kernel
theorem d_M_board_30 : decode mt_M_board.2.1 30 = .ok (.getfield 93, 3) := by decide +kernel
theorem d_M_board_33 : decode mt_M_board.2.1 33 = .ok (.putfield 135, 3) := by decide +kernel
theorem d_M_board_36 : decode mt_M_board.2.1 36 = .ok (.aload_n 0, 1) := by decide +kernel
theorem d_M_board_37 : decode mt_M_board.2.1 37 = .ok (.aload_n 0, 1) := by decide +kernel
theorem d_M_board_38 : decode mt_M_board.2.1 38 = .ok (.getfield 107, 3) := by decide +kernel
theorem d_M_board_41 : decode mt_M_board.2.1 41 = .ok (.putfield 78, 3) := by decide +kernel
theorem d_M_board_44 : decode mt_M_board.2.1 44 = .ok (.aload_n 0, 1) := by decide +kernel
theorem d_M_board_45 : decode mt_M_board.2.1 45 = .ok (.aload_n 0, 1) := by decide +kernel
theorem d_M_board_46 : decode mt_M_board.2.1 46 = .ok (.getfield 110, 3) := by decide +kernel
theorem d_M_board_49 : decode mt_M_board.2.1 49 = .ok (.putfield 138, 3) := by decide +kernel
theorem d_M_board_52 : decode mt_M_board.2.1 52 = .ok (.iconst 0, 1) := by decide +kernel
theorem d_M_board_53 : decode mt_M_board.2.1 53 = .ok (.istore_n 1, 1) := by decide +kernel
theorem d_M_board_54 : decode mt_M_board.2.1 54 = .ok (.iload_n 1, 1) := by decide +kernel
theorem d_M_board_55 : decode mt_M_board.2.1 55 = .ok (.bipush 16, 2) := by decide +kernel
theorem d_M_board_57 : decode mt_M_board.2.1 57 = .ok (.if_icmp .ge 21, 3) := by decide +kernel
theorem d_M_board_60 : decode mt_M_board.2.1 60 = .ok (.aload_n 0, 1) := by decide +kernel
theorem d_M_board_61 : decode mt_M_board.2.1 61 = .ok (.getfield 13, 3) := by decide +kernel
theorem d_M_board_64 : decode mt_M_board.2.1 64 = .ok (.iload_n 1, 1) := by decide +kernel
theorem d_M_board_65 : decode mt_M_board.2.1 65 = .ok (.aload_n 0, 1) := by decide +kernel
theorem d_M_board_66 : decode mt_M_board.2.1 66 = .ok (.getfield 25, 3) := by decide +kernel
theorem d_M_board_69 : decode mt_M_board.2.1 69 = .ok (.iload_n 1, 1) := by decide +kernel
theorem d_M_board_70 : decode mt_M_board.2.1 70 = .ok (.iaload, 1) := by decide +kernel
theorem d_M_board_71 : decode mt_M_board.2.1 71 = .ok (.iastore, 1) := by decide +kernel
theorem d_M_board_72 : decode mt_M_board.2.1 72 = .ok (.iinc 1 1, 3) := by decide +kernel
theorem d_M_board_75 : decode mt_M_board.2.1 75 = .ok (.goto (-21), 3) := by decide +kernel
theorem d_M_board_78 : decode mt_M_board.2.1 78 = .ok (.iconst 0, 1) := by decide +kernel
theorem d_M_board_79 : decode mt_M_board.2.1 79 = .ok (.istore_n 1, 1) := by decide +kernel
theorem d_M_board_80 : decode mt_M_board.2.1 80 = .ok (.iload_n 1, 1) := by decide +kernel
theorem d_M_board_81 : decode mt_M_board.2.1 81 = .ok (.iconst 4, 1) := by decide +kernel
theorem d_M_board_82 : decode mt_M_board.2.1 82 = .ok (.if_icmp .ge 33, 3) := by decide +kernel
theorem d_M_board_85 : decode mt_M_board.2.1 85 = .ok (.aload_n 0, 1) := by decide +kernel
theorem d_M_board_86 : decode mt_M_board.2.1 86 = .ok (.getfield 16, 3) := by decide +kernel
theorem d_M_board_89 : decode mt_M_board.2.1 89 = .ok (.iload_n 1, 1) := by decide +kernel
theorem d_M_board_90 : decode mt_M_board.2.1 90 = .ok (.aload_n 0, 1) := by decide +kernel
theorem d_M_board_91 : decode mt_M_board.2.1 91 = .ok (.getfield 28, 3) := by decide +kernel
theorem d_M_board_94 : decode mt_M_board.2.1 94 = .ok (.iload_n 1, 1) := by decide +kernel
theorem d_M_board_95 : decode mt_M_board.2.1 95 = .ok (.iaload, 1) := by decide +kernel
theorem d_M_board_96 : decode mt_M_board.2.1 96 = .ok (.iastore, 1) := by decide +kernel
theorem d_M_board_97 : decode mt_M_board.2.1 97 = .ok (.aload_n 0, 1) := by decide +kernel
theorem d_M_board_98 : decode mt_M_board.2.1 98 = .ok (.getfield 19, 3) := by decide +kernel
theorem d_M_board_101 : decode mt_M_board.2.1 101 = .ok (.iload_n 1, 1) := by decide +kernel
theorem d_M_board_102 : decode mt_M_board.2.1 102 = .ok (.aload_n 0, 1) := by decide +kernel
theorem d_M_board_103 : decode mt_M_board.2.1 103 = .ok (.getfield 31, 3) := by decide +kernel
theorem d_M_board_106 : decode mt_M_board.2.1 106 = .ok (.iload_n 1, 1) := by decide +kernel
theorem d_M_board_107 : decode mt_M_board.2.1 107 = .ok (.iaload, 1) := by decide +kernel
theorem d_M_board_108 : decode mt_M_board.2.1 108 = .ok (.iastore, 1) := by decide +kernel
theorem d_M_board_109 : decode mt_M_board.2.1 109 = .ok (.iinc 1 1, 3) := by decide +kernel
theorem d_M_board_112 : decode mt_M_board.2.1 112 = .ok (.goto (-32), 3) := by decide +kernel
theorem d_M_board_115 : decode mt_M_board.2.1 115 = .ok (.iconst 0, 1) := by decide +kernel
theorem d_M_board_116 : decode mt_M_board.2.1 116 = .ok (.istore_n 1, 1) := by decide +kernel
theorem d_M_board_117 : decode mt_M_board.2.1 117 = .ok (.iload_n 1, 1) := by decide +kernel
theorem d_M_board_118 : decode mt_M_board.2.1 118 = .ok (.bipush 6, 2) := by decide +kernel
theorem d_M_board_120 : decode mt_M_board.2.1 120 = .ok (.if_icmp .ge 21, 3) := by decide +kernel
theorem d_M_board_123 : decode mt_M_board.2.1 123 = .ok (.aload_n 0, 1) := by decide +kernel
theorem d_M_board_124 : decode mt_M_board.2.1 124 = .ok (.getfield 22, 3) := by decide +kernel
theorem d_M_board_127 : decode mt_M_board.2.1 127 = .ok (.iload_n 1, 1) := by decide +kernel
theorem d_M_board_128 : decode mt_M_board.2.1 128 = .ok (.aload_n 0, 1) := by decide +kernel
theorem d_M_board_129 : decode mt_M_board.2.1 129 = .ok (.getfield 34, 3) := by decide +kernel
theorem d_M_board_132 : decode mt_M_board.2.1 132 = .ok (.iload_n 1, 1) := by decide +kernel
theorem d_M_board_133 : decode mt_M_board.2.1 133 = .ok (.iaload, 1) := by decide +kernel
theorem d_M_board_134 : decode mt_M_board.2.1 134 = .ok (.iastore, 1) := by decide +kernel
theorem d_M_board_135 : decode mt_M_board.2.1 135 = .ok (.iinc 1 1, 3) := by decide +kernel
theorem d_M_board_138 : decode mt_M_board.2.1 138 = .ok (.goto (-21), 3) := by decide +kernel
theorem d_M_board_141 : decode mt_M_board.2.1 141 = .ok (.aload_n 0, 1) := by decide +kernel
theorem d_M_board_142 : decode mt_M_board.2.1 142 = .ok (.iconst 0, 1) := by decide +kernel
theorem d_M_board_143 : decode mt_M_board.2.1 143 = .ok (.putfield 141, 3) := by decide +kernel
theorem d_M_board_146 : decode mt_M_board.2.1 146 = .ok (.aload_n 0, 1) := by decide +kernel
theorem d_M_board_147 : decode mt_M_board.2.1 147 = .ok (.getfield 55, 3) := by decide +kernel
theorem d_M_board_150 : decode mt_M_board.2.1 150 = .ok (.iconst 0, 1) := by decide +kernel
theorem d_M_board_151 : decode mt_M_board.2.1 151 = .ok (.iconst 0, 1) := by decide +kernel
theorem d_M_board_152 : decode mt_M_board.2.1 152 = .ok (.bastore, 1) := by decide +kernel
theorem d_M_board_153 : decode mt_M_board.2.1 153 = .ok (.aload_n 0, 1) := by decide +kernel
theorem d_M_board_154 : decode mt_M_board.2.1 154 = .ok (.getfield 55, 3) := by decide +kernel
theorem d_M_board_157 : decode mt_M_board.2.1 157 = .ok (.iconst 1, 1) := by decide +kernel
theorem d_M_board_158 : decode mt_M_board.2.1 158 = .ok (.iconst 0, 1) := by decide +kernel
theorem d_M_board_159 : decode mt_M_board.2.1 159 = .ok (.bastore, 1) := by decide +kernel
theorem d_M_board_160 : decode mt_M_board.2.1 160 = .ok (.aload_n 0, 1) := by decide +kernel
theorem d_M_board_161 : decode mt_M_board.2.1 161 = .ok (.getfield 78, 3) := by decide +kernel
theorem d_M_board_164 : decode mt_M_board.2.1 164 = .ok (.ireturn, 1) := by decide +kernel
theorem d_M_lay_0 : decode mt_M_lay.2.1 0 = .ok (.iconst 0, 1) := by decide +kernel
theorem d_M_lay_1 : decode mt_M_lay.2.1 1 = .ok (.istore_n 2, 1) := by decide +kernel
theorem d_M_lay_2 : decode mt_M_lay.2.1 2 = .ok (.iload_n 2, 1) := by decide +kernel
theorem d_M_lay_3 : decode mt_M_lay.2.1 3 = .ok (.sipush 165, 3) := by decide +kernel
theorem d_M_lay_6 : decode mt_M_lay.2.1 6 = .ok (.if_icmp .ge 15, 3) := by decide +kernel
theorem d_M_lay_9 : decode mt_M_lay.2.1 9 = .ok (.aload_n 0, 1) := by decide +kernel
theorem d_M_lay_10 : decode mt_M_lay.2.1 10 = .ok (.iload_n 2, 1) := by decide +kernel
theorem d_M_lay_11 : decode mt_M_lay.2.1 11 = .ok (.aload_n 1, 1) := by decide +kernel
theorem d_M_lay_12 : decode mt_M_lay.2.1 12 = .ok (.iload_n 2, 1) := by decide +kernel
theorem d_M_lay_13 : decode mt_M_lay.2.1 13 = .ok (.iaload, 1) := by decide +kernel
theorem d_M_lay_14 : decode mt_M_lay.2.1 14 = .ok (.iastore, 1) := by decide +kernel
theorem d_M_lay_15 : decode mt_M_lay.2.1 15 = .ok (.iinc 2 1, 3) := by decide +kernel
theorem d_M_lay_18 : decode mt_M_lay.2.1 18 = .ok (.goto (-16), 3) := by decide +kernel
theorem d_M_lay_21 : decode mt_M_lay.2.1 21 = .ok (.return_, 1) := by decide +kernel
theorem d_M_hart_0 : decode mt_M_hart.2.1 0 = .ok (.aload_n 0, 1) := by decide +kernel
theorem d_M_hart_1 : decode mt_M_hart.2.1 1 = .ok (.iconst 0, 1) := by decide +kernel
theorem d_M_hart_2 : decode mt_M_hart.2.1 2 = .ok (.putfield 75, 3) := by decide +kernel
theorem d_M_hart_5 : decode mt_M_hart.2.1 5 = .ok (.aload_n 0, 1) := by decide +kernel
theorem d_M_hart_6 : decode mt_M_hart.2.1 6 = .ok (.iload_n 1, 1) := by decide +kernel
theorem d_M_hart_7 : decode mt_M_hart.2.1 7 = .ok (.invokevirtual 206, 3) := by decide +kernel
theorem d_M_hart_10 : decode mt_M_hart.2.1 10 = .ok (.ifCond .eq 5, 3) := by decide +kernel
theorem d_M_hart_13 : decode mt_M_hart.2.1 13 = .ok (.iconst (-1), 1) := by decide +kernel
theorem d_M_hart_14 : decode mt_M_hart.2.1 14 = .ok (.ireturn, 1) := by decide +kernel
theorem d_M_hart_15 : decode mt_M_hart.2.1 15 = .ok (.iload_n 2, 1) := by decide +kernel
theorem d_M_hart_16 : decode mt_M_hart.2.1 16 = .ok (.i2l, 1) := by decide +kernel
theorem d_M_hart_17 : decode mt_M_hart.2.1 17 = .ok (.lconst 0, 1) := by decide +kernel
theorem d_M_hart_18 : decode mt_M_hart.2.1 18 = .ok (.ldc2_w 210, 3) := by decide +kernel
theorem d_M_hart_21 : decode mt_M_hart.2.1 21 = .ok (.invokestatic 81, 3) := by decide +kernel
theorem d_M_hart_24 : decode mt_M_hart.2.1 24 = .ok (.ifCond .eq 16, 3) := by decide +kernel
theorem d_M_hart_27 : decode mt_M_hart.2.1 27 = .ok (.aload_n 0, 1) := by decide +kernel
theorem d_M_hart_28 : decode mt_M_hart.2.1 28 = .ok (.aload_n 0, 1) := by decide +kernel
theorem d_M_hart_29 : decode mt_M_hart.2.1 29 = .ok (.getfield 40, 3) := by decide +kernel
theorem d_M_hart_32 : decode mt_M_hart.2.1 32 = .ok (.iload_n 1, 1) := by decide +kernel
theorem d_M_hart_33 : decode mt_M_hart.2.1 33 = .ok (.iload_n 2, 1) := by decide +kernel
theorem d_M_hart_34 : decode mt_M_hart.2.1 34 = .ok (.invokevirtual 212, 3) := by decide +kernel
theorem d_M_hart_37 : decode mt_M_hart.2.1 37 = .ok (.goto 5, 3) := by decide +kernel
theorem d_M_hart_40 : decode mt_M_hart.2.1 40 = .ok (.bipush (-2), 2) := by decide +kernel
theorem d_M_hart_42 : decode mt_M_hart.2.1 42 = .ok (.ireturn, 1) := by decide +kernel
theorem d_M_noHart_0 : decode mt_M_noHart.2.1 0 = .ok (.iload_n 1, 1) := by decide +kernel
theorem d_M_noHart_1 : decode mt_M_noHart.2.1 1 = .ok (.i2l, 1) := by decide +kernel
theorem d_M_noHart_2 : decode mt_M_noHart.2.1 2 = .ok (.lconst 0, 1) := by decide +kernel
theorem d_M_noHart_3 : decode mt_M_noHart.2.1 3 = .ok (.aload_n 0, 1) := by decide +kernel
theorem d_M_noHart_4 : decode mt_M_noHart.2.1 4 = .ok (.getfield 78, 3) := by decide +kernel
theorem d_M_noHart_7 : decode mt_M_noHart.2.1 7 = .ok (.iconst 1, 1) := by decide +kernel
theorem d_M_noHart_8 : decode mt_M_noHart.2.1 8 = .ok (.isub, 1) := by decide +kernel
theorem d_M_noHart_9 : decode mt_M_noHart.2.1 9 = .ok (.i2l, 1) := by decide +kernel
theorem d_M_noHart_10 : decode mt_M_noHart.2.1 10 = .ok (.invokestatic 81, 3) := by decide +kernel
theorem d_M_noHart_13 : decode mt_M_noHart.2.1 13 = .ok (.ifCond .ne 7, 3) := by decide +kernel
theorem d_M_noHart_16 : decode mt_M_noHart.2.1 16 = .ok (.iconst 1, 1) := by decide +kernel
theorem d_M_noHart_17 : decode mt_M_noHart.2.1 17 = .ok (.goto 4, 3) := by decide +kernel
theorem d_M_noHart_20 : decode mt_M_noHart.2.1 20 = .ok (.iconst 0, 1) := by decide +kernel
theorem d_M_noHart_21 : decode mt_M_noHart.2.1 21 = .ok (.ireturn, 1) := by decide +kernel
theorem d_M_tellHart_0 : decode mt_M_tellHart.2.1 0 = .ok (.iload_n 3, 1) := by decide +kernel
theorem d_M_tellHart_1 : decode mt_M_tellHart.2.1 1 = .ok (.bipush 8, 2) := by decide +kernel
theorem d_M_tellHart_3 : decode mt_M_tellHart.2.1 3 = .ok (.if_icmp .ge 12, 3) := by decide +kernel
theorem d_M_tellHart_6 : decode mt_M_tellHart.2.1 6 = .ok (.aload_n 1, 1) := by decide +kernel
theorem d_M_tellHart_7 : decode mt_M_tellHart.2.1 7 = .ok (.iload_n 2, 1) := by decide +kernel
theorem d_M_tellHart_8 : decode mt_M_tellHart.2.1 8 = .ok (.iload_n 3, 1) := by decide +kernel
theorem d_M_tellHart_9 : decode mt_M_tellHart.2.1 9 = .ok (.invokestatic 202, 3) := by decide +kernel
theorem d_M_tellHart_12 : decode mt_M_tellHart.2.1 12 = .ok (.goto 24, 3) := by decide +kernel
theorem d_M_tellHart_15 : decode mt_M_tellHart.2.1 15 = .ok (.iload_n 3, 1) := by decide +kernel
theorem d_M_tellHart_16 : decode mt_M_tellHart.2.1 16 = .ok (.bipush 8, 2) := by decide +kernel
theorem d_M_tellHart_18 : decode mt_M_tellHart.2.1 18 = .ok (.if_icmp .ne 12, 3) := by decide +kernel
theorem d_M_tellHart_21 : decode mt_M_tellHart.2.1 21 = .ok (.aload_n 0, 1) := by decide +kernel
theorem d_M_tellHart_22 : decode mt_M_tellHart.2.1 22 = .ok (.getfield 19, 3) := by decide +kernel
theorem d_M_tellHart_25 : decode mt_M_tellHart.2.1 25 = .ok (.iload_n 2, 1) := by decide +kernel
theorem d_M_tellHart_26 : decode mt_M_tellHart.2.1 26 = .ok (.iaload, 1) := by decide +kernel
theorem d_M_tellHart_27 : decode mt_M_tellHart.2.1 27 = .ok (.goto 9, 3) := by decide +kernel
theorem d_M_tellHart_30 : decode mt_M_tellHart.2.1 30 = .ok (.aload_n 0, 1) := by decide +kernel
theorem d_M_tellHart_31 : decode mt_M_tellHart.2.1 31 = .ok (.getfield 16, 3) := by decide +kernel
theorem d_M_tellHart_34 : decode mt_M_tellHart.2.1 34 = .ok (.iload_n 2, 1) := by decide +kernel
theorem d_M_tellHart_35 : decode mt_M_tellHart.2.1 35 = .ok (.iaload, 1) := by decide +kernel
theorem d_M_tellHart_36 : decode mt_M_tellHart.2.1 36 = .ok (.ireturn, 1) := by decide +kernel
theorem d_M_hartOf_0 : decode mt_M_hartOf.2.1 0 = .ok (.iload_n 2, 1) := by decide +kernel
theorem d_M_hartOf_1 : decode mt_M_hartOf.2.1 1 = .ok (.tableswitch 81 0 3 #[31, 38, 47, 56], 31) := by decide +kernel
theorem d_M_hartOf_32 : decode mt_M_hartOf.2.1 32 = .ok (.aload_n 0, 1) := by decide +kernel
theorem d_M_hartOf_33 : decode mt_M_hartOf.2.1 33 = .ok (.bipush 8, 2) := by decide +kernel
theorem d_M_hartOf_35 : decode mt_M_hartOf.2.1 35 = .ok (.iload_n 1, 1) := by decide +kernel
theorem d_M_hartOf_36 : decode mt_M_hartOf.2.1 36 = .ok (.imul, 1) := by decide +kernel
theorem d_M_hartOf_37 : decode mt_M_hartOf.2.1 37 = .ok (.iaload, 1) := by decide +kernel
theorem d_M_hartOf_38 : decode mt_M_hartOf.2.1 38 = .ok (.ireturn, 1) := by decide +kernel
theorem d_M_hartOf_39 : decode mt_M_hartOf.2.1 39 = .ok (.aload_n 0, 1) := by decide +kernel
theorem d_M_hartOf_40 : decode mt_M_hartOf.2.1 40 = .ok (.bipush 8, 2) := by decide +kernel
theorem d_M_hartOf_42 : decode mt_M_hartOf.2.1 42 = .ok (.iload_n 1, 1) := by decide +kernel
theorem d_M_hartOf_43 : decode mt_M_hartOf.2.1 43 = .ok (.imul, 1) := by decide +kernel
theorem d_M_hartOf_44 : decode mt_M_hartOf.2.1 44 = .ok (.iconst 1, 1) := by decide +kernel
theorem d_M_hartOf_45 : decode mt_M_hartOf.2.1 45 = .ok (.iadd, 1) := by decide +kernel
theorem d_M_hartOf_46 : decode mt_M_hartOf.2.1 46 = .ok (.iaload, 1) := by decide +kernel
theorem d_M_hartOf_47 : decode mt_M_hartOf.2.1 47 = .ok (.ireturn, 1) := by decide +kernel
theorem d_M_hartOf_48 : decode mt_M_hartOf.2.1 48 = .ok (.aload_n 0, 1) := by decide +kernel
theorem d_M_hartOf_49 : decode mt_M_hartOf.2.1 49 = .ok (.bipush 8, 2) := by decide +kernel
theorem d_M_hartOf_51 : decode mt_M_hartOf.2.1 51 = .ok (.iload_n 1, 1) := by decide +kernel
theorem d_M_hartOf_52 : decode mt_M_hartOf.2.1 52 = .ok (.imul, 1) := by decide +kernel
theorem d_M_hartOf_53 : decode mt_M_hartOf.2.1 53 = .ok (.iconst 3, 1) := by decide +kernel
theorem d_M_hartOf_54 : decode mt_M_hartOf.2.1 54 = .ok (.iadd, 1) := by decide +kernel
theorem d_M_hartOf_55 : decode mt_M_hartOf.2.1 55 = .ok (.iaload, 1) := by decide +kernel
theorem d_M_hartOf_56 : decode mt_M_hartOf.2.1 56 = .ok (.ireturn, 1) := by decide +kernel
theorem d_M_hartOf_57 : decode mt_M_hartOf.2.1 57 = .ok (.aload_n 0, 1) := by decide +kernel
theorem d_M_hartOf_58 : decode mt_M_hartOf.2.1 58 = .ok (.bipush 8, 2) := by decide +kernel
theorem d_M_hartOf_60 : decode mt_M_hartOf.2.1 60 = .ok (.iload_n 1, 1) := by decide +kernel
theorem d_M_hartOf_61 : decode mt_M_hartOf.2.1 61 = .ok (.imul, 1) := by decide +kernel
theorem d_M_hartOf_62 : decode mt_M_hartOf.2.1 62 = .ok (.iconst 1, 1) := by decide +kernel
theorem d_M_hartOf_63 : decode mt_M_hartOf.2.1 63 = .ok (.iadd, 1) := by decide +kernel
theorem d_M_hartOf_64 : decode mt_M_hartOf.2.1 64 = .ok (.iaload, 1) := by decide +kernel
theorem d_M_hartOf_65 : decode mt_M_hartOf.2.1 65 = .ok (.iconst 1, 1) := by decide +kernel
theorem d_M_hartOf_66 : decode mt_M_hartOf.2.1 66 = .ok (.if_icmp .ne 7, 3) := by decide +kernel
theorem d_M_hartOf_69 : decode mt_M_hartOf.2.1 69 = .ok (.iconst 1, 1) := by decide +kernel
theorem d_M_hartOf_70 : decode mt_M_hartOf.2.1 70 = .ok (.goto 11, 3) := by decide +kernel
theorem d_M_hartOf_73 : decode mt_M_hartOf.2.1 73 = .ok (.aload_n 0, 1) := by decide +kernel
theorem d_M_hartOf_74 : decode mt_M_hartOf.2.1 74 = .ok (.bipush 8, 2) := by decide +kernel
theorem d_M_hartOf_76 : decode mt_M_hartOf.2.1 76 = .ok (.iload_n 1, 1) := by decide +kernel
theorem d_M_hartOf_77 : decode mt_M_hartOf.2.1 77 = .ok (.imul, 1) := by decide +kernel
theorem d_M_hartOf_78 : decode mt_M_hartOf.2.1 78 = .ok (.iconst 2, 1) := by decide +kernel
theorem d_M_hartOf_79 : decode mt_M_hartOf.2.1 79 = .ok (.iadd, 1) := by decide +kernel
theorem d_M_hartOf_80 : decode mt_M_hartOf.2.1 80 = .ok (.iaload, 1) := by decide +kernel
theorem d_M_hartOf_81 : decode mt_M_hartOf.2.1 81 = .ok (.ireturn, 1) := by decide +kernel
theorem d_M_hartOf_82 : decode mt_M_hartOf.2.1 82 = .ok (.aload_n 0, 1) := by decide +kernel
theorem d_M_hartOf_83 : decode mt_M_hartOf.2.1 83 = .ok (.bipush 8, 2) := by decide +kernel
theorem d_M_hartOf_85 : decode mt_M_hartOf.2.1 85 = .ok (.iload_n 1, 1) := by decide +kernel
theorem d_M_hartOf_86 : decode mt_M_hartOf.2.1 86 = .ok (.imul, 1) := by decide +kernel
theorem d_M_hartOf_87 : decode mt_M_hartOf.2.1 87 = .ok (.iload_n 2, 1) := by decide +kernel
theorem d_M_hartOf_88 : decode mt_M_hartOf.2.1 88 = .ok (.iadd, 1) := by decide +kernel
theorem d_M_hartOf_89 : decode mt_M_hartOf.2.1 89 = .ok (.iaload, 1) := by decide +kernel
theorem d_M_hartOf_90 : decode mt_M_hartOf.2.1 90 = .ok (.ireturn, 1) := by decide +kernel
theorem d_M_trigger_0 : decode mt_M_trigger.2.1 0 = .ok (.aload_n 0, 1) := by decide +kernel
theorem d_M_trigger_1 : decode mt_M_trigger.2.1 1 = .ok (.iconst 0, 1) := by decide +kernel
theorem d_M_trigger_2 : decode mt_M_trigger.2.1 2 = .ok (.putfield 75, 3) := by decide +kernel
theorem d_M_trigger_5 : decode mt_M_trigger.2.1 5 = .ok (.iload_n 1, 1) := by decide +kernel
theorem d_M_trigger_6 : decode mt_M_trigger.2.1 6 = .ok (.i2l, 1) := by decide +kernel
theorem d_M_trigger_7 : decode mt_M_trigger.2.1 7 = .ok (.lconst 0, 1) := by decide +kernel
theorem d_M_trigger_8 : decode mt_M_trigger.2.1 8 = .ok (.aload_n 0, 1) := by decide +kernel
theorem d_M_trigger_9 : decode mt_M_trigger.2.1 9 = .ok (.getfield 138, 3) := by decide +kernel
theorem d_M_trigger_12 : decode mt_M_trigger.2.1 12 = .ok (.iconst 1, 1) := by decide +kernel
theorem d_M_trigger_13 : decode mt_M_trigger.2.1 13 = .ok (.isub, 1) := by decide +kernel
theorem d_M_trigger_14 : decode mt_M_trigger.2.1 14 = .ok (.i2l, 1) := by decide +kernel
theorem d_M_trigger_15 : decode mt_M_trigger.2.1 15 = .ok (.invokestatic 81, 3) := by decide +kernel
theorem d_M_trigger_18 : decode mt_M_trigger.2.1 18 = .ok (.ifCond .ne 5, 3) := by decide +kernel
theorem d_M_trigger_21 : decode mt_M_trigger.2.1 21 = .ok (.iconst (-1), 1) := by decide +kernel
theorem d_M_trigger_22 : decode mt_M_trigger.2.1 22 = .ok (.ireturn, 1) := by decide +kernel
theorem d_M_trigger_23 : decode mt_M_trigger.2.1 23 = .ok (.iload_n 2, 1) := by decide +kernel
theorem d_M_trigger_24 : decode mt_M_trigger.2.1 24 = .ok (.i2l, 1) := by decide +kernel
theorem d_M_trigger_25 : decode mt_M_trigger.2.1 25 = .ok (.lconst 0, 1) := by decide +kernel
theorem d_M_trigger_26 : decode mt_M_trigger.2.1 26 = .ok (.ldc2_w 215, 3) := by decide +kernel
theorem d_M_trigger_29 : decode mt_M_trigger.2.1 29 = .ok (.invokestatic 81, 3) := by decide +kernel
theorem d_M_trigger_32 : decode mt_M_trigger.2.1 32 = .ok (.ifCond .ne 6, 3) := by decide +kernel
theorem d_M_trigger_35 : decode mt_M_trigger.2.1 35 = .ok (.bipush (-2), 2) := by decide +kernel
theorem d_M_trigger_37 : decode mt_M_trigger.2.1 37 = .ok (.ireturn, 1) := by decide +kernel
theorem d_M_trigger_38 : decode mt_M_trigger.2.1 38 = .ok (.iload_n 2, 1) := by decide +kernel
theorem d_M_trigger_39 : decode mt_M_trigger.2.1 39 = .ok (.ifCond .ne 12, 3) := by decide +kernel
theorem d_M_trigger_42 : decode mt_M_trigger.2.1 42 = .ok (.aload_n 0, 1) := by decide +kernel
theorem d_M_trigger_43 : decode mt_M_trigger.2.1 43 = .ok (.getfield 22, 3) := by decide +kernel
theorem d_M_trigger_46 : decode mt_M_trigger.2.1 46 = .ok (.iload_n 1, 1) := by decide +kernel
theorem d_M_trigger_47 : decode mt_M_trigger.2.1 47 = .ok (.iaload, 1) := by decide +kernel
theorem d_M_trigger_48 : decode mt_M_trigger.2.1 48 = .ok (.goto 19, 3) := by decide +kernel
theorem d_M_trigger_51 : decode mt_M_trigger.2.1 51 = .ok (.aload_n 0, 1) := by decide +kernel
theorem d_M_trigger_52 : decode mt_M_trigger.2.1 52 = .ok (.getfield 40, 3) := by decide +kernel
theorem d_M_trigger_55 : decode mt_M_trigger.2.1 55 = .ok (.bipush 40, 2) := by decide +kernel
theorem d_M_trigger_57 : decode mt_M_trigger.2.1 57 = .ok (.bipush 6, 2) := by decide +kernel
theorem d_M_trigger_59 : decode mt_M_trigger.2.1 59 = .ok (.iload_n 1, 1) := by decide +kernel
theorem d_M_trigger_60 : decode mt_M_trigger.2.1 60 = .ok (.imul, 1) := by decide +kernel
theorem d_M_trigger_61 : decode mt_M_trigger.2.1 61 = .ok (.iadd, 1) := by decide +kernel
theorem d_M_trigger_62 : decode mt_M_trigger.2.1 62 = .ok (.iload_n 2, 1) := by decide +kernel
theorem d_M_trigger_63 : decode mt_M_trigger.2.1 63 = .ok (.iadd, 1) := by decide +kernel
theorem d_M_trigger_64 : decode mt_M_trigger.2.1 64 = .ok (.iconst 1, 1) := by decide +kernel
theorem d_M_trigger_65 : decode mt_M_trigger.2.1 65 = .ok (.isub, 1) := by decide +kernel
theorem d_M_trigger_66 : decode mt_M_trigger.2.1 66 = .ok (.iaload, 1) := by decide +kernel
theorem d_M_trigger_67 : decode mt_M_trigger.2.1 67 = .ok (.ireturn, 1) := by decide +kernel
theorem d_M_cell_0 : decode mt_M_cell.2.1 0 = .ok (.aload_n 0, 1) := by decide +kernel
theorem d_M_cell_1 : decode mt_M_cell.2.1 1 = .ok (.iconst 0, 1) := by decide +kernel
theorem d_M_cell_2 : decode mt_M_cell.2.1 2 = .ok (.putfield 75, 3) := by decide +kernel
theorem d_M_cell_5 : decode mt_M_cell.2.1 5 = .ok (.iload_n 1, 1) := by decide +kernel
theorem d_M_cell_6 : decode mt_M_cell.2.1 6 = .ok (.i2l, 1) := by decide +kernel
theorem d_M_cell_7 : decode mt_M_cell.2.1 7 = .ok (.lconst 0, 1) := by decide +kernel
theorem d_M_cell_8 : decode mt_M_cell.2.1 8 = .ok (.ldc2_w 217, 3) := by decide +kernel
theorem d_M_cell_11 : decode mt_M_cell.2.1 11 = .ok (.invokestatic 81, 3) := by decide +kernel
theorem d_M_cell_14 : decode mt_M_cell.2.1 14 = .ok (.ifCond .eq 15, 3) := by decide +kernel
theorem d_M_cell_17 : decode mt_M_cell.2.1 17 = .ok (.aload_n 0, 1) := by decide +kernel
theorem d_M_cell_18 : decode mt_M_cell.2.1 18 = .ok (.getfield 40, 3) := by decide +kernel
theorem d_M_cell_21 : decode mt_M_cell.2.1 21 = .ok (.bipush 32, 2) := by decide +kernel
theorem d_M_cell_23 : decode mt_M_cell.2.1 23 = .ok (.iload_n 1, 1) := by decide +kernel
theorem d_M_cell_24 : decode mt_M_cell.2.1 24 = .ok (.iadd, 1) := by decide +kernel
theorem d_M_cell_25 : decode mt_M_cell.2.1 25 = .ok (.iaload, 1) := by decide +kernel
theorem d_M_cell_26 : decode mt_M_cell.2.1 26 = .ok (.goto 5, 3) := by decide +kernel
theorem d_M_cell_29 : decode mt_M_cell.2.1 29 = .ok (.bipush (-2), 2) := by decide +kernel
theorem d_M_cell_31 : decode mt_M_cell.2.1 31 = .ok (.ireturn, 1) := by decide +kernel
theorem d_M_order_0 : decode mt_M_order.2.1 0 = .ok (.aload_n 0, 1) := by decide +kernel
theorem d_M_order_1 : decode mt_M_order.2.1 1 = .ok (.iconst 0, 1) := by decide +kernel
theorem d_M_order_2 : decode mt_M_order.2.1 2 = .ok (.putfield 75, 3) := by decide +kernel
theorem d_M_order_5 : decode mt_M_order.2.1 5 = .ok (.iload_n 1, 1) := by decide +kernel
theorem d_M_order_6 : decode mt_M_order.2.1 6 = .ok (.i2l, 1) := by decide +kernel
theorem d_M_order_7 : decode mt_M_order.2.1 7 = .ok (.lconst 0, 1) := by decide +kernel
theorem d_M_order_8 : decode mt_M_order.2.1 8 = .ok (.aload_n 0, 1) := by decide +kernel
theorem d_M_order_9 : decode mt_M_order.2.1 9 = .ok (.getfield 40, 3) := by decide +kernel
theorem d_M_order_12 : decode mt_M_order.2.1 12 = .ok (.bipush 80, 2) := by decide +kernel
theorem d_M_order_14 : decode mt_M_order.2.1 14 = .ok (.iaload, 1) := by decide +kernel
theorem d_M_order_15 : decode mt_M_order.2.1 15 = .ok (.iconst 1, 1) := by decide +kernel
theorem d_M_order_16 : decode mt_M_order.2.1 16 = .ok (.isub, 1) := by decide +kernel
theorem d_M_order_17 : decode mt_M_order.2.1 17 = .ok (.i2l, 1) := by decide +kernel
theorem d_M_order_18 : decode mt_M_order.2.1 18 = .ok (.invokestatic 81, 3) := by decide +kernel
theorem d_M_order_21 : decode mt_M_order.2.1 21 = .ok (.ifCond .ne 5, 3) := by decide +kernel
theorem d_M_order_24 : decode mt_M_order.2.1 24 = .ok (.iconst (-1), 1) := by decide +kernel
theorem d_M_order_25 : decode mt_M_order.2.1 25 = .ok (.ireturn, 1) := by decide +kernel
theorem d_M_order_26 : decode mt_M_order.2.1 26 = .ok (.iload_n 2, 1) := by decide +kernel
theorem d_M_order_27 : decode mt_M_order.2.1 27 = .ok (.i2l, 1) := by decide +kernel
theorem d_M_order_28 : decode mt_M_order.2.1 28 = .ok (.lconst 0, 1) := by decide +kernel
theorem d_M_order_29 : decode mt_M_order.2.1 29 = .ok (.ldc2_w 219, 3) := by decide +kernel
theorem d_M_order_32 : decode mt_M_order.2.1 32 = .ok (.invokestatic 81, 3) := by decide +kernel
theorem d_M_order_35 : decode mt_M_order.2.1 35 = .ok (.ifCond .eq 20, 3) := by decide +kernel
theorem d_M_order_38 : decode mt_M_order.2.1 38 = .ok (.aload_n 0, 1) := by decide +kernel
theorem d_M_order_39 : decode mt_M_order.2.1 39 = .ok (.getfield 40, 3) := by decide +kernel
theorem d_M_order_42 : decode mt_M_order.2.1 42 = .ok (.bipush 81, 2) := by decide +kernel
theorem d_M_order_44 : decode mt_M_order.2.1 44 = .ok (.bipush 7, 2) := by decide +kernel
theorem d_M_order_46 : decode mt_M_order.2.1 46 = .ok (.iload_n 1, 1) := by decide +kernel
theorem d_M_order_47 : decode mt_M_order.2.1 47 = .ok (.imul, 1) := by decide +kernel
theorem d_M_order_48 : decode mt_M_order.2.1 48 = .ok (.iadd, 1) := by decide +kernel
theorem d_M_order_49 : decode mt_M_order.2.1 49 = .ok (.iload_n 2, 1) := by decide +kernel
theorem d_M_order_50 : decode mt_M_order.2.1 50 = .ok (.iadd, 1) := by decide +kernel
theorem d_M_order_51 : decode mt_M_order.2.1 51 = .ok (.iaload, 1) := by decide +kernel
theorem d_M_order_52 : decode mt_M_order.2.1 52 = .ok (.goto 5, 3) := by decide +kernel
theorem d_M_order_55 : decode mt_M_order.2.1 55 = .ok (.bipush (-2), 2) := by decide +kernel
theorem d_M_order_57 : decode mt_M_order.2.1 57 = .ok (.ireturn, 1) := by decide +kernel
theorem d_M_tick_0 : decode mt_M_tick.2.1 0 = .ok (.aload_n 0, 1) := by decide +kernel
theorem d_M_tick_1 : decode mt_M_tick.2.1 1 = .ok (.iconst 0, 1) := by decide +kernel
theorem d_M_tick_2 : decode mt_M_tick.2.1 2 = .ok (.putfield 75, 3) := by decide +kernel
theorem d_M_tick_5 : decode mt_M_tick.2.1 5 = .ok (.iload_n 1, 1) := by decide +kernel
theorem d_M_tick_6 : decode mt_M_tick.2.1 6 = .ok (.i2l, 1) := by decide +kernel
theorem d_M_tick_7 : decode mt_M_tick.2.1 7 = .ok (.lconst 1, 1) := by decide +kernel
theorem d_M_tick_8 : decode mt_M_tick.2.1 8 = .ok (.ldc2_w 221, 3) := by decide +kernel
theorem d_M_tick_11 : decode mt_M_tick.2.1 11 = .ok (.invokestatic 81, 3) := by decide +kernel
theorem d_M_tick_14 : decode mt_M_tick.2.1 14 = .ok (.ifCond .ne 6, 3) := by decide +kernel
theorem d_M_tick_17 : decode mt_M_tick.2.1 17 = .ok (.bipush (-2), 2) := by decide +kernel
theorem d_M_tick_19 : decode mt_M_tick.2.1 19 = .ok (.ireturn, 1) := by decide +kernel
theorem d_M_tick_20 : decode mt_M_tick.2.1 20 = .ok (.aload_n 0, 1) := by decide +kernel
theorem d_M_tick_21 : decode mt_M_tick.2.1 21 = .ok (.invokevirtual 223, 3) := by decide +kernel
theorem d_M_tick_24 : decode mt_M_tick.2.1 24 = .ok (.aload_n 0, 1) := by decide +kernel
theorem d_M_tick_25 : decode mt_M_tick.2.1 25 = .ok (.aload_n 0, 1) := by decide +kernel
theorem d_M_tick_26 : decode mt_M_tick.2.1 26 = .ok (.getfield 40, 3) := by decide +kernel
theorem d_M_tick_29 : decode mt_M_tick.2.1 29 = .ok (.iload_n 1, 1) := by decide +kernel
theorem d_M_tick_30 : decode mt_M_tick.2.1 30 = .ok (.invokevirtual 226, 3) := by decide +kernel
theorem d_M_tick_33 : decode mt_M_tick.2.1 33 = .ok (.aload_n 0, 1) := by decide +kernel
theorem d_M_tick_34 : decode mt_M_tick.2.1 34 = .ok (.getfield 40, 3) := by decide +kernel
theorem d_M_tick_37 : decode mt_M_tick.2.1 37 = .ok (.aload_n 0, 1) := by decide +kernel
theorem d_M_tick_38 : decode mt_M_tick.2.1 38 = .ok (.getfield 78, 3) := by decide +kernel
theorem d_M_tick_41 : decode mt_M_tick.2.1 41 = .ok (.invokestatic 189, 3) := by decide +kernel
theorem d_M_tick_44 : decode mt_M_tick.2.1 44 = .ok (.invokestatic 229, 3) := by decide +kernel
theorem d_M_tick_47 : decode mt_M_tick.2.1 47 = .ok (.ireturn, 1) := by decide +kernel
theorem d_M_note_0 : decode mt_M_note.2.1 0 = .ok (.aload_n 0, 1) := by decide +kernel
theorem d_M_note_1 : decode mt_M_note.2.1 1 = .ok (.getfield 141, 3) := by decide +kernel
theorem d_M_note_4 : decode mt_M_note.2.1 4 = .ok (.bipush 14, 2) := by decide +kernel
theorem d_M_note_6 : decode mt_M_note.2.1 6 = .ok (.if_icmp .ne 44, 3) := by decide +kernel
theorem d_M_note_9 : decode mt_M_note.2.1 9 = .ok (.iconst 0, 1) := by decide +kernel
theorem d_M_note_10 : decode mt_M_note.2.1 10 = .ok (.istore_n 1, 1) := by decide +kernel
theorem d_M_note_11 : decode mt_M_note.2.1 11 = .ok (.iload_n 1, 1) := by decide +kernel
theorem d_M_note_12 : decode mt_M_note.2.1 12 = .ok (.sipush 2145, 3) := by decide +kernel
theorem d_M_note_15 : decode mt_M_note.2.1 15 = .ok (.if_icmp .ge 25, 3) := by decide +kernel
theorem d_M_note_18 : decode mt_M_note.2.1 18 = .ok (.aload_n 0, 1) := by decide +kernel
theorem d_M_note_19 : decode mt_M_note.2.1 19 = .ok (.getfield 49, 3) := by decide +kernel
theorem d_M_note_22 : decode mt_M_note.2.1 22 = .ok (.iload_n 1, 1) := by decide +kernel
theorem d_M_note_23 : decode mt_M_note.2.1 23 = .ok (.aload_n 0, 1) := by decide +kernel
theorem d_M_note_24 : decode mt_M_note.2.1 24 = .ok (.getfield 49, 3) := by decide +kernel
theorem d_M_note_27 : decode mt_M_note.2.1 27 = .ok (.iload_n 1, 1) := by decide +kernel
theorem d_M_note_28 : decode mt_M_note.2.1 28 = .ok (.sipush 165, 3) := by decide +kernel
theorem d_M_note_31 : decode mt_M_note.2.1 31 = .ok (.iadd, 1) := by decide +kernel
theorem d_M_note_32 : decode mt_M_note.2.1 32 = .ok (.iaload, 1) := by decide +kernel
theorem d_M_note_33 : decode mt_M_note.2.1 33 = .ok (.iastore, 1) := by decide +kernel
theorem d_M_note_34 : decode mt_M_note.2.1 34 = .ok (.iinc 1 1, 3) := by decide +kernel
theorem d_M_note_37 : decode mt_M_note.2.1 37 = .ok (.goto (-26), 3) := by decide +kernel
theorem d_M_note_40 : decode mt_M_note.2.1 40 = .ok (.aload_n 0, 1) := by decide +kernel
theorem d_M_note_41 : decode mt_M_note.2.1 41 = .ok (.dup, 1) := by decide +kernel
theorem d_M_note_42 : decode mt_M_note.2.1 42 = .ok (.getfield 141, 3) := by decide +kernel
theorem d_M_note_45 : decode mt_M_note.2.1 45 = .ok (.iconst 1, 1) := by decide +kernel
theorem d_M_note_46 : decode mt_M_note.2.1 46 = .ok (.isub, 1) := by decide +kernel
theorem d_M_note_47 : decode mt_M_note.2.1 47 = .ok (.putfield 141, 3) := by decide +kernel
theorem d_M_note_50 : decode mt_M_note.2.1 50 = .ok (.iconst 0, 1) := by decide +kernel
theorem d_M_note_51 : decode mt_M_note.2.1 51 = .ok (.istore_n 1, 1) := by decide +kernel
theorem d_M_note_52 : decode mt_M_note.2.1 52 = .ok (.iload_n 1, 1) := by decide +kernel
theorem d_M_note_53 : decode mt_M_note.2.1 53 = .ok (.sipush 165, 3) := by decide +kernel
theorem d_M_note_56 : decode mt_M_note.2.1 56 = .ok (.if_icmp .ge 30, 3) := by decide +kernel
theorem d_M_note_59 : decode mt_M_note.2.1 59 = .ok (.aload_n 0, 1) := by decide +kernel
theorem d_M_note_60 : decode mt_M_note.2.1 60 = .ok (.getfield 49, 3) := by decide +kernel
theorem d_M_note_63 : decode mt_M_note.2.1 63 = .ok (.sipush 165, 3) := by decide +kernel
theorem d_M_note_66 : decode mt_M_note.2.1 66 = .ok (.aload_n 0, 1) := by decide +kernel
theorem d_M_note_67 : decode mt_M_note.2.1 67 = .ok (.getfield 141, 3) := by decide +kernel
theorem d_M_note_70 : decode mt_M_note.2.1 70 = .ok (.imul, 1) := by decide +kernel
theorem d_M_note_71 : decode mt_M_note.2.1 71 = .ok (.iload_n 1, 1) := by decide +kernel
theorem d_M_note_72 : decode mt_M_note.2.1 72 = .ok (.iadd, 1) := by decide +kernel
theorem d_M_note_73 : decode mt_M_note.2.1 73 = .ok (.aload_n 0, 1) := by decide +kernel
theorem d_M_note_74 : decode mt_M_note.2.1 74 = .ok (.getfield 40, 3) := by decide +kernel
theorem d_M_note_77 : decode mt_M_note.2.1 77 = .ok (.iload_n 1, 1) := by decide +kernel
theorem d_M_note_78 : decode mt_M_note.2.1 78 = .ok (.iaload, 1) := by decide +kernel
theorem d_M_note_79 : decode mt_M_note.2.1 79 = .ok (.iastore, 1) := by decide +kernel
theorem d_M_note_80 : decode mt_M_note.2.1 80 = .ok (.iinc 1 1, 3) := by decide +kernel
theorem d_M_note_83 : decode mt_M_note.2.1 83 = .ok (.goto (-31), 3) := by decide +kernel
theorem d_M_note_86 : decode mt_M_note.2.1 86 = .ok (.aload_n 0, 1) := by decide +kernel
theorem d_M_note_87 : decode mt_M_note.2.1 87 = .ok (.dup, 1) := by decide +kernel
theorem d_M_note_88 : decode mt_M_note.2.1 88 = .ok (.getfield 141, 3) := by decide +kernel
theorem d_M_note_91 : decode mt_M_note.2.1 91 = .ok (.iconst 1, 1) := by decide +kernel
theorem d_M_note_92 : decode mt_M_note.2.1 92 = .ok (.iadd, 1) := by decide +kernel
theorem d_M_note_93 : decode mt_M_note.2.1 93 = .ok (.putfield 141, 3) := by decide +kernel
theorem d_M_note_96 : decode mt_M_note.2.1 96 = .ok (.return_, 1) := by decide +kernel
theorem d_M_tickMany_0 : decode mt_M_tickMany.2.1 0 = .ok (.iconst 0, 1) := by decide +kernel
theorem d_M_tickMany_1 : decode mt_M_tickMany.2.1 1 = .ok (.istore_n 3, 1) := by decide +kernel
theorem d_M_tickMany_2 : decode mt_M_tickMany.2.1 2 = .ok (.iload_n 3, 1) := by decide +kernel
theorem d_M_tickMany_3 : decode mt_M_tickMany.2.1 3 = .ok (.iload_n 2, 1) := by decide +kernel
theorem d_M_tickMany_4 : decode mt_M_tickMany.2.1 4 = .ok (.if_icmp .ge 14, 3) := by decide +kernel
theorem d_M_tickMany_7 : decode mt_M_tickMany.2.1 7 = .ok (.aload_n 0, 1) := by decide +kernel
theorem d_M_tickMany_8 : decode mt_M_tickMany.2.1 8 = .ok (.aload_n 1, 1) := by decide +kernel
theorem d_M_tickMany_9 : decode mt_M_tickMany.2.1 9 = .ok (.invokevirtual 199, 3) := by decide +kernel
theorem d_M_tickMany_12 : decode mt_M_tickMany.2.1 12 = .ok (.iinc 3 1, 3) := by decide +kernel
theorem d_M_tickMany_15 : decode mt_M_tickMany.2.1 15 = .ok (.goto (-13), 3) := by decide +kernel
theorem d_M_tickMany_18 : decode mt_M_tickMany.2.1 18 = .ok (.return_, 1) := by decide +kernel
theorem d_M_tickOn_0 : decode mt_M_tickOn.2.1 0 = .ok (.aload_n 1, 1) := by decide +kernel
theorem d_M_tickOn_1 : decode mt_M_tickOn.2.1 1 = .ok (.aload_n 0, 1) := by decide +kernel
theorem d_M_tickOn_2 : decode mt_M_tickOn.2.1 2 = .ok (.getfield 78, 3) := by decide +kernel
theorem d_M_tickOn_5 : decode mt_M_tickOn.2.1 5 = .ok (.invokestatic 189, 3) := by decide +kernel
theorem d_M_tickOn_8 : decode mt_M_tickOn.2.1 8 = .ok (.istore_n 2, 1) := by decide +kernel
theorem d_M_tickOn_9 : decode mt_M_tickOn.2.1 9 = .ok (.aload_n 0, 1) := by decide +kernel
theorem d_M_tickOn_10 : decode mt_M_tickOn.2.1 10 = .ok (.iconst 0, 1) := by decide +kernel
theorem d_M_tickOn_11 : decode mt_M_tickOn.2.1 11 = .ok (.putfield 144, 3) := by decide +kernel
theorem d_M_tickOn_14 : decode mt_M_tickOn.2.1 14 = .ok (.aload_n 0, 1) := by decide +kernel
theorem d_M_tickOn_15 : decode mt_M_tickOn.2.1 15 = .ok (.aload_n 1, 1) := by decide +kernel
theorem d_M_tickOn_16 : decode mt_M_tickOn.2.1 16 = .ok (.invokevirtual 192, 3) := by decide +kernel
theorem d_M_tickOn_19 : decode mt_M_tickOn.2.1 19 = .ok (.iconst 0, 1) := by decide +kernel
theorem d_M_tickOn_20 : decode mt_M_tickOn.2.1 20 = .ok (.istore_n 3, 1) := by decide +kernel
theorem d_M_tickOn_21 : decode mt_M_tickOn.2.1 21 = .ok (.iload_n 3, 1) := by decide +kernel
theorem d_M_tickOn_22 : decode mt_M_tickOn.2.1 22 = .ok (.aload_n 0, 1) := by decide +kernel
theorem d_M_tickOn_23 : decode mt_M_tickOn.2.1 23 = .ok (.getfield 78, 3) := by decide +kernel
theorem d_M_tickOn_26 : decode mt_M_tickOn.2.1 26 = .ok (.if_icmp .ge 15, 3) := by decide +kernel
theorem d_M_tickOn_29 : decode mt_M_tickOn.2.1 29 = .ok (.aload_n 0, 1) := by decide +kernel
theorem d_M_tickOn_30 : decode mt_M_tickOn.2.1 30 = .ok (.aload_n 1, 1) := by decide +kernel
theorem d_M_tickOn_31 : decode mt_M_tickOn.2.1 31 = .ok (.iload_n 3, 1) := by decide +kernel
theorem d_M_tickOn_32 : decode mt_M_tickOn.2.1 32 = .ok (.invokevirtual 196, 3) := by decide +kernel
theorem d_M_tickOn_35 : decode mt_M_tickOn.2.1 35 = .ok (.iinc 3 1, 3) := by decide +kernel
theorem d_M_tickOn_38 : decode mt_M_tickOn.2.1 38 = .ok (.goto (-17), 3) := by decide +kernel
theorem d_M_tickOn_41 : decode mt_M_tickOn.2.1 41 = .ok (.aload_n 1, 1) := by decide +kernel
theorem d_M_tickOn_42 : decode mt_M_tickOn.2.1 42 = .ok (.aload_n 0, 1) := by decide +kernel
theorem d_M_tickOn_43 : decode mt_M_tickOn.2.1 43 = .ok (.getfield 78, 3) := by decide +kernel
theorem d_M_tickOn_46 : decode mt_M_tickOn.2.1 46 = .ok (.invokestatic 189, 3) := by decide +kernel
theorem d_M_tickOn_49 : decode mt_M_tickOn.2.1 49 = .ok (.istore_n 3, 1) := by decide +kernel
theorem d_M_tickOn_50 : decode mt_M_tickOn.2.1 50 = .ok (.iconst 1, 1) := by decide +kernel
theorem d_M_tickOn_51 : decode mt_M_tickOn.2.1 51 = .ok (.istore 4, 2) := by decide +kernel
theorem d_M_tickOn_53 : decode mt_M_tickOn.2.1 53 = .ok (.iload 4, 2) := by decide +kernel
theorem d_M_tickOn_55 : decode mt_M_tickOn.2.1 55 = .ok (.iconst 3, 1) := by decide +kernel
theorem d_M_tickOn_56 : decode mt_M_tickOn.2.1 56 = .ok (.if_icmp .ge 114, 3) := by decide +kernel
theorem d_M_tickOn_59 : decode mt_M_tickOn.2.1 59 = .ok (.iconst 0, 1) := by decide +kernel
theorem d_M_tickOn_60 : decode mt_M_tickOn.2.1 60 = .ok (.istore 5, 2) := by decide +kernel
theorem d_M_tickOn_62 : decode mt_M_tickOn.2.1 62 = .ok (.iconst 0, 1) := by decide +kernel
theorem d_M_tickOn_63 : decode mt_M_tickOn.2.1 63 = .ok (.istore 6, 2) := by decide +kernel
theorem d_M_tickOn_65 : decode mt_M_tickOn.2.1 65 = .ok (.iload 6, 2) := by decide +kernel
theorem d_M_tickOn_67 : decode mt_M_tickOn.2.1 67 = .ok (.aload_n 0, 1) := by decide +kernel
theorem d_M_tickOn_68 : decode mt_M_tickOn.2.1 68 = .ok (.getfield 78, 3) := by decide +kernel
theorem d_M_tickOn_71 : decode mt_M_tickOn.2.1 71 = .ok (.if_icmp .ge 51, 3) := by decide +kernel
theorem d_M_tickOn_74 : decode mt_M_tickOn.2.1 74 = .ok (.iload 5, 2) := by decide +kernel
theorem d_M_tickOn_76 : decode mt_M_tickOn.2.1 76 = .ok (.ifCond .ne 33, 3) := by decide +kernel
theorem d_M_tickOn_79 : decode mt_M_tickOn.2.1 79 = .ok (.aload_n 0, 1) := by decide +kernel
theorem d_M_tickOn_80 : decode mt_M_tickOn.2.1 80 = .ok (.getfield 19, 3) := by decide +kernel
theorem d_M_tickOn_83 : decode mt_M_tickOn.2.1 83 = .ok (.iload 6, 2) := by decide +kernel
theorem d_M_tickOn_85 : decode mt_M_tickOn.2.1 85 = .ok (.iaload, 1) := by decide +kernel
theorem d_M_tickOn_86 : decode mt_M_tickOn.2.1 86 = .ok (.iload 4, 2) := by decide +kernel
theorem d_M_tickOn_88 : decode mt_M_tickOn.2.1 88 = .ok (.if_icmp .ne 25, 3) := by decide +kernel
theorem d_M_tickOn_91 : decode mt_M_tickOn.2.1 91 = .ok (.iload_n 3, 1) := by decide +kernel
theorem d_M_tickOn_92 : decode mt_M_tickOn.2.1 92 = .ok (.iload 6, 2) := by decide +kernel
theorem d_M_tickOn_94 : decode mt_M_tickOn.2.1 94 = .ok (.invokestatic 175, 3) := by decide +kernel
theorem d_M_tickOn_97 : decode mt_M_tickOn.2.1 97 = .ok (.ifCond .eq 16, 3) := by decide +kernel
theorem d_M_tickOn_100 : decode mt_M_tickOn.2.1 100 = .ok (.iload_n 2, 1) := by decide +kernel
theorem d_M_tickOn_101 : decode mt_M_tickOn.2.1 101 = .ok (.iload 6, 2) := by decide +kernel
theorem d_M_tickOn_103 : decode mt_M_tickOn.2.1 103 = .ok (.invokestatic 175, 3) := by decide +kernel
theorem d_M_tickOn_106 : decode mt_M_tickOn.2.1 106 = .ok (.ifCond .ne 7, 3) := by decide +kernel
theorem d_M_tickOn_109 : decode mt_M_tickOn.2.1 109 = .ok (.iconst 1, 1) := by decide +kernel
theorem d_M_tickOn_110 : decode mt_M_tickOn.2.1 110 = .ok (.goto 4, 3) := by decide +kernel
theorem d_M_tickOn_113 : decode mt_M_tickOn.2.1 113 = .ok (.iconst 0, 1) := by decide +kernel
theorem d_M_tickOn_114 : decode mt_M_tickOn.2.1 114 = .ok (.istore 5, 2) := by decide +kernel
theorem d_M_tickOn_116 : decode mt_M_tickOn.2.1 116 = .ok (.iinc 6 1, 3) := by decide +kernel
theorem d_M_tickOn_119 : decode mt_M_tickOn.2.1 119 = .ok (.goto (-54), 3) := by decide +kernel
theorem d_M_tickOn_122 : decode mt_M_tickOn.2.1 122 = .ok (.iconst 0, 1) := by decide +kernel
theorem d_M_tickOn_123 : decode mt_M_tickOn.2.1 123 = .ok (.istore 6, 2) := by decide +kernel
theorem d_M_tickOn_125 : decode mt_M_tickOn.2.1 125 = .ok (.iload 6, 2) := by decide +kernel
theorem d_M_tickOn_127 : decode mt_M_tickOn.2.1 127 = .ok (.aload_n 0, 1) := by decide +kernel
theorem d_M_tickOn_128 : decode mt_M_tickOn.2.1 128 = .ok (.getfield 78, 3) := by decide +kernel
theorem d_M_tickOn_131 : decode mt_M_tickOn.2.1 131 = .ok (.if_icmp .ge 33, 3) := by decide +kernel
theorem d_M_tickOn_134 : decode mt_M_tickOn.2.1 134 = .ok (.iload 5, 2) := by decide +kernel
theorem d_M_tickOn_136 : decode mt_M_tickOn.2.1 136 = .ok (.ifCond .eq 22, 3) := by decide +kernel
theorem d_M_tickOn_139 : decode mt_M_tickOn.2.1 139 = .ok (.aload_n 0, 1) := by decide +kernel
theorem d_M_tickOn_140 : decode mt_M_tickOn.2.1 140 = .ok (.getfield 19, 3) := by decide +kernel
theorem d_M_tickOn_143 : decode mt_M_tickOn.2.1 143 = .ok (.iload 6, 2) := by decide +kernel
theorem d_M_tickOn_145 : decode mt_M_tickOn.2.1 145 = .ok (.iaload, 1) := by decide +kernel
theorem d_M_tickOn_146 : decode mt_M_tickOn.2.1 146 = .ok (.iload 4, 2) := by decide +kernel
theorem d_M_tickOn_148 : decode mt_M_tickOn.2.1 148 = .ok (.if_icmp .ne 10, 3) := by decide +kernel
theorem d_M_tickOn_151 : decode mt_M_tickOn.2.1 151 = .ok (.aload_n 1, 1) := by decide +kernel
theorem d_M_tickOn_152 : decode mt_M_tickOn.2.1 152 = .ok (.iload 6, 2) := by decide +kernel
theorem d_M_tickOn_154 : decode mt_M_tickOn.2.1 154 = .ok (.iconst 4, 1) := by decide +kernel
theorem d_M_tickOn_155 : decode mt_M_tickOn.2.1 155 = .ok (.invokestatic 155, 3) := by decide +kernel
theorem d_M_tickOn_158 : decode mt_M_tickOn.2.1 158 = .ok (.iinc 6 1, 3) := by decide +kernel
theorem d_M_tickOn_161 : decode mt_M_tickOn.2.1 161 = .ok (.goto (-36), 3) := by decide +kernel
theorem d_M_tickOn_164 : decode mt_M_tickOn.2.1 164 = .ok (.iinc 4 1, 3) := by decide +kernel
theorem d_M_tickOn_167 : decode mt_M_tickOn.2.1 167 = .ok (.goto (-114), 3) := by decide +kernel
theorem d_M_tickOn_170 : decode mt_M_tickOn.2.1 170 = .ok (.iconst 0, 1) := by decide +kernel
theorem d_M_tickOn_171 : decode mt_M_tickOn.2.1 171 = .ok (.istore 4, 2) := by decide +kernel
theorem d_M_tickOn_173 : decode mt_M_tickOn.2.1 173 = .ok (.iload 4, 2) := by decide +kernel
theorem d_M_tickOn_175 : decode mt_M_tickOn.2.1 175 = .ok (.aload_n 0, 1) := by decide +kernel
theorem d_M_tickOn_176 : decode mt_M_tickOn.2.1 176 = .ok (.getfield 78, 3) := by decide +kernel
theorem d_M_tickOn_179 : decode mt_M_tickOn.2.1 179 = .ok (.if_icmp .ge 61, 3) := by decide +kernel
theorem d_M_tickOn_182 : decode mt_M_tickOn.2.1 182 = .ok (.aload_n 0, 1) := by decide +kernel
theorem d_M_tickOn_183 : decode mt_M_tickOn.2.1 183 = .ok (.getfield 144, 3) := by decide +kernel
theorem d_M_tickOn_186 : decode mt_M_tickOn.2.1 186 = .ok (.ifCond .eq 54, 3) := by decide +kernel
theorem d_M_tickOn_189 : decode mt_M_tickOn.2.1 189 = .ok (.aload_n 1, 1) := by decide +kernel
theorem d_M_tickOn_190 : decode mt_M_tickOn.2.1 190 = .ok (.bipush 8, 2) := by decide +kernel
theorem d_M_tickOn_192 : decode mt_M_tickOn.2.1 192 = .ok (.iload 4, 2) := by decide +kernel
theorem d_M_tickOn_194 : decode mt_M_tickOn.2.1 194 = .ok (.imul, 1) := by decide +kernel
theorem d_M_tickOn_195 : decode mt_M_tickOn.2.1 195 = .ok (.iconst 1, 1) := by decide +kernel
theorem d_M_tickOn_196 : decode mt_M_tickOn.2.1 196 = .ok (.iadd, 1) := by decide +kernel
theorem d_M_tickOn_197 : decode mt_M_tickOn.2.1 197 = .ok (.aload_n 1, 1) := by decide +kernel
theorem d_M_tickOn_198 : decode mt_M_tickOn.2.1 198 = .ok (.bipush 8, 2) := by decide +kernel
theorem d_M_tickOn_200 : decode mt_M_tickOn.2.1 200 = .ok (.iload 4, 2) := by decide +kernel
theorem d_M_tickOn_202 : decode mt_M_tickOn.2.1 202 = .ok (.imul, 1) := by decide +kernel
theorem d_M_tickOn_203 : decode mt_M_tickOn.2.1 203 = .ok (.iconst 1, 1) := by decide +kernel
theorem d_M_tickOn_204 : decode mt_M_tickOn.2.1 204 = .ok (.iadd, 1) := by decide +kernel
theorem d_M_tickOn_205 : decode mt_M_tickOn.2.1 205 = .ok (.iaload, 1) := by decide +kernel
theorem d_M_tickOn_206 : decode mt_M_tickOn.2.1 206 = .ok (.iconst 1, 1) := by decide +kernel
theorem d_M_tickOn_207 : decode mt_M_tickOn.2.1 207 = .ok (.if_icmp .ne 7, 3) := by decide +kernel
theorem d_M_tickOn_210 : decode mt_M_tickOn.2.1 210 = .ok (.iconst 0, 1) := by decide +kernel
theorem d_M_tickOn_211 : decode mt_M_tickOn.2.1 211 = .ok (.goto 12, 3) := by decide +kernel
theorem d_M_tickOn_214 : decode mt_M_tickOn.2.1 214 = .ok (.aload_n 1, 1) := by decide +kernel
theorem d_M_tickOn_215 : decode mt_M_tickOn.2.1 215 = .ok (.bipush 8, 2) := by decide +kernel
theorem d_M_tickOn_217 : decode mt_M_tickOn.2.1 217 = .ok (.iload 4, 2) := by decide +kernel
theorem d_M_tickOn_219 : decode mt_M_tickOn.2.1 219 = .ok (.imul, 1) := by decide +kernel
theorem d_M_tickOn_220 : decode mt_M_tickOn.2.1 220 = .ok (.iconst 1, 1) := by decide +kernel
theorem d_M_tickOn_221 : decode mt_M_tickOn.2.1 221 = .ok (.iadd, 1) := by decide +kernel
theorem d_M_tickOn_222 : decode mt_M_tickOn.2.1 222 = .ok (.iaload, 1) := by decide +kernel
theorem d_M_tickOn_223 : decode mt_M_tickOn.2.1 223 = .ok (.iastore, 1) := by decide +kernel
theorem d_M_tickOn_224 : decode mt_M_tickOn.2.1 224 = .ok (.aload_n 1, 1) := by decide +kernel
theorem d_M_tickOn_225 : decode mt_M_tickOn.2.1 225 = .ok (.bipush 8, 2) := by decide +kernel
theorem d_M_tickOn_227 : decode mt_M_tickOn.2.1 227 = .ok (.iload 4, 2) := by decide +kernel
theorem d_M_tickOn_229 : decode mt_M_tickOn.2.1 229 = .ok (.imul, 1) := by decide +kernel
theorem d_M_tickOn_230 : decode mt_M_tickOn.2.1 230 = .ok (.iconst 2, 1) := by decide +kernel
theorem d_M_tickOn_231 : decode mt_M_tickOn.2.1 231 = .ok (.iadd, 1) := by decide +kernel
theorem d_M_tickOn_232 : decode mt_M_tickOn.2.1 232 = .ok (.iconst 0, 1) := by decide +kernel
theorem d_M_tickOn_233 : decode mt_M_tickOn.2.1 233 = .ok (.iastore, 1) := by decide +kernel
theorem d_M_tickOn_234 : decode mt_M_tickOn.2.1 234 = .ok (.iinc 4 1, 3) := by decide +kernel
theorem d_M_tickOn_237 : decode mt_M_tickOn.2.1 237 = .ok (.goto (-64), 3) := by decide +kernel
theorem d_M_tickOn_240 : decode mt_M_tickOn.2.1 240 = .ok (.return_, 1) := by decide +kernel
theorem d_M_haltedOf_0 : decode mt_M_haltedOf.2.1 0 = .ok (.iconst 0, 1) := by decide +kernel
theorem d_M_haltedOf_1 : decode mt_M_haltedOf.2.1 1 = .ok (.istore_n 2, 1) := by decide +kernel
theorem d_M_haltedOf_2 : decode mt_M_haltedOf.2.1 2 = .ok (.iconst 0, 1) := by decide +kernel
theorem d_M_haltedOf_3 : decode mt_M_haltedOf.2.1 3 = .ok (.istore_n 3, 1) := by decide +kernel
theorem d_M_haltedOf_4 : decode mt_M_haltedOf.2.1 4 = .ok (.iload_n 3, 1) := by decide +kernel
theorem d_M_haltedOf_5 : decode mt_M_haltedOf.2.1 5 = .ok (.iload_n 1, 1) := by decide +kernel
theorem d_M_haltedOf_6 : decode mt_M_haltedOf.2.1 6 = .ok (.if_icmp .ge 31, 3) := by decide +kernel
theorem d_M_haltedOf_9 : decode mt_M_haltedOf.2.1 9 = .ok (.iload_n 2, 1) := by decide +kernel
theorem d_M_haltedOf_10 : decode mt_M_haltedOf.2.1 10 = .ok (.aload_n 0, 1) := by decide +kernel
theorem d_M_haltedOf_11 : decode mt_M_haltedOf.2.1 11 = .ok (.bipush 8, 2) := by decide +kernel
theorem d_M_haltedOf_13 : decode mt_M_haltedOf.2.1 13 = .ok (.iload_n 3, 1) := by decide +kernel
theorem d_M_haltedOf_14 : decode mt_M_haltedOf.2.1 14 = .ok (.imul, 1) := by decide +kernel
theorem d_M_haltedOf_15 : decode mt_M_haltedOf.2.1 15 = .ok (.iconst 1, 1) := by decide +kernel
theorem d_M_haltedOf_16 : decode mt_M_haltedOf.2.1 16 = .ok (.iadd, 1) := by decide +kernel
theorem d_M_haltedOf_17 : decode mt_M_haltedOf.2.1 17 = .ok (.iaload, 1) := by decide +kernel
theorem d_M_haltedOf_18 : decode mt_M_haltedOf.2.1 18 = .ok (.iconst 2, 1) := by decide +kernel
theorem d_M_haltedOf_19 : decode mt_M_haltedOf.2.1 19 = .ok (.if_icmp .ne 9, 3) := by decide +kernel
theorem d_M_haltedOf_22 : decode mt_M_haltedOf.2.1 22 = .ok (.iconst 1, 1) := by decide +kernel
theorem d_M_haltedOf_23 : decode mt_M_haltedOf.2.1 23 = .ok (.iload_n 3, 1) := by decide +kernel
theorem d_M_haltedOf_24 : decode mt_M_haltedOf.2.1 24 = .ok (.ishl, 1) := by decide +kernel
theorem d_M_haltedOf_25 : decode mt_M_haltedOf.2.1 25 = .ok (.goto 4, 3) := by decide +kernel
theorem d_M_haltedOf_28 : decode mt_M_haltedOf.2.1 28 = .ok (.iconst 0, 1) := by decide +kernel
theorem d_M_haltedOf_29 : decode mt_M_haltedOf.2.1 29 = .ok (.ior, 1) := by decide +kernel
theorem d_M_haltedOf_30 : decode mt_M_haltedOf.2.1 30 = .ok (.istore_n 2, 1) := by decide +kernel
theorem d_M_haltedOf_31 : decode mt_M_haltedOf.2.1 31 = .ok (.iinc 3 1, 3) := by decide +kernel
theorem d_M_haltedOf_34 : decode mt_M_haltedOf.2.1 34 = .ok (.goto (-30), 3) := by decide +kernel
theorem d_M_haltedOf_37 : decode mt_M_haltedOf.2.1 37 = .ok (.iload_n 2, 1) := by decide +kernel
theorem d_M_haltedOf_38 : decode mt_M_haltedOf.2.1 38 = .ok (.ireturn, 1) := by decide +kernel
theorem d_M_goRound_0 : decode mt_M_goRound.2.1 0 = .ok (.iconst 0, 1) := by decide +kernel
theorem d_M_goRound_1 : decode mt_M_goRound.2.1 1 = .ok (.istore_n 2, 1) := by decide +kernel
theorem d_M_goRound_2 : decode mt_M_goRound.2.1 2 = .ok (.iload_n 2, 1) := by decide +kernel
theorem d_M_goRound_3 : decode mt_M_goRound.2.1 3 = .ok (.aload_n 1, 1) := by decide +kernel
theorem d_M_goRound_4 : decode mt_M_goRound.2.1 4 = .ok (.bipush 80, 2) := by decide +kernel
theorem d_M_goRound_6 : decode mt_M_goRound.2.1 6 = .ok (.iaload, 1) := by decide +kernel
theorem d_M_goRound_7 : decode mt_M_goRound.2.1 7 = .ok (.if_icmp .ge 131, 3) := by decide +kernel
theorem d_M_goRound_10 : decode mt_M_goRound.2.1 10 = .ok (.bipush 81, 2) := by decide +kernel
theorem d_M_goRound_12 : decode mt_M_goRound.2.1 12 = .ok (.bipush 7, 2) := by decide +kernel
theorem d_M_goRound_14 : decode mt_M_goRound.2.1 14 = .ok (.iload_n 2, 1) := by decide +kernel
theorem d_M_goRound_15 : decode mt_M_goRound.2.1 15 = .ok (.imul, 1) := by decide +kernel
theorem d_M_goRound_16 : decode mt_M_goRound.2.1 16 = .ok (.iadd, 1) := by decide +kernel
theorem d_M_goRound_17 : decode mt_M_goRound.2.1 17 = .ok (.istore_n 3, 1) := by decide +kernel
theorem d_M_goRound_18 : decode mt_M_goRound.2.1 18 = .ok (.aload_n 1, 1) := by decide +kernel
theorem d_M_goRound_19 : decode mt_M_goRound.2.1 19 = .ok (.iload_n 3, 1) := by decide +kernel
theorem d_M_goRound_20 : decode mt_M_goRound.2.1 20 = .ok (.iconst 2, 1) := by decide +kernel
theorem d_M_goRound_21 : decode mt_M_goRound.2.1 21 = .ok (.iadd, 1) := by decide +kernel
theorem d_M_goRound_22 : decode mt_M_goRound.2.1 22 = .ok (.dup2, 1) := by decide +kernel
theorem d_M_goRound_23 : decode mt_M_goRound.2.1 23 = .ok (.iaload, 1) := by decide +kernel
theorem d_M_goRound_24 : decode mt_M_goRound.2.1 24 = .ok (.iconst 1, 1) := by decide +kernel
theorem d_M_goRound_25 : decode mt_M_goRound.2.1 25 = .ok (.iadd, 1) := by decide +kernel
theorem d_M_goRound_26 : decode mt_M_goRound.2.1 26 = .ok (.iastore, 1) := by decide +kernel
theorem d_M_goRound_27 : decode mt_M_goRound.2.1 27 = .ok (.aload_n 1, 1) := by decide +kernel
theorem d_M_goRound_28 : decode mt_M_goRound.2.1 28 = .ok (.iload_n 3, 1) := by decide +kernel
theorem d_M_goRound_29 : decode mt_M_goRound.2.1 29 = .ok (.iconst 2, 1) := by decide +kernel
theorem d_M_goRound_30 : decode mt_M_goRound.2.1 30 = .ok (.iadd, 1) := by decide +kernel
theorem d_M_goRound_31 : decode mt_M_goRound.2.1 31 = .ok (.iaload, 1) := by decide +kernel
theorem d_M_goRound_32 : decode mt_M_goRound.2.1 32 = .ok (.aload_n 1, 1) := by decide +kernel
theorem d_M_goRound_33 : decode mt_M_goRound.2.1 33 = .ok (.iload_n 3, 1) := by decide +kernel
theorem d_M_goRound_34 : decode mt_M_goRound.2.1 34 = .ok (.iconst 1, 1) := by decide +kernel
theorem d_M_goRound_35 : decode mt_M_goRound.2.1 35 = .ok (.iadd, 1) := by decide +kernel
theorem d_M_goRound_36 : decode mt_M_goRound.2.1 36 = .ok (.iaload, 1) := by decide +kernel
theorem d_M_goRound_37 : decode mt_M_goRound.2.1 37 = .ok (.iconst 1, 1) := by decide +kernel
theorem d_M_goRound_38 : decode mt_M_goRound.2.1 38 = .ok (.iadd, 1) := by decide +kernel
theorem d_M_goRound_39 : decode mt_M_goRound.2.1 39 = .ok (.if_icmp .ne 9, 3) := by decide +kernel
theorem d_M_goRound_42 : decode mt_M_goRound.2.1 42 = .ok (.aload_n 0, 1) := by decide +kernel
theorem d_M_goRound_43 : decode mt_M_goRound.2.1 43 = .ok (.aload_n 1, 1) := by decide +kernel
theorem d_M_goRound_44 : decode mt_M_goRound.2.1 44 = .ok (.iload_n 2, 1) := by decide +kernel
theorem d_M_goRound_45 : decode mt_M_goRound.2.1 45 = .ok (.invokevirtual 169, 3) := by decide +kernel
theorem d_M_goRound_48 : decode mt_M_goRound.2.1 48 = .ok (.aload_n 1, 1) := by decide +kernel
theorem d_M_goRound_49 : decode mt_M_goRound.2.1 49 = .ok (.iload_n 3, 1) := by decide +kernel
theorem d_M_goRound_50 : decode mt_M_goRound.2.1 50 = .ok (.iconst 2, 1) := by decide +kernel
theorem d_M_goRound_51 : decode mt_M_goRound.2.1 51 = .ok (.iadd, 1) := by decide +kernel
theorem d_M_goRound_52 : decode mt_M_goRound.2.1 52 = .ok (.iaload, 1) := by decide +kernel
theorem d_M_goRound_53 : decode mt_M_goRound.2.1 53 = .ok (.aload_n 0, 1) := by decide +kernel
theorem d_M_goRound_54 : decode mt_M_goRound.2.1 54 = .ok (.getfield 78, 3) := by decide +kernel
theorem d_M_goRound_57 : decode mt_M_goRound.2.1 57 = .ok (.iconst 1, 1) := by decide +kernel
theorem d_M_goRound_58 : decode mt_M_goRound.2.1 58 = .ok (.iadd, 1) := by decide +kernel
theorem d_M_goRound_59 : decode mt_M_goRound.2.1 59 = .ok (.if_icmp .ne 73, 3) := by decide +kernel
theorem d_M_goRound_62 : decode mt_M_goRound.2.1 62 = .ok (.aload_n 1, 1) := by decide +kernel
theorem d_M_goRound_63 : decode mt_M_goRound.2.1 63 = .ok (.bipush 77, 2) := by decide +kernel
theorem d_M_goRound_65 : decode mt_M_goRound.2.1 65 = .ok (.aload_n 1, 1) := by decide +kernel
theorem d_M_goRound_66 : decode mt_M_goRound.2.1 66 = .ok (.iload_n 3, 1) := by decide +kernel
theorem d_M_goRound_67 : decode mt_M_goRound.2.1 67 = .ok (.iaload, 1) := by decide +kernel
theorem d_M_goRound_68 : decode mt_M_goRound.2.1 68 = .ok (.iconst 3, 1) := by decide +kernel
theorem d_M_goRound_69 : decode mt_M_goRound.2.1 69 = .ok (.if_icmp .ne 20, 3) := by decide +kernel
theorem d_M_goRound_72 : decode mt_M_goRound.2.1 72 = .ok (.aload_n 1, 1) := by decide +kernel
theorem d_M_goRound_73 : decode mt_M_goRound.2.1 73 = .ok (.iload_n 3, 1) := by decide +kernel
theorem d_M_goRound_74 : decode mt_M_goRound.2.1 74 = .ok (.iconst 3, 1) := by decide +kernel
theorem d_M_goRound_75 : decode mt_M_goRound.2.1 75 = .ok (.iadd, 1) := by decide +kernel
theorem d_M_goRound_76 : decode mt_M_goRound.2.1 76 = .ok (.iaload, 1) := by decide +kernel
theorem d_M_goRound_77 : decode mt_M_goRound.2.1 77 = .ok (.ifCond .ne 12, 3) := by decide +kernel
theorem d_M_goRound_80 : decode mt_M_goRound.2.1 80 = .ok (.aload_n 1, 1) := by decide +kernel
theorem d_M_goRound_81 : decode mt_M_goRound.2.1 81 = .ok (.iload_n 3, 1) := by decide +kernel
theorem d_M_goRound_82 : decode mt_M_goRound.2.1 82 = .ok (.bipush 6, 2) := by decide +kernel
theorem d_M_goRound_84 : decode mt_M_goRound.2.1 84 = .ok (.iadd, 1) := by decide +kernel
theorem d_M_goRound_85 : decode mt_M_goRound.2.1 85 = .ok (.iaload, 1) := by decide +kernel
theorem d_M_goRound_86 : decode mt_M_goRound.2.1 86 = .ok (.goto 7, 3) := by decide +kernel
theorem d_M_goRound_89 : decode mt_M_goRound.2.1 89 = .ok (.aload_n 1, 1) := by decide +kernel
theorem d_M_goRound_90 : decode mt_M_goRound.2.1 90 = .ok (.bipush 77, 2) := by decide +kernel
theorem d_M_goRound_92 : decode mt_M_goRound.2.1 92 = .ok (.iaload, 1) := by decide +kernel
theorem d_M_goRound_93 : decode mt_M_goRound.2.1 93 = .ok (.iastore, 1) := by decide +kernel
theorem d_M_goRound_94 : decode mt_M_goRound.2.1 94 = .ok (.aload_n 1, 1) := by decide +kernel
theorem d_M_goRound_95 : decode mt_M_goRound.2.1 95 = .ok (.bipush 76, 2) := by decide +kernel
theorem d_M_goRound_97 : decode mt_M_goRound.2.1 97 = .ok (.aload_n 1, 1) := by decide +kernel
theorem d_M_goRound_98 : decode mt_M_goRound.2.1 98 = .ok (.iload_n 3, 1) := by decide +kernel
theorem d_M_goRound_99 : decode mt_M_goRound.2.1 99 = .ok (.iaload, 1) := by decide +kernel
theorem d_M_goRound_100 : decode mt_M_goRound.2.1 100 = .ok (.iconst 2, 1) := by decide +kernel
theorem d_M_goRound_101 : decode mt_M_goRound.2.1 101 = .ok (.if_icmp .le 18, 3) := by decide +kernel
theorem d_M_goRound_104 : decode mt_M_goRound.2.1 104 = .ok (.aload_n 1, 1) := by decide +kernel
theorem d_M_goRound_105 : decode mt_M_goRound.2.1 105 = .ok (.bipush 76, 2) := by decide +kernel
theorem d_M_goRound_107 : decode mt_M_goRound.2.1 107 = .ok (.iaload, 1) := by decide +kernel
theorem d_M_goRound_108 : decode mt_M_goRound.2.1 108 = .ok (.ifCond .ne 11, 3) := by decide +kernel
theorem d_M_goRound_111 : decode mt_M_goRound.2.1 111 = .ok (.aload_n 1, 1) := by decide +kernel
theorem d_M_goRound_112 : decode mt_M_goRound.2.1 112 = .ok (.iload_n 3, 1) := by decide +kernel
theorem d_M_goRound_113 : decode mt_M_goRound.2.1 113 = .ok (.iconst 3, 1) := by decide +kernel
theorem d_M_goRound_114 : decode mt_M_goRound.2.1 114 = .ok (.iadd, 1) := by decide +kernel
theorem d_M_goRound_115 : decode mt_M_goRound.2.1 115 = .ok (.iaload, 1) := by decide +kernel
theorem d_M_goRound_116 : decode mt_M_goRound.2.1 116 = .ok (.goto 7, 3) := by decide +kernel
theorem d_M_goRound_119 : decode mt_M_goRound.2.1 119 = .ok (.aload_n 1, 1) := by decide +kernel
theorem d_M_goRound_120 : decode mt_M_goRound.2.1 120 = .ok (.bipush 76, 2) := by decide +kernel
theorem d_M_goRound_122 : decode mt_M_goRound.2.1 122 = .ok (.iaload, 1) := by decide +kernel
theorem d_M_goRound_123 : decode mt_M_goRound.2.1 123 = .ok (.iastore, 1) := by decide +kernel
theorem d_M_goRound_124 : decode mt_M_goRound.2.1 124 = .ok (.aload_n 1, 1) := by decide +kernel
theorem d_M_goRound_125 : decode mt_M_goRound.2.1 125 = .ok (.iload_n 2, 1) := by decide +kernel
theorem d_M_goRound_126 : decode mt_M_goRound.2.1 126 = .ok (.invokestatic 172, 3) := by decide +kernel
theorem d_M_goRound_129 : decode mt_M_goRound.2.1 129 = .ok (.goto 6, 3) := by decide +kernel
theorem d_M_goRound_132 : decode mt_M_goRound.2.1 132 = .ok (.iinc 2 1, 3) := by decide +kernel
theorem d_M_goRound_135 : decode mt_M_goRound.2.1 135 = .ok (.goto (-133), 3) := by decide +kernel
theorem d_M_goRound_138 : decode mt_M_goRound.2.1 138 = .ok (.return_, 1) := by decide +kernel
theorem d_M_reach_0 : decode mt_M_reach.2.1 0 = .ok (.bipush 81, 2) := by decide +kernel
theorem d_M_reach_2 : decode mt_M_reach.2.1 2 = .ok (.bipush 7, 2) := by decide +kernel
theorem d_M_reach_4 : decode mt_M_reach.2.1 4 = .ok (.iload_n 2, 1) := by decide +kernel
theorem d_M_reach_5 : decode mt_M_reach.2.1 5 = .ok (.imul, 1) := by decide +kernel
theorem d_M_reach_6 : decode mt_M_reach.2.1 6 = .ok (.iadd, 1) := by decide +kernel
theorem d_M_reach_7 : decode mt_M_reach.2.1 7 = .ok (.istore_n 3, 1) := by decide +kernel
theorem d_M_reach_8 : decode mt_M_reach.2.1 8 = .ok (.aload_n 1, 1) := by decide +kernel
theorem d_M_reach_9 : decode mt_M_reach.2.1 9 = .ok (.iload_n 3, 1) := by decide +kernel
theorem d_M_reach_10 : decode mt_M_reach.2.1 10 = .ok (.iconst 1, 1) := by decide +kernel
theorem d_M_reach_11 : decode mt_M_reach.2.1 11 = .ok (.iadd, 1) := by decide +kernel
theorem d_M_reach_12 : decode mt_M_reach.2.1 12 = .ok (.iaload, 1) := by decide +kernel
theorem d_M_reach_13 : decode mt_M_reach.2.1 13 = .ok (.istore 4, 2) := by decide +kernel
theorem d_M_reach_15 : decode mt_M_reach.2.1 15 = .ok (.aload_n 1, 1) := by decide +kernel
theorem d_M_reach_16 : decode mt_M_reach.2.1 16 = .ok (.iload_n 3, 1) := by decide +kernel
theorem d_M_reach_17 : decode mt_M_reach.2.1 17 = .ok (.iaload, 1) := by decide +kernel
theorem d_M_reach_18 : decode mt_M_reach.2.1 18 = .ok (.iconst 2, 1) := by decide +kernel
theorem d_M_reach_19 : decode mt_M_reach.2.1 19 = .ok (.if_icmp .le 23, 3) := by decide +kernel
theorem d_M_reach_22 : decode mt_M_reach.2.1 22 = .ok (.aload_n 1, 1) := by decide +kernel
theorem d_M_reach_23 : decode mt_M_reach.2.1 23 = .ok (.bipush 8, 2) := by decide +kernel
theorem d_M_reach_25 : decode mt_M_reach.2.1 25 = .ok (.iload 4, 2) := by decide +kernel
theorem d_M_reach_27 : decode mt_M_reach.2.1 27 = .ok (.imul, 1) := by decide +kernel
theorem d_M_reach_28 : decode mt_M_reach.2.1 28 = .ok (.iconst 1, 1) := by decide +kernel
theorem d_M_reach_29 : decode mt_M_reach.2.1 29 = .ok (.iadd, 1) := by decide +kernel
theorem d_M_reach_30 : decode mt_M_reach.2.1 30 = .ok (.iaload, 1) := by decide +kernel
theorem d_M_reach_31 : decode mt_M_reach.2.1 31 = .ok (.iconst 2, 1) := by decide +kernel
theorem d_M_reach_32 : decode mt_M_reach.2.1 32 = .ok (.if_icmp .eq 10, 3) := by decide +kernel
theorem d_M_reach_35 : decode mt_M_reach.2.1 35 = .ok (.aload_n 1, 1) := by decide +kernel
theorem d_M_reach_36 : decode mt_M_reach.2.1 36 = .ok (.iload_n 3, 1) := by decide +kernel
theorem d_M_reach_37 : decode mt_M_reach.2.1 37 = .ok (.iconst 3, 1) := by decide +kernel
theorem d_M_reach_38 : decode mt_M_reach.2.1 38 = .ok (.iadd, 1) := by decide +kernel
theorem d_M_reach_39 : decode mt_M_reach.2.1 39 = .ok (.iconst 4, 1) := by decide +kernel
theorem d_M_reach_40 : decode mt_M_reach.2.1 40 = .ok (.iastore, 1) := by decide +kernel
theorem d_M_reach_41 : decode mt_M_reach.2.1 41 = .ok (.return_, 1) := by decide +kernel
theorem d_M_reach_42 : decode mt_M_reach.2.1 42 = .ok (.aload_n 1, 1) := by decide +kernel
theorem d_M_reach_43 : decode mt_M_reach.2.1 43 = .ok (.iload_n 3, 1) := by decide +kernel
theorem d_M_reach_44 : decode mt_M_reach.2.1 44 = .ok (.iaload, 1) := by decide +kernel
theorem d_M_reach_45 : decode mt_M_reach.2.1 45 = .ok (.tableswitch 111 0 4 #[35, 45, 54, 64, 88], 35) := by decide +kernel
theorem d_M_reach_80 : decode mt_M_reach.2.1 80 = .ok (.aload_n 1, 1) := by decide +kernel
theorem d_M_reach_81 : decode mt_M_reach.2.1 81 = .ok (.iload 4, 2) := by decide +kernel
theorem d_M_reach_83 : decode mt_M_reach.2.1 83 = .ok (.iconst 1, 1) := by decide +kernel
theorem d_M_reach_84 : decode mt_M_reach.2.1 84 = .ok (.invokestatic 155, 3) := by decide +kernel
theorem d_M_reach_87 : decode mt_M_reach.2.1 87 = .ok (.goto 81, 3) := by decide +kernel
theorem d_M_reach_90 : decode mt_M_reach.2.1 90 = .ok (.aload_n 1, 1) := by decide +kernel
theorem d_M_reach_91 : decode mt_M_reach.2.1 91 = .ok (.iload 4, 2) := by decide +kernel
theorem d_M_reach_93 : decode mt_M_reach.2.1 93 = .ok (.invokestatic 158, 3) := by decide +kernel
theorem d_M_reach_96 : decode mt_M_reach.2.1 96 = .ok (.goto 72, 3) := by decide +kernel
theorem d_M_reach_99 : decode mt_M_reach.2.1 99 = .ok (.aload_n 0, 1) := by decide +kernel
theorem d_M_reach_100 : decode mt_M_reach.2.1 100 = .ok (.aload_n 1, 1) := by decide +kernel
theorem d_M_reach_101 : decode mt_M_reach.2.1 101 = .ok (.iload 4, 2) := by decide +kernel
theorem d_M_reach_103 : decode mt_M_reach.2.1 103 = .ok (.invokevirtual 162, 3) := by decide +kernel
theorem d_M_reach_106 : decode mt_M_reach.2.1 106 = .ok (.goto 62, 3) := by decide +kernel
theorem d_M_reach_109 : decode mt_M_reach.2.1 109 = .ok (.aload_n 1, 1) := by decide +kernel
theorem d_M_reach_110 : decode mt_M_reach.2.1 110 = .ok (.iload_n 3, 1) := by decide +kernel
theorem d_M_reach_111 : decode mt_M_reach.2.1 111 = .ok (.bipush 6, 2) := by decide +kernel
theorem d_M_reach_113 : decode mt_M_reach.2.1 113 = .ok (.iadd, 1) := by decide +kernel
theorem d_M_reach_114 : decode mt_M_reach.2.1 114 = .ok (.aload_n 1, 1) := by decide +kernel
theorem d_M_reach_115 : decode mt_M_reach.2.1 115 = .ok (.bipush 8, 2) := by decide +kernel
theorem d_M_reach_117 : decode mt_M_reach.2.1 117 = .ok (.iload 4, 2) := by decide +kernel
theorem d_M_reach_119 : decode mt_M_reach.2.1 119 = .ok (.imul, 1) := by decide +kernel
theorem d_M_reach_120 : decode mt_M_reach.2.1 120 = .ok (.iconst 4, 1) := by decide +kernel
theorem d_M_reach_121 : decode mt_M_reach.2.1 121 = .ok (.iadd, 1) := by decide +kernel
theorem d_M_reach_122 : decode mt_M_reach.2.1 122 = .ok (.aload_n 1, 1) := by decide +kernel
theorem d_M_reach_123 : decode mt_M_reach.2.1 123 = .ok (.iload_n 3, 1) := by decide +kernel
theorem d_M_reach_124 : decode mt_M_reach.2.1 124 = .ok (.iconst 4, 1) := by decide +kernel
theorem d_M_reach_125 : decode mt_M_reach.2.1 125 = .ok (.iadd, 1) := by decide +kernel
theorem d_M_reach_126 : decode mt_M_reach.2.1 126 = .ok (.iaload, 1) := by decide +kernel
theorem d_M_reach_127 : decode mt_M_reach.2.1 127 = .ok (.iadd, 1) := by decide +kernel
theorem d_M_reach_128 : decode mt_M_reach.2.1 128 = .ok (.iaload, 1) := by decide +kernel
theorem d_M_reach_129 : decode mt_M_reach.2.1 129 = .ok (.iastore, 1) := by decide +kernel
theorem d_M_reach_130 : decode mt_M_reach.2.1 130 = .ok (.goto 38, 3) := by decide +kernel
theorem d_M_reach_133 : decode mt_M_reach.2.1 133 = .ok (.aload_n 1, 1) := by decide +kernel
theorem d_M_reach_134 : decode mt_M_reach.2.1 134 = .ok (.bipush 8, 2) := by decide +kernel
theorem d_M_reach_136 : decode mt_M_reach.2.1 136 = .ok (.iload 4, 2) := by decide +kernel
theorem d_M_reach_138 : decode mt_M_reach.2.1 138 = .ok (.imul, 1) := by decide +kernel
theorem d_M_reach_139 : decode mt_M_reach.2.1 139 = .ok (.iconst 4, 1) := by decide +kernel
theorem d_M_reach_140 : decode mt_M_reach.2.1 140 = .ok (.iadd, 1) := by decide +kernel
theorem d_M_reach_141 : decode mt_M_reach.2.1 141 = .ok (.aload_n 1, 1) := by decide +kernel
theorem d_M_reach_142 : decode mt_M_reach.2.1 142 = .ok (.iload_n 3, 1) := by decide +kernel
theorem d_M_reach_143 : decode mt_M_reach.2.1 143 = .ok (.iconst 4, 1) := by decide +kernel
theorem d_M_reach_144 : decode mt_M_reach.2.1 144 = .ok (.iadd, 1) := by decide +kernel
theorem d_M_reach_145 : decode mt_M_reach.2.1 145 = .ok (.iaload, 1) := by decide +kernel
theorem d_M_reach_146 : decode mt_M_reach.2.1 146 = .ok (.iadd, 1) := by decide +kernel
theorem d_M_reach_147 : decode mt_M_reach.2.1 147 = .ok (.aload_n 1, 1) := by decide +kernel
theorem d_M_reach_148 : decode mt_M_reach.2.1 148 = .ok (.iload_n 3, 1) := by decide +kernel
theorem d_M_reach_149 : decode mt_M_reach.2.1 149 = .ok (.iconst 5, 1) := by decide +kernel
theorem d_M_reach_150 : decode mt_M_reach.2.1 150 = .ok (.iadd, 1) := by decide +kernel
theorem d_M_reach_151 : decode mt_M_reach.2.1 151 = .ok (.iaload, 1) := by decide +kernel
theorem d_M_reach_152 : decode mt_M_reach.2.1 152 = .ok (.iastore, 1) := by decide +kernel
theorem d_M_reach_153 : decode mt_M_reach.2.1 153 = .ok (.goto 15, 3) := by decide +kernel
theorem d_M_reach_156 : decode mt_M_reach.2.1 156 = .ok (.aload_n 1, 1) := by decide +kernel
theorem d_M_reach_157 : decode mt_M_reach.2.1 157 = .ok (.iload_n 3, 1) := by decide +kernel
theorem d_M_reach_158 : decode mt_M_reach.2.1 158 = .ok (.iconst 3, 1) := by decide +kernel
theorem d_M_reach_159 : decode mt_M_reach.2.1 159 = .ok (.iadd, 1) := by decide +kernel
theorem d_M_reach_160 : decode mt_M_reach.2.1 160 = .ok (.aload_n 0, 1) := by decide +kernel
theorem d_M_reach_161 : decode mt_M_reach.2.1 161 = .ok (.aload_n 1, 1) := by decide +kernel
theorem d_M_reach_162 : decode mt_M_reach.2.1 162 = .ok (.iload 4, 2) := by decide +kernel
theorem d_M_reach_164 : decode mt_M_reach.2.1 164 = .ok (.invokevirtual 165, 3) := by decide +kernel
theorem d_M_reach_167 : decode mt_M_reach.2.1 167 = .ok (.iastore, 1) := by decide +kernel
theorem d_M_reach_168 : decode mt_M_reach.2.1 168 = .ok (.return_, 1) := by decide +kernel
theorem d_M_halt_0 : decode mt_M_halt.2.1 0 = .ok (.bipush 8, 2) := by decide +kernel
theorem d_M_halt_2 : decode mt_M_halt.2.1 2 = .ok (.iload_n 1, 1) := by decide +kernel
theorem d_M_halt_3 : decode mt_M_halt.2.1 3 = .ok (.imul, 1) := by decide +kernel
theorem d_M_halt_4 : decode mt_M_halt.2.1 4 = .ok (.istore_n 3, 1) := by decide +kernel
theorem d_M_halt_5 : decode mt_M_halt.2.1 5 = .ok (.aload_n 0, 1) := by decide +kernel
theorem d_M_halt_6 : decode mt_M_halt.2.1 6 = .ok (.iload_n 3, 1) := by decide +kernel
theorem d_M_halt_7 : decode mt_M_halt.2.1 7 = .ok (.iconst 1, 1) := by decide +kernel
theorem d_M_halt_8 : decode mt_M_halt.2.1 8 = .ok (.iadd, 1) := by decide +kernel
theorem d_M_halt_9 : decode mt_M_halt.2.1 9 = .ok (.iaload, 1) := by decide +kernel
theorem d_M_halt_10 : decode mt_M_halt.2.1 10 = .ok (.iconst 2, 1) := by decide +kernel
theorem d_M_halt_11 : decode mt_M_halt.2.1 11 = .ok (.if_icmp .eq 34, 3) := by decide +kernel
theorem d_M_halt_14 : decode mt_M_halt.2.1 14 = .ok (.aload_n 0, 1) := by decide +kernel
theorem d_M_halt_15 : decode mt_M_halt.2.1 15 = .ok (.iload_n 3, 1) := by decide +kernel
theorem d_M_halt_16 : decode mt_M_halt.2.1 16 = .ok (.iconst 2, 1) := by decide +kernel
theorem d_M_halt_17 : decode mt_M_halt.2.1 17 = .ok (.iadd, 1) := by decide +kernel
theorem d_M_halt_18 : decode mt_M_halt.2.1 18 = .ok (.aload_n 0, 1) := by decide +kernel
theorem d_M_halt_19 : decode mt_M_halt.2.1 19 = .ok (.iload_n 3, 1) := by decide +kernel
theorem d_M_halt_20 : decode mt_M_halt.2.1 20 = .ok (.iconst 1, 1) := by decide +kernel
theorem d_M_halt_21 : decode mt_M_halt.2.1 21 = .ok (.iadd, 1) := by decide +kernel
theorem d_M_halt_22 : decode mt_M_halt.2.1 22 = .ok (.iaload, 1) := by decide +kernel
theorem d_M_halt_23 : decode mt_M_halt.2.1 23 = .ok (.iconst 1, 1) := by decide +kernel
theorem d_M_halt_24 : decode mt_M_halt.2.1 24 = .ok (.if_icmp .ne 7, 3) := by decide +kernel
theorem d_M_halt_27 : decode mt_M_halt.2.1 27 = .ok (.iconst 1, 1) := by decide +kernel
theorem d_M_halt_28 : decode mt_M_halt.2.1 28 = .ok (.goto 4, 3) := by decide +kernel
theorem d_M_halt_31 : decode mt_M_halt.2.1 31 = .ok (.iconst 0, 1) := by decide +kernel
theorem d_M_halt_32 : decode mt_M_halt.2.1 32 = .ok (.iastore, 1) := by decide +kernel
theorem d_M_halt_33 : decode mt_M_halt.2.1 33 = .ok (.aload_n 0, 1) := by decide +kernel
theorem d_M_halt_34 : decode mt_M_halt.2.1 34 = .ok (.iload_n 3, 1) := by decide +kernel
theorem d_M_halt_35 : decode mt_M_halt.2.1 35 = .ok (.iconst 1, 1) := by decide +kernel
theorem d_M_halt_36 : decode mt_M_halt.2.1 36 = .ok (.iadd, 1) := by decide +kernel
theorem d_M_halt_37 : decode mt_M_halt.2.1 37 = .ok (.iconst 2, 1) := by decide +kernel
theorem d_M_halt_38 : decode mt_M_halt.2.1 38 = .ok (.iastore, 1) := by decide +kernel
theorem d_M_halt_39 : decode mt_M_halt.2.1 39 = .ok (.aload_n 0, 1) := by decide +kernel
theorem d_M_halt_40 : decode mt_M_halt.2.1 40 = .ok (.iload_n 3, 1) := by decide +kernel
theorem d_M_halt_41 : decode mt_M_halt.2.1 41 = .ok (.iconst 3, 1) := by decide +kernel
theorem d_M_halt_42 : decode mt_M_halt.2.1 42 = .ok (.iadd, 1) := by decide +kernel
theorem d_M_halt_43 : decode mt_M_halt.2.1 43 = .ok (.iload_n 2, 1) := by decide +kernel
theorem d_M_halt_44 : decode mt_M_halt.2.1 44 = .ok (.iastore, 1) := by decide +kernel
theorem d_M_halt_45 : decode mt_M_halt.2.1 45 = .ok (.return_, 1) := by decide +kernel
theorem d_M_resume_0 : decode mt_M_resume.2.1 0 = .ok (.bipush 8, 2) := by decide +kernel
theorem d_M_resume_2 : decode mt_M_resume.2.1 2 = .ok (.iload_n 1, 1) := by decide +kernel
theorem d_M_resume_3 : decode mt_M_resume.2.1 3 = .ok (.imul, 1) := by decide +kernel
theorem d_M_resume_4 : decode mt_M_resume.2.1 4 = .ok (.istore_n 2, 1) := by decide +kernel
theorem d_M_resume_5 : decode mt_M_resume.2.1 5 = .ok (.aload_n 0, 1) := by decide +kernel
theorem d_M_resume_6 : decode mt_M_resume.2.1 6 = .ok (.iload_n 2, 1) := by decide +kernel
theorem d_M_resume_7 : decode mt_M_resume.2.1 7 = .ok (.iconst 1, 1) := by decide +kernel
theorem d_M_resume_8 : decode mt_M_resume.2.1 8 = .ok (.iadd, 1) := by decide +kernel
theorem d_M_resume_9 : decode mt_M_resume.2.1 9 = .ok (.iaload, 1) := by decide +kernel
theorem d_M_resume_10 : decode mt_M_resume.2.1 10 = .ok (.iconst 2, 1) := by decide +kernel
theorem d_M_resume_11 : decode mt_M_resume.2.1 11 = .ok (.if_icmp .ne 34, 3) := by decide +kernel
theorem d_M_resume_14 : decode mt_M_resume.2.1 14 = .ok (.aload_n 0, 1) := by decide +kernel
theorem d_M_resume_15 : decode mt_M_resume.2.1 15 = .ok (.iload_n 2, 1) := by decide +kernel
theorem d_M_resume_16 : decode mt_M_resume.2.1 16 = .ok (.iconst 1, 1) := by decide +kernel
theorem d_M_resume_17 : decode mt_M_resume.2.1 17 = .ok (.iadd, 1) := by decide +kernel
theorem d_M_resume_18 : decode mt_M_resume.2.1 18 = .ok (.aload_n 0, 1) := by decide +kernel
theorem d_M_resume_19 : decode mt_M_resume.2.1 19 = .ok (.iload_n 2, 1) := by decide +kernel
theorem d_M_resume_20 : decode mt_M_resume.2.1 20 = .ok (.iconst 2, 1) := by decide +kernel
theorem d_M_resume_21 : decode mt_M_resume.2.1 21 = .ok (.iadd, 1) := by decide +kernel
theorem d_M_resume_22 : decode mt_M_resume.2.1 22 = .ok (.iaload, 1) := by decide +kernel
theorem d_M_resume_23 : decode mt_M_resume.2.1 23 = .ok (.iconst 1, 1) := by decide +kernel
theorem d_M_resume_24 : decode mt_M_resume.2.1 24 = .ok (.if_icmp .ne 7, 3) := by decide +kernel
theorem d_M_resume_27 : decode mt_M_resume.2.1 27 = .ok (.iconst 1, 1) := by decide +kernel
theorem d_M_resume_28 : decode mt_M_resume.2.1 28 = .ok (.goto 4, 3) := by decide +kernel
theorem d_M_resume_31 : decode mt_M_resume.2.1 31 = .ok (.iconst 0, 1) := by decide +kernel
theorem d_M_resume_32 : decode mt_M_resume.2.1 32 = .ok (.iastore, 1) := by decide +kernel
theorem d_M_resume_33 : decode mt_M_resume.2.1 33 = .ok (.aload_n 0, 1) := by decide +kernel
theorem d_M_resume_34 : decode mt_M_resume.2.1 34 = .ok (.iload_n 2, 1) := by decide +kernel
theorem d_M_resume_35 : decode mt_M_resume.2.1 35 = .ok (.iconst 2, 1) := by decide +kernel
theorem d_M_resume_36 : decode mt_M_resume.2.1 36 = .ok (.iadd, 1) := by decide +kernel
theorem d_M_resume_37 : decode mt_M_resume.2.1 37 = .ok (.iconst 0, 1) := by decide +kernel
theorem d_M_resume_38 : decode mt_M_resume.2.1 38 = .ok (.iastore, 1) := by decide +kernel
theorem d_M_resume_39 : decode mt_M_resume.2.1 39 = .ok (.aload_n 0, 1) := by decide +kernel
theorem d_M_resume_40 : decode mt_M_resume.2.1 40 = .ok (.iload_n 2, 1) := by decide +kernel
theorem d_M_resume_41 : decode mt_M_resume.2.1 41 = .ok (.iconst 3, 1) := by decide +kernel
theorem d_M_resume_42 : decode mt_M_resume.2.1 42 = .ok (.iadd, 1) := by decide +kernel
theorem d_M_resume_43 : decode mt_M_resume.2.1 43 = .ok (.iconst 0, 1) := by decide +kernel
theorem d_M_resume_44 : decode mt_M_resume.2.1 44 = .ok (.iastore, 1) := by decide +kernel
theorem d_M_resume_45 : decode mt_M_resume.2.1 45 = .ok (.return_, 1) := by decide +kernel
theorem d_M_reset_0 : decode mt_M_reset.2.1 0 = .ok (.iconst 0, 1) := by decide +kernel
theorem d_M_reset_1 : decode mt_M_reset.2.1 1 = .ok (.istore_n 3, 1) := by decide +kernel
theorem d_M_reset_2 : decode mt_M_reset.2.1 2 = .ok (.iload_n 3, 1) := by decide +kernel
theorem d_M_reset_3 : decode mt_M_reset.2.1 3 = .ok (.bipush 8, 2) := by decide +kernel
theorem d_M_reset_5 : decode mt_M_reset.2.1 5 = .ok (.if_icmp .ge 31, 3) := by decide +kernel
theorem d_M_reset_8 : decode mt_M_reset.2.1 8 = .ok (.aload_n 1, 1) := by decide +kernel
theorem d_M_reset_9 : decode mt_M_reset.2.1 9 = .ok (.bipush 8, 2) := by decide +kernel
theorem d_M_reset_11 : decode mt_M_reset.2.1 11 = .ok (.iload_n 2, 1) := by decide +kernel
theorem d_M_reset_12 : decode mt_M_reset.2.1 12 = .ok (.imul, 1) := by decide +kernel
theorem d_M_reset_13 : decode mt_M_reset.2.1 13 = .ok (.iload_n 3, 1) := by decide +kernel
theorem d_M_reset_14 : decode mt_M_reset.2.1 14 = .ok (.iadd, 1) := by decide +kernel
theorem d_M_reset_15 : decode mt_M_reset.2.1 15 = .ok (.iload_n 3, 1) := by decide +kernel
theorem d_M_reset_16 : decode mt_M_reset.2.1 16 = .ok (.ifCond .ne 12, 3) := by decide +kernel
theorem d_M_reset_19 : decode mt_M_reset.2.1 19 = .ok (.aload_n 0, 1) := by decide +kernel
theorem d_M_reset_20 : decode mt_M_reset.2.1 20 = .ok (.getfield 16, 3) := by decide +kernel
theorem d_M_reset_23 : decode mt_M_reset.2.1 23 = .ok (.iload_n 2, 1) := by decide +kernel
theorem d_M_reset_24 : decode mt_M_reset.2.1 24 = .ok (.iaload, 1) := by decide +kernel
theorem d_M_reset_25 : decode mt_M_reset.2.1 25 = .ok (.goto 4, 3) := by decide +kernel
theorem d_M_reset_28 : decode mt_M_reset.2.1 28 = .ok (.iconst 0, 1) := by decide +kernel
theorem d_M_reset_29 : decode mt_M_reset.2.1 29 = .ok (.iastore, 1) := by decide +kernel
theorem d_M_reset_30 : decode mt_M_reset.2.1 30 = .ok (.iinc 3 1, 3) := by decide +kernel
theorem d_M_reset_33 : decode mt_M_reset.2.1 33 = .ok (.goto (-31), 3) := by decide +kernel
theorem d_M_reset_36 : decode mt_M_reset.2.1 36 = .ok (.iconst 0, 1) := by decide +kernel
theorem d_M_reset_37 : decode mt_M_reset.2.1 37 = .ok (.istore_n 3, 1) := by decide +kernel
theorem d_M_reset_38 : decode mt_M_reset.2.1 38 = .ok (.iload_n 3, 1) := by decide +kernel
theorem d_M_reset_39 : decode mt_M_reset.2.1 39 = .ok (.aload_n 0, 1) := by decide +kernel
theorem d_M_reset_40 : decode mt_M_reset.2.1 40 = .ok (.getfield 138, 3) := by decide +kernel
theorem d_M_reset_43 : decode mt_M_reset.2.1 43 = .ok (.if_icmp .ge 41, 3) := by decide +kernel
theorem d_M_reset_46 : decode mt_M_reset.2.1 46 = .ok (.aload_n 0, 1) := by decide +kernel
theorem d_M_reset_47 : decode mt_M_reset.2.1 47 = .ok (.getfield 22, 3) := by decide +kernel
theorem d_M_reset_50 : decode mt_M_reset.2.1 50 = .ok (.iload_n 3, 1) := by decide +kernel
theorem d_M_reset_51 : decode mt_M_reset.2.1 51 = .ok (.iaload, 1) := by decide +kernel
theorem d_M_reset_52 : decode mt_M_reset.2.1 52 = .ok (.iload_n 2, 1) := by decide +kernel
theorem d_M_reset_53 : decode mt_M_reset.2.1 53 = .ok (.if_icmp .ne 25, 3) := by decide +kernel
theorem d_M_reset_56 : decode mt_M_reset.2.1 56 = .ok (.aload_n 1, 1) := by decide +kernel
theorem d_M_reset_57 : decode mt_M_reset.2.1 57 = .ok (.bipush 40, 2) := by decide +kernel
theorem d_M_reset_59 : decode mt_M_reset.2.1 59 = .ok (.bipush 6, 2) := by decide +kernel
theorem d_M_reset_61 : decode mt_M_reset.2.1 61 = .ok (.iload_n 3, 1) := by decide +kernel
theorem d_M_reset_62 : decode mt_M_reset.2.1 62 = .ok (.imul, 1) := by decide +kernel
theorem d_M_reset_63 : decode mt_M_reset.2.1 63 = .ok (.iadd, 1) := by decide +kernel
theorem d_M_reset_64 : decode mt_M_reset.2.1 64 = .ok (.iconst 4, 1) := by decide +kernel
theorem d_M_reset_65 : decode mt_M_reset.2.1 65 = .ok (.iadd, 1) := by decide +kernel
theorem d_M_reset_66 : decode mt_M_reset.2.1 66 = .ok (.aload_n 1, 1) := by decide +kernel
theorem d_M_reset_67 : decode mt_M_reset.2.1 67 = .ok (.bipush 40, 2) := by decide +kernel
theorem d_M_reset_69 : decode mt_M_reset.2.1 69 = .ok (.bipush 6, 2) := by decide +kernel
theorem d_M_reset_71 : decode mt_M_reset.2.1 71 = .ok (.iload_n 3, 1) := by decide +kernel
theorem d_M_reset_72 : decode mt_M_reset.2.1 72 = .ok (.imul, 1) := by decide +kernel
theorem d_M_reset_73 : decode mt_M_reset.2.1 73 = .ok (.iadd, 1) := by decide +kernel
theorem d_M_reset_74 : decode mt_M_reset.2.1 74 = .ok (.iconst 3, 1) := by decide +kernel
theorem d_M_reset_75 : decode mt_M_reset.2.1 75 = .ok (.iadd, 1) := by decide +kernel
theorem d_M_reset_76 : decode mt_M_reset.2.1 76 = .ok (.iaload, 1) := by decide +kernel
theorem d_M_reset_77 : decode mt_M_reset.2.1 77 = .ok (.iastore, 1) := by decide +kernel
theorem d_M_reset_78 : decode mt_M_reset.2.1 78 = .ok (.iinc 3 1, 3) := by decide +kernel
theorem d_M_reset_81 : decode mt_M_reset.2.1 81 = .ok (.goto (-43), 3) := by decide +kernel
theorem d_M_reset_84 : decode mt_M_reset.2.1 84 = .ok (.return_, 1) := by decide +kernel
theorem d_M_runBuffer_0 : decode mt_M_runBuffer.2.1 0 = .ok (.iconst 0, 1) := by decide +kernel
theorem d_M_runBuffer_1 : decode mt_M_runBuffer.2.1 1 = .ok (.istore_n 3, 1) := by decide +kernel
theorem d_M_runBuffer_2 : decode mt_M_runBuffer.2.1 2 = .ok (.iload_n 3, 1) := by decide +kernel
theorem d_M_runBuffer_3 : decode mt_M_runBuffer.2.1 3 = .ok (.iconst 2, 1) := by decide +kernel
theorem d_M_runBuffer_4 : decode mt_M_runBuffer.2.1 4 = .ok (.if_icmp .ge 47, 3) := by decide +kernel
theorem d_M_runBuffer_7 : decode mt_M_runBuffer.2.1 7 = .ok (.aload_n 1, 1) := by decide +kernel
theorem d_M_runBuffer_8 : decode mt_M_runBuffer.2.1 8 = .ok (.bipush 78, 2) := by decide +kernel
theorem d_M_runBuffer_10 : decode mt_M_runBuffer.2.1 10 = .ok (.iload_n 3, 1) := by decide +kernel
theorem d_M_runBuffer_11 : decode mt_M_runBuffer.2.1 11 = .ok (.iadd, 1) := by decide +kernel
theorem d_M_runBuffer_12 : decode mt_M_runBuffer.2.1 12 = .ok (.iaload, 1) := by decide +kernel
theorem d_M_runBuffer_13 : decode mt_M_runBuffer.2.1 13 = .ok (.invokestatic 148, 3) := by decide +kernel
theorem d_M_runBuffer_16 : decode mt_M_runBuffer.2.1 16 = .ok (.istore 4, 2) := by decide +kernel
theorem d_M_runBuffer_18 : decode mt_M_runBuffer.2.1 18 = .ok (.iload 4, 2) := by decide +kernel
theorem d_M_runBuffer_20 : decode mt_M_runBuffer.2.1 20 = .ok (.ifCond .ne 5, 3) := by decide +kernel
theorem d_M_runBuffer_23 : decode mt_M_runBuffer.2.1 23 = .ok (.iconst 0, 1) := by decide +kernel
theorem d_M_runBuffer_24 : decode mt_M_runBuffer.2.1 24 = .ok (.ireturn, 1) := by decide +kernel
theorem d_M_runBuffer_25 : decode mt_M_runBuffer.2.1 25 = .ok (.iload 4, 2) := by decide +kernel
theorem d_M_runBuffer_27 : decode mt_M_runBuffer.2.1 27 = .ok (.sipush 1000, 3) := by decide +kernel
theorem d_M_runBuffer_30 : decode mt_M_runBuffer.2.1 30 = .ok (.idiv, 1) := by decide +kernel
theorem d_M_runBuffer_31 : decode mt_M_runBuffer.2.1 31 = .ok (.iconst 5, 1) := by decide +kernel
theorem d_M_runBuffer_32 : decode mt_M_runBuffer.2.1 32 = .ok (.if_icmp .le 5, 3) := by decide +kernel
theorem d_M_runBuffer_35 : decode mt_M_runBuffer.2.1 35 = .ok (.iconst 3, 1) := by decide +kernel
theorem d_M_runBuffer_36 : decode mt_M_runBuffer.2.1 36 = .ok (.ireturn, 1) := by decide +kernel
theorem d_M_runBuffer_37 : decode mt_M_runBuffer.2.1 37 = .ok (.aload_n 0, 1) := by decide +kernel
theorem d_M_runBuffer_38 : decode mt_M_runBuffer.2.1 38 = .ok (.aload_n 1, 1) := by decide +kernel
theorem d_M_runBuffer_39 : decode mt_M_runBuffer.2.1 39 = .ok (.iload_n 2, 1) := by decide +kernel
theorem d_M_runBuffer_40 : decode mt_M_runBuffer.2.1 40 = .ok (.iload 4, 2) := by decide +kernel
theorem d_M_runBuffer_42 : decode mt_M_runBuffer.2.1 42 = .ok (.invokevirtual 151, 3) := by decide +kernel
theorem d_M_runBuffer_45 : decode mt_M_runBuffer.2.1 45 = .ok (.iinc 3 1, 3) := by decide +kernel
theorem d_M_runBuffer_48 : decode mt_M_runBuffer.2.1 48 = .ok (.goto (-46), 3) := by decide +kernel
theorem d_M_runBuffer_51 : decode mt_M_runBuffer.2.1 51 = .ok (.iconst 0, 1) := by decide +kernel
theorem d_M_runBuffer_52 : decode mt_M_runBuffer.2.1 52 = .ok (.ireturn, 1) := by decide +kernel
theorem d_M_plain_0 : decode mt_M_plain.2.1 0 = .ok (.sipush 1000, 3) := by decide +kernel
theorem d_M_plain_3 : decode mt_M_plain.2.1 3 = .ok (.iload_n 0, 1) := by decide +kernel
theorem d_M_plain_4 : decode mt_M_plain.2.1 4 = .ok (.bipush 100, 2) := by decide +kernel
theorem d_M_plain_6 : decode mt_M_plain.2.1 6 = .ok (.idiv, 1) := by decide +kernel
theorem d_M_plain_7 : decode mt_M_plain.2.1 7 = .ok (.imul, 1) := by decide +kernel
theorem d_M_plain_8 : decode mt_M_plain.2.1 8 = .ok (.bipush 100, 2) := by decide +kernel
theorem d_M_plain_10 : decode mt_M_plain.2.1 10 = .ok (.iload_n 0, 1) := by decide +kernel
theorem d_M_plain_11 : decode mt_M_plain.2.1 11 = .ok (.bipush 10, 2) := by decide +kernel
theorem d_M_plain_13 : decode mt_M_plain.2.1 13 = .ok (.idiv, 1) := by decide +kernel
theorem d_M_plain_14 : decode mt_M_plain.2.1 14 = .ok (.bipush 10, 2) := by decide +kernel
theorem d_M_plain_16 : decode mt_M_plain.2.1 16 = .ok (.irem, 1) := by decide +kernel
theorem d_M_plain_17 : decode mt_M_plain.2.1 17 = .ok (.imul, 1) := by decide +kernel
theorem d_M_plain_18 : decode mt_M_plain.2.1 18 = .ok (.iadd, 1) := by decide +kernel
theorem d_M_plain_19 : decode mt_M_plain.2.1 19 = .ok (.iload_n 0, 1) := by decide +kernel
theorem d_M_plain_20 : decode mt_M_plain.2.1 20 = .ok (.bipush 10, 2) := by decide +kernel
theorem d_M_plain_22 : decode mt_M_plain.2.1 22 = .ok (.irem, 1) := by decide +kernel
theorem d_M_plain_23 : decode mt_M_plain.2.1 23 = .ok (.iadd, 1) := by decide +kernel
theorem d_M_plain_24 : decode mt_M_plain.2.1 24 = .ok (.ireturn, 1) := by decide +kernel
theorem d_M_doPlain_0 : decode mt_M_doPlain.2.1 0 = .ok (.bipush 8, 2) := by decide +kernel
theorem d_M_doPlain_2 : decode mt_M_doPlain.2.1 2 = .ok (.iload_n 2, 1) := by decide +kernel
theorem d_M_doPlain_3 : decode mt_M_doPlain.2.1 3 = .ok (.imul, 1) := by decide +kernel
theorem d_M_doPlain_4 : decode mt_M_doPlain.2.1 4 = .ok (.iconst 4, 1) := by decide +kernel
theorem d_M_doPlain_5 : decode mt_M_doPlain.2.1 5 = .ok (.iadd, 1) := by decide +kernel
theorem d_M_doPlain_6 : decode mt_M_doPlain.2.1 6 = .ok (.iload_n 3, 1) := by decide +kernel
theorem d_M_doPlain_7 : decode mt_M_doPlain.2.1 7 = .ok (.bipush 100, 2) := by decide +kernel
theorem d_M_doPlain_9 : decode mt_M_doPlain.2.1 9 = .ok (.idiv, 1) := by decide +kernel
theorem d_M_doPlain_10 : decode mt_M_doPlain.2.1 10 = .ok (.bipush 10, 2) := by decide +kernel
theorem d_M_doPlain_12 : decode mt_M_doPlain.2.1 12 = .ok (.irem, 1) := by decide +kernel
theorem d_M_doPlain_13 : decode mt_M_doPlain.2.1 13 = .ok (.iadd, 1) := by decide +kernel
theorem d_M_doPlain_14 : decode mt_M_doPlain.2.1 14 = .ok (.istore 4, 2) := by decide +kernel
theorem d_M_doPlain_16 : decode mt_M_doPlain.2.1 16 = .ok (.iload_n 3, 1) := by decide +kernel
theorem d_M_doPlain_17 : decode mt_M_doPlain.2.1 17 = .ok (.bipush 100, 2) := by decide +kernel
theorem d_M_doPlain_19 : decode mt_M_doPlain.2.1 19 = .ok (.irem, 1) := by decide +kernel
theorem d_M_doPlain_20 : decode mt_M_doPlain.2.1 20 = .ok (.istore 5, 2) := by decide +kernel
theorem d_M_doPlain_22 : decode mt_M_doPlain.2.1 22 = .ok (.iload_n 3, 1) := by decide +kernel
theorem d_M_doPlain_23 : decode mt_M_doPlain.2.1 23 = .ok (.sipush 1000, 3) := by decide +kernel
theorem d_M_doPlain_26 : decode mt_M_doPlain.2.1 26 = .ok (.idiv, 1) := by decide +kernel
theorem d_M_doPlain_27 : decode mt_M_doPlain.2.1 27 = .ok (.tableswitch 101 1 4 #[29, 47, 69, 87], 29) := by decide +kernel
theorem d_M_doPlain_56 : decode mt_M_doPlain.2.1 56 = .ok (.aload_n 1, 1) := by decide +kernel
theorem d_M_doPlain_57 : decode mt_M_doPlain.2.1 57 = .ok (.iload 4, 2) := by decide +kernel
theorem d_M_doPlain_59 : decode mt_M_doPlain.2.1 59 = .ok (.aload_n 1, 1) := by decide +kernel
theorem d_M_doPlain_60 : decode mt_M_doPlain.2.1 60 = .ok (.iload 4, 2) := by decide +kernel
theorem d_M_doPlain_62 : decode mt_M_doPlain.2.1 62 = .ok (.iaload, 1) := by decide +kernel
theorem d_M_doPlain_63 : decode mt_M_doPlain.2.1 63 = .ok (.iload 5, 2) := by decide +kernel
theorem d_M_doPlain_65 : decode mt_M_doPlain.2.1 65 = .ok (.iadd, 1) := by decide +kernel
theorem d_M_doPlain_66 : decode mt_M_doPlain.2.1 66 = .ok (.sipush 1000, 3) := by decide +kernel
theorem d_M_doPlain_69 : decode mt_M_doPlain.2.1 69 = .ok (.irem, 1) := by decide +kernel
theorem d_M_doPlain_70 : decode mt_M_doPlain.2.1 70 = .ok (.iastore, 1) := by decide +kernel
theorem d_M_doPlain_71 : decode mt_M_doPlain.2.1 71 = .ok (.goto 91, 3) := by decide +kernel
theorem d_M_doPlain_74 : decode mt_M_doPlain.2.1 74 = .ok (.aload_n 1, 1) := by decide +kernel
theorem d_M_doPlain_75 : decode mt_M_doPlain.2.1 75 = .ok (.iload 4, 2) := by decide +kernel
theorem d_M_doPlain_77 : decode mt_M_doPlain.2.1 77 = .ok (.dup2, 1) := by decide +kernel
theorem d_M_doPlain_78 : decode mt_M_doPlain.2.1 78 = .ok (.iaload, 1) := by decide +kernel
theorem d_M_doPlain_79 : decode mt_M_doPlain.2.1 79 = .ok (.aload_n 1, 1) := by decide +kernel
theorem d_M_doPlain_80 : decode mt_M_doPlain.2.1 80 = .ok (.iload 4, 2) := by decide +kernel
theorem d_M_doPlain_82 : decode mt_M_doPlain.2.1 82 = .ok (.iaload, 1) := by decide +kernel
theorem d_M_doPlain_83 : decode mt_M_doPlain.2.1 83 = .ok (.ifCond .le 7, 3) := by decide +kernel
theorem d_M_doPlain_86 : decode mt_M_doPlain.2.1 86 = .ok (.iconst 1, 1) := by decide +kernel
theorem d_M_doPlain_87 : decode mt_M_doPlain.2.1 87 = .ok (.goto 4, 3) := by decide +kernel
theorem d_M_doPlain_90 : decode mt_M_doPlain.2.1 90 = .ok (.iconst 0, 1) := by decide +kernel
theorem d_M_doPlain_91 : decode mt_M_doPlain.2.1 91 = .ok (.isub, 1) := by decide +kernel
theorem d_M_doPlain_92 : decode mt_M_doPlain.2.1 92 = .ok (.iastore, 1) := by decide +kernel
theorem d_M_doPlain_93 : decode mt_M_doPlain.2.1 93 = .ok (.goto 69, 3) := by decide +kernel
theorem d_M_doPlain_96 : decode mt_M_doPlain.2.1 96 = .ok (.aload_n 1, 1) := by decide +kernel
theorem d_M_doPlain_97 : decode mt_M_doPlain.2.1 97 = .ok (.iload 4, 2) := by decide +kernel
theorem d_M_doPlain_99 : decode mt_M_doPlain.2.1 99 = .ok (.aload_n 1, 1) := by decide +kernel
theorem d_M_doPlain_100 : decode mt_M_doPlain.2.1 100 = .ok (.bipush 8, 2) := by decide +kernel
theorem d_M_doPlain_102 : decode mt_M_doPlain.2.1 102 = .ok (.iload_n 2, 1) := by decide +kernel
theorem d_M_doPlain_103 : decode mt_M_doPlain.2.1 103 = .ok (.imul, 1) := by decide +kernel
theorem d_M_doPlain_104 : decode mt_M_doPlain.2.1 104 = .ok (.iconst 4, 1) := by decide +kernel
theorem d_M_doPlain_105 : decode mt_M_doPlain.2.1 105 = .ok (.iadd, 1) := by decide +kernel
theorem d_M_doPlain_106 : decode mt_M_doPlain.2.1 106 = .ok (.iload 5, 2) := by decide +kernel
theorem d_M_doPlain_108 : decode mt_M_doPlain.2.1 108 = .ok (.iadd, 1) := by decide +kernel
theorem d_M_doPlain_109 : decode mt_M_doPlain.2.1 109 = .ok (.iaload, 1) := by decide +kernel
theorem d_M_doPlain_110 : decode mt_M_doPlain.2.1 110 = .ok (.iastore, 1) := by decide +kernel
theorem d_M_doPlain_111 : decode mt_M_doPlain.2.1 111 = .ok (.goto 51, 3) := by decide +kernel
theorem d_M_doPlain_114 : decode mt_M_doPlain.2.1 114 = .ok (.aload_n 1, 1) := by decide +kernel
theorem d_M_doPlain_115 : decode mt_M_doPlain.2.1 115 = .ok (.iload 4, 2) := by decide +kernel
theorem d_M_doPlain_117 : decode mt_M_doPlain.2.1 117 = .ok (.aload_n 1, 1) := by decide +kernel
