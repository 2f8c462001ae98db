theorem d_M_doPlain_118 : decode mt_M_doPlain.2.1 118 = .ok (.bipush 32, 2) := by decide +kernel
theorem d_M_doPlain_120 : decode mt_M_doPlain.2.1 120 = .ok (.iload 5, 2) := by decide +kernel
theorem d_M_doPlain_122 : decode mt_M_doPlain.2.1 122 = .ok (.iadd, 1) := by decide +kernel
theorem d_M_doPlain_123 : decode mt_M_doPlain.2.1 123 = .ok (.iaload, 1) := by decide +kernel
theorem d_M_doPlain_124 : decode mt_M_doPlain.2.1 124 = .ok (.iastore, 1) := by decide +kernel
theorem d_M_doPlain_125 : decode mt_M_doPlain.2.1 125 = .ok (.goto 37, 3) := by decide +kernel
theorem d_M_doPlain_128 : decode mt_M_doPlain.2.1 128 = .ok (.aload_n 1, 1) := by decide +kernel
theorem d_M_doPlain_129 : decode mt_M_doPlain.2.1 129 = .ok (.bipush 32, 2) := by decide +kernel
theorem d_M_doPlain_131 : decode mt_M_doPlain.2.1 131 = .ok (.iload 5, 2) := by decide +kernel
theorem d_M_doPlain_133 : decode mt_M_doPlain.2.1 133 = .ok (.iadd, 1) := by decide +kernel
theorem d_M_doPlain_134 : decode mt_M_doPlain.2.1 134 = .ok (.aload_n 1, 1) := by decide +kernel
theorem d_M_doPlain_135 : decode mt_M_doPlain.2.1 135 = .ok (.iload 4, 2) := by decide +kernel
theorem d_M_doPlain_137 : decode mt_M_doPlain.2.1 137 = .ok (.iaload, 1) := by decide +kernel
theorem d_M_doPlain_138 : decode mt_M_doPlain.2.1 138 = .ok (.iastore, 1) := by decide +kernel
theorem d_M_doPlain_139 : decode mt_M_doPlain.2.1 139 = .ok (.aload_n 0, 1) := by decide +kernel
theorem d_M_doPlain_140 : decode mt_M_doPlain.2.1 140 = .ok (.aload_n 0, 1) := by decide +kernel
theorem d_M_doPlain_141 : decode mt_M_doPlain.2.1 141 = .ok (.getfield 144, 3) := by decide +kernel
theorem d_M_doPlain_144 : decode mt_M_doPlain.2.1 144 = .ok (.ifCond .ne 10, 3) := by decide +kernel
theorem d_M_doPlain_147 : decode mt_M_doPlain.2.1 147 = .ok (.iload 5, 2) := by decide +kernel
theorem d_M_doPlain_149 : decode mt_M_doPlain.2.1 149 = .ok (.bipush 7, 2) := by decide +kernel
theorem d_M_doPlain_151 : decode mt_M_doPlain.2.1 151 = .ok (.if_icmp .ne 7, 3) := by decide +kernel
theorem d_M_doPlain_154 : decode mt_M_doPlain.2.1 154 = .ok (.iconst 1, 1) := by decide +kernel
theorem d_M_doPlain_155 : decode mt_M_doPlain.2.1 155 = .ok (.goto 4, 3) := by decide +kernel
theorem d_M_doPlain_158 : decode mt_M_doPlain.2.1 158 = .ok (.iconst 0, 1) := by decide +kernel
theorem d_M_doPlain_159 : decode mt_M_doPlain.2.1 159 = .ok (.putfield 144, 3) := by decide +kernel
theorem d_M_doPlain_162 : decode mt_M_doPlain.2.1 162 = .ok (.return_, 1) := by decide +kernel
theorem d_M_dropOrder_0 : decode mt_M_dropOrder.2.1 0 = .ok (.aload_n 0, 1) := by decide +kernel
theorem d_M_dropOrder_1 : decode mt_M_dropOrder.2.1 1 = .ok (.bipush 80, 2) := by decide +kernel
theorem d_M_dropOrder_3 : decode mt_M_dropOrder.2.1 3 = .ok (.dup2, 1) := by decide +kernel
theorem d_M_dropOrder_4 : decode mt_M_dropOrder.2.1 4 = .ok (.iaload, 1) := by decide +kernel
theorem d_M_dropOrder_5 : decode mt_M_dropOrder.2.1 5 = .ok (.iconst 1, 1) := by decide +kernel
theorem d_M_dropOrder_6 : decode mt_M_dropOrder.2.1 6 = .ok (.isub, 1) := by decide +kernel
theorem d_M_dropOrder_7 : decode mt_M_dropOrder.2.1 7 = .ok (.iastore, 1) := by decide +kernel
theorem d_M_dropOrder_8 : decode mt_M_dropOrder.2.1 8 = .ok (.bipush 81, 2) := by decide +kernel
theorem d_M_dropOrder_10 : decode mt_M_dropOrder.2.1 10 = .ok (.bipush 7, 2) := by decide +kernel
theorem d_M_dropOrder_12 : decode mt_M_dropOrder.2.1 12 = .ok (.iload_n 1, 1) := by decide +kernel
theorem d_M_dropOrder_13 : decode mt_M_dropOrder.2.1 13 = .ok (.imul, 1) := by decide +kernel
theorem d_M_dropOrder_14 : decode mt_M_dropOrder.2.1 14 = .ok (.iadd, 1) := by decide +kernel
theorem d_M_dropOrder_15 : decode mt_M_dropOrder.2.1 15 = .ok (.istore_n 2, 1) := by decide +kernel
theorem d_M_dropOrder_16 : decode mt_M_dropOrder.2.1 16 = .ok (.iload_n 2, 1) := by decide +kernel
theorem d_M_dropOrder_17 : decode mt_M_dropOrder.2.1 17 = .ok (.bipush 81, 2) := by decide +kernel
theorem d_M_dropOrder_19 : decode mt_M_dropOrder.2.1 19 = .ok (.bipush 7, 2) := by decide +kernel
theorem d_M_dropOrder_21 : decode mt_M_dropOrder.2.1 21 = .ok (.aload_n 0, 1) := by decide +kernel
theorem d_M_dropOrder_22 : decode mt_M_dropOrder.2.1 22 = .ok (.bipush 80, 2) := by decide +kernel
theorem d_M_dropOrder_24 : decode mt_M_dropOrder.2.1 24 = .ok (.iaload, 1) := by decide +kernel
theorem d_M_dropOrder_25 : decode mt_M_dropOrder.2.1 25 = .ok (.imul, 1) := by decide +kernel
theorem d_M_dropOrder_26 : decode mt_M_dropOrder.2.1 26 = .ok (.iadd, 1) := by decide +kernel
theorem d_M_dropOrder_27 : decode mt_M_dropOrder.2.1 27 = .ok (.if_icmp .ge 18, 3) := by decide +kernel
theorem d_M_dropOrder_30 : decode mt_M_dropOrder.2.1 30 = .ok (.aload_n 0, 1) := by decide +kernel
theorem d_M_dropOrder_31 : decode mt_M_dropOrder.2.1 31 = .ok (.iload_n 2, 1) := by decide +kernel
theorem d_M_dropOrder_32 : decode mt_M_dropOrder.2.1 32 = .ok (.aload_n 0, 1) := by decide +kernel
theorem d_M_dropOrder_33 : decode mt_M_dropOrder.2.1 33 = .ok (.iload_n 2, 1) := by decide +kernel
theorem d_M_dropOrder_34 : decode mt_M_dropOrder.2.1 34 = .ok (.bipush 7, 2) := by decide +kernel
theorem d_M_dropOrder_36 : decode mt_M_dropOrder.2.1 36 = .ok (.iadd, 1) := by decide +kernel
theorem d_M_dropOrder_37 : decode mt_M_dropOrder.2.1 37 = .ok (.iaload, 1) := by decide +kernel
theorem d_M_dropOrder_38 : decode mt_M_dropOrder.2.1 38 = .ok (.iastore, 1) := by decide +kernel
theorem d_M_dropOrder_39 : decode mt_M_dropOrder.2.1 39 = .ok (.iinc 2 1, 3) := by decide +kernel
theorem d_M_dropOrder_42 : decode mt_M_dropOrder.2.1 42 = .ok (.goto (-26), 3) := by decide +kernel
theorem d_M_dropOrder_45 : decode mt_M_dropOrder.2.1 45 = .ok (.return_, 1) := by decide +kernel
theorem d_M_runHart_0 : decode mt_M_runHart.2.1 0 = .ok (.bipush 8, 2) := by decide +kernel
theorem d_M_runHart_2 : decode mt_M_runHart.2.1 2 = .ok (.iload_n 2, 1) := by decide +kernel
theorem d_M_runHart_3 : decode mt_M_runHart.2.1 3 = .ok (.imul, 1) := by decide +kernel
theorem d_M_runHart_4 : decode mt_M_runHart.2.1 4 = .ok (.istore_n 3, 1) := by decide +kernel
theorem d_M_runHart_5 : decode mt_M_runHart.2.1 5 = .ok (.aload_n 1, 1) := by decide +kernel
theorem d_M_runHart_6 : decode mt_M_runHart.2.1 6 = .ok (.iload_n 3, 1) := by decide +kernel
theorem d_M_runHart_7 : decode mt_M_runHart.2.1 7 = .ok (.iconst 1, 1) := by decide +kernel
theorem d_M_runHart_8 : decode mt_M_runHart.2.1 8 = .ok (.iadd, 1) := by decide +kernel
theorem d_M_runHart_9 : decode mt_M_runHart.2.1 9 = .ok (.iaload, 1) := by decide +kernel
theorem d_M_runHart_10 : decode mt_M_runHart.2.1 10 = .ok (.ifCond .ne 10, 3) := by decide +kernel
theorem d_M_runHart_13 : decode mt_M_runHart.2.1 13 = .ok (.aload_n 0, 1) := by decide +kernel
theorem d_M_runHart_14 : decode mt_M_runHart.2.1 14 = .ok (.getfield 135, 3) := by decide +kernel
theorem d_M_runHart_17 : decode mt_M_runHart.2.1 17 = .ok (.ifCond .ne 4, 3) := by decide +kernel
theorem d_M_runHart_20 : decode mt_M_runHart.2.1 20 = .ok (.return_, 1) := by decide +kernel
theorem d_M_runHart_21 : decode mt_M_runHart.2.1 21 = .ok (.aload_n 1, 1) := by decide +kernel
theorem d_M_runHart_22 : decode mt_M_runHart.2.1 22 = .ok (.iload_n 3, 1) := by decide +kernel
theorem d_M_runHart_23 : decode mt_M_runHart.2.1 23 = .ok (.aload_n 1, 1) := by decide +kernel
theorem d_M_runHart_24 : decode mt_M_runHart.2.1 24 = .ok (.iload_n 3, 1) := by decide +kernel
theorem d_M_runHart_25 : decode mt_M_runHart.2.1 25 = .ok (.iaload, 1) := by decide +kernel
theorem d_M_runHart_26 : decode mt_M_runHart.2.1 26 = .ok (.aload_n 0, 1) := by decide +kernel
theorem d_M_runHart_27 : decode mt_M_runHart.2.1 27 = .ok (.getfield 135, 3) := by decide +kernel
theorem d_M_runHart_30 : decode mt_M_runHart.2.1 30 = .ok (.if_icmp .lt 7, 3) := by decide +kernel
theorem d_M_runHart_33 : decode mt_M_runHart.2.1 33 = .ok (.iconst 0, 1) := by decide +kernel
theorem d_M_runHart_34 : decode mt_M_runHart.2.1 34 = .ok (.goto 6, 3) := by decide +kernel
theorem d_M_runHart_37 : decode mt_M_runHart.2.1 37 = .ok (.aload_n 1, 1) := by decide +kernel
theorem d_M_runHart_38 : decode mt_M_runHart.2.1 38 = .ok (.iload_n 3, 1) := by decide +kernel
theorem d_M_runHart_39 : decode mt_M_runHart.2.1 39 = .ok (.iaload, 1) := by decide +kernel
theorem d_M_runHart_40 : decode mt_M_runHart.2.1 40 = .ok (.iastore, 1) := by decide +kernel
theorem d_M_runHart_41 : decode mt_M_runHart.2.1 41 = .ok (.aload_n 0, 1) := by decide +kernel
theorem d_M_runHart_42 : decode mt_M_runHart.2.1 42 = .ok (.aload_n 1, 1) := by decide +kernel
theorem d_M_runHart_43 : decode mt_M_runHart.2.1 43 = .ok (.iload_n 2, 1) := by decide +kernel
theorem d_M_runHart_44 : decode mt_M_runHart.2.1 44 = .ok (.invokevirtual 186, 3) := by decide +kernel
theorem d_M_runHart_47 : decode mt_M_runHart.2.1 47 = .ok (.ifCond .eq 10, 3) := by decide +kernel
theorem d_M_runHart_50 : decode mt_M_runHart.2.1 50 = .ok (.aload_n 1, 1) := by decide +kernel
theorem d_M_runHart_51 : decode mt_M_runHart.2.1 51 = .ok (.iload_n 2, 1) := by decide +kernel
theorem d_M_runHart_52 : decode mt_M_runHart.2.1 52 = .ok (.iconst 2, 1) := by decide +kernel
theorem d_M_runHart_53 : decode mt_M_runHart.2.1 53 = .ok (.invokestatic 155, 3) := by decide +kernel
theorem d_M_runHart_56 : decode mt_M_runHart.2.1 56 = .ok (.return_, 1) := by decide +kernel
theorem d_M_runHart_57 : decode mt_M_runHart.2.1 57 = .ok (.aload_n 0, 1) := by decide +kernel
theorem d_M_runHart_58 : decode mt_M_runHart.2.1 58 = .ok (.getfield 13, 3) := by decide +kernel
theorem d_M_runHart_61 : decode mt_M_runHart.2.1 61 = .ok (.aload_n 1, 1) := by decide +kernel
theorem d_M_runHart_62 : decode mt_M_runHart.2.1 62 = .ok (.iload_n 3, 1) := by decide +kernel
theorem d_M_runHart_63 : decode mt_M_runHart.2.1 63 = .ok (.iaload, 1) := by decide +kernel
theorem d_M_runHart_64 : decode mt_M_runHart.2.1 64 = .ok (.iaload, 1) := by decide +kernel
theorem d_M_runHart_65 : decode mt_M_runHart.2.1 65 = .ok (.istore 4, 2) := by decide +kernel
theorem d_M_runHart_67 : decode mt_M_runHart.2.1 67 = .ok (.aload_n 1, 1) := by decide +kernel
theorem d_M_runHart_68 : decode mt_M_runHart.2.1 68 = .ok (.iload_n 3, 1) := by decide +kernel
theorem d_M_runHart_69 : decode mt_M_runHart.2.1 69 = .ok (.dup2, 1) := by decide +kernel
theorem d_M_runHart_70 : decode mt_M_runHart.2.1 70 = .ok (.iaload, 1) := by decide +kernel
theorem d_M_runHart_71 : decode mt_M_runHart.2.1 71 = .ok (.iconst 1, 1) := by decide +kernel
theorem d_M_runHart_72 : decode mt_M_runHart.2.1 72 = .ok (.iadd, 1) := by decide +kernel
theorem d_M_runHart_73 : decode mt_M_runHart.2.1 73 = .ok (.iastore, 1) := by decide +kernel
theorem d_M_runHart_74 : decode mt_M_runHart.2.1 74 = .ok (.iload 4, 2) := by decide +kernel
theorem d_M_runHart_76 : decode mt_M_runHart.2.1 76 = .ok (.sipush 1000, 3) := by decide +kernel
theorem d_M_runHart_79 : decode mt_M_runHart.2.1 79 = .ok (.idiv, 1) := by decide +kernel
theorem d_M_runHart_80 : decode mt_M_runHart.2.1 80 = .ok (.tableswitch 80 6 8 #[28, 62, 71], 28) := by decide +kernel
theorem d_M_runHart_108 : decode mt_M_runHart.2.1 108 = .ok (.aload_n 1, 1) := by decide +kernel
theorem d_M_runHart_109 : decode mt_M_runHart.2.1 109 = .ok (.iload_n 3, 1) := by decide +kernel
theorem d_M_runHart_110 : decode mt_M_runHart.2.1 110 = .ok (.aload_n 1, 1) := by decide +kernel
theorem d_M_runHart_111 : decode mt_M_runHart.2.1 111 = .ok (.iload_n 3, 1) := by decide +kernel
theorem d_M_runHart_112 : decode mt_M_runHart.2.1 112 = .ok (.iconst 4, 1) := by decide +kernel
theorem d_M_runHart_113 : decode mt_M_runHart.2.1 113 = .ok (.iadd, 1) := by decide +kernel
theorem d_M_runHart_114 : decode mt_M_runHart.2.1 114 = .ok (.iload 4, 2) := by decide +kernel
theorem d_M_runHart_116 : decode mt_M_runHart.2.1 116 = .ok (.bipush 100, 2) := by decide +kernel
theorem d_M_runHart_118 : decode mt_M_runHart.2.1 118 = .ok (.idiv, 1) := by decide +kernel
theorem d_M_runHart_119 : decode mt_M_runHart.2.1 119 = .ok (.bipush 10, 2) := by decide +kernel
theorem d_M_runHart_121 : decode mt_M_runHart.2.1 121 = .ok (.irem, 1) := by decide +kernel
theorem d_M_runHart_122 : decode mt_M_runHart.2.1 122 = .ok (.iadd, 1) := by decide +kernel
theorem d_M_runHart_123 : decode mt_M_runHart.2.1 123 = .ok (.iaload, 1) := by decide +kernel
theorem d_M_runHart_124 : decode mt_M_runHart.2.1 124 = .ok (.ifCond .eq 11, 3) := by decide +kernel
theorem d_M_runHart_127 : decode mt_M_runHart.2.1 127 = .ok (.iload 4, 2) := by decide +kernel
theorem d_M_runHart_129 : decode mt_M_runHart.2.1 129 = .ok (.bipush 100, 2) := by decide +kernel
theorem d_M_runHart_131 : decode mt_M_runHart.2.1 131 = .ok (.irem, 1) := by decide +kernel
theorem d_M_runHart_132 : decode mt_M_runHart.2.1 132 = .ok (.goto 6, 3) := by decide +kernel
theorem d_M_runHart_135 : decode mt_M_runHart.2.1 135 = .ok (.aload_n 1, 1) := by decide +kernel
theorem d_M_runHart_136 : decode mt_M_runHart.2.1 136 = .ok (.iload_n 3, 1) := by decide +kernel
theorem d_M_runHart_137 : decode mt_M_runHart.2.1 137 = .ok (.iaload, 1) := by decide +kernel
theorem d_M_runHart_138 : decode mt_M_runHart.2.1 138 = .ok (.iastore, 1) := by decide +kernel
theorem d_M_runHart_139 : decode mt_M_runHart.2.1 139 = .ok (.goto 29, 3) := by decide +kernel
theorem d_M_runHart_142 : decode mt_M_runHart.2.1 142 = .ok (.aload_n 1, 1) := by decide +kernel
theorem d_M_runHart_143 : decode mt_M_runHart.2.1 143 = .ok (.iload_n 3, 1) := by decide +kernel
theorem d_M_runHart_144 : decode mt_M_runHart.2.1 144 = .ok (.iconst 1, 1) := by decide +kernel
theorem d_M_runHart_145 : decode mt_M_runHart.2.1 145 = .ok (.iadd, 1) := by decide +kernel
theorem d_M_runHart_146 : decode mt_M_runHart.2.1 146 = .ok (.iconst 1, 1) := by decide +kernel
theorem d_M_runHart_147 : decode mt_M_runHart.2.1 147 = .ok (.iastore, 1) := by decide +kernel
theorem d_M_runHart_148 : decode mt_M_runHart.2.1 148 = .ok (.goto 20, 3) := by decide +kernel
theorem d_M_runHart_151 : decode mt_M_runHart.2.1 151 = .ok (.aload_n 1, 1) := by decide +kernel
theorem d_M_runHart_152 : decode mt_M_runHart.2.1 152 = .ok (.iload_n 2, 1) := by decide +kernel
theorem d_M_runHart_153 : decode mt_M_runHart.2.1 153 = .ok (.iconst 3, 1) := by decide +kernel
theorem d_M_runHart_154 : decode mt_M_runHart.2.1 154 = .ok (.invokestatic 155, 3) := by decide +kernel
theorem d_M_runHart_157 : decode mt_M_runHart.2.1 157 = .ok (.goto 11, 3) := by decide +kernel
theorem d_M_runHart_160 : decode mt_M_runHart.2.1 160 = .ok (.aload_n 0, 1) := by decide +kernel
theorem d_M_runHart_161 : decode mt_M_runHart.2.1 161 = .ok (.aload_n 1, 1) := by decide +kernel
theorem d_M_runHart_162 : decode mt_M_runHart.2.1 162 = .ok (.iload_n 2, 1) := by decide +kernel
theorem d_M_runHart_163 : decode mt_M_runHart.2.1 163 = .ok (.iload 4, 2) := by decide +kernel
theorem d_M_runHart_165 : decode mt_M_runHart.2.1 165 = .ok (.invokevirtual 151, 3) := by decide +kernel
theorem d_M_runHart_168 : decode mt_M_runHart.2.1 168 = .ok (.return_, 1) := by decide +kernel
theorem d_M_isCaught_0 : decode mt_M_isCaught.2.1 0 = .ok (.iconst 0, 1) := by decide +kernel
theorem d_M_isCaught_1 : decode mt_M_isCaught.2.1 1 = .ok (.istore_n 3, 1) := by decide +kernel
theorem d_M_isCaught_2 : decode mt_M_isCaught.2.1 2 = .ok (.iload_n 3, 1) := by decide +kernel
theorem d_M_isCaught_3 : decode mt_M_isCaught.2.1 3 = .ok (.aload_n 0, 1) := by decide +kernel
theorem d_M_isCaught_4 : decode mt_M_isCaught.2.1 4 = .ok (.getfield 138, 3) := by decide +kernel
theorem d_M_isCaught_7 : decode mt_M_isCaught.2.1 7 = .ok (.if_icmp .ge 117, 3) := by decide +kernel
theorem d_M_isCaught_10 : decode mt_M_isCaught.2.1 10 = .ok (.iload_n 3, 1) := by decide +kernel
theorem d_M_isCaught_11 : decode mt_M_isCaught.2.1 11 = .ok (.istore 4, 2) := by decide +kernel
theorem d_M_isCaught_13 : decode mt_M_isCaught.2.1 13 = .ok (.aload_n 0, 1) := by decide +kernel
theorem d_M_isCaught_14 : decode mt_M_isCaught.2.1 14 = .ok (.aload_n 1, 1) := by decide +kernel
theorem d_M_isCaught_15 : decode mt_M_isCaught.2.1 15 = .ok (.iload_n 3, 1) := by decide +kernel
theorem d_M_isCaught_16 : decode mt_M_isCaught.2.1 16 = .ok (.invokevirtual 179, 3) := by decide +kernel
theorem d_M_isCaught_19 : decode mt_M_isCaught.2.1 19 = .ok (.istore 5, 2) := by decide +kernel
theorem d_M_isCaught_21 : decode mt_M_isCaught.2.1 21 = .ok (.aload_n 0, 1) := by decide +kernel
theorem d_M_isCaught_22 : decode mt_M_isCaught.2.1 22 = .ok (.aload_n 1, 1) := by decide +kernel
theorem d_M_isCaught_23 : decode mt_M_isCaught.2.1 23 = .ok (.iload 4, 2) := by decide +kernel
theorem d_M_isCaught_25 : decode mt_M_isCaught.2.1 25 = .ok (.invokevirtual 183, 3) := by decide +kernel
theorem d_M_isCaught_28 : decode mt_M_isCaught.2.1 28 = .ok (.ifCond .eq 31, 3) := by decide +kernel
theorem d_M_isCaught_31 : decode mt_M_isCaught.2.1 31 = .ok (.iinc 4 1, 3) := by decide +kernel
theorem d_M_isCaught_34 : decode mt_M_isCaught.2.1 34 = .ok (.iload 5, 2) := by decide +kernel
theorem d_M_isCaught_36 : decode mt_M_isCaught.2.1 36 = .ok (.ifCond .eq 17, 3) := by decide +kernel
theorem d_M_isCaught_39 : decode mt_M_isCaught.2.1 39 = .ok (.aload_n 0, 1) := by decide +kernel
theorem d_M_isCaught_40 : decode mt_M_isCaught.2.1 40 = .ok (.aload_n 1, 1) := by decide +kernel
theorem d_M_isCaught_41 : decode mt_M_isCaught.2.1 41 = .ok (.iload 4, 2) := by decide +kernel
theorem d_M_isCaught_43 : decode mt_M_isCaught.2.1 43 = .ok (.invokevirtual 179, 3) := by decide +kernel
theorem d_M_isCaught_46 : decode mt_M_isCaught.2.1 46 = .ok (.ifCond .eq 7, 3) := by decide +kernel
theorem d_M_isCaught_49 : decode mt_M_isCaught.2.1 49 = .ok (.iconst 1, 1) := by decide +kernel
theorem d_M_isCaught_50 : decode mt_M_isCaught.2.1 50 = .ok (.goto 4, 3) := by decide +kernel
theorem d_M_isCaught_53 : decode mt_M_isCaught.2.1 53 = .ok (.iconst 0, 1) := by decide +kernel
theorem d_M_isCaught_54 : decode mt_M_isCaught.2.1 54 = .ok (.istore 5, 2) := by decide +kernel
theorem d_M_isCaught_56 : decode mt_M_isCaught.2.1 56 = .ok (.goto (-35), 3) := by decide +kernel
theorem d_M_isCaught_59 : decode mt_M_isCaught.2.1 59 = .ok (.bipush 40, 2) := by decide +kernel
theorem d_M_isCaught_61 : decode mt_M_isCaught.2.1 61 = .ok (.bipush 6, 2) := by decide +kernel
theorem d_M_isCaught_63 : decode mt_M_isCaught.2.1 63 = .ok (.iload_n 3, 1) := by decide +kernel
theorem d_M_isCaught_64 : decode mt_M_isCaught.2.1 64 = .ok (.imul, 1) := by decide +kernel
theorem d_M_isCaught_65 : decode mt_M_isCaught.2.1 65 = .ok (.iadd, 1) := by decide +kernel
theorem d_M_isCaught_66 : decode mt_M_isCaught.2.1 66 = .ok (.istore 6, 2) := by decide +kernel
theorem d_M_isCaught_68 : decode mt_M_isCaught.2.1 68 = .ok (.iload 5, 2) := by decide +kernel
theorem d_M_isCaught_70 : decode mt_M_isCaught.2.1 70 = .ok (.ifCond .eq 46, 3) := by decide +kernel
theorem d_M_isCaught_73 : decode mt_M_isCaught.2.1 73 = .ok (.aload_n 0, 1) := by decide +kernel
theorem d_M_isCaught_74 : decode mt_M_isCaught.2.1 74 = .ok (.getfield 22, 3) := by decide +kernel
theorem d_M_isCaught_77 : decode mt_M_isCaught.2.1 77 = .ok (.iload_n 3, 1) := by decide +kernel
theorem d_M_isCaught_78 : decode mt_M_isCaught.2.1 78 = .ok (.iaload, 1) := by decide +kernel
theorem d_M_isCaught_79 : decode mt_M_isCaught.2.1 79 = .ok (.iload_n 2, 1) := by decide +kernel
theorem d_M_isCaught_80 : decode mt_M_isCaught.2.1 80 = .ok (.if_icmp .ne 36, 3) := by decide +kernel
theorem d_M_isCaught_83 : decode mt_M_isCaught.2.1 83 = .ok (.aload_n 1, 1) := by decide +kernel
theorem d_M_isCaught_84 : decode mt_M_isCaught.2.1 84 = .ok (.iload 6, 2) := by decide +kernel
theorem d_M_isCaught_86 : decode mt_M_isCaught.2.1 86 = .ok (.iconst 4, 1) := by decide +kernel
theorem d_M_isCaught_87 : decode mt_M_isCaught.2.1 87 = .ok (.iadd, 1) := by decide +kernel
theorem d_M_isCaught_88 : decode mt_M_isCaught.2.1 88 = .ok (.dup2, 1) := by decide +kernel
theorem d_M_isCaught_89 : decode mt_M_isCaught.2.1 89 = .ok (.iaload, 1) := by decide +kernel
theorem d_M_isCaught_90 : decode mt_M_isCaught.2.1 90 = .ok (.iconst 1, 1) := by decide +kernel
theorem d_M_isCaught_91 : decode mt_M_isCaught.2.1 91 = .ok (.isub, 1) := by decide +kernel
theorem d_M_isCaught_92 : decode mt_M_isCaught.2.1 92 = .ok (.iastore, 1) := by decide +kernel
theorem d_M_isCaught_93 : decode mt_M_isCaught.2.1 93 = .ok (.aload_n 1, 1) := by decide +kernel
theorem d_M_isCaught_94 : decode mt_M_isCaught.2.1 94 = .ok (.iload 6, 2) := by decide +kernel
theorem d_M_isCaught_96 : decode mt_M_isCaught.2.1 96 = .ok (.iconst 4, 1) := by decide +kernel
theorem d_M_isCaught_97 : decode mt_M_isCaught.2.1 97 = .ok (.iadd, 1) := by decide +kernel
theorem d_M_isCaught_98 : decode mt_M_isCaught.2.1 98 = .ok (.iaload, 1) := by decide +kernel
theorem d_M_isCaught_99 : decode mt_M_isCaught.2.1 99 = .ok (.ifCond .ne 17, 3) := by decide +kernel
theorem d_M_isCaught_102 : decode mt_M_isCaught.2.1 102 = .ok (.aload_n 1, 1) := by decide +kernel
theorem d_M_isCaught_103 : decode mt_M_isCaught.2.1 103 = .ok (.iload 6, 2) := by decide +kernel
theorem d_M_isCaught_105 : decode mt_M_isCaught.2.1 105 = .ok (.iconst 4, 1) := by decide +kernel
theorem d_M_isCaught_106 : decode mt_M_isCaught.2.1 106 = .ok (.iadd, 1) := by decide +kernel
theorem d_M_isCaught_107 : decode mt_M_isCaught.2.1 107 = .ok (.aload_n 1, 1) := by decide +kernel
theorem d_M_isCaught_108 : decode mt_M_isCaught.2.1 108 = .ok (.iload 6, 2) := by decide +kernel
theorem d_M_isCaught_110 : decode mt_M_isCaught.2.1 110 = .ok (.iconst 3, 1) := by decide +kernel
theorem d_M_isCaught_111 : decode mt_M_isCaught.2.1 111 = .ok (.iadd, 1) := by decide +kernel
theorem d_M_isCaught_112 : decode mt_M_isCaught.2.1 112 = .ok (.iaload, 1) := by decide +kernel
theorem d_M_isCaught_113 : decode mt_M_isCaught.2.1 113 = .ok (.iastore, 1) := by decide +kernel
theorem d_M_isCaught_114 : decode mt_M_isCaught.2.1 114 = .ok (.iconst 1, 1) := by decide +kernel
theorem d_M_isCaught_115 : decode mt_M_isCaught.2.1 115 = .ok (.ireturn, 1) := by decide +kernel
theorem d_M_isCaught_116 : decode mt_M_isCaught.2.1 116 = .ok (.iload 4, 2) := by decide +kernel
theorem d_M_isCaught_118 : decode mt_M_isCaught.2.1 118 = .ok (.iconst 1, 1) := by decide +kernel
theorem d_M_isCaught_119 : decode mt_M_isCaught.2.1 119 = .ok (.iadd, 1) := by decide +kernel
theorem d_M_isCaught_120 : decode mt_M_isCaught.2.1 120 = .ok (.istore_n 3, 1) := by decide +kernel
theorem d_M_isCaught_121 : decode mt_M_isCaught.2.1 121 = .ok (.goto (-119), 3) := by decide +kernel
theorem d_M_isCaught_124 : decode mt_M_isCaught.2.1 124 = .ok (.iconst 0, 1) := by decide +kernel
theorem d_M_isCaught_125 : decode mt_M_isCaught.2.1 125 = .ok (.ireturn, 1) := by decide +kernel
theorem d_M_matches_0 : decode mt_M_matches.2.1 0 = .ok (.bipush 40, 2) := by decide +kernel
theorem d_M_matches_2 : decode mt_M_matches.2.1 2 = .ok (.bipush 6, 2) := by decide +kernel
theorem d_M_matches_4 : decode mt_M_matches.2.1 4 = .ok (.iload_n 2, 1) := by decide +kernel
theorem d_M_matches_5 : decode mt_M_matches.2.1 5 = .ok (.imul, 1) := by decide +kernel
theorem d_M_matches_6 : decode mt_M_matches.2.1 6 = .ok (.iadd, 1) := by decide +kernel
theorem d_M_matches_7 : decode mt_M_matches.2.1 7 = .ok (.istore_n 3, 1) := by decide +kernel
theorem d_M_matches_8 : decode mt_M_matches.2.1 8 = .ok (.bipush 8, 2) := by decide +kernel
theorem d_M_matches_10 : decode mt_M_matches.2.1 10 = .ok (.aload_n 0, 1) := by decide +kernel
theorem d_M_matches_11 : decode mt_M_matches.2.1 11 = .ok (.getfield 22, 3) := by decide +kernel
theorem d_M_matches_14 : decode mt_M_matches.2.1 14 = .ok (.iload_n 2, 1) := by decide +kernel
theorem d_M_matches_15 : decode mt_M_matches.2.1 15 = .ok (.iaload, 1) := by decide +kernel
theorem d_M_matches_16 : decode mt_M_matches.2.1 16 = .ok (.imul, 1) := by decide +kernel
theorem d_M_matches_17 : decode mt_M_matches.2.1 17 = .ok (.istore 4, 2) := by decide +kernel
theorem d_M_matches_19 : decode mt_M_matches.2.1 19 = .ok (.aload_n 1, 1) := by decide +kernel
theorem d_M_matches_20 : decode mt_M_matches.2.1 20 = .ok (.iload_n 3, 1) := by decide +kernel
theorem d_M_matches_21 : decode mt_M_matches.2.1 21 = .ok (.iaload, 1) := by decide +kernel
theorem d_M_matches_22 : decode mt_M_matches.2.1 22 = .ok (.ifCond .ne 23, 3) := by decide +kernel
theorem d_M_matches_25 : decode mt_M_matches.2.1 25 = .ok (.aload_n 1, 1) := by decide +kernel
theorem d_M_matches_26 : decode mt_M_matches.2.1 26 = .ok (.iload 4, 2) := by decide +kernel
theorem d_M_matches_28 : decode mt_M_matches.2.1 28 = .ok (.iaload, 1) := by decide +kernel
theorem d_M_matches_29 : decode mt_M_matches.2.1 29 = .ok (.aload_n 1, 1) := by decide +kernel
theorem d_M_matches_30 : decode mt_M_matches.2.1 30 = .ok (.iload_n 3, 1) := by decide +kernel
theorem d_M_matches_31 : decode mt_M_matches.2.1 31 = .ok (.iconst 1, 1) := by decide +kernel
theorem d_M_matches_32 : decode mt_M_matches.2.1 32 = .ok (.iadd, 1) := by decide +kernel
theorem d_M_matches_33 : decode mt_M_matches.2.1 33 = .ok (.iaload, 1) := by decide +kernel
theorem d_M_matches_34 : decode mt_M_matches.2.1 34 = .ok (.if_icmp .ne 7, 3) := by decide +kernel
theorem d_M_matches_37 : decode mt_M_matches.2.1 37 = .ok (.iconst 1, 1) := by decide +kernel
theorem d_M_matches_38 : decode mt_M_matches.2.1 38 = .ok (.goto 32, 3) := by decide +kernel
theorem d_M_matches_41 : decode mt_M_matches.2.1 41 = .ok (.iconst 0, 1) := by decide +kernel
theorem d_M_matches_42 : decode mt_M_matches.2.1 42 = .ok (.goto 28, 3) := by decide +kernel
theorem d_M_matches_45 : decode mt_M_matches.2.1 45 = .ok (.aload_n 1, 1) := by decide +kernel
theorem d_M_matches_46 : decode mt_M_matches.2.1 46 = .ok (.iload 4, 2) := by decide +kernel
theorem d_M_matches_48 : decode mt_M_matches.2.1 48 = .ok (.iconst 4, 1) := by decide +kernel
theorem d_M_matches_49 : decode mt_M_matches.2.1 49 = .ok (.iadd, 1) := by decide +kernel
theorem d_M_matches_50 : decode mt_M_matches.2.1 50 = .ok (.aload_n 1, 1) := by decide +kernel
theorem d_M_matches_51 : decode mt_M_matches.2.1 51 = .ok (.iload_n 3, 1) := by decide +kernel
theorem d_M_matches_52 : decode mt_M_matches.2.1 52 = .ok (.iconst 1, 1) := by decide +kernel
theorem d_M_matches_53 : decode mt_M_matches.2.1 53 = .ok (.iadd, 1) := by decide +kernel
theorem d_M_matches_54 : decode mt_M_matches.2.1 54 = .ok (.iaload, 1) := by decide +kernel
theorem d_M_matches_55 : decode mt_M_matches.2.1 55 = .ok (.iadd, 1) := by decide +kernel
theorem d_M_matches_56 : decode mt_M_matches.2.1 56 = .ok (.iaload, 1) := by decide +kernel
theorem d_M_matches_57 : decode mt_M_matches.2.1 57 = .ok (.aload_n 1, 1) := by decide +kernel
theorem d_M_matches_58 : decode mt_M_matches.2.1 58 = .ok (.iload_n 3, 1) := by decide +kernel
theorem d_M_matches_59 : decode mt_M_matches.2.1 59 = .ok (.iconst 2, 1) := by decide +kernel
theorem d_M_matches_60 : decode mt_M_matches.2.1 60 = .ok (.iadd, 1) := by decide +kernel
theorem d_M_matches_61 : decode mt_M_matches.2.1 61 = .ok (.iaload, 1) := by decide +kernel
theorem d_M_matches_62 : decode mt_M_matches.2.1 62 = .ok (.if_icmp .ne 7, 3) := by decide +kernel
theorem d_M_matches_65 : decode mt_M_matches.2.1 65 = .ok (.iconst 1, 1) := by decide +kernel
theorem d_M_matches_66 : decode mt_M_matches.2.1 66 = .ok (.goto 4, 3) := by decide +kernel
theorem d_M_matches_69 : decode mt_M_matches.2.1 69 = .ok (.iconst 0, 1) := by decide +kernel
theorem d_M_matches_70 : decode mt_M_matches.2.1 70 = .ok (.istore 5, 2) := by decide +kernel
theorem d_M_matches_72 : decode mt_M_matches.2.1 72 = .ok (.iload 5, 2) := by decide +kernel
theorem d_M_matches_74 : decode mt_M_matches.2.1 74 = .ok (.ifCond .eq 18, 3) := by decide +kernel
theorem d_M_matches_77 : decode mt_M_matches.2.1 77 = .ok (.aload_n 0, 1) := by decide +kernel
theorem d_M_matches_78 : decode mt_M_matches.2.1 78 = .ok (.getfield 68, 3) := by decide +kernel
theorem d_M_matches_81 : decode mt_M_matches.2.1 81 = .ok (.iload_n 2, 1) := by decide +kernel
theorem d_M_matches_82 : decode mt_M_matches.2.1 82 = .ok (.invokestatic 175, 3) := by decide +kernel
theorem d_M_matches_85 : decode mt_M_matches.2.1 85 = .ok (.ifCond .eq 7, 3) := by decide +kernel
theorem d_M_matches_88 : decode mt_M_matches.2.1 88 = .ok (.iconst 1, 1) := by decide +kernel
theorem d_M_matches_89 : decode mt_M_matches.2.1 89 = .ok (.goto 4, 3) := by decide +kernel
theorem d_M_matches_92 : decode mt_M_matches.2.1 92 = .ok (.iconst 0, 1) := by decide +kernel
theorem d_M_matches_93 : decode mt_M_matches.2.1 93 = .ok (.ireturn, 1) := by decide +kernel
theorem d_M_has_0 : decode mt_M_has.2.1 0 = .ok (.iload_n 0, 1) := by decide +kernel
theorem d_M_has_1 : decode mt_M_has.2.1 1 = .ok (.iload_n 1, 1) := by decide +kernel
theorem d_M_has_2 : decode mt_M_has.2.1 2 = .ok (.ishr, 1) := by decide +kernel
theorem d_M_has_3 : decode mt_M_has.2.1 3 = .ok (.iconst 1, 1) := by decide +kernel
theorem d_M_has_4 : decode mt_M_has.2.1 4 = .ok (.iand, 1) := by decide +kernel
theorem d_M_has_5 : decode mt_M_has.2.1 5 = .ok (.iconst 1, 1) := by decide +kernel
theorem d_M_has_6 : decode mt_M_has.2.1 6 = .ok (.if_icmp .ne 7, 3) := by decide +kernel
theorem d_M_has_9 : decode mt_M_has.2.1 9 = .ok (.iconst 1, 1) := by decide +kernel
theorem d_M_has_10 : decode mt_M_has.2.1 10 = .ok (.goto 4, 3) := by decide +kernel
theorem d_M_has_13 : decode mt_M_has.2.1 13 = .ok (.iconst 0, 1) := by decide +kernel
theorem d_M_has_14 : decode mt_M_has.2.1 14 = .ok (.ireturn, 1) := by decide +kernel
theorem d_M_leads_0 : decode mt_M_leads.2.1 0 = .ok (.iload_n 2, 1) := by decide +kernel
theorem d_M_leads_1 : decode mt_M_leads.2.1 1 = .ok (.iconst 1, 1) := by decide +kernel
theorem d_M_leads_2 : decode mt_M_leads.2.1 2 = .ok (.iadd, 1) := by decide +kernel
theorem d_M_leads_3 : decode mt_M_leads.2.1 3 = .ok (.aload_n 0, 1) := by decide +kernel
theorem d_M_leads_4 : decode mt_M_leads.2.1 4 = .ok (.getfield 138, 3) := by decide +kernel
theorem d_M_leads_7 : decode mt_M_leads.2.1 7 = .ok (.if_icmp .ge 39, 3) := by decide +kernel
theorem d_M_leads_10 : decode mt_M_leads.2.1 10 = .ok (.aload_n 1, 1) := by decide +kernel
theorem d_M_leads_11 : decode mt_M_leads.2.1 11 = .ok (.bipush 40, 2) := by decide +kernel
theorem d_M_leads_13 : decode mt_M_leads.2.1 13 = .ok (.bipush 6, 2) := by decide +kernel
theorem d_M_leads_15 : decode mt_M_leads.2.1 15 = .ok (.iload_n 2, 1) := by decide +kernel
theorem d_M_leads_16 : decode mt_M_leads.2.1 16 = .ok (.imul, 1) := by decide +kernel
theorem d_M_leads_17 : decode mt_M_leads.2.1 17 = .ok (.iadd, 1) := by decide +kernel
theorem d_M_leads_18 : decode mt_M_leads.2.1 18 = .ok (.iconst 5, 1) := by decide +kernel
theorem d_M_leads_19 : decode mt_M_leads.2.1 19 = .ok (.iadd, 1) := by decide +kernel
theorem d_M_leads_20 : decode mt_M_leads.2.1 20 = .ok (.iaload, 1) := by decide +kernel
theorem d_M_leads_21 : decode mt_M_leads.2.1 21 = .ok (.iconst 1, 1) := by decide +kernel
theorem d_M_leads_22 : decode mt_M_leads.2.1 22 = .ok (.if_icmp .ne 24, 3) := by decide +kernel
theorem d_M_leads_25 : decode mt_M_leads.2.1 25 = .ok (.aload_n 0, 1) := by decide +kernel
theorem d_M_leads_26 : decode mt_M_leads.2.1 26 = .ok (.getfield 22, 3) := by decide +kernel
theorem d_M_leads_29 : decode mt_M_leads.2.1 29 = .ok (.iload_n 2, 1) := by decide +kernel
theorem d_M_leads_30 : decode mt_M_leads.2.1 30 = .ok (.iconst 1, 1) := by decide +kernel
theorem d_M_leads_31 : decode mt_M_leads.2.1 31 = .ok (.iadd, 1) := by decide +kernel
theorem d_M_leads_32 : decode mt_M_leads.2.1 32 = .ok (.iaload, 1) := by decide +kernel
theorem d_M_leads_33 : decode mt_M_leads.2.1 33 = .ok (.aload_n 0, 1) := by decide +kernel
theorem d_M_leads_34 : decode mt_M_leads.2.1 34 = .ok (.getfield 22, 3) := by decide +kernel
theorem d_M_leads_37 : decode mt_M_leads.2.1 37 = .ok (.iload_n 2, 1) := by decide +kernel
theorem d_M_leads_38 : decode mt_M_leads.2.1 38 = .ok (.iaload, 1) := by decide +kernel
theorem d_M_leads_39 : decode mt_M_leads.2.1 39 = .ok (.if_icmp .ne 7, 3) := by decide +kernel
theorem d_M_leads_42 : decode mt_M_leads.2.1 42 = .ok (.iconst 1, 1) := by decide +kernel
theorem d_M_leads_43 : decode mt_M_leads.2.1 43 = .ok (.goto 4, 3) := by decide +kernel
theorem d_M_leads_46 : decode mt_M_leads.2.1 46 = .ok (.iconst 0, 1) := by decide +kernel
theorem d_M_leads_47 : decode mt_M_leads.2.1 47 = .ok (.ireturn, 1) := by decide +kernel
theorem d_M_ones_0 : decode mt_M_ones.2.1 0 = .ok (.iconst 0, 1) := by decide +kernel
theorem d_M_ones_1 : decode mt_M_ones.2.1 1 = .ok (.istore_n 1, 1) := by decide +kernel
theorem d_M_ones_2 : decode mt_M_ones.2.1 2 = .ok (.iconst 0, 1) := by decide +kernel
theorem d_M_ones_3 : decode mt_M_ones.2.1 3 = .ok (.istore_n 2, 1) := by decide +kernel
theorem d_M_ones_4 : decode mt_M_ones.2.1 4 = .ok (.iload_n 2, 1) := by decide +kernel
theorem d_M_ones_5 : decode mt_M_ones.2.1 5 = .ok (.bipush 8, 2) := by decide +kernel
theorem d_M_ones_7 : decode mt_M_ones.2.1 7 = .ok (.if_icmp .ge 17, 3) := by decide +kernel
theorem d_M_ones_10 : decode mt_M_ones.2.1 10 = .ok (.iload_n 1, 1) := by decide +kernel
theorem d_M_ones_11 : decode mt_M_ones.2.1 11 = .ok (.iload_n 0, 1) := by decide +kernel
theorem d_M_ones_12 : decode mt_M_ones.2.1 12 = .ok (.iload_n 2, 1) := by decide +kernel
theorem d_M_ones_13 : decode mt_M_ones.2.1 13 = .ok (.ishr, 1) := by decide +kernel
theorem d_M_ones_14 : decode mt_M_ones.2.1 14 = .ok (.iconst 1, 1) := by decide +kernel
theorem d_M_ones_15 : decode mt_M_ones.2.1 15 = .ok (.iand, 1) := by decide +kernel
theorem d_M_ones_16 : decode mt_M_ones.2.1 16 = .ok (.iadd, 1) := by decide +kernel
theorem d_M_ones_17 : decode mt_M_ones.2.1 17 = .ok (.istore_n 1, 1) := by decide +kernel
theorem d_M_ones_18 : decode mt_M_ones.2.1 18 = .ok (.iinc 2 1, 3) := by decide +kernel
theorem d_M_ones_21 : decode mt_M_ones.2.1 21 = .ok (.goto (-17), 3) := by decide +kernel
theorem d_M_ones_24 : decode mt_M_ones.2.1 24 = .ok (.iload_n 1, 1) := by decide +kernel
theorem d_M_ones_25 : decode mt_M_ones.2.1 25 = .ok (.ireturn, 1) := by decide +kernel
theorem d_M_send_0 : decode mt_M_send.2.1 0 = .ok (.aload_n 0, 1) := by decide +kernel
theorem d_M_send_1 : decode mt_M_send.2.1 1 = .ok (.iconst 0, 1) := by decide +kernel
theorem d_M_send_2 : decode mt_M_send.2.1 2 = .ok (.putfield 75, 3) := by decide +kernel
theorem d_M_send_5 : decode mt_M_send.2.1 5 = .ok (.iload_n 1, 1) := by decide +kernel
theorem d_M_send_6 : decode mt_M_send.2.1 6 = .ok (.i2l, 1) := by decide +kernel
theorem d_M_send_7 : decode mt_M_send.2.1 7 = .ok (.lconst 0, 1) := by decide +kernel
theorem d_M_send_8 : decode mt_M_send.2.1 8 = .ok (.ldc2_w 236, 3) := by decide +kernel
theorem d_M_send_11 : decode mt_M_send.2.1 11 = .ok (.invokestatic 81, 3) := by decide +kernel
theorem d_M_send_14 : decode mt_M_send.2.1 14 = .ok (.ifCond .ne 6, 3) := by decide +kernel
theorem d_M_send_17 : decode mt_M_send.2.1 17 = .ok (.bipush (-2), 2) := by decide +kernel
theorem d_M_send_19 : decode mt_M_send.2.1 19 = .ok (.ireturn, 1) := by decide +kernel
theorem d_M_send_20 : decode mt_M_send.2.1 20 = .ok (.aload_n 0, 1) := by decide +kernel
theorem d_M_send_21 : decode mt_M_send.2.1 21 = .ok (.iload_n 2, 1) := by decide +kernel
theorem d_M_send_22 : decode mt_M_send.2.1 22 = .ok (.invokevirtual 206, 3) := by decide +kernel
theorem d_M_send_25 : decode mt_M_send.2.1 25 = .ok (.ifCond .eq 5, 3) := by decide +kernel
theorem d_M_send_28 : decode mt_M_send.2.1 28 = .ok (.iconst (-1), 1) := by decide +kernel
theorem d_M_send_29 : decode mt_M_send.2.1 29 = .ok (.ireturn, 1) := by decide +kernel
theorem d_M_send_30 : decode mt_M_send.2.1 30 = .ok (.iload_n 3, 1) := by decide +kernel
theorem d_M_send_31 : decode mt_M_send.2.1 31 = .ok (.i2l, 1) := by decide +kernel
theorem d_M_send_32 : decode mt_M_send.2.1 32 = .ok (.lconst 0, 1) := by decide +kernel
theorem d_M_send_33 : decode mt_M_send.2.1 33 = .ok (.iload_n 1, 1) := by decide +kernel
theorem d_M_send_34 : decode mt_M_send.2.1 34 = .ok (.iconst 3, 1) := by decide +kernel
theorem d_M_send_35 : decode mt_M_send.2.1 35 = .ok (.if_icmp .eq 8, 3) := by decide +kernel
theorem d_M_send_38 : decode mt_M_send.2.1 38 = .ok (.iload_n 1, 1) := by decide +kernel
theorem d_M_send_39 : decode mt_M_send.2.1 39 = .ok (.iconst 4, 1) := by decide +kernel
theorem d_M_send_40 : decode mt_M_send.2.1 40 = .ok (.if_icmp .ne 9, 3) := by decide +kernel
theorem d_M_send_43 : decode mt_M_send.2.1 43 = .ok (.ldc2_w 219, 3) := by decide +kernel
theorem d_M_send_46 : decode mt_M_send.2.1 46 = .ok (.goto 4, 3) := by decide +kernel
theorem d_M_send_49 : decode mt_M_send.2.1 49 = .ok (.lconst 0, 1) := by decide +kernel
theorem d_M_send_50 : decode mt_M_send.2.1 50 = .ok (.invokestatic 81, 3) := by decide +kernel
theorem d_M_send_53 : decode mt_M_send.2.1 53 = .ok (.ifCond .eq 25, 3) := by decide +kernel
theorem d_M_send_56 : decode mt_M_send.2.1 56 = .ok (.iload 4, 2) := by decide +kernel
theorem d_M_send_58 : decode mt_M_send.2.1 58 = .ok (.i2l, 1) := by decide +kernel
theorem d_M_send_59 : decode mt_M_send.2.1 59 = .ok (.lconst 0, 1) := by decide +kernel
theorem d_M_send_60 : decode mt_M_send.2.1 60 = .ok (.iload_n 1, 1) := by decide +kernel
theorem d_M_send_61 : decode mt_M_send.2.1 61 = .ok (.iconst 4, 1) := by decide +kernel
theorem d_M_send_62 : decode mt_M_send.2.1 62 = .ok (.if_icmp .ne 9, 3) := by decide +kernel
theorem d_M_send_65 : decode mt_M_send.2.1 65 = .ok (.ldc2_w 238, 3) := by decide +kernel
theorem d_M_send_68 : decode mt_M_send.2.1 68 = .ok (.goto 4, 3) := by decide +kernel
theorem d_M_send_71 : decode mt_M_send.2.1 71 = .ok (.lconst 0, 1) := by decide +kernel
theorem d_M_send_72 : decode mt_M_send.2.1 72 = .ok (.invokestatic 81, 3) := by decide +kernel
theorem d_M_send_75 : decode mt_M_send.2.1 75 = .ok (.ifCond .ne 6, 3) := by decide +kernel
theorem d_M_send_78 : decode mt_M_send.2.1 78 = .ok (.bipush (-2), 2) := by decide +kernel
theorem d_M_send_80 : decode mt_M_send.2.1 80 = .ok (.ireturn, 1) := by decide +kernel
theorem d_M_send_81 : decode mt_M_send.2.1 81 = .ok (.aload_n 0, 1) := by decide +kernel
theorem d_M_send_82 : decode mt_M_send.2.1 82 = .ok (.getfield 40, 3) := by decide +kernel
theorem d_M_send_85 : decode mt_M_send.2.1 85 = .ok (.bipush 80, 2) := by decide +kernel
theorem d_M_send_87 : decode mt_M_send.2.1 87 = .ok (.iaload, 1) := by decide +kernel
theorem d_M_send_88 : decode mt_M_send.2.1 88 = .ok (.bipush 8, 2) := by decide +kernel
theorem d_M_send_90 : decode mt_M_send.2.1 90 = .ok (.if_icmp .ne 6, 3) := by decide +kernel
theorem d_M_send_93 : decode mt_M_send.2.1 93 = .ok (.bipush (-4), 2) := by decide +kernel
theorem d_M_send_95 : decode mt_M_send.2.1 95 = .ok (.ireturn, 1) := by decide +kernel
theorem d_M_send_96 : decode mt_M_send.2.1 96 = .ok (.aload_n 0, 1) := by decide +kernel
theorem d_M_send_97 : decode mt_M_send.2.1 97 = .ok (.invokevirtual 223, 3) := by decide +kernel
theorem d_M_send_100 : decode mt_M_send.2.1 100 = .ok (.aload_n 0, 1) := by decide +kernel
theorem d_M_send_101 : decode mt_M_send.2.1 101 = .ok (.getfield 40, 3) := by decide +kernel
theorem d_M_send_104 : decode mt_M_send.2.1 104 = .ok (.iload_n 1, 1) := by decide +kernel
theorem d_M_send_105 : decode mt_M_send.2.1 105 = .ok (.iload_n 2, 1) := by decide +kernel
theorem d_M_send_106 : decode mt_M_send.2.1 106 = .ok (.iload_n 3, 1) := by decide +kernel
theorem d_M_send_107 : decode mt_M_send.2.1 107 = .ok (.iload 4, 2) := by decide +kernel
theorem d_M_send_109 : decode mt_M_send.2.1 109 = .ok (.invokestatic 240, 3) := by decide +kernel
theorem d_M_send_112 : decode mt_M_send.2.1 112 = .ok (.aload_n 0, 1) := by decide +kernel
theorem d_M_send_113 : decode mt_M_send.2.1 113 = .ok (.getfield 40, 3) := by decide +kernel
theorem d_M_send_116 : decode mt_M_send.2.1 116 = .ok (.bipush 76, 2) := by decide +kernel
theorem d_M_send_118 : decode mt_M_send.2.1 118 = .ok (.iaload, 1) := by decide +kernel
theorem d_M_send_119 : decode mt_M_send.2.1 119 = .ok (.ireturn, 1) := by decide +kernel
theorem d_M_sendOn_0 : decode mt_M_sendOn.2.1 0 = .ok (.iload_n 1, 1) := by decide +kernel
theorem d_M_sendOn_1 : decode mt_M_sendOn.2.1 1 = .ok (.iconst 2, 1) := by decide +kernel
theorem d_M_sendOn_2 : decode mt_M_sendOn.2.1 2 = .ok (.if_icmp .le 11, 3) := by decide +kernel
theorem d_M_sendOn_5 : decode mt_M_sendOn.2.1 5 = .ok (.aload_n 0, 1) := by decide +kernel
theorem d_M_sendOn_6 : decode mt_M_sendOn.2.1 6 = .ok (.bipush 76, 2) := by decide +kernel
theorem d_M_sendOn_8 : decode mt_M_sendOn.2.1 8 = .ok (.iaload, 1) := by decide +kernel
theorem d_M_sendOn_9 : decode mt_M_sendOn.2.1 9 = .ok (.ifCond .eq 4, 3) := by decide +kernel
theorem d_M_sendOn_12 : decode mt_M_sendOn.2.1 12 = .ok (.return_, 1) := by decide +kernel
theorem d_M_sendOn_13 : decode mt_M_sendOn.2.1 13 = .ok (.iload_n 1, 1) := by decide +kernel
theorem d_M_sendOn_14 : decode mt_M_sendOn.2.1 14 = .ok (.iconst 2, 1) := by decide +kernel
theorem d_M_sendOn_15 : decode mt_M_sendOn.2.1 15 = .ok (.if_icmp .le 16, 3) := by decide +kernel
theorem d_M_sendOn_18 : decode mt_M_sendOn.2.1 18 = .ok (.aload_n 0, 1) := by decide +kernel
theorem d_M_sendOn_19 : decode mt_M_sendOn.2.1 19 = .ok (.invokestatic 232, 3) := by decide +kernel
theorem d_M_sendOn_22 : decode mt_M_sendOn.2.1 22 = .ok (.ifCond .eq 9, 3) := by decide +kernel
theorem d_M_sendOn_25 : decode mt_M_sendOn.2.1 25 = .ok (.aload_n 0, 1) := by decide +kernel
theorem d_M_sendOn_26 : decode mt_M_sendOn.2.1 26 = .ok (.bipush 76, 2) := by decide +kernel
theorem d_M_sendOn_28 : decode mt_M_sendOn.2.1 28 = .ok (.iconst 1, 1) := by decide +kernel
theorem d_M_sendOn_29 : decode mt_M_sendOn.2.1 29 = .ok (.iastore, 1) := by decide +kernel
theorem d_M_sendOn_30 : decode mt_M_sendOn.2.1 30 = .ok (.return_, 1) := by decide +kernel
theorem d_M_sendOn_31 : decode mt_M_sendOn.2.1 31 = .ok (.bipush 81, 2) := by decide +kernel
theorem d_M_sendOn_33 : decode mt_M_sendOn.2.1 33 = .ok (.bipush 7, 2) := by decide +kernel
theorem d_M_sendOn_35 : decode mt_M_sendOn.2.1 35 = .ok (.aload_n 0, 1) := by decide +kernel
theorem d_M_sendOn_36 : decode mt_M_sendOn.2.1 36 = .ok (.bipush 80, 2) := by decide +kernel
theorem d_M_sendOn_38 : decode mt_M_sendOn.2.1 38 = .ok (.iaload, 1) := by decide +kernel
theorem d_M_sendOn_39 : decode mt_M_sendOn.2.1 39 = .ok (.imul, 1) := by decide +kernel
theorem d_M_sendOn_40 : decode mt_M_sendOn.2.1 40 = .ok (.iadd, 1) := by decide +kernel
theorem d_M_sendOn_41 : decode mt_M_sendOn.2.1 41 = .ok (.istore 5, 2) := by decide +kernel
theorem d_M_sendOn_43 : decode mt_M_sendOn.2.1 43 = .ok (.aload_n 0, 1) := by decide +kernel
theorem d_M_sendOn_44 : decode mt_M_sendOn.2.1 44 = .ok (.iload 5, 2) := by decide +kernel
theorem d_M_sendOn_46 : decode mt_M_sendOn.2.1 46 = .ok (.iload_n 1, 1) := by decide +kernel
theorem d_M_sendOn_47 : decode mt_M_sendOn.2.1 47 = .ok (.iastore, 1) := by decide +kernel
theorem d_M_sendOn_48 : decode mt_M_sendOn.2.1 48 = .ok (.aload_n 0, 1) := by decide +kernel
theorem d_M_sendOn_49 : decode mt_M_sendOn.2.1 49 = .ok (.iload 5, 2) := by decide +kernel
theorem d_M_sendOn_51 : decode mt_M_sendOn.2.1 51 = .ok (.iconst 1, 1) := by decide +kernel
theorem d_M_sendOn_52 : decode mt_M_sendOn.2.1 52 = .ok (.iadd, 1) := by decide +kernel
theorem d_M_sendOn_53 : decode mt_M_sendOn.2.1 53 = .ok (.iload_n 2, 1) := by decide +kernel
theorem d_M_sendOn_54 : decode mt_M_sendOn.2.1 54 = .ok (.iastore, 1) := by decide +kernel
theorem d_M_sendOn_55 : decode mt_M_sendOn.2.1 55 = .ok (.aload_n 0, 1) := by decide +kernel
theorem d_M_sendOn_56 : decode mt_M_sendOn.2.1 56 = .ok (.iload 5, 2) := by decide +kernel
theorem d_M_sendOn_58 : decode mt_M_sendOn.2.1 58 = .ok (.iconst 2, 1) := by decide +kernel
theorem d_M_sendOn_59 : decode mt_M_sendOn.2.1 59 = .ok (.iadd, 1) := by decide +kernel
theorem d_M_sendOn_60 : decode mt_M_sendOn.2.1 60 = .ok (.iconst 0, 1) := by decide +kernel
theorem d_M_sendOn_61 : decode mt_M_sendOn.2.1 61 = .ok (.iastore, 1) := by decide +kernel
theorem d_M_sendOn_62 : decode mt_M_sendOn.2.1 62 = .ok (.aload_n 0, 1) := by decide +kernel
theorem d_M_sendOn_63 : decode mt_M_sendOn.2.1 63 = .ok (.iload 5, 2) := by decide +kernel
theorem d_M_sendOn_65 : decode mt_M_sendOn.2.1 65 = .ok (.iconst 3, 1) := by decide +kernel
theorem d_M_sendOn_66 : decode mt_M_sendOn.2.1 66 = .ok (.iadd, 1) := by decide +kernel
theorem d_M_sendOn_67 : decode mt_M_sendOn.2.1 67 = .ok (.iconst 0, 1) := by decide +kernel
theorem d_M_sendOn_68 : decode mt_M_sendOn.2.1 68 = .ok (.iastore, 1) := by decide +kernel
theorem d_M_sendOn_69 : decode mt_M_sendOn.2.1 69 = .ok (.aload_n 0, 1) := by decide +kernel
theorem d_M_sendOn_70 : decode mt_M_sendOn.2.1 70 = .ok (.iload 5, 2) := by decide +kernel
theorem d_M_sendOn_72 : decode mt_M_sendOn.2.1 72 = .ok (.iconst 4, 1) := by decide +kernel
theorem d_M_sendOn_73 : decode mt_M_sendOn.2.1 73 = .ok (.iadd, 1) := by decide +kernel
theorem d_M_sendOn_74 : decode mt_M_sendOn.2.1 74 = .ok (.iload_n 3, 1) := by decide +kernel
theorem d_M_sendOn_75 : decode mt_M_sendOn.2.1 75 = .ok (.iastore, 1) := by decide +kernel
theorem d_M_sendOn_76 : decode mt_M_sendOn.2.1 76 = .ok (.aload_n 0, 1) := by decide +kernel
theorem d_M_sendOn_77 : decode mt_M_sendOn.2.1 77 = .ok (.iload 5, 2) := by decide +kernel
theorem d_M_sendOn_79 : decode mt_M_sendOn.2.1 79 = .ok (.iconst 5, 1) := by decide +kernel
theorem d_M_sendOn_80 : decode mt_M_sendOn.2.1 80 = .ok (.iadd, 1) := by decide +kernel
theorem d_M_sendOn_81 : decode mt_M_sendOn.2.1 81 = .ok (.iload 4, 2) := by decide +kernel
theorem d_M_sendOn_83 : decode mt_M_sendOn.2.1 83 = .ok (.iastore, 1) := by decide +kernel
theorem d_M_sendOn_84 : decode mt_M_sendOn.2.1 84 = .ok (.aload_n 0, 1) := by decide +kernel
theorem d_M_sendOn_85 : decode mt_M_sendOn.2.1 85 = .ok (.iload 5, 2) := by decide +kernel
theorem d_M_sendOn_87 : decode mt_M_sendOn.2.1 87 = .ok (.bipush 6, 2) := by decide +kernel
theorem d_M_sendOn_89 : decode mt_M_sendOn.2.1 89 = .ok (.iadd, 1) := by decide +kernel
theorem d_M_sendOn_90 : decode mt_M_sendOn.2.1 90 = .ok (.iconst 0, 1) := by decide +kernel
theorem d_M_sendOn_91 : decode mt_M_sendOn.2.1 91 = .ok (.iastore, 1) := by decide +kernel
theorem d_M_sendOn_92 : decode mt_M_sendOn.2.1 92 = .ok (.aload_n 0, 1) := by decide +kernel
theorem d_M_sendOn_93 : decode mt_M_sendOn.2.1 93 = .ok (.bipush 80, 2) := by decide +kernel
theorem d_M_sendOn_95 : decode mt_M_sendOn.2.1 95 = .ok (.dup2, 1) := by decide +kernel
theorem d_M_sendOn_96 : decode mt_M_sendOn.2.1 96 = .ok (.iaload, 1) := by decide +kernel
theorem d_M_sendOn_97 : decode mt_M_sendOn.2.1 97 = .ok (.iconst 1, 1) := by decide +kernel
theorem d_M_sendOn_98 : decode mt_M_sendOn.2.1 98 = .ok (.iadd, 1) := by decide +kernel
theorem d_M_sendOn_99 : decode mt_M_sendOn.2.1 99 = .ok (.iastore, 1) := by decide +kernel
theorem d_M_sendOn_100 : decode mt_M_sendOn.2.1 100 = .ok (.return_, 1) := by decide +kernel
theorem d_M_isAbstractOn_0 : decode mt_M_isAbstractOn.2.1 0 = .ok (.iconst 0, 1) := by decide +kernel
theorem d_M_isAbstractOn_1 : decode mt_M_isAbstractOn.2.1 1 = .ok (.istore_n 1, 1) := by decide +kernel
theorem d_M_isAbstractOn_2 : decode mt_M_isAbstractOn.2.1 2 = .ok (.iconst 0, 1) := by decide +kernel
theorem d_M_isAbstractOn_3 : decode mt_M_isAbstractOn.2.1 3 = .ok (.istore_n 2, 1) := by decide +kernel
theorem d_M_isAbstractOn_4 : decode mt_M_isAbstractOn.2.1 4 = .ok (.iload_n 2, 1) := by decide +kernel
theorem d_M_isAbstractOn_5 : decode mt_M_isAbstractOn.2.1 5 = .ok (.aload_n 0, 1) := by decide +kernel
theorem d_M_isAbstractOn_6 : decode mt_M_isAbstractOn.2.1 6 = .ok (.bipush 80, 2) := by decide +kernel
theorem d_M_isAbstractOn_8 : decode mt_M_isAbstractOn.2.1 8 = .ok (.iaload, 1) := by decide +kernel
theorem d_M_isAbstractOn_9 : decode mt_M_isAbstractOn.2.1 9 = .ok (.if_icmp .ge 32, 3) := by decide +kernel
theorem d_M_isAbstractOn_12 : decode mt_M_isAbstractOn.2.1 12 = .ok (.iload_n 1, 1) := by decide +kernel
theorem d_M_isAbstractOn_13 : decode mt_M_isAbstractOn.2.1 13 = .ok (.ifCond .ne 16, 3) := by decide +kernel
theorem d_M_isAbstractOn_16 : decode mt_M_isAbstractOn.2.1 16 = .ok (.aload_n 0, 1) := by decide +kernel
theorem d_M_isAbstractOn_17 : decode mt_M_isAbstractOn.2.1 17 = .ok (.bipush 81, 2) := by decide +kernel
theorem d_M_isAbstractOn_19 : decode mt_M_isAbstractOn.2.1 19 = .ok (.bipush 7, 2) := by decide +kernel
theorem d_M_isAbstractOn_21 : decode mt_M_isAbstractOn.2.1 21 = .ok (.iload_n 2, 1) := by decide +kernel
theorem d_M_isAbstractOn_22 : decode mt_M_isAbstractOn.2.1 22 = .ok (.imul, 1) := by decide +kernel
theorem d_M_isAbstractOn_23 : decode mt_M_isAbstractOn.2.1 23 = .ok (.iadd, 1) := by decide +kernel
theorem d_M_isAbstractOn_24 : decode mt_M_isAbstractOn.2.1 24 = .ok (.iaload, 1) := by decide +kernel
theorem d_M_isAbstractOn_25 : decode mt_M_isAbstractOn.2.1 25 = .ok (.iconst 2, 1) := by decide +kernel
theorem d_M_isAbstractOn_26 : decode mt_M_isAbstractOn.2.1 26 = .ok (.if_icmp .le 7, 3) := by decide +kernel
theorem d_M_isAbstractOn_29 : decode mt_M_isAbstractOn.2.1 29 = .ok (.iconst 1, 1) := by decide +kernel
theorem d_M_isAbstractOn_30 : decode mt_M_isAbstractOn.2.1 30 = .ok (.goto 4, 3) := by decide +kernel
theorem d_M_isAbstractOn_33 : decode mt_M_isAbstractOn.2.1 33 = .ok (.iconst 0, 1) := by decide +kernel
theorem d_M_isAbstractOn_34 : decode mt_M_isAbstractOn.2.1 34 = .ok (.istore_n 1, 1) := by decide +kernel
theorem d_M_isAbstractOn_35 : decode mt_M_isAbstractOn.2.1 35 = .ok (.iinc 2 1, 3) := by decide +kernel
theorem d_M_isAbstractOn_38 : decode mt_M_isAbstractOn.2.1 38 = .ok (.goto (-34), 3) := by decide +kernel
theorem d_M_isAbstractOn_41 : decode mt_M_isAbstractOn.2.1 41 = .ok (.iload_n 1, 1) := by decide +kernel
theorem d_M_isAbstractOn_42 : decode mt_M_isAbstractOn.2.1 42 = .ok (.ireturn, 1) := by decide +kernel
theorem d_M_set_0 : decode mt_M_set.2.1 0 = .ok (.aload_n 0, 1) := by decide +kernel
theorem d_M_set_1 : decode mt_M_set.2.1 1 = .ok (.iconst 0, 1) := by decide +kernel
theorem d_M_set_2 : decode mt_M_set.2.1 2 = .ok (.putfield 75, 3) := by decide +kernel
theorem d_M_set_5 : decode mt_M_set.2.1 5 = .ok (.iload_n 1, 1) := by decide +kernel
theorem d_M_set_6 : decode mt_M_set.2.1 6 = .ok (.i2l, 1) := by decide +kernel
theorem d_M_set_7 : decode mt_M_set.2.1 7 = .ok (.lconst 0, 1) := by decide +kernel
theorem d_M_set_8 : decode mt_M_set.2.1 8 = .ok (.aload_n 0, 1) := by decide +kernel
theorem d_M_set_9 : decode mt_M_set.2.1 9 = .ok (.getfield 138, 3) := by decide +kernel
theorem d_M_set_12 : decode mt_M_set.2.1 12 = .ok (.iconst 1, 1) := by decide +kernel
theorem d_M_set_13 : decode mt_M_set.2.1 13 = .ok (.isub, 1) := by decide +kernel
theorem d_M_set_14 : decode mt_M_set.2.1 14 = .ok (.i2l, 1) := by decide +kernel
theorem d_M_set_15 : decode mt_M_set.2.1 15 = .ok (.invokestatic 81, 3) := by decide +kernel
theorem d_M_set_18 : decode mt_M_set.2.1 18 = .ok (.ifCond .ne 5, 3) := by decide +kernel
theorem d_M_set_21 : decode mt_M_set.2.1 21 = .ok (.iconst (-1), 1) := by decide +kernel
theorem d_M_set_22 : decode mt_M_set.2.1 22 = .ok (.ireturn, 1) := by decide +kernel
theorem d_M_set_23 : decode mt_M_set.2.1 23 = .ok (.iload_n 2, 1) := by decide +kernel
theorem d_M_set_24 : decode mt_M_set.2.1 24 = .ok (.i2l, 1) := by decide +kernel
theorem d_M_set_25 : decode mt_M_set.2.1 25 = .ok (.lconst 0, 1) := by decide +kernel
theorem d_M_set_26 : decode mt_M_set.2.1 26 = .ok (.lconst 1, 1) := by decide +kernel
theorem d_M_set_27 : decode mt_M_set.2.1 27 = .ok (.invokestatic 81, 3) := by decide +kernel
theorem d_M_set_30 : decode mt_M_set.2.1 30 = .ok (.ifCond .eq 59, 3) := by decide +kernel
theorem d_M_set_33 : decode mt_M_set.2.1 33 = .ok (.iload_n 3, 1) := by decide +kernel
theorem d_M_set_34 : decode mt_M_set.2.1 34 = .ok (.i2l, 1) := by decide +kernel
theorem d_M_set_35 : decode mt_M_set.2.1 35 = .ok (.lconst 0, 1) := by decide +kernel
theorem d_M_set_36 : decode mt_M_set.2.1 36 = .ok (.iload_n 2, 1) := by decide +kernel
theorem d_M_set_37 : decode mt_M_set.2.1 37 = .ok (.ifCond .ne 9, 3) := by decide +kernel
theorem d_M_set_40 : decode mt_M_set.2.1 40 = .ok (.ldc2_w 244, 3) := by decide +kernel
theorem d_M_set_43 : decode mt_M_set.2.1 43 = .ok (.goto 6, 3) := by decide +kernel
theorem d_M_set_46 : decode mt_M_set.2.1 46 = .ok (.ldc2_w 219, 3) := by decide +kernel
theorem d_M_set_49 : decode mt_M_set.2.1 49 = .ok (.invokestatic 81, 3) := by decide +kernel
theorem d_M_set_52 : decode mt_M_set.2.1 52 = .ok (.ifCond .eq 37, 3) := by decide +kernel
theorem d_M_set_55 : decode mt_M_set.2.1 55 = .ok (.iload 4, 2) := by decide +kernel
theorem d_M_set_57 : decode mt_M_set.2.1 57 = .ok (.i2l, 1) := by decide +kernel
theorem d_M_set_58 : decode mt_M_set.2.1 58 = .ok (.lconst 0, 1) := by decide +kernel
theorem d_M_set_59 : decode mt_M_set.2.1 59 = .ok (.iload_n 2, 1) := by decide +kernel
theorem d_M_set_60 : decode mt_M_set.2.1 60 = .ok (.ifCond .ne 7, 3) := by decide +kernel
theorem d_M_set_63 : decode mt_M_set.2.1 63 = .ok (.lconst 0, 1) := by decide +kernel
theorem d_M_set_64 : decode mt_M_set.2.1 64 = .ok (.goto 6, 3) := by decide +kernel
theorem d_M_set_67 : decode mt_M_set.2.1 67 = .ok (.ldc2_w 238, 3) := by decide +kernel
theorem d_M_set_70 : decode mt_M_set.2.1 70 = .ok (.invokestatic 81, 3) := by decide +kernel
theorem d_M_set_73 : decode mt_M_set.2.1 73 = .ok (.ifCond .eq 16, 3) := by decide +kernel
theorem d_M_set_76 : decode mt_M_set.2.1 76 = .ok (.iload 5, 2) := by decide +kernel
theorem d_M_set_78 : decode mt_M_set.2.1 78 = .ok (.i2l, 1) := by decide +kernel
theorem d_M_set_79 : decode mt_M_set.2.1 79 = .ok (.lconst 1, 1) := by decide +kernel
theorem d_M_set_80 : decode mt_M_set.2.1 80 = .ok (.ldc2_w 210, 3) := by decide +kernel
theorem d_M_set_83 : decode mt_M_set.2.1 83 = .ok (.invokestatic 81, 3) := by decide +kernel
theorem d_M_set_86 : decode mt_M_set.2.1 86 = .ok (.ifCond .ne 6, 3) := by decide +kernel
theorem d_M_set_89 : decode mt_M_set.2.1 89 = .ok (.bipush (-2), 2) := by decide +kernel
theorem d_M_set_91 : decode mt_M_set.2.1 91 = .ok (.ireturn, 1) := by decide +kernel
theorem d_M_set_92 : decode mt_M_set.2.1 92 = .ok (.aload_n 0, 1) := by decide +kernel
theorem d_M_set_93 : decode mt_M_set.2.1 93 = .ok (.invokevirtual 223, 3) := by decide +kernel
theorem d_M_set_96 : decode mt_M_set.2.1 96 = .ok (.bipush 40, 2) := by decide +kernel
theorem d_M_set_98 : decode mt_M_set.2.1 98 = .ok (.bipush 6, 2) := by decide +kernel
theorem d_M_set_100 : decode mt_M_set.2.1 100 = .ok (.iload_n 1, 1) := by decide +kernel
theorem d_M_set_101 : decode mt_M_set.2.1 101 = .ok (.imul, 1) := by decide +kernel
theorem d_M_set_102 : decode mt_M_set.2.1 102 = .ok (.iadd, 1) := by decide +kernel
theorem d_M_set_103 : decode mt_M_set.2.1 103 = .ok (.istore 7, 2) := by decide +kernel
theorem d_M_set_105 : decode mt_M_set.2.1 105 = .ok (.aload_n 0, 1) := by decide +kernel
theorem d_M_set_106 : decode mt_M_set.2.1 106 = .ok (.getfield 40, 3) := by decide +kernel
theorem d_M_set_109 : decode mt_M_set.2.1 109 = .ok (.iload 7, 2) := by decide +kernel
theorem d_M_set_111 : decode mt_M_set.2.1 111 = .ok (.iaload, 1) := by decide +kernel
theorem d_M_set_112 : decode mt_M_set.2.1 112 = .ok (.istore 8, 2) := by decide +kernel
theorem d_M_set_114 : decode mt_M_set.2.1 114 = .ok (.aload_n 0, 1) := by decide +kernel
theorem d_M_set_115 : decode mt_M_set.2.1 115 = .ok (.getfield 40, 3) := by decide +kernel
theorem d_M_set_118 : decode mt_M_set.2.1 118 = .ok (.iload 7, 2) := by decide +kernel
theorem d_M_set_120 : decode mt_M_set.2.1 120 = .ok (.iload_n 2, 1) := by decide +kernel
theorem d_M_set_121 : decode mt_M_set.2.1 121 = .ok (.iastore, 1) := by decide +kernel
theorem d_M_set_122 : decode mt_M_set.2.1 122 = .ok (.aload_n 0, 1) := by decide +kernel
theorem d_M_set_123 : decode mt_M_set.2.1 123 = .ok (.getfield 40, 3) := by decide +kernel
theorem d_M_set_126 : decode mt_M_set.2.1 126 = .ok (.iload 7, 2) := by decide +kernel
theorem d_M_set_128 : decode mt_M_set.2.1 128 = .ok (.iconst 1, 1) := by decide +kernel
theorem d_M_set_129 : decode mt_M_set.2.1 129 = .ok (.iadd, 1) := by decide +kernel
theorem d_M_set_130 : decode mt_M_set.2.1 130 = .ok (.iload_n 3, 1) := by decide +kernel
theorem d_M_set_131 : decode mt_M_set.2.1 131 = .ok (.iastore, 1) := by decide +kernel
theorem d_M_set_132 : decode mt_M_set.2.1 132 = .ok (.aload_n 0, 1) := by decide +kernel
theorem d_M_set_133 : decode mt_M_set.2.1 133 = .ok (.getfield 40, 3) := by decide +kernel
theorem d_M_set_136 : decode mt_M_set.2.1 136 = .ok (.iload 7, 2) := by decide +kernel
theorem d_M_set_138 : decode mt_M_set.2.1 138 = .ok (.iconst 2, 1) := by decide +kernel
theorem d_M_set_139 : decode mt_M_set.2.1 139 = .ok (.iadd, 1) := by decide +kernel
theorem d_M_set_140 : decode mt_M_set.2.1 140 = .ok (.iload 4, 2) := by decide +kernel
theorem d_M_set_142 : decode mt_M_set.2.1 142 = .ok (.iastore, 1) := by decide +kernel
theorem d_M_set_143 : decode mt_M_set.2.1 143 = .ok (.aload_n 0, 1) := by decide +kernel
theorem d_M_set_144 : decode mt_M_set.2.1 144 = .ok (.getfield 40, 3) := by decide +kernel
theorem d_M_set_147 : decode mt_M_set.2.1 147 = .ok (.iload 7, 2) := by decide +kernel
theorem d_M_set_149 : decode mt_M_set.2.1 149 = .ok (.iconst 3, 1) := by decide +kernel
theorem d_M_set_150 : decode mt_M_set.2.1 150 = .ok (.iadd, 1) := by decide +kernel
theorem d_M_set_151 : decode mt_M_set.2.1 151 = .ok (.iload 5, 2) := by decide +kernel
theorem d_M_set_153 : decode mt_M_set.2.1 153 = .ok (.iastore, 1) := by decide +kernel
theorem d_M_set_154 : decode mt_M_set.2.1 154 = .ok (.aload_n 0, 1) := by decide +kernel
theorem d_M_set_155 : decode mt_M_set.2.1 155 = .ok (.getfield 40, 3) := by decide +kernel
theorem d_M_set_158 : decode mt_M_set.2.1 158 = .ok (.iload 7, 2) := by decide +kernel
theorem d_M_set_160 : decode mt_M_set.2.1 160 = .ok (.iconst 4, 1) := by decide +kernel
theorem d_M_set_161 : decode mt_M_set.2.1 161 = .ok (.iadd, 1) := by decide +kernel
theorem d_M_set_162 : decode mt_M_set.2.1 162 = .ok (.iload 5, 2) := by decide +kernel
theorem d_M_set_164 : decode mt_M_set.2.1 164 = .ok (.iastore, 1) := by decide +kernel
theorem d_M_set_165 : decode mt_M_set.2.1 165 = .ok (.aload_n 0, 1) := by decide +kernel
theorem d_M_set_166 : decode mt_M_set.2.1 166 = .ok (.getfield 40, 3) := by decide +kernel
theorem d_M_set_169 : decode mt_M_set.2.1 169 = .ok (.iload 7, 2) := by decide +kernel
theorem d_M_set_171 : decode mt_M_set.2.1 171 = .ok (.iconst 5, 1) := by decide +kernel
theorem d_M_set_172 : decode mt_M_set.2.1 172 = .ok (.iadd, 1) := by decide +kernel
theorem d_M_set_173 : decode mt_M_set.2.1 173 = .ok (.iload 6, 2) := by decide +kernel
theorem d_M_set_175 : decode mt_M_set.2.1 175 = .ok (.ifCond .eq 7, 3) := by decide +kernel
theorem d_M_set_178 : decode mt_M_set.2.1 178 = .ok (.iconst 1, 1) := by decide +kernel
theorem d_M_set_179 : decode mt_M_set.2.1 179 = .ok (.goto 4, 3) := by decide +kernel
theorem d_M_set_182 : decode mt_M_set.2.1 182 = .ok (.iconst 0, 1) := by decide +kernel
theorem d_M_set_183 : decode mt_M_set.2.1 183 = .ok (.iastore, 1) := by decide +kernel
theorem d_M_set_184 : decode mt_M_set.2.1 184 = .ok (.iload 8, 2) := by decide +kernel
theorem d_M_set_186 : decode mt_M_set.2.1 186 = .ok (.ireturn, 1) := by decide +kernel
theorem d_M_buffer_0 : decode mt_M_buffer.2.1 0 = .ok (.aload_n 0, 1) := by decide +kernel
theorem d_M_buffer_1 : decode mt_M_buffer.2.1 1 = .ok (.iconst 0, 1) := by decide +kernel
theorem d_M_buffer_2 : decode mt_M_buffer.2.1 2 = .ok (.putfield 75, 3) := by decide +kernel
theorem d_M_buffer_5 : decode mt_M_buffer.2.1 5 = .ok (.iload_n 1, 1) := by decide +kernel
theorem d_M_buffer_6 : decode mt_M_buffer.2.1 6 = .ok (.i2l, 1) := by decide +kernel
theorem d_M_buffer_7 : decode mt_M_buffer.2.1 7 = .ok (.lconst 0, 1) := by decide +kernel
theorem d_M_buffer_8 : decode mt_M_buffer.2.1 8 = .ok (.lconst 1, 1) := by decide +kernel
theorem d_M_buffer_9 : decode mt_M_buffer.2.1 9 = .ok (.invokestatic 81, 3) := by decide +kernel
theorem d_M_buffer_12 : decode mt_M_buffer.2.1 12 = .ok (.ifCond .eq 10, 3) := by decide +kernel
theorem d_M_buffer_15 : decode mt_M_buffer.2.1 15 = .ok (.iload_n 2, 1) := by decide +kernel
theorem d_M_buffer_16 : decode mt_M_buffer.2.1 16 = .ok (.invokestatic 248, 3) := by decide +kernel
theorem d_M_buffer_19 : decode mt_M_buffer.2.1 19 = .ok (.ifCond .ne 6, 3) := by decide +kernel
theorem d_M_buffer_22 : decode mt_M_buffer.2.1 22 = .ok (.bipush (-2), 2) := by decide +kernel
theorem d_M_buffer_24 : decode mt_M_buffer.2.1 24 = .ok (.ireturn, 1) := by decide +kernel
theorem d_M_buffer_25 : decode mt_M_buffer.2.1 25 = .ok (.aload_n 0, 1) := by decide +kernel
theorem d_M_buffer_26 : decode mt_M_buffer.2.1 26 = .ok (.invokevirtual 223, 3) := by decide +kernel
theorem d_M_buffer_29 : decode mt_M_buffer.2.1 29 = .ok (.aload_n 0, 1) := by decide +kernel
theorem d_M_buffer_30 : decode mt_M_buffer.2.1 30 = .ok (.getfield 40, 3) := by decide +kernel
theorem d_M_buffer_33 : decode mt_M_buffer.2.1 33 = .ok (.bipush 78, 2) := by decide +kernel
theorem d_M_buffer_35 : decode mt_M_buffer.2.1 35 = .ok (.iload_n 1, 1) := by decide +kernel
theorem d_M_buffer_36 : decode mt_M_buffer.2.1 36 = .ok (.iadd, 1) := by decide +kernel
theorem d_M_buffer_37 : decode mt_M_buffer.2.1 37 = .ok (.iaload, 1) := by decide +kernel
theorem d_M_buffer_38 : decode mt_M_buffer.2.1 38 = .ok (.istore_n 3, 1) := by decide +kernel
theorem d_M_buffer_39 : decode mt_M_buffer.2.1 39 = .ok (.aload_n 0, 1) := by decide +kernel
theorem d_M_buffer_40 : decode mt_M_buffer.2.1 40 = .ok (.getfield 40, 3) := by decide +kernel
theorem d_M_buffer_43 : decode mt_M_buffer.2.1 43 = .ok (.bipush 78, 2) := by decide +kernel
theorem d_M_buffer_45 : decode mt_M_buffer.2.1 45 = .ok (.iload_n 1, 1) := by decide +kernel
theorem d_M_buffer_46 : decode mt_M_buffer.2.1 46 = .ok (.iadd, 1) := by decide +kernel
theorem d_M_buffer_47 : decode mt_M_buffer.2.1 47 = .ok (.iload_n 2, 1) := by decide +kernel
theorem d_M_buffer_48 : decode mt_M_buffer.2.1 48 = .ok (.iastore, 1) := by decide +kernel
theorem d_M_buffer_49 : decode mt_M_buffer.2.1 49 = .ok (.iload_n 3, 1) := by decide +kernel
theorem d_M_buffer_50 : decode mt_M_buffer.2.1 50 = .ok (.ireturn, 1) := by decide +kernel
theorem d_M_isTold_0 : decode mt_M_isTold.2.1 0 = .ok (.iload_n 0, 1) := by decide +kernel
theorem d_M_isTold_1 : decode mt_M_isTold.2.1 1 = .ok (.bipush 100, 2) := by decide +kernel
theorem d_M_isTold_3 : decode mt_M_isTold.2.1 3 = .ok (.idiv, 1) := by decide +kernel
theorem d_M_isTold_4 : decode mt_M_isTold.2.1 4 = .ok (.istore_n 1, 1) := by decide +kernel
theorem d_M_isTold_5 : decode mt_M_isTold.2.1 5 = .ok (.iload_n 1, 1) := by decide +kernel
theorem d_M_isTold_6 : decode mt_M_isTold.2.1 6 = .ok (.iconst 1, 1) := by decide +kernel
theorem d_M_isTold_7 : decode mt_M_isTold.2.1 7 = .ok (.if_icmp .eq 9, 3) := by decide +kernel
theorem d_M_isTold_10 : decode mt_M_isTold.2.1 10 = .ok (.iload_n 1, 1) := by decide +kernel
theorem d_M_isTold_11 : decode mt_M_isTold.2.1 11 = .ok (.bipush 6, 2) := by decide +kernel
theorem d_M_isTold_13 : decode mt_M_isTold.2.1 13 = .ok (.if_icmp .ne 8, 3) := by decide +kernel
theorem d_M_isTold_16 : decode mt_M_isTold.2.1 16 = .ok (.bipush 9, 2) := by decide +kernel
theorem d_M_isTold_18 : decode mt_M_isTold.2.1 18 = .ok (.goto 28, 3) := by decide +kernel
theorem d_M_isTold_21 : decode mt_M_isTold.2.1 21 = .ok (.iload_n 1, 1) := by decide +kernel
theorem d_M_isTold_22 : decode mt_M_isTold.2.1 22 = .ok (.iconst 3, 1) := by decide +kernel
theorem d_M_isTold_23 : decode mt_M_isTold.2.1 23 = .ok (.if_icmp .ne 7, 3) := by decide +kernel
theorem d_M_isTold_26 : decode mt_M_isTold.2.1 26 = .ok (.iconst 3, 1) := by decide +kernel
theorem d_M_isTold_27 : decode mt_M_isTold.2.1 27 = .ok (.goto 19, 3) := by decide +kernel
theorem d_M_isTold_30 : decode mt_M_isTold.2.1 30 = .ok (.iload_n 1, 1) := by decide +kernel
theorem d_M_isTold_31 : decode mt_M_isTold.2.1 31 = .ok (.iconst 4, 1) := by decide +kernel
theorem d_M_isTold_32 : decode mt_M_isTold.2.1 32 = .ok (.if_icmp .eq 8, 3) := by decide +kernel
theorem d_M_isTold_35 : decode mt_M_isTold.2.1 35 = .ok (.iload_n 1, 1) := by decide +kernel
theorem d_M_isTold_36 : decode mt_M_isTold.2.1 36 = .ok (.iconst 5, 1) := by decide +kernel
theorem d_M_isTold_37 : decode mt_M_isTold.2.1 37 = .ok (.if_icmp .ne 8, 3) := by decide +kernel
theorem d_M_isTold_40 : decode mt_M_isTold.2.1 40 = .ok (.bipush 7, 2) := by decide +kernel
theorem d_M_isTold_42 : decode mt_M_isTold.2.1 42 = .ok (.goto 4, 3) := by decide +kernel
theorem d_M_isTold_45 : decode mt_M_isTold.2.1 45 = .ok (.iconst 0, 1) := by decide +kernel
theorem d_M_isTold_46 : decode mt_M_isTold.2.1 46 = .ok (.istore_n 2, 1) := by decide +kernel
theorem d_M_isTold_47 : decode mt_M_isTold.2.1 47 = .ok (.iload_n 0, 1) := by decide +kernel
theorem d_M_isTold_48 : decode mt_M_isTold.2.1 48 = .ok (.i2l, 1) := by decide +kernel
theorem d_M_isTold_49 : decode mt_M_isTold.2.1 49 = .ok (.lconst 0, 1) := by decide +kernel
theorem d_M_isTold_50 : decode mt_M_isTold.2.1 50 = .ok (.ldc2_w 246, 3) := by decide +kernel
theorem d_M_isTold_53 : decode mt_M_isTold.2.1 53 = .ok (.invokestatic 81, 3) := by decide +kernel
theorem d_M_isTold_56 : decode mt_M_isTold.2.1 56 = .ok (.ifCond .eq 40, 3) := by decide +kernel
theorem d_M_isTold_59 : decode mt_M_isTold.2.1 59 = .ok (.iload_n 0, 1) := by decide +kernel
theorem d_M_isTold_60 : decode mt_M_isTold.2.1 60 = .ok (.bipush 10, 2) := by decide +kernel
theorem d_M_isTold_62 : decode mt_M_isTold.2.1 62 = .ok (.idiv, 1) := by decide +kernel
theorem d_M_isTold_63 : decode mt_M_isTold.2.1 63 = .ok (.bipush 10, 2) := by decide +kernel
theorem d_M_isTold_65 : decode mt_M_isTold.2.1 65 = .ok (.irem, 1) := by decide +kernel
theorem d_M_isTold_66 : decode mt_M_isTold.2.1 66 = .ok (.iload_n 1, 1) := by decide +kernel
theorem d_M_isTold_67 : decode mt_M_isTold.2.1 67 = .ok (.ifCond .le 13, 3) := by decide +kernel
theorem d_M_isTold_70 : decode mt_M_isTold.2.1 70 = .ok (.iload_n 1, 1) := by decide +kernel
theorem d_M_isTold_71 : decode mt_M_isTold.2.1 71 = .ok (.bipush 7, 2) := by decide +kernel
theorem d_M_isTold_73 : decode mt_M_isTold.2.1 73 = .ok (.if_icmp .ge 7, 3) := by decide +kernel
theorem d_M_isTold_76 : decode mt_M_isTold.2.1 76 = .ok (.iconst 3, 1) := by decide +kernel
theorem d_M_isTold_77 : decode mt_M_isTold.2.1 77 = .ok (.goto 4, 3) := by decide +kernel
theorem d_M_isTold_80 : decode mt_M_isTold.2.1 80 = .ok (.iconst 0, 1) := by decide +kernel
theorem d_M_isTold_81 : decode mt_M_isTold.2.1 81 = .ok (.if_icmp .gt 15, 3) := by decide +kernel
theorem d_M_isTold_84 : decode mt_M_isTold.2.1 84 = .ok (.iload_n 0, 1) := by decide +kernel
theorem d_M_isTold_85 : decode mt_M_isTold.2.1 85 = .ok (.bipush 10, 2) := by decide +kernel
theorem d_M_isTold_87 : decode mt_M_isTold.2.1 87 = .ok (.irem, 1) := by decide +kernel
theorem d_M_isTold_88 : decode mt_M_isTold.2.1 88 = .ok (.iload_n 2, 1) := by decide +kernel
theorem d_M_isTold_89 : decode mt_M_isTold.2.1 89 = .ok (.if_icmp .gt 7, 3) := by decide +kernel
theorem d_M_isTold_92 : decode mt_M_isTold.2.1 92 = .ok (.iconst 1, 1) := by decide +kernel
theorem d_M_isTold_93 : decode mt_M_isTold.2.1 93 = .ok (.goto 4, 3) := by decide +kernel
theorem d_M_isTold_96 : decode mt_M_isTold.2.1 96 = .ok (.iconst 0, 1) := by decide +kernel
theorem d_M_isTold_97 : decode mt_M_isTold.2.1 97 = .ok (.ireturn, 1) := by decide +kernel
theorem d_M_clear_0 : decode mt_M_clear.2.1 0 = .ok (.aload_n 0, 1) := by decide +kernel
theorem d_M_clear_1 : decode mt_M_clear.2.1 1 = .ok (.iconst 0, 1) := by decide +kernel
theorem d_M_clear_2 : decode mt_M_clear.2.1 2 = .ok (.putfield 75, 3) := by decide +kernel
theorem d_M_clear_5 : decode mt_M_clear.2.1 5 = .ok (.aload_n 0, 1) := by decide +kernel
theorem d_M_clear_6 : decode mt_M_clear.2.1 6 = .ok (.invokevirtual 223, 3) := by decide +kernel
theorem d_M_clear_9 : decode mt_M_clear.2.1 9 = .ok (.aload_n 0, 1) := by decide +kernel
theorem d_M_clear_10 : decode mt_M_clear.2.1 10 = .ok (.getfield 40, 3) := by decide +kernel
theorem d_M_clear_13 : decode mt_M_clear.2.1 13 = .ok (.bipush 76, 2) := by decide +kernel
theorem d_M_clear_15 : decode mt_M_clear.2.1 15 = .ok (.iaload, 1) := by decide +kernel
theorem d_M_clear_16 : decode mt_M_clear.2.1 16 = .ok (.istore_n 1, 1) := by decide +kernel
theorem d_M_clear_17 : decode mt_M_clear.2.1 17 = .ok (.aload_n 0, 1) := by decide +kernel
theorem d_M_clear_18 : decode mt_M_clear.2.1 18 = .ok (.getfield 40, 3) := by decide +kernel
theorem d_M_clear_21 : decode mt_M_clear.2.1 21 = .ok (.bipush 76, 2) := by decide +kernel
theorem d_M_clear_23 : decode mt_M_clear.2.1 23 = .ok (.iconst 0, 1) := by decide +kernel
theorem d_M_clear_24 : decode mt_M_clear.2.1 24 = .ok (.iastore, 1) := by decide +kernel
theorem d_M_clear_25 : decode mt_M_clear.2.1 25 = .ok (.iload_n 1, 1) := by decide +kernel
theorem d_M_clear_26 : decode mt_M_clear.2.1 26 = .ok (.ireturn, 1) := by decide +kernel
theorem d_M_poke_0 : decode mt_M_poke.2.1 0 = .ok (.aload_n 0, 1) := by decide +kernel
theorem d_M_poke_1 : decode mt_M_poke.2.1 1 = .ok (.iconst 0, 1) := by decide +kernel
theorem d_M_poke_2 : decode mt_M_poke.2.1 2 = .ok (.putfield 75, 3) := by decide +kernel
theorem d_M_poke_5 : decode mt_M_poke.2.1 5 = .ok (.iload_n 1, 1) := by decide +kernel
theorem d_M_poke_6 : decode mt_M_poke.2.1 6 = .ok (.i2l, 1) := by decide +kernel
theorem d_M_poke_7 : decode mt_M_poke.2.1 7 = .ok (.lconst 0, 1) := by decide +kernel
theorem d_M_poke_8 : decode mt_M_poke.2.1 8 = .ok (.ldc2_w 217, 3) := by decide +kernel
theorem d_M_poke_11 : decode mt_M_poke.2.1 11 = .ok (.invokestatic 81, 3) := by decide +kernel
theorem d_M_poke_14 : decode mt_M_poke.2.1 14 = .ok (.ifCond .eq 15, 3) := by decide +kernel
theorem d_M_poke_17 : decode mt_M_poke.2.1 17 = .ok (.iload_n 2, 1) := by decide +kernel
theorem d_M_poke_18 : decode mt_M_poke.2.1 18 = .ok (.i2l, 1) := by decide +kernel
theorem d_M_poke_19 : decode mt_M_poke.2.1 19 = .ok (.lconst 0, 1) := by decide +kernel
theorem d_M_poke_20 : decode mt_M_poke.2.1 20 = .ok (.ldc2_w 238, 3) := by decide +kernel
theorem d_M_poke_23 : decode mt_M_poke.2.1 23 = .ok (.invokestatic 81, 3) := by decide +kernel
theorem d_M_poke_26 : decode mt_M_poke.2.1 26 = .ok (.ifCond .ne 6, 3) := by decide +kernel
theorem d_M_poke_29 : decode mt_M_poke.2.1 29 = .ok (.bipush (-2), 2) := by decide +kernel
theorem d_M_poke_31 : decode mt_M_poke.2.1 31 = .ok (.ireturn, 1) := by decide +kernel
theorem d_M_poke_32 : decode mt_M_poke.2.1 32 = .ok (.aload_n 0, 1) := by decide +kernel
theorem d_M_poke_33 : decode mt_M_poke.2.1 33 = .ok (.invokevirtual 223, 3) := by decide +kernel
theorem d_M_poke_36 : decode mt_M_poke.2.1 36 = .ok (.aload_n 0, 1) := by decide +kernel
theorem d_M_poke_37 : decode mt_M_poke.2.1 37 = .ok (.getfield 40, 3) := by decide +kernel
theorem d_M_poke_40 : decode mt_M_poke.2.1 40 = .ok (.bipush 32, 2) := by decide +kernel
theorem d_M_poke_42 : decode mt_M_poke.2.1 42 = .ok (.iload_n 1, 1) := by decide +kernel
theorem d_M_poke_43 : decode mt_M_poke.2.1 43 = .ok (.iadd, 1) := by decide +kernel
theorem d_M_poke_44 : decode mt_M_poke.2.1 44 = .ok (.iaload, 1) := by decide +kernel
theorem d_M_poke_45 : decode mt_M_poke.2.1 45 = .ok (.istore_n 3, 1) := by decide +kernel
theorem d_M_poke_46 : decode mt_M_poke.2.1 46 = .ok (.aload_n 0, 1) := by decide +kernel
theorem d_M_poke_47 : decode mt_M_poke.2.1 47 = .ok (.getfield 40, 3) := by decide +kernel
theorem d_M_poke_50 : decode mt_M_poke.2.1 50 = .ok (.bipush 32, 2) := by decide +kernel
theorem d_M_poke_52 : decode mt_M_poke.2.1 52 = .ok (.iload_n 1, 1) := by decide +kernel
theorem d_M_poke_53 : decode mt_M_poke.2.1 53 = .ok (.iadd, 1) := by decide +kernel
theorem d_M_poke_54 : decode mt_M_poke.2.1 54 = .ok (.iload_n 2, 1) := by decide +kernel
theorem d_M_poke_55 : decode mt_M_poke.2.1 55 = .ok (.iastore, 1) := by decide +kernel
theorem d_M_poke_56 : decode mt_M_poke.2.1 56 = .ok (.iload_n 3, 1) := by decide +kernel
theorem d_M_poke_57 : decode mt_M_poke.2.1 57 = .ok (.ireturn, 1) := by decide +kernel
theorem d_M_undo_0 : decode mt_M_undo.2.1 0 = .ok (.aload_n 0, 1) := by decide +kernel
theorem d_M_undo_1 : decode mt_M_undo.2.1 1 = .ok (.iconst 0, 1) := by decide +kernel
theorem d_M_undo_2 : decode mt_M_undo.2.1 2 = .ok (.putfield 75, 3) := by decide +kernel
theorem d_M_undo_5 : decode mt_M_undo.2.1 5 = .ok (.aload_n 0, 1) := by decide +kernel
theorem d_M_undo_6 : decode mt_M_undo.2.1 6 = .ok (.getfield 141, 3) := by decide +kernel
theorem d_M_undo_9 : decode mt_M_undo.2.1 9 = .ok (.ifCond .ne 6, 3) := by decide +kernel
theorem d_M_undo_12 : decode mt_M_undo.2.1 12 = .ok (.bipush (-3), 2) := by decide +kernel
theorem d_M_undo_14 : decode mt_M_undo.2.1 14 = .ok (.ireturn, 1) := by decide +kernel
theorem d_M_undo_15 : decode mt_M_undo.2.1 15 = .ok (.aload_n 0, 1) := by decide +kernel
theorem d_M_undo_16 : decode mt_M_undo.2.1 16 = .ok (.dup, 1) := by decide +kernel
theorem d_M_undo_17 : decode mt_M_undo.2.1 17 = .ok (.getfield 141, 3) := by decide +kernel
theorem d_M_undo_20 : decode mt_M_undo.2.1 20 = .ok (.iconst 1, 1) := by decide +kernel
theorem d_M_undo_21 : decode mt_M_undo.2.1 21 = .ok (.isub, 1) := by decide +kernel
theorem d_M_undo_22 : decode mt_M_undo.2.1 22 = .ok (.putfield 141, 3) := by decide +kernel
theorem d_M_undo_25 : decode mt_M_undo.2.1 25 = .ok (.iconst 0, 1) := by decide +kernel
theorem d_M_undo_26 : decode mt_M_undo.2.1 26 = .ok (.istore_n 1, 1) := by decide +kernel
theorem d_M_undo_27 : decode mt_M_undo.2.1 27 = .ok (.iload_n 1, 1) := by decide +kernel
theorem d_M_undo_28 : decode mt_M_undo.2.1 28 = .ok (.sipush 165, 3) := by decide +kernel
theorem d_M_undo_31 : decode mt_M_undo.2.1 31 = .ok (.if_icmp .ge 30, 3) := by decide +kernel
theorem d_M_undo_34 : decode mt_M_undo.2.1 34 = .ok (.aload_n 0, 1) := by decide +kernel
theorem d_M_undo_35 : decode mt_M_undo.2.1 35 = .ok (.getfield 40, 3) := by decide +kernel
theorem d_M_undo_38 : decode mt_M_undo.2.1 38 = .ok (.iload_n 1, 1) := by decide +kernel
theorem d_M_undo_39 : decode mt_M_undo.2.1 39 = .ok (.aload_n 0, 1) := by decide +kernel
theorem d_M_undo_40 : decode mt_M_undo.2.1 40 = .ok (.getfield 49, 3) := by decide +kernel
theorem d_M_undo_43 : decode mt_M_undo.2.1 43 = .ok (.sipush 165, 3) := by decide +kernel
theorem d_M_undo_46 : decode mt_M_undo.2.1 46 = .ok (.aload_n 0, 1) := by decide +kernel
theorem d_M_undo_47 : decode mt_M_undo.2.1 47 = .ok (.getfield 141, 3) := by decide +kernel
theorem d_M_undo_50 : decode mt_M_undo.2.1 50 = .ok (.imul, 1) := by decide +kernel
theorem d_M_undo_51 : decode mt_M_undo.2.1 51 = .ok (.iload_n 1, 1) := by decide +kernel
theorem d_M_undo_52 : decode mt_M_undo.2.1 52 = .ok (.iadd, 1) := by decide +kernel
theorem d_M_undo_53 : decode mt_M_undo.2.1 53 = .ok (.iaload, 1) := by decide +kernel
theorem d_M_undo_54 : decode mt_M_undo.2.1 54 = .ok (.iastore, 1) := by decide +kernel
theorem d_M_undo_55 : decode mt_M_undo.2.1 55 = .ok (.iinc 1 1, 3) := by decide +kernel
theorem d_M_undo_58 : decode mt_M_undo.2.1 58 = .ok (.goto (-31), 3) := by decide +kernel
theorem d_M_undo_61 : decode mt_M_undo.2.1 61 = .ok (.aload_n 0, 1) := by decide +kernel
theorem d_M_undo_62 : decode mt_M_undo.2.1 62 = .ok (.getfield 141, 3) := by decide +kernel
theorem d_M_undo_65 : decode mt_M_undo.2.1 65 = .ok (.ireturn, 1) := by decide +kernel
theorem d_M_ahead_0 : decode mt_M_ahead.2.1 0 = .ok (.aload_n 0, 1) := by decide +kernel
theorem d_M_ahead_1 : decode mt_M_ahead.2.1 1 = .ok (.iconst 0, 1) := by decide +kernel
theorem d_M_ahead_2 : decode mt_M_ahead.2.1 2 = .ok (.putfield 75, 3) := by decide +kernel
theorem d_M_ahead_5 : decode mt_M_ahead.2.1 5 = .ok (.aload_n 0, 1) := by decide +kernel
theorem d_M_ahead_6 : decode mt_M_ahead.2.1 6 = .ok (.iload_n 2, 1) := by decide +kernel
theorem d_M_ahead_7 : decode mt_M_ahead.2.1 7 = .ok (.invokevirtual 206, 3) := by decide +kernel
theorem d_M_ahead_10 : decode mt_M_ahead.2.1 10 = .ok (.ifCond .eq 5, 3) := by decide +kernel
theorem d_M_ahead_13 : decode mt_M_ahead.2.1 13 = .ok (.iconst (-1), 1) := by decide +kernel
theorem d_M_ahead_14 : decode mt_M_ahead.2.1 14 = .ok (.ireturn, 1) := by decide +kernel
theorem d_M_ahead_15 : decode mt_M_ahead.2.1 15 = .ok (.iload_n 1, 1) := by decide +kernel
theorem d_M_ahead_16 : decode mt_M_ahead.2.1 16 = .ok (.i2l, 1) := by decide +kernel
theorem d_M_ahead_17 : decode mt_M_ahead.2.1 17 = .ok (.lconst 0, 1) := by decide +kernel
theorem d_M_ahead_18 : decode mt_M_ahead.2.1 18 = .ok (.ldc2_w 221, 3) := by decide +kernel
theorem d_M_ahead_21 : decode mt_M_ahead.2.1 21 = .ok (.invokestatic 81, 3) := by decide +kernel
theorem d_M_ahead_24 : decode mt_M_ahead.2.1 24 = .ok (.ifCond .eq 15, 3) := by decide +kernel
theorem d_M_ahead_27 : decode mt_M_ahead.2.1 27 = .ok (.iload_n 3, 1) := by decide +kernel
theorem d_M_ahead_28 : decode mt_M_ahead.2.1 28 = .ok (.i2l, 1) := by decide +kernel
theorem d_M_ahead_29 : decode mt_M_ahead.2.1 29 = .ok (.lconst 0, 1) := by decide +kernel
theorem d_M_ahead_30 : decode mt_M_ahead.2.1 30 = .ok (.ldc2_w 210, 3) := by decide +kernel
theorem d_M_ahead_33 : decode mt_M_ahead.2.1 33 = .ok (.invokestatic 81, 3) := by decide +kernel
theorem d_M_ahead_36 : decode mt_M_ahead.2.1 36 = .ok (.ifCond .ne 6, 3) := by decide +kernel
theorem d_M_ahead_39 : decode mt_M_ahead.2.1 39 = .ok (.bipush (-2), 2) := by decide +kernel
theorem d_M_ahead_41 : decode mt_M_ahead.2.1 41 = .ok (.ireturn, 1) := by decide +kernel
theorem d_M_ahead_42 : decode mt_M_ahead.2.1 42 = .ok (.aload_n 0, 1) := by decide +kernel
theorem d_M_ahead_43 : decode mt_M_ahead.2.1 43 = .ok (.getfield 43, 3) := by decide +kernel
theorem d_M_ahead_46 : decode mt_M_ahead.2.1 46 = .ok (.aload_n 0, 1) := by decide +kernel
theorem d_M_ahead_47 : decode mt_M_ahead.2.1 47 = .ok (.getfield 40, 3) := by decide +kernel
theorem d_M_ahead_50 : decode mt_M_ahead.2.1 50 = .ok (.invokestatic 131, 3) := by decide +kernel
theorem d_M_ahead_53 : decode mt_M_ahead.2.1 53 = .ok (.aload_n 0, 1) := by decide +kernel
theorem d_M_ahead_54 : decode mt_M_ahead.2.1 54 = .ok (.aload_n 0, 1) := by decide +kernel
theorem d_M_ahead_55 : decode mt_M_ahead.2.1 55 = .ok (.getfield 43, 3) := by decide +kernel
theorem d_M_ahead_58 : decode mt_M_ahead.2.1 58 = .ok (.iload_n 1, 1) := by decide +kernel
theorem d_M_ahead_59 : decode mt_M_ahead.2.1 59 = .ok (.invokevirtual 226, 3) := by decide +kernel
theorem d_M_ahead_62 : decode mt_M_ahead.2.1 62 = .ok (.aload_n 0, 1) := by decide +kernel
theorem d_M_ahead_63 : decode mt_M_ahead.2.1 63 = .ok (.aload_n 0, 1) := by decide +kernel
theorem d_M_ahead_64 : decode mt_M_ahead.2.1 64 = .ok (.getfield 43, 3) := by decide +kernel
theorem d_M_ahead_67 : decode mt_M_ahead.2.1 67 = .ok (.iload_n 2, 1) := by decide +kernel
theorem d_M_ahead_68 : decode mt_M_ahead.2.1 68 = .ok (.iload_n 3, 1) := by decide +kernel
theorem d_M_ahead_69 : decode mt_M_ahead.2.1 69 = .ok (.invokevirtual 212, 3) := by decide +kernel
theorem d_M_ahead_72 : decode mt_M_ahead.2.1 72 = .ok (.ireturn, 1) := by decide +kernel
theorem d_M_halts_0 : decode mt_M_halts.2.1 0 = .ok (.aload_n 0, 1) := by decide +kernel
theorem d_M_halts_1 : decode mt_M_halts.2.1 1 = .ok (.iconst 0, 1) := by decide +kernel
theorem d_M_halts_2 : decode mt_M_halts.2.1 2 = .ok (.putfield 75, 3) := by decide +kernel
theorem d_M_halts_5 : decode mt_M_halts.2.1 5 = .ok (.aload_n 0, 1) := by decide +kernel
theorem d_M_halts_6 : decode mt_M_halts.2.1 6 = .ok (.iload_n 1, 1) := by decide +kernel
theorem d_M_halts_7 : decode mt_M_halts.2.1 7 = .ok (.invokevirtual 206, 3) := by decide +kernel
theorem d_M_halts_10 : decode mt_M_halts.2.1 10 = .ok (.ifCond .eq 5, 3) := by decide +kernel
theorem d_M_halts_13 : decode mt_M_halts.2.1 13 = .ok (.iconst (-1), 1) := by decide +kernel
theorem d_M_halts_14 : decode mt_M_halts.2.1 14 = .ok (.ireturn, 1) := by decide +kernel
theorem d_M_halts_15 : decode mt_M_halts.2.1 15 = .ok (.aload_n 0, 1) := by decide +kernel
theorem d_M_halts_16 : decode mt_M_halts.2.1 16 = .ok (.getfield 43, 3) := by decide +kernel
theorem d_M_halts_19 : decode mt_M_halts.2.1 19 = .ok (.aload_n 0, 1) := by decide +kernel
theorem d_M_halts_20 : decode mt_M_halts.2.1 20 = .ok (.getfield 40, 3) := by decide +kernel
theorem d_M_halts_23 : decode mt_M_halts.2.1 23 = .ok (.invokestatic 131, 3) := by decide +kernel
theorem d_M_halts_26 : decode mt_M_halts.2.1 26 = .ok (.aload_n 0, 1) := by decide +kernel
theorem d_M_halts_27 : decode mt_M_halts.2.1 27 = .ok (.aload_n 0, 1) := by decide +kernel
theorem d_M_halts_28 : decode mt_M_halts.2.1 28 = .ok (.getfield 43, 3) := by decide +kernel
theorem d_M_halts_31 : decode mt_M_halts.2.1 31 = .ok (.iconst 1, 1) := by decide +kernel
theorem d_M_halts_32 : decode mt_M_halts.2.1 32 = .ok (.iload_n 1, 1) := by decide +kernel
theorem d_M_halts_33 : decode mt_M_halts.2.1 33 = .ok (.ishl, 1) := by decide +kernel
theorem d_M_halts_34 : decode mt_M_halts.2.1 34 = .ok (.invokevirtual 251, 3) := by decide +kernel
theorem d_M_halts_37 : decode mt_M_halts.2.1 37 = .ok (.ireturn, 1) := by decide +kernel
theorem d_M_haltsOn_0 : decode mt_M_haltsOn.2.1 0 = .ok (.iconst 0, 1) := by decide +kernel
theorem d_M_haltsOn_1 : decode mt_M_haltsOn.2.1 1 = .ok (.istore_n 3, 1) := by decide +kernel
theorem d_M_haltsOn_2 : decode mt_M_haltsOn.2.1 2 = .ok (.iload_n 3, 1) := by decide +kernel
theorem d_M_haltsOn_3 : decode mt_M_haltsOn.2.1 3 = .ok (.bipush 60, 2) := by decide +kernel
theorem d_M_haltsOn_5 : decode mt_M_haltsOn.2.1 5 = .ok (.if_icmp .gt 31, 3) := by decide +kernel
theorem d_M_haltsOn_8 : decode mt_M_haltsOn.2.1 8 = .ok (.iload_n 2, 1) := by decide +kernel
theorem d_M_haltsOn_9 : decode mt_M_haltsOn.2.1 9 = .ok (.aload_n 1, 1) := by decide +kernel
theorem d_M_haltsOn_10 : decode mt_M_haltsOn.2.1 10 = .ok (.aload_n 0, 1) := by decide +kernel
theorem d_M_haltsOn_11 : decode mt_M_haltsOn.2.1 11 = .ok (.getfield 78, 3) := by decide +kernel
theorem d_M_haltsOn_14 : decode mt_M_haltsOn.2.1 14 = .ok (.invokestatic 189, 3) := by decide +kernel
theorem d_M_haltsOn_17 : decode mt_M_haltsOn.2.1 17 = .ok (.iconst (-1), 1) := by decide +kernel
theorem d_M_haltsOn_18 : decode mt_M_haltsOn.2.1 18 = .ok (.ixor, 1) := by decide +kernel
theorem d_M_haltsOn_19 : decode mt_M_haltsOn.2.1 19 = .ok (.iand, 1) := by decide +kernel
theorem d_M_haltsOn_20 : decode mt_M_haltsOn.2.1 20 = .ok (.ifCond .ne 5, 3) := by decide +kernel
theorem d_M_haltsOn_23 : decode mt_M_haltsOn.2.1 23 = .ok (.iload_n 3, 1) := by decide +kernel
theorem d_M_haltsOn_24 : decode mt_M_haltsOn.2.1 24 = .ok (.ireturn, 1) := by decide +kernel
theorem d_M_haltsOn_25 : decode mt_M_haltsOn.2.1 25 = .ok (.aload_n 0, 1) := by decide +kernel
theorem d_M_haltsOn_26 : decode mt_M_haltsOn.2.1 26 = .ok (.aload_n 1, 1) := by decide +kernel
theorem d_M_haltsOn_27 : decode mt_M_haltsOn.2.1 27 = .ok (.invokevirtual 199, 3) := by decide +kernel
theorem d_M_haltsOn_30 : decode mt_M_haltsOn.2.1 30 = .ok (.iinc 3 1, 3) := by decide +kernel
theorem d_M_haltsOn_33 : decode mt_M_haltsOn.2.1 33 = .ok (.goto (-31), 3) := by decide +kernel
theorem d_M_haltsOn_36 : decode mt_M_haltsOn.2.1 36 = .ok (.bipush (-9), 2) := by decide +kernel
theorem d_M_haltsOn_38 : decode mt_M_haltsOn.2.1 38 = .ok (.ireturn, 1) := by decide +kernel
theorem d_M_soonest_0 : decode mt_M_soonest.2.1 0 = .ok (.aload_n 0, 1) := by decide +kernel
theorem d_M_soonest_1 : decode mt_M_soonest.2.1 1 = .ok (.iconst 0, 1) := by decide +kernel
theorem d_M_soonest_2 : decode mt_M_soonest.2.1 2 = .ok (.putfield 75, 3) := by decide +kernel
theorem d_M_soonest_5 : decode mt_M_soonest.2.1 5 = .ok (.iload_n 1, 1) := by decide +kernel
theorem d_M_soonest_6 : decode mt_M_soonest.2.1 6 = .ok (.i2l, 1) := by decide +kernel
theorem d_M_soonest_7 : decode mt_M_soonest.2.1 7 = .ok (.lconst 0, 1) := by decide +kernel
theorem d_M_soonest_8 : decode mt_M_soonest.2.1 8 = .ok (.aload_n 0, 1) := by decide +kernel
theorem d_M_soonest_9 : decode mt_M_soonest.2.1 9 = .ok (.getfield 138, 3) := by decide +kernel
theorem d_M_soonest_12 : decode mt_M_soonest.2.1 12 = .ok (.iconst 1, 1) := by decide +kernel
theorem d_M_soonest_13 : decode mt_M_soonest.2.1 13 = .ok (.isub, 1) := by decide +kernel
theorem d_M_soonest_14 : decode mt_M_soonest.2.1 14 = .ok (.i2l, 1) := by decide +kernel
theorem d_M_soonest_15 : decode mt_M_soonest.2.1 15 = .ok (.invokestatic 81, 3) := by decide +kernel
theorem d_M_soonest_18 : decode mt_M_soonest.2.1 18 = .ok (.ifCond .ne 5, 3) := by decide +kernel
theorem d_M_soonest_21 : decode mt_M_soonest.2.1 21 = .ok (.iconst (-1), 1) := by decide +kernel
theorem d_M_soonest_22 : decode mt_M_soonest.2.1 22 = .ok (.ireturn, 1) := by decide +kernel
theorem d_M_soonest_23 : decode mt_M_soonest.2.1 23 = .ok (.bipush (-9), 2) := by decide +kernel
theorem d_M_soonest_25 : decode mt_M_soonest.2.1 25 = .ok (.istore_n 2, 1) := by decide +kernel
theorem d_M_soonest_26 : decode mt_M_soonest.2.1 26 = .ok (.iconst 0, 1) := by decide +kernel
theorem d_M_soonest_27 : decode mt_M_soonest.2.1 27 = .ok (.istore_n 3, 1) := by decide +kernel
theorem d_M_soonest_28 : decode mt_M_soonest.2.1 28 = .ok (.iconst 0, 1) := by decide +kernel
theorem d_M_soonest_29 : decode mt_M_soonest.2.1 29 = .ok (.istore 4, 2) := by decide +kernel
theorem d_M_soonest_31 : decode mt_M_soonest.2.1 31 = .ok (.iload 4, 2) := by decide +kernel
theorem d_M_soonest_33 : decode mt_M_soonest.2.1 33 = .ok (.bipush 16, 2) := by decide +kernel
theorem d_M_soonest_35 : decode mt_M_soonest.2.1 35 = .ok (.if_icmp .ge 126, 3) := by decide +kernel
theorem d_M_soonest_38 : decode mt_M_soonest.2.1 38 = .ok (.aload_n 0, 1) := by decide +kernel
theorem d_M_soonest_39 : decode mt_M_soonest.2.1 39 = .ok (.getfield 43, 3) := by decide +kernel
theorem d_M_soonest_42 : decode mt_M_soonest.2.1 42 = .ok (.aload_n 0, 1) := by decide +kernel
theorem d_M_soonest_43 : decode mt_M_soonest.2.1 43 = .ok (.getfield 40, 3) := by decide +kernel
theorem d_M_soonest_46 : decode mt_M_soonest.2.1 46 = .ok (.invokestatic 131, 3) := by decide +kernel
theorem d_M_soonest_49 : decode mt_M_soonest.2.1 49 = .ok (.bipush 40, 2) := by decide +kernel
theorem d_M_soonest_51 : decode mt_M_soonest.2.1 51 = .ok (.bipush 6, 2) := by decide +kernel
theorem d_M_soonest_53 : decode mt_M_soonest.2.1 53 = .ok (.iload_n 1, 1) := by decide +kernel
theorem d_M_soonest_54 : decode mt_M_soonest.2.1 54 = .ok (.imul, 1) := by decide +kernel
theorem d_M_soonest_55 : decode mt_M_soonest.2.1 55 = .ok (.iadd, 1) := by decide +kernel
theorem d_M_soonest_56 : decode mt_M_soonest.2.1 56 = .ok (.istore 5, 2) := by decide +kernel
theorem d_M_soonest_58 : decode mt_M_soonest.2.1 58 = .ok (.iconst 0, 1) := by decide +kernel
theorem d_M_soonest_59 : decode mt_M_soonest.2.1 59 = .ok (.istore 6, 2) := by decide +kernel
theorem d_M_soonest_61 : decode mt_M_soonest.2.1 61 = .ok (.iload 6, 2) := by decide +kernel
theorem d_M_soonest_63 : decode mt_M_soonest.2.1 63 = .ok (.bipush 6, 2) := by decide +kernel
theorem d_M_soonest_65 : decode mt_M_soonest.2.1 65 = .ok (.if_icmp .ge 47, 3) := by decide +kernel
theorem d_M_soonest_68 : decode mt_M_soonest.2.1 68 = .ok (.aload_n 0, 1) := by decide +kernel
theorem d_M_soonest_69 : decode mt_M_soonest.2.1 69 = .ok (.getfield 43, 3) := by decide +kernel
theorem d_M_soonest_72 : decode mt_M_soonest.2.1 72 = .ok (.iload 5, 2) := by decide +kernel
theorem d_M_soonest_74 : decode mt_M_soonest.2.1 74 = .ok (.iload 6, 2) := by decide +kernel
theorem d_M_soonest_76 : decode mt_M_soonest.2.1 76 = .ok (.iadd, 1) := by decide +kernel
theorem d_M_soonest_77 : decode mt_M_soonest.2.1 77 = .ok (.iload 6, 2) := by decide +kernel
theorem d_M_soonest_79 : decode mt_M_soonest.2.1 79 = .ok (.iconst 1, 1) := by decide +kernel
theorem d_M_soonest_80 : decode mt_M_soonest.2.1 80 = .ok (.if_icmp .ne 8, 3) := by decide +kernel
theorem d_M_soonest_83 : decode mt_M_soonest.2.1 83 = .ok (.iload 4, 2) := by decide +kernel
theorem d_M_soonest_85 : decode mt_M_soonest.2.1 85 = .ok (.goto 20, 3) := by decide +kernel
theorem d_M_soonest_88 : decode mt_M_soonest.2.1 88 = .ok (.iload 6, 2) := by decide +kernel
theorem d_M_soonest_90 : decode mt_M_soonest.2.1 90 = .ok (.iconst 3, 1) := by decide +kernel
theorem d_M_soonest_91 : decode mt_M_soonest.2.1 91 = .ok (.if_icmp .eq 9, 3) := by decide +kernel
theorem d_M_soonest_94 : decode mt_M_soonest.2.1 94 = .ok (.iload 6, 2) := by decide +kernel
theorem d_M_soonest_96 : decode mt_M_soonest.2.1 96 = .ok (.iconst 4, 1) := by decide +kernel
theorem d_M_soonest_97 : decode mt_M_soonest.2.1 97 = .ok (.if_icmp .ne 7, 3) := by decide +kernel
theorem d_M_soonest_100 : decode mt_M_soonest.2.1 100 = .ok (.iconst 1, 1) := by decide +kernel
theorem d_M_soonest_101 : decode mt_M_soonest.2.1 101 = .ok (.goto 4, 3) := by decide +kernel
theorem d_M_soonest_104 : decode mt_M_soonest.2.1 104 = .ok (.iconst 0, 1) := by decide +kernel
theorem d_M_soonest_105 : decode mt_M_soonest.2.1 105 = .ok (.iastore, 1) := by decide +kernel
theorem d_M_soonest_106 : decode mt_M_soonest.2.1 106 = .ok (.iinc 6 1, 3) := by decide +kernel
theorem d_M_soonest_109 : decode mt_M_soonest.2.1 109 = .ok (.goto (-48), 3) := by decide +kernel
theorem d_M_soonest_112 : decode mt_M_soonest.2.1 112 = .ok (.aload_n 0, 1) := by decide +kernel
theorem d_M_soonest_113 : decode mt_M_soonest.2.1 113 = .ok (.aload_n 0, 1) := by decide +kernel
theorem d_M_soonest_114 : decode mt_M_soonest.2.1 114 = .ok (.getfield 43, 3) := by decide +kernel
theorem d_M_soonest_117 : decode mt_M_soonest.2.1 117 = .ok (.iconst 1, 1) := by decide +kernel
theorem d_M_soonest_118 : decode mt_M_soonest.2.1 118 = .ok (.aload_n 0, 1) := by decide +kernel
theorem d_M_soonest_119 : decode mt_M_soonest.2.1 119 = .ok (.getfield 22, 3) := by decide +kernel
theorem d_M_soonest_122 : decode mt_M_soonest.2.1 122 = .ok (.iload_n 1, 1) := by decide +kernel
theorem d_M_soonest_123 : decode mt_M_soonest.2.1 123 = .ok (.iaload, 1) := by decide +kernel
theorem d_M_soonest_124 : decode mt_M_soonest.2.1 124 = .ok (.ishl, 1) := by decide +kernel
theorem d_M_soonest_125 : decode mt_M_soonest.2.1 125 = .ok (.invokevirtual 251, 3) := by decide +kernel
theorem d_M_soonest_128 : decode mt_M_soonest.2.1 128 = .ok (.istore 6, 2) := by decide +kernel
theorem d_M_soonest_130 : decode mt_M_soonest.2.1 130 = .ok (.iload 6, 2) := by decide +kernel
theorem d_M_soonest_132 : decode mt_M_soonest.2.1 132 = .ok (.bipush (-9), 2) := by decide +kernel
theorem d_M_soonest_134 : decode mt_M_soonest.2.1 134 = .ok (.if_icmp .eq 21, 3) := by decide +kernel
theorem d_M_soonest_137 : decode mt_M_soonest.2.1 137 = .ok (.iload_n 2, 1) := by decide +kernel
theorem d_M_soonest_138 : decode mt_M_soonest.2.1 138 = .ok (.bipush (-9), 2) := by decide +kernel
theorem d_M_soonest_140 : decode mt_M_soonest.2.1 140 = .ok (.if_icmp .eq 9, 3) := by decide +kernel
theorem d_M_soonest_143 : decode mt_M_soonest.2.1 143 = .ok (.iload 6, 2) := by decide +kernel
theorem d_M_soonest_145 : decode mt_M_soonest.2.1 145 = .ok (.iload_n 3, 1) := by decide +kernel
theorem d_M_soonest_146 : decode mt_M_soonest.2.1 146 = .ok (.if_icmp .ge 9, 3) := by decide +kernel
theorem d_M_soonest_149 : decode mt_M_soonest.2.1 149 = .ok (.iload 4, 2) := by decide +kernel
theorem d_M_soonest_151 : decode mt_M_soonest.2.1 151 = .ok (.istore_n 2, 1) := by decide +kernel
theorem d_M_soonest_152 : decode mt_M_soonest.2.1 152 = .ok (.iload 6, 2) := by decide +kernel
theorem d_M_soonest_154 : decode mt_M_soonest.2.1 154 = .ok (.istore_n 3, 1) := by decide +kernel
theorem d_M_soonest_155 : decode mt_M_soonest.2.1 155 = .ok (.iinc 4 1, 3) := by decide +kernel
theorem d_M_soonest_158 : decode mt_M_soonest.2.1 158 = .ok (.goto (-127), 3) := by decide +kernel
theorem d_M_soonest_161 : decode mt_M_soonest.2.1 161 = .ok (.iload_n 2, 1) := by decide +kernel
theorem d_M_soonest_162 : decode mt_M_soonest.2.1 162 = .ok (.ireturn, 1) := by decide +kernel
theorem d_M_all_0 : decode mt_M_all.2.1 0 = .ok (.aload_n 0, 1) := by decide +kernel
theorem d_M_all_1 : decode mt_M_all.2.1 1 = .ok (.iconst 0, 1) := by decide +kernel
theorem d_M_all_2 : decode mt_M_all.2.1 2 = .ok (.putfield 75, 3) := by decide +kernel
theorem d_M_all_5 : decode mt_M_all.2.1 5 = .ok (.iload_n 1, 1) := by decide +kernel
theorem d_M_all_6 : decode mt_M_all.2.1 6 = .ok (.i2l, 1) := by decide +kernel
theorem d_M_all_7 : decode mt_M_all.2.1 7 = .ok (.lconst 0, 1) := by decide +kernel
theorem d_M_all_8 : decode mt_M_all.2.1 8 = .ok (.iconst 1, 1) := by decide +kernel
theorem d_M_all_9 : decode mt_M_all.2.1 9 = .ok (.aload_n 0, 1) := by decide +kernel
theorem d_M_all_10 : decode mt_M_all.2.1 10 = .ok (.getfield 78, 3) := by decide +kernel
theorem d_M_all_13 : decode mt_M_all.2.1 13 = .ok (.ishl, 1) := by decide +kernel
theorem d_M_all_14 : decode mt_M_all.2.1 14 = .ok (.iconst 1, 1) := by decide +kernel
theorem d_M_all_15 : decode mt_M_all.2.1 15 = .ok (.isub, 1) := by decide +kernel
theorem d_M_all_16 : decode mt_M_all.2.1 16 = .ok (.i2l, 1) := by decide +kernel
theorem d_M_all_17 : decode mt_M_all.2.1 17 = .ok (.invokestatic 81, 3) := by decide +kernel
theorem d_M_all_20 : decode mt_M_all.2.1 20 = .ok (.ifCond .eq 11, 3) := by decide +kernel
theorem d_M_all_23 : decode mt_M_all.2.1 23 = .ok (.aload_n 0, 1) := by decide +kernel
theorem d_M_all_24 : decode mt_M_all.2.1 24 = .ok (.iload_n 1, 1) := by decide +kernel
theorem d_M_all_25 : decode mt_M_all.2.1 25 = .ok (.invokevirtual 254, 3) := by decide +kernel
theorem d_M_all_28 : decode mt_M_all.2.1 28 = .ok (.goto 5, 3) := by decide +kernel
theorem d_M_all_31 : decode mt_M_all.2.1 31 = .ok (.bipush (-2), 2) := by decide +kernel
theorem d_M_all_33 : decode mt_M_all.2.1 33 = .ok (.ireturn, 1) := by decide +kernel
theorem d_M_allBy_0 : decode mt_M_allBy.2.1 0 = .ok (.aload_n 0, 1) := by decide +kernel
theorem d_M_allBy_1 : decode mt_M_allBy.2.1 1 = .ok (.getfield 43, 3) := by decide +kernel
theorem d_M_allBy_4 : decode mt_M_allBy.2.1 4 = .ok (.aload_n 0, 1) := by decide +kernel
theorem d_M_allBy_5 : decode mt_M_allBy.2.1 5 = .ok (.getfield 40, 3) := by decide +kernel
theorem d_M_allBy_8 : decode mt_M_allBy.2.1 8 = .ok (.invokestatic 131, 3) := by decide +kernel
theorem d_M_allBy_11 : decode mt_M_allBy.2.1 11 = .ok (.iconst 0, 1) := by decide +kernel
theorem d_M_allBy_12 : decode mt_M_allBy.2.1 12 = .ok (.istore_n 2, 1) := by decide +kernel
theorem d_M_allBy_13 : decode mt_M_allBy.2.1 13 = .ok (.iload_n 2, 1) := by decide +kernel
theorem d_M_allBy_14 : decode mt_M_allBy.2.1 14 = .ok (.aload_n 0, 1) := by decide +kernel
theorem d_M_allBy_15 : decode mt_M_allBy.2.1 15 = .ok (.getfield 78, 3) := by decide +kernel
theorem d_M_allBy_18 : decode mt_M_allBy.2.1 18 = .ok (.if_icmp .ge 28, 3) := by decide +kernel
theorem d_M_allBy_21 : decode mt_M_allBy.2.1 21 = .ok (.iload_n 1, 1) := by decide +kernel
theorem d_M_allBy_22 : decode mt_M_allBy.2.1 22 = .ok (.iload_n 2, 1) := by decide +kernel
theorem d_M_allBy_23 : decode mt_M_allBy.2.1 23 = .ok (.invokestatic 175, 3) := by decide +kernel
theorem d_M_allBy_26 : decode mt_M_allBy.2.1 26 = .ok (.ifCond .eq 14, 3) := by decide +kernel
theorem d_M_allBy_29 : decode mt_M_allBy.2.1 29 = .ok (.aload_n 0, 1) := by decide +kernel
theorem d_M_allBy_30 : decode mt_M_allBy.2.1 30 = .ok (.getfield 43, 3) := by decide +kernel
theorem d_M_allBy_33 : decode mt_M_allBy.2.1 33 = .ok (.iconst 0, 1) := by decide +kernel
theorem d_M_allBy_34 : decode mt_M_allBy.2.1 34 = .ok (.iload_n 2, 1) := by decide +kernel
theorem d_M_allBy_35 : decode mt_M_allBy.2.1 35 = .ok (.iconst 0, 1) := by decide +kernel
theorem d_M_allBy_36 : decode mt_M_allBy.2.1 36 = .ok (.iconst 0, 1) := by decide +kernel
theorem d_M_allBy_37 : decode mt_M_allBy.2.1 37 = .ok (.invokestatic 240, 3) := by decide +kernel
theorem d_M_allBy_40 : decode mt_M_allBy.2.1 40 = .ok (.iinc 2 1, 3) := by decide +kernel
theorem d_M_allBy_43 : decode mt_M_allBy.2.1 43 = .ok (.goto (-30), 3) := by decide +kernel
theorem d_M_allBy_46 : decode mt_M_allBy.2.1 46 = .ok (.aload_n 0, 1) := by decide +kernel
theorem d_M_allBy_47 : decode mt_M_allBy.2.1 47 = .ok (.aload_n 0, 1) := by decide +kernel
theorem d_M_allBy_48 : decode mt_M_allBy.2.1 48 = .ok (.getfield 43, 3) := by decide +kernel
theorem d_M_allBy_51 : decode mt_M_allBy.2.1 51 = .ok (.iconst 1, 1) := by decide +kernel
theorem d_M_allBy_52 : decode mt_M_allBy.2.1 52 = .ok (.aload_n 0, 1) := by decide +kernel
theorem d_M_allBy_53 : decode mt_M_allBy.2.1 53 = .ok (.getfield 78, 3) := by decide +kernel
theorem d_M_allBy_56 : decode mt_M_allBy.2.1 56 = .ok (.ishl, 1) := by decide +kernel
theorem d_M_allBy_57 : decode mt_M_allBy.2.1 57 = .ok (.iconst 1, 1) := by decide +kernel
theorem d_M_allBy_58 : decode mt_M_allBy.2.1 58 = .ok (.isub, 1) := by decide +kernel
theorem d_M_allBy_59 : decode mt_M_allBy.2.1 59 = .ok (.invokevirtual 251, 3) := by decide +kernel
theorem d_M_allBy_62 : decode mt_M_allBy.2.1 62 = .ok (.ireturn, 1) := by decide +kernel
theorem d_M_crew_0 : decode mt_M_crew.2.1 0 = .ok (.aload_n 0, 1) := by decide +kernel
theorem d_M_crew_1 : decode mt_M_crew.2.1 1 = .ok (.iconst 0, 1) := by decide +kernel
theorem d_M_crew_2 : decode mt_M_crew.2.1 2 = .ok (.putfield 75, 3) := by decide +kernel
theorem d_M_crew_5 : decode mt_M_crew.2.1 5 = .ok (.bipush (-9), 2) := by decide +kernel
theorem d_M_crew_7 : decode mt_M_crew.2.1 7 = .ok (.istore_n 1, 1) := by decide +kernel
theorem d_M_crew_8 : decode mt_M_crew.2.1 8 = .ok (.iconst 0, 1) := by decide +kernel
theorem d_M_crew_9 : decode mt_M_crew.2.1 9 = .ok (.istore_n 2, 1) := by decide +kernel
theorem d_M_crew_10 : decode mt_M_crew.2.1 10 = .ok (.iconst 0, 1) := by decide +kernel
theorem d_M_crew_11 : decode mt_M_crew.2.1 11 = .ok (.istore_n 3, 1) := by decide +kernel
theorem d_M_crew_12 : decode mt_M_crew.2.1 12 = .ok (.iload_n 3, 1) := by decide +kernel
theorem d_M_crew_13 : decode mt_M_crew.2.1 13 = .ok (.iconst 1, 1) := by decide +kernel
theorem d_M_crew_14 : decode mt_M_crew.2.1 14 = .ok (.aload_n 0, 1) := by decide +kernel
theorem d_M_crew_15 : decode mt_M_crew.2.1 15 = .ok (.getfield 78, 3) := by decide +kernel
theorem d_M_crew_18 : decode mt_M_crew.2.1 18 = .ok (.ishl, 1) := by decide +kernel
theorem d_M_crew_19 : decode mt_M_crew.2.1 19 = .ok (.if_icmp .ge 69, 3) := by decide +kernel
theorem d_M_crew_22 : decode mt_M_crew.2.1 22 = .ok (.aload_n 0, 1) := by decide +kernel
theorem d_M_crew_23 : decode mt_M_crew.2.1 23 = .ok (.iload_n 3, 1) := by decide +kernel
theorem d_M_crew_24 : decode mt_M_crew.2.1 24 = .ok (.invokevirtual 254, 3) := by decide +kernel
theorem d_M_crew_27 : decode mt_M_crew.2.1 27 = .ok (.istore 4, 2) := by decide +kernel
theorem d_M_crew_29 : decode mt_M_crew.2.1 29 = .ok (.iload_n 1, 1) := by decide +kernel
theorem d_M_crew_30 : decode mt_M_crew.2.1 30 = .ok (.bipush (-9), 2) := by decide +kernel
theorem d_M_crew_32 : decode mt_M_crew.2.1 32 = .ok (.if_icmp .eq 26, 3) := by decide +kernel
theorem d_M_crew_35 : decode mt_M_crew.2.1 35 = .ok (.iload 4, 2) := by decide +kernel
theorem d_M_crew_37 : decode mt_M_crew.2.1 37 = .ok (.iload_n 2, 1) := by decide +kernel
theorem d_M_crew_38 : decode mt_M_crew.2.1 38 = .ok (.if_icmp .lt 20, 3) := by decide +kernel
theorem d_M_crew_41 : decode mt_M_crew.2.1 41 = .ok (.iload 4, 2) := by decide +kernel
theorem d_M_crew_43 : decode mt_M_crew.2.1 43 = .ok (.iload_n 2, 1) := by decide +kernel
theorem d_M_crew_44 : decode mt_M_crew.2.1 44 = .ok (.if_icmp .ne 18, 3) := by decide +kernel
theorem d_M_crew_47 : decode mt_M_crew.2.1 47 = .ok (.iload_n 3, 1) := by decide +kernel
theorem d_M_crew_48 : decode mt_M_crew.2.1 48 = .ok (.invokestatic 229, 3) := by decide +kernel
theorem d_M_crew_51 : decode mt_M_crew.2.1 51 = .ok (.iload_n 1, 1) := by decide +kernel
theorem d_M_crew_52 : decode mt_M_crew.2.1 52 = .ok (.invokestatic 229, 3) := by decide +kernel
theorem d_M_crew_55 : decode mt_M_crew.2.1 55 = .ok (.if_icmp .ge 7, 3) := by decide +kernel
theorem d_M_crew_58 : decode mt_M_crew.2.1 58 = .ok (.iconst 1, 1) := by decide +kernel
theorem d_M_crew_59 : decode mt_M_crew.2.1 59 = .ok (.goto 4, 3) := by decide +kernel
theorem d_M_crew_62 : decode mt_M_crew.2.1 62 = .ok (.iconst 0, 1) := by decide +kernel
theorem d_M_crew_63 : decode mt_M_crew.2.1 63 = .ok (.istore 5, 2) := by decide +kernel
theorem d_M_crew_65 : decode mt_M_crew.2.1 65 = .ok (.iload 4, 2) := by decide +kernel
theorem d_M_crew_67 : decode mt_M_crew.2.1 67 = .ok (.bipush (-9), 2) := by decide +kernel
theorem d_M_crew_69 : decode mt_M_crew.2.1 69 = .ok (.if_icmp .eq 13, 3) := by decide +kernel
theorem d_M_crew_72 : decode mt_M_crew.2.1 72 = .ok (.iload 5, 2) := by decide +kernel
theorem d_M_crew_74 : decode mt_M_crew.2.1 74 = .ok (.ifCond .eq 8, 3) := by decide +kernel
theorem d_M_crew_77 : decode mt_M_crew.2.1 77 = .ok (.iload_n 3, 1) := by decide +kernel
theorem d_M_crew_78 : decode mt_M_crew.2.1 78 = .ok (.istore_n 1, 1) := by decide +kernel
theorem d_M_crew_79 : decode mt_M_crew.2.1 79 = .ok (.iload 4, 2) := by decide +kernel
theorem d_M_crew_81 : decode mt_M_crew.2.1 81 = .ok (.istore_n 2, 1) := by decide +kernel
theorem d_M_crew_82 : decode mt_M_crew.2.1 82 = .ok (.iinc 3 1, 3) := by decide +kernel
theorem d_M_crew_85 : decode mt_M_crew.2.1 85 = .ok (.goto (-73), 3) := by decide +kernel
theorem d_M_crew_88 : decode mt_M_crew.2.1 88 = .ok (.iload_n 1, 1) := by decide +kernel
theorem d_M_crew_89 : decode mt_M_crew.2.1 89 = .ok (.ireturn, 1) := by decide +kernel
theorem d_M_judge_0 : decode mt_M_judge.2.1 0 = .ok (.aload_n 0, 1) := by decide +kernel
theorem d_M_judge_1 : decode mt_M_judge.2.1 1 = .ok (.iconst 0, 1) := by decide +kernel
theorem d_M_judge_2 : decode mt_M_judge.2.1 2 = .ok (.putfield 75, 3) := by decide +kernel
theorem d_M_judge_5 : decode mt_M_judge.2.1 5 = .ok (.iload_n 1, 1) := by decide +kernel
theorem d_M_judge_6 : decode mt_M_judge.2.1 6 = .ok (.i2l, 1) := by decide +kernel
theorem d_M_judge_7 : decode mt_M_judge.2.1 7 = .ok (.lconst 1, 1) := by decide +kernel
theorem d_M_judge_8 : decode mt_M_judge.2.1 8 = .ok (.ldc2_w 219, 3) := by decide +kernel
theorem d_M_judge_11 : decode mt_M_judge.2.1 11 = .ok (.invokestatic 81, 3) := by decide +kernel
theorem d_M_judge_14 : decode mt_M_judge.2.1 14 = .ok (.ifCond .eq 20, 3) := by decide +kernel
theorem d_M_judge_17 : decode mt_M_judge.2.1 17 = .ok (.lload_n 2, 1) := by decide +kernel
theorem d_M_judge_18 : decode mt_M_judge.2.1 18 = .ok (.lconst 0, 1) := by decide +kernel
theorem d_M_judge_19 : decode mt_M_judge.2.1 19 = .ok (.ldc2_w 258, 3) := by decide +kernel
theorem d_M_judge_22 : decode mt_M_judge.2.1 22 = .ok (.iload_n 1, 1) := by decide +kernel
theorem d_M_judge_23 : decode mt_M_judge.2.1 23 = .ok (.invokestatic 260, 3) := by decide +kernel
theorem d_M_judge_26 : decode mt_M_judge.2.1 26 = .ok (.lconst 1, 1) := by decide +kernel
theorem d_M_judge_27 : decode mt_M_judge.2.1 27 = .ok (.lsub, 1) := by decide +kernel
theorem d_M_judge_28 : decode mt_M_judge.2.1 28 = .ok (.invokestatic 81, 3) := by decide +kernel
theorem d_M_judge_31 : decode mt_M_judge.2.1 31 = .ok (.ifCond .ne 6, 3) := by decide +kernel
theorem d_M_judge_34 : decode mt_M_judge.2.1 34 = .ok (.bipush (-2), 2) := by decide +kernel
theorem d_M_judge_36 : decode mt_M_judge.2.1 36 = .ok (.ireturn, 1) := by decide +kernel
theorem d_M_judge_37 : decode mt_M_judge.2.1 37 = .ok (.aload_n 0, 1) := by decide +kernel
theorem d_M_judge_38 : decode mt_M_judge.2.1 38 = .ok (.getfield 43, 3) := by decide +kernel
theorem d_M_judge_41 : decode mt_M_judge.2.1 41 = .ok (.aload_n 0, 1) := by decide +kernel
theorem d_M_judge_42 : decode mt_M_judge.2.1 42 = .ok (.getfield 40, 3) := by decide +kernel
theorem d_M_judge_45 : decode mt_M_judge.2.1 45 = .ok (.invokestatic 131, 3) := by decide +kernel
theorem d_M_judge_48 : decode mt_M_judge.2.1 48 = .ok (.iconst 0, 1) := by decide +kernel
theorem d_M_judge_49 : decode mt_M_judge.2.1 49 = .ok (.istore 4, 2) := by decide +kernel
theorem d_M_judge_51 : decode mt_M_judge.2.1 51 = .ok (.iload 4, 2) := by decide +kernel
theorem d_M_judge_53 : decode mt_M_judge.2.1 53 = .ok (.iload_n 1, 1) := by decide +kernel
theorem d_M_judge_54 : decode mt_M_judge.2.1 54 = .ok (.if_icmp .ge 38, 3) := by decide +kernel
theorem d_M_judge_57 : decode mt_M_judge.2.1 57 = .ok (.aload_n 0, 1) := by decide +kernel
theorem d_M_judge_58 : decode mt_M_judge.2.1 58 = .ok (.lload_n 2, 1) := by decide +kernel
theorem d_M_judge_59 : decode mt_M_judge.2.1 59 = .ok (.ldc2_w 258, 3) := by decide +kernel
theorem d_M_judge_62 : decode mt_M_judge.2.1 62 = .ok (.iload_n 1, 1) := by decide +kernel
theorem d_M_judge_63 : decode mt_M_judge.2.1 63 = .ok (.iconst 1, 1) := by decide +kernel
theorem d_M_judge_64 : decode mt_M_judge.2.1 64 = .ok (.isub, 1) := by decide +kernel
theorem d_M_judge_65 : decode mt_M_judge.2.1 65 = .ok (.iload 4, 2) := by decide +kernel
theorem d_M_judge_67 : decode mt_M_judge.2.1 67 = .ok (.isub, 1) := by decide +kernel
theorem d_M_judge_68 : decode mt_M_judge.2.1 68 = .ok (.invokestatic 260, 3) := by decide +kernel
theorem d_M_judge_71 : decode mt_M_judge.2.1 71 = .ok (.ldiv, 1) := by decide +kernel
theorem d_M_judge_72 : decode mt_M_judge.2.1 72 = .ok (.ldc2_w 258, 3) := by decide +kernel
theorem d_M_judge_75 : decode mt_M_judge.2.1 75 = .ok (.lrem, 1) := by decide +kernel
theorem d_M_judge_76 : decode mt_M_judge.2.1 76 = .ok (.l2i, 1) := by decide +kernel
theorem d_M_judge_77 : decode mt_M_judge.2.1 77 = .ok (.invokevirtual 264, 3) := by decide +kernel
theorem d_M_judge_80 : decode mt_M_judge.2.1 80 = .ok (.ifCond .ne 6, 3) := by decide +kernel
theorem d_M_judge_83 : decode mt_M_judge.2.1 83 = .ok (.iload 4, 2) := by decide +kernel
theorem d_M_judge_85 : decode mt_M_judge.2.1 85 = .ok (.ireturn, 1) := by decide +kernel
theorem d_M_judge_86 : decode mt_M_judge.2.1 86 = .ok (.iinc 4 1, 3) := by decide +kernel
theorem d_M_judge_89 : decode mt_M_judge.2.1 89 = .ok (.goto (-38), 3) := by decide +kernel
theorem d_M_judge_92 : decode mt_M_judge.2.1 92 = .ok (.bipush (-9), 2) := by decide +kernel
theorem d_M_judge_94 : decode mt_M_judge.2.1 94 = .ok (.ireturn, 1) := by decide +kernel
theorem d_M_longPower_0 : decode mt_M_longPower.2.1 0 = .ok (.lconst 1, 1) := by decide +kernel
theorem d_M_longPower_1 : decode mt_M_longPower.2.1 1 = .ok (.lstore_n 3, 1) := by decide +kernel
theorem d_M_longPower_2 : decode mt_M_longPower.2.1 2 = .ok (.iconst 0, 1) := by decide +kernel
theorem d_M_longPower_3 : decode mt_M_longPower.2.1 3 = .ok (.istore 5, 2) := by decide +kernel
theorem d_M_longPower_5 : decode mt_M_longPower.2.1 5 = .ok (.iload 5, 2) := by decide +kernel
theorem d_M_longPower_7 : decode mt_M_longPower.2.1 7 = .ok (.iload_n 2, 1) := by decide +kernel
theorem d_M_longPower_8 : decode mt_M_longPower.2.1 8 = .ok (.if_icmp .ge 13, 3) := by decide +kernel
theorem d_M_longPower_11 : decode mt_M_longPower.2.1 11 = .ok (.lload_n 3, 1) := by decide +kernel
theorem d_M_longPower_12 : decode mt_M_longPower.2.1 12 = .ok (.lload_n 0, 1) := by decide +kernel
theorem d_M_longPower_13 : decode mt_M_longPower.2.1 13 = .ok (.lmul, 1) := by decide +kernel
theorem d_M_longPower_14 : decode mt_M_longPower.2.1 14 = .ok (.lstore_n 3, 1) := by decide +kernel
theorem d_M_longPower_15 : decode mt_M_longPower.2.1 15 = .ok (.iinc 5 1, 3) := by decide +kernel
theorem d_M_longPower_18 : decode mt_M_longPower.2.1 18 = .ok (.goto (-13), 3) := by decide +kernel
theorem d_M_longPower_21 : decode mt_M_longPower.2.1 21 = .ok (.lload_n 3, 1) := by decide +kernel
theorem d_M_longPower_22 : decode mt_M_longPower.2.1 22 = .ok (.lreturn, 1) := by decide +kernel
theorem d_M_does_0 : decode mt_M_does.2.1 0 = .ok (.iload_n 1, 1) := by decide +kernel
theorem d_M_does_1 : decode mt_M_does.2.1 1 = .ok (.sipush 10000, 3) := by decide +kernel
theorem d_M_does_4 : decode mt_M_does.2.1 4 = .ok (.idiv, 1) := by decide +kernel
theorem d_M_does_5 : decode mt_M_does.2.1 5 = .ok (.bipush 10, 2) := by decide +kernel
theorem d_M_does_7 : decode mt_M_does.2.1 7 = .ok (.irem, 1) := by decide +kernel
theorem d_M_does_8 : decode mt_M_does.2.1 8 = .ok (.istore_n 2, 1) := by decide +kernel
theorem d_M_does_9 : decode mt_M_does.2.1 9 = .ok (.iload_n 1, 1) := by decide +kernel
theorem d_M_does_10 : decode mt_M_does.2.1 10 = .ok (.sipush 1000, 3) := by decide +kernel
theorem d_M_does_13 : decode mt_M_does.2.1 13 = .ok (.idiv, 1) := by decide +kernel
theorem d_M_does_14 : decode mt_M_does.2.1 14 = .ok (.bipush 10, 2) := by decide +kernel
theorem d_M_does_16 : decode mt_M_does.2.1 16 = .ok (.irem, 1) := by decide +kernel
theorem d_M_does_17 : decode mt_M_does.2.1 17 = .ok (.istore_n 3, 1) := by decide +kernel
theorem d_M_does_18 : decode mt_M_does.2.1 18 = .ok (.iload_n 1, 1) := by decide +kernel
theorem d_M_does_19 : decode mt_M_does.2.1 19 = .ok (.sipush 1000, 3) := by decide +kernel
theorem d_M_does_22 : decode mt_M_does.2.1 22 = .ok (.irem, 1) := by decide +kernel
theorem d_M_does_23 : decode mt_M_does.2.1 23 = .ok (.istore 4, 2) := by decide +kernel
theorem d_M_does_25 : decode mt_M_does.2.1 25 = .ok (.iload_n 1, 1) := by decide +kernel
theorem d_M_does_26 : decode mt_M_does.2.1 26 = .ok (.ldc_w 257, 3) := by decide +kernel
theorem d_M_does_29 : decode mt_M_does.2.1 29 = .ok (.idiv, 1) := by decide +kernel
theorem d_M_does_30 : decode mt_M_does.2.1 30 = .ok (.tableswitch 295 1 7 #[42, 74, 119, 158, 195, 225, 251], 42) := by decide +kernel
theorem d_M_does_72 : decode mt_M_does.2.1 72 = .ok (.bipush 10, 2) := by decide +kernel
theorem d_M_does_74 : decode mt_M_does.2.1 74 = .ok (.iload_n 2, 1) := by decide +kernel
theorem d_M_does_75 : decode mt_M_does.2.1 75 = .ok (.imul, 1) := by decide +kernel
theorem d_M_does_76 : decode mt_M_does.2.1 76 = .ok (.iload_n 3, 1) := by decide +kernel
theorem d_M_does_77 : decode mt_M_does.2.1 77 = .ok (.iadd, 1) := by decide +kernel
theorem d_M_does_78 : decode mt_M_does.2.1 78 = .ok (.ifCond .eq 8, 3) := by decide +kernel
theorem d_M_does_81 : decode mt_M_does.2.1 81 = .ok (.iload 4, 2) := by decide +kernel
theorem d_M_does_83 : decode mt_M_does.2.1 83 = .ok (.ifCond .eq 5, 3) := by decide +kernel
theorem d_M_does_86 : decode mt_M_does.2.1 86 = .ok (.iconst 0, 1) := by decide +kernel
theorem d_M_does_87 : decode mt_M_does.2.1 87 = .ok (.ireturn, 1) := by decide +kernel
theorem d_M_does_88 : decode mt_M_does.2.1 88 = .ok (.aload_n 0, 1) := by decide +kernel
theorem d_M_does_89 : decode mt_M_does.2.1 89 = .ok (.aload_n 0, 1) := by decide +kernel
theorem d_M_does_90 : decode mt_M_does.2.1 90 = .ok (.getfield 43, 3) := by decide +kernel
theorem d_M_does_93 : decode mt_M_does.2.1 93 = .ok (.bipush 10, 2) := by decide +kernel
theorem d_M_does_95 : decode mt_M_does.2.1 95 = .ok (.iload_n 2, 1) := by decide +kernel
theorem d_M_does_96 : decode mt_M_does.2.1 96 = .ok (.imul, 1) := by decide +kernel
theorem d_M_does_97 : decode mt_M_does.2.1 97 = .ok (.iload_n 3, 1) := by decide +kernel
theorem d_M_does_98 : decode mt_M_does.2.1 98 = .ok (.iadd, 1) := by decide +kernel
theorem d_M_does_99 : decode mt_M_does.2.1 99 = .ok (.invokevirtual 226, 3) := by decide +kernel
theorem d_M_does_102 : decode mt_M_does.2.1 102 = .ok (.iconst 1, 1) := by decide +kernel
theorem d_M_does_103 : decode mt_M_does.2.1 103 = .ok (.ireturn, 1) := by decide +kernel
theorem d_M_does_104 : decode mt_M_does.2.1 104 = .ok (.iload_n 2, 1) := by decide +kernel
theorem d_M_does_105 : decode mt_M_does.2.1 105 = .ok (.iconst 2, 1) := by decide +kernel
theorem d_M_does_106 : decode mt_M_does.2.1 106 = .ok (.if_icmp .gt 28, 3) := by decide +kernel
theorem d_M_does_109 : decode mt_M_does.2.1 109 = .ok (.iload_n 3, 1) := by decide +kernel
theorem d_M_does_110 : decode mt_M_does.2.1 110 = .ok (.aload_n 0, 1) := by decide +kernel
theorem d_M_does_111 : decode mt_M_does.2.1 111 = .ok (.getfield 78, 3) := by decide +kernel
theorem d_M_does_114 : decode mt_M_does.2.1 114 = .ok (.if_icmp .ge 20, 3) := by decide +kernel
theorem d_M_does_117 : decode mt_M_does.2.1 117 = .ok (.iload 4, 2) := by decide +kernel
theorem d_M_does_119 : decode mt_M_does.2.1 119 = .ok (.ifCond .ne 15, 3) := by decide +kernel
theorem d_M_does_122 : decode mt_M_does.2.1 122 = .ok (.aload_n 0, 1) := by decide +kernel
theorem d_M_does_123 : decode mt_M_does.2.1 123 = .ok (.getfield 43, 3) := by decide +kernel
theorem d_M_does_126 : decode mt_M_does.2.1 126 = .ok (.bipush 80, 2) := by decide +kernel
theorem d_M_does_128 : decode mt_M_does.2.1 128 = .ok (.iaload, 1) := by decide +kernel
theorem d_M_does_129 : decode mt_M_does.2.1 129 = .ok (.bipush 8, 2) := by decide +kernel
theorem d_M_does_131 : decode mt_M_does.2.1 131 = .ok (.if_icmp .lt 5, 3) := by decide +kernel
theorem d_M_does_134 : decode mt_M_does.2.1 134 = .ok (.iconst 0, 1) := by decide +kernel
theorem d_M_does_135 : decode mt_M_does.2.1 135 = .ok (.ireturn, 1) := by decide +kernel
theorem d_M_does_136 : decode mt_M_does.2.1 136 = .ok (.aload_n 0, 1) := by decide +kernel
theorem d_M_does_137 : decode mt_M_does.2.1 137 = .ok (.getfield 43, 3) := by decide +kernel
theorem d_M_does_140 : decode mt_M_does.2.1 140 = .ok (.iload_n 2, 1) := by decide +kernel
theorem d_M_does_141 : decode mt_M_does.2.1 141 = .ok (.iload_n 3, 1) := by decide +kernel
theorem d_M_does_142 : decode mt_M_does.2.1 142 = .ok (.iconst 0, 1) := by decide +kernel
theorem d_M_does_143 : decode mt_M_does.2.1 143 = .ok (.iconst 0, 1) := by decide +kernel
theorem d_M_does_144 : decode mt_M_does.2.1 144 = .ok (.invokestatic 240, 3) := by decide +kernel
theorem d_M_does_147 : decode mt_M_does.2.1 147 = .ok (.iconst 1, 1) := by decide +kernel
theorem d_M_does_148 : decode mt_M_does.2.1 148 = .ok (.ireturn, 1) := by decide +kernel
theorem d_M_does_149 : decode mt_M_does.2.1 149 = .ok (.iload_n 2, 1) := by decide +kernel
theorem d_M_does_150 : decode mt_M_does.2.1 150 = .ok (.aload_n 0, 1) := by decide +kernel
theorem d_M_does_151 : decode mt_M_does.2.1 151 = .ok (.getfield 78, 3) := by decide +kernel
theorem d_M_does_154 : decode mt_M_does.2.1 154 = .ok (.if_icmp .ge 32, 3) := by decide +kernel
theorem d_M_does_157 : decode mt_M_does.2.1 157 = .ok (.iload_n 3, 1) := by decide +kernel
theorem d_M_does_158 : decode mt_M_does.2.1 158 = .ok (.iconst 3, 1) := by decide +kernel
theorem d_M_does_159 : decode mt_M_does.2.1 159 = .ok (.if_icmp .ge 27, 3) := by decide +kernel
theorem d_M_does_162 : decode mt_M_does.2.1 162 = .ok (.iload 4, 2) := by decide +kernel
theorem d_M_does_164 : decode mt_M_does.2.1 164 = .ok (.ifCond .ne 22, 3) := by decide +kernel
theorem d_M_does_167 : decode mt_M_does.2.1 167 = .ok (.aload_n 0, 1) := by decide +kernel
theorem d_M_does_168 : decode mt_M_does.2.1 168 = .ok (.getfield 43, 3) := by decide +kernel
theorem d_M_does_171 : decode mt_M_does.2.1 171 = .ok (.bipush 8, 2) := by decide +kernel
theorem d_M_does_173 : decode mt_M_does.2.1 173 = .ok (.iload_n 2, 1) := by decide +kernel
theorem d_M_does_174 : decode mt_M_does.2.1 174 = .ok (.imul, 1) := by decide +kernel
theorem d_M_does_175 : decode mt_M_does.2.1 175 = .ok (.iconst 1, 1) := by decide +kernel
theorem d_M_does_176 : decode mt_M_does.2.1 176 = .ok (.iadd, 1) := by decide +kernel
theorem d_M_does_177 : decode mt_M_does.2.1 177 = .ok (.iaload, 1) := by decide +kernel
theorem d_M_does_178 : decode mt_M_does.2.1 178 = .ok (.iload_n 3, 1) := by decide +kernel
theorem d_M_does_179 : decode mt_M_does.2.1 179 = .ok (.if_icmp .ne 7, 3) := by decide +kernel
theorem d_M_does_182 : decode mt_M_does.2.1 182 = .ok (.iconst 1, 1) := by decide +kernel
theorem d_M_does_183 : decode mt_M_does.2.1 183 = .ok (.goto 4, 3) := by decide +kernel
theorem d_M_does_186 : decode mt_M_does.2.1 186 = .ok (.iconst 0, 1) := by decide +kernel
theorem d_M_does_187 : decode mt_M_does.2.1 187 = .ok (.ireturn, 1) := by decide +kernel
theorem d_M_does_188 : decode mt_M_does.2.1 188 = .ok (.iload_n 2, 1) := by decide +kernel
theorem d_M_does_189 : decode mt_M_does.2.1 189 = .ok (.aload_n 0, 1) := by decide +kernel
theorem d_M_does_190 : decode mt_M_does.2.1 190 = .ok (.getfield 78, 3) := by decide +kernel
theorem d_M_does_193 : decode mt_M_does.2.1 193 = .ok (.if_icmp .ge 30, 3) := by decide +kernel
theorem d_M_does_196 : decode mt_M_does.2.1 196 = .ok (.iload_n 3, 1) := by decide +kernel
theorem d_M_does_197 : decode mt_M_does.2.1 197 = .ok (.iconst 4, 1) := by decide +kernel
theorem d_M_does_198 : decode mt_M_does.2.1 198 = .ok (.if_icmp .ge 25, 3) := by decide +kernel
theorem d_M_does_201 : decode mt_M_does.2.1 201 = .ok (.aload_n 0, 1) := by decide +kernel
theorem d_M_does_202 : decode mt_M_does.2.1 202 = .ok (.getfield 43, 3) := by decide +kernel
theorem d_M_does_205 : decode mt_M_does.2.1 205 = .ok (.bipush 8, 2) := by decide +kernel
theorem d_M_does_207 : decode mt_M_does.2.1 207 = .ok (.iload_n 2, 1) := by decide +kernel
theorem d_M_does_208 : decode mt_M_does.2.1 208 = .ok (.imul, 1) := by decide +kernel
theorem d_M_does_209 : decode mt_M_does.2.1 209 = .ok (.iconst 4, 1) := by decide +kernel
theorem d_M_does_210 : decode mt_M_does.2.1 210 = .ok (.iadd, 1) := by decide +kernel
theorem d_M_does_211 : decode mt_M_does.2.1 211 = .ok (.iload_n 3, 1) := by decide +kernel
theorem d_M_does_212 : decode mt_M_does.2.1 212 = .ok (.iadd, 1) := by decide +kernel
theorem d_M_does_213 : decode mt_M_does.2.1 213 = .ok (.iaload, 1) := by decide +kernel
theorem d_M_does_214 : decode mt_M_does.2.1 214 = .ok (.iload 4, 2) := by decide +kernel
theorem d_M_does_216 : decode mt_M_does.2.1 216 = .ok (.if_icmp .ne 7, 3) := by decide +kernel
theorem d_M_does_219 : decode mt_M_does.2.1 219 = .ok (.iconst 1, 1) := by decide +kernel
theorem d_M_does_220 : decode mt_M_does.2.1 220 = .ok (.goto 4, 3) := by decide +kernel
theorem d_M_does_223 : decode mt_M_does.2.1 223 = .ok (.iconst 0, 1) := by decide +kernel
theorem d_M_does_224 : decode mt_M_does.2.1 224 = .ok (.ireturn, 1) := by decide +kernel
theorem d_M_does_225 : decode mt_M_does.2.1 225 = .ok (.iload_n 2, 1) := by decide +kernel
theorem d_M_does_226 : decode mt_M_does.2.1 226 = .ok (.bipush 8, 2) := by decide +kernel
theorem d_M_does_228 : decode mt_M_does.2.1 228 = .ok (.if_icmp .ge 25, 3) := by decide +kernel
theorem d_M_does_231 : decode mt_M_does.2.1 231 = .ok (.iload_n 3, 1) := by decide +kernel
theorem d_M_does_232 : decode mt_M_does.2.1 232 = .ok (.ifCond .ne 21, 3) := by decide +kernel
theorem d_M_does_235 : decode mt_M_does.2.1 235 = .ok (.aload_n 0, 1) := by decide +kernel
theorem d_M_does_236 : decode mt_M_does.2.1 236 = .ok (.getfield 43, 3) := by decide +kernel
theorem d_M_does_239 : decode mt_M_does.2.1 239 = .ok (.bipush 32, 2) := by decide +kernel
theorem d_M_does_241 : decode mt_M_does.2.1 241 = .ok (.iload_n 2, 1) := by decide +kernel
theorem d_M_does_242 : decode mt_M_does.2.1 242 = .ok (.iadd, 1) := by decide +kernel
theorem d_M_does_243 : decode mt_M_does.2.1 243 = .ok (.iaload, 1) := by decide +kernel
theorem d_M_does_244 : decode mt_M_does.2.1 244 = .ok (.iload 4, 2) := by decide +kernel
theorem d_M_does_246 : decode mt_M_does.2.1 246 = .ok (.if_icmp .ne 7, 3) := by decide +kernel
theorem d_M_does_249 : decode mt_M_does.2.1 249 = .ok (.iconst 1, 1) := by decide +kernel
theorem d_M_does_250 : decode mt_M_does.2.1 250 = .ok (.goto 4, 3) := by decide +kernel
theorem d_M_does_253 : decode mt_M_does.2.1 253 = .ok (.iconst 0, 1) := by decide +kernel
theorem d_M_does_254 : decode mt_M_does.2.1 254 = .ok (.ireturn, 1) := by decide +kernel
theorem d_M_does_255 : decode mt_M_does.2.1 255 = .ok (.iload_n 3, 1) := by decide +kernel
theorem d_M_does_256 : decode mt_M_does.2.1 256 = .ok (.ifCond .ne 23, 3) := by decide +kernel
theorem d_M_does_259 : decode mt_M_does.2.1 259 = .ok (.iload 4, 2) := by decide +kernel
theorem d_M_does_261 : decode mt_M_does.2.1 261 = .ok (.ifCond .ne 18, 3) := by decide +kernel
theorem d_M_does_264 : decode mt_M_does.2.1 264 = .ok (.aload_n 0, 1) := by decide +kernel
theorem d_M_does_265 : decode mt_M_does.2.1 265 = .ok (.getfield 43, 3) := by decide +kernel
theorem d_M_does_268 : decode mt_M_does.2.1 268 = .ok (.bipush 76, 2) := by decide +kernel
theorem d_M_does_270 : decode mt_M_does.2.1 270 = .ok (.iaload, 1) := by decide +kernel
theorem d_M_does_271 : decode mt_M_does.2.1 271 = .ok (.iload_n 2, 1) := by decide +kernel
theorem d_M_does_272 : decode mt_M_does.2.1 272 = .ok (.if_icmp .ne 7, 3) := by decide +kernel
