theorem d_M_does_275 : decode mt_M_does.2.1 275 = .ok (.iconst 1, 1) := by decide +kernel
theorem d_M_does_276 : decode mt_M_does.2.1 276 = .ok (.goto 4, 3) := by decide +kernel
theorem d_M_does_279 : decode mt_M_does.2.1 279 = .ok (.iconst 0, 1) := by decide +kernel
theorem d_M_does_280 : decode mt_M_does.2.1 280 = .ok (.ireturn, 1) := by decide +kernel
theorem d_M_does_281 : decode mt_M_does.2.1 281 = .ok (.iload_n 2, 1) := by decide +kernel
theorem d_M_does_282 : decode mt_M_does.2.1 282 = .ok (.aload_n 0, 1) := by decide +kernel
theorem d_M_does_283 : decode mt_M_does.2.1 283 = .ok (.getfield 78, 3) := by decide +kernel
theorem d_M_does_286 : decode mt_M_does.2.1 286 = .ok (.if_icmp .ge 37, 3) := by decide +kernel
theorem d_M_does_289 : decode mt_M_does.2.1 289 = .ok (.iload 4, 2) := by decide +kernel
theorem d_M_does_291 : decode mt_M_does.2.1 291 = .ok (.bipush 100, 2) := by decide +kernel
theorem d_M_does_293 : decode mt_M_does.2.1 293 = .ok (.irem, 1) := by decide +kernel
theorem d_M_does_294 : decode mt_M_does.2.1 294 = .ok (.ifCond .ne 29, 3) := by decide +kernel
theorem d_M_does_297 : decode mt_M_does.2.1 297 = .ok (.aload_n 0, 1) := by decide +kernel
theorem d_M_does_298 : decode mt_M_does.2.1 298 = .ok (.getfield 43, 3) := by decide +kernel
theorem d_M_does_301 : decode mt_M_does.2.1 301 = .ok (.bipush 8, 2) := by decide +kernel
theorem d_M_does_303 : decode mt_M_does.2.1 303 = .ok (.iload_n 2, 1) := by decide +kernel
theorem d_M_does_304 : decode mt_M_does.2.1 304 = .ok (.imul, 1) := by decide +kernel
theorem d_M_does_305 : decode mt_M_does.2.1 305 = .ok (.iaload, 1) := by decide +kernel
theorem d_M_does_306 : decode mt_M_does.2.1 306 = .ok (.bipush 10, 2) := by decide +kernel
theorem d_M_does_308 : decode mt_M_does.2.1 308 = .ok (.iload_n 3, 1) := by decide +kernel
theorem d_M_does_309 : decode mt_M_does.2.1 309 = .ok (.imul, 1) := by decide +kernel
theorem d_M_does_310 : decode mt_M_does.2.1 310 = .ok (.iload 4, 2) := by decide +kernel
theorem d_M_does_312 : decode mt_M_does.2.1 312 = .ok (.bipush 100, 2) := by decide +kernel
theorem d_M_does_314 : decode mt_M_does.2.1 314 = .ok (.idiv, 1) := by decide +kernel
theorem d_M_does_315 : decode mt_M_does.2.1 315 = .ok (.iadd, 1) := by decide +kernel
theorem d_M_does_316 : decode mt_M_does.2.1 316 = .ok (.if_icmp .ne 7, 3) := by decide +kernel
theorem d_M_does_319 : decode mt_M_does.2.1 319 = .ok (.iconst 1, 1) := by decide +kernel
theorem d_M_does_320 : decode mt_M_does.2.1 320 = .ok (.goto 4, 3) := by decide +kernel
theorem d_M_does_323 : decode mt_M_does.2.1 323 = .ok (.iconst 0, 1) := by decide +kernel
theorem d_M_does_324 : decode mt_M_does.2.1 324 = .ok (.ireturn, 1) := by decide +kernel
theorem d_M_does_325 : decode mt_M_does.2.1 325 = .ok (.iconst 0, 1) := by decide +kernel
theorem d_M_does_326 : decode mt_M_does.2.1 326 = .ok (.ireturn, 1) := by decide +kernel
theorem d_M_see_0 : decode mt_M_see.2.1 0 = .ok (.aload_n 0, 1) := by decide +kernel
theorem d_M_see_1 : decode mt_M_see.2.1 1 = .ok (.iconst 0, 1) := by decide +kernel
theorem d_M_see_2 : decode mt_M_see.2.1 2 = .ok (.putfield 75, 3) := by decide +kernel
theorem d_M_see_5 : decode mt_M_see.2.1 5 = .ok (.iload_n 1, 1) := by decide +kernel
theorem d_M_see_6 : decode mt_M_see.2.1 6 = .ok (.i2l, 1) := by decide +kernel
theorem d_M_see_7 : decode mt_M_see.2.1 7 = .ok (.lconst 0, 1) := by decide +kernel
theorem d_M_see_8 : decode mt_M_see.2.1 8 = .ok (.ldc2_w 210, 3) := by decide +kernel
theorem d_M_see_11 : decode mt_M_see.2.1 11 = .ok (.invokestatic 81, 3) := by decide +kernel
theorem d_M_see_14 : decode mt_M_see.2.1 14 = .ok (.ifCond .eq 48, 3) := by decide +kernel
theorem d_M_see_17 : decode mt_M_see.2.1 17 = .ok (.iload_n 2, 1) := by decide +kernel
theorem d_M_see_18 : decode mt_M_see.2.1 18 = .ok (.i2l, 1) := by decide +kernel
theorem d_M_see_19 : decode mt_M_see.2.1 19 = .ok (.lconst 0, 1) := by decide +kernel
theorem d_M_see_20 : decode mt_M_see.2.1 20 = .ok (.ldc2_w 267, 3) := by decide +kernel
theorem d_M_see_23 : decode mt_M_see.2.1 23 = .ok (.invokestatic 81, 3) := by decide +kernel
theorem d_M_see_26 : decode mt_M_see.2.1 26 = .ok (.ifCond .eq 36, 3) := by decide +kernel
theorem d_M_see_29 : decode mt_M_see.2.1 29 = .ok (.iload_n 3, 1) := by decide +kernel
theorem d_M_see_30 : decode mt_M_see.2.1 30 = .ok (.i2l, 1) := by decide +kernel
theorem d_M_see_31 : decode mt_M_see.2.1 31 = .ok (.lconst 0, 1) := by decide +kernel
theorem d_M_see_32 : decode mt_M_see.2.1 32 = .ok (.iload_n 2, 1) := by decide +kernel
theorem d_M_see_33 : decode mt_M_see.2.1 33 = .ok (.ifCond .ne 9, 3) := by decide +kernel
theorem d_M_see_36 : decode mt_M_see.2.1 36 = .ok (.ldc2_w 244, 3) := by decide +kernel
theorem d_M_see_39 : decode mt_M_see.2.1 39 = .ok (.goto 17, 3) := by decide +kernel
theorem d_M_see_42 : decode mt_M_see.2.1 42 = .ok (.iload_n 2, 1) := by decide +kernel
theorem d_M_see_43 : decode mt_M_see.2.1 43 = .ok (.iconst 1, 1) := by decide +kernel
theorem d_M_see_44 : decode mt_M_see.2.1 44 = .ok (.if_icmp .ne 9, 3) := by decide +kernel
theorem d_M_see_47 : decode mt_M_see.2.1 47 = .ok (.ldc2_w 267, 3) := by decide +kernel
theorem d_M_see_50 : decode mt_M_see.2.1 50 = .ok (.goto 6, 3) := by decide +kernel
theorem d_M_see_53 : decode mt_M_see.2.1 53 = .ok (.ldc2_w 238, 3) := by decide +kernel
theorem d_M_see_56 : decode mt_M_see.2.1 56 = .ok (.invokestatic 81, 3) := by decide +kernel
theorem d_M_see_59 : decode mt_M_see.2.1 59 = .ok (.ifCond .ne 6, 3) := by decide +kernel
theorem d_M_see_62 : decode mt_M_see.2.1 62 = .ok (.bipush (-2), 2) := by decide +kernel
theorem d_M_see_64 : decode mt_M_see.2.1 64 = .ok (.ireturn, 1) := by decide +kernel
theorem d_M_see_65 : decode mt_M_see.2.1 65 = .ok (.aload_n 0, 1) := by decide +kernel
theorem d_M_see_66 : decode mt_M_see.2.1 66 = .ok (.getfield 269, 3) := by decide +kernel
theorem d_M_see_69 : decode mt_M_see.2.1 69 = .ok (.bipush 6, 2) := by decide +kernel
theorem d_M_see_71 : decode mt_M_see.2.1 71 = .ok (.if_icmp .ne 6, 3) := by decide +kernel
theorem d_M_see_74 : decode mt_M_see.2.1 74 = .ok (.bipush (-4), 2) := by decide +kernel
theorem d_M_see_76 : decode mt_M_see.2.1 76 = .ok (.ireturn, 1) := by decide +kernel
theorem d_M_see_77 : decode mt_M_see.2.1 77 = .ok (.aload_n 0, 1) := by decide +kernel
theorem d_M_see_78 : decode mt_M_see.2.1 78 = .ok (.getfield 59, 3) := by decide +kernel
theorem d_M_see_81 : decode mt_M_see.2.1 81 = .ok (.aload_n 0, 1) := by decide +kernel
theorem d_M_see_82 : decode mt_M_see.2.1 82 = .ok (.getfield 269, 3) := by decide +kernel
theorem d_M_see_85 : decode mt_M_see.2.1 85 = .ok (.iload_n 1, 1) := by decide +kernel
theorem d_M_see_86 : decode mt_M_see.2.1 86 = .ok (.iastore, 1) := by decide +kernel
theorem d_M_see_87 : decode mt_M_see.2.1 87 = .ok (.aload_n 0, 1) := by decide +kernel
theorem d_M_see_88 : decode mt_M_see.2.1 88 = .ok (.getfield 62, 3) := by decide +kernel
theorem d_M_see_91 : decode mt_M_see.2.1 91 = .ok (.aload_n 0, 1) := by decide +kernel
theorem d_M_see_92 : decode mt_M_see.2.1 92 = .ok (.getfield 269, 3) := by decide +kernel
theorem d_M_see_95 : decode mt_M_see.2.1 95 = .ok (.iload_n 2, 1) := by decide +kernel
theorem d_M_see_96 : decode mt_M_see.2.1 96 = .ok (.iastore, 1) := by decide +kernel
theorem d_M_see_97 : decode mt_M_see.2.1 97 = .ok (.aload_n 0, 1) := by decide +kernel
theorem d_M_see_98 : decode mt_M_see.2.1 98 = .ok (.getfield 65, 3) := by decide +kernel
theorem d_M_see_101 : decode mt_M_see.2.1 101 = .ok (.aload_n 0, 1) := by decide +kernel
theorem d_M_see_102 : decode mt_M_see.2.1 102 = .ok (.getfield 269, 3) := by decide +kernel
theorem d_M_see_105 : decode mt_M_see.2.1 105 = .ok (.iload_n 3, 1) := by decide +kernel
theorem d_M_see_106 : decode mt_M_see.2.1 106 = .ok (.iastore, 1) := by decide +kernel
theorem d_M_see_107 : decode mt_M_see.2.1 107 = .ok (.aload_n 0, 1) := by decide +kernel
theorem d_M_see_108 : decode mt_M_see.2.1 108 = .ok (.dup, 1) := by decide +kernel
theorem d_M_see_109 : decode mt_M_see.2.1 109 = .ok (.getfield 269, 3) := by decide +kernel
theorem d_M_see_112 : decode mt_M_see.2.1 112 = .ok (.iconst 1, 1) := by decide +kernel
theorem d_M_see_113 : decode mt_M_see.2.1 113 = .ok (.iadd, 1) := by decide +kernel
theorem d_M_see_114 : decode mt_M_see.2.1 114 = .ok (.putfield 269, 3) := by decide +kernel
theorem d_M_see_117 : decode mt_M_see.2.1 117 = .ok (.aload_n 0, 1) := by decide +kernel
theorem d_M_see_118 : decode mt_M_see.2.1 118 = .ok (.getfield 269, 3) := by decide +kernel
theorem d_M_see_121 : decode mt_M_see.2.1 121 = .ok (.ireturn, 1) := by decide +kernel
theorem d_M_unsee_0 : decode mt_M_unsee.2.1 0 = .ok (.aload_n 0, 1) := by decide +kernel
theorem d_M_unsee_1 : decode mt_M_unsee.2.1 1 = .ok (.iconst 0, 1) := by decide +kernel
theorem d_M_unsee_2 : decode mt_M_unsee.2.1 2 = .ok (.putfield 75, 3) := by decide +kernel
theorem d_M_unsee_5 : decode mt_M_unsee.2.1 5 = .ok (.aload_n 0, 1) := by decide +kernel
theorem d_M_unsee_6 : decode mt_M_unsee.2.1 6 = .ok (.getfield 269, 3) := by decide +kernel
theorem d_M_unsee_9 : decode mt_M_unsee.2.1 9 = .ok (.istore_n 1, 1) := by decide +kernel
theorem d_M_unsee_10 : decode mt_M_unsee.2.1 10 = .ok (.aload_n 0, 1) := by decide +kernel
theorem d_M_unsee_11 : decode mt_M_unsee.2.1 11 = .ok (.iconst 0, 1) := by decide +kernel
theorem d_M_unsee_12 : decode mt_M_unsee.2.1 12 = .ok (.putfield 269, 3) := by decide +kernel
theorem d_M_unsee_15 : decode mt_M_unsee.2.1 15 = .ok (.iload_n 1, 1) := by decide +kernel
theorem d_M_unsee_16 : decode mt_M_unsee.2.1 16 = .ok (.ireturn, 1) := by decide +kernel
theorem d_M_which_0 : decode mt_M_which.2.1 0 = .ok (.aload_n 0, 1) := by decide +kernel
theorem d_M_which_1 : decode mt_M_which.2.1 1 = .ok (.iconst 0, 1) := by decide +kernel
theorem d_M_which_2 : decode mt_M_which.2.1 2 = .ok (.putfield 75, 3) := by decide +kernel
theorem d_M_which_5 : decode mt_M_which.2.1 5 = .ok (.iconst 1, 1) := by decide +kernel
theorem d_M_which_6 : decode mt_M_which.2.1 6 = .ok (.aload_n 0, 1) := by decide +kernel
theorem d_M_which_7 : decode mt_M_which.2.1 7 = .ok (.getfield 78, 3) := by decide +kernel
theorem d_M_which_10 : decode mt_M_which.2.1 10 = .ok (.ishl, 1) := by decide +kernel
theorem d_M_which_11 : decode mt_M_which.2.1 11 = .ok (.iconst 1, 1) := by decide +kernel
theorem d_M_which_12 : decode mt_M_which.2.1 12 = .ok (.isub, 1) := by decide +kernel
theorem d_M_which_13 : decode mt_M_which.2.1 13 = .ok (.istore_n 1, 1) := by decide +kernel
theorem d_M_which_14 : decode mt_M_which.2.1 14 = .ok (.aload_n 0, 1) := by decide +kernel
theorem d_M_which_15 : decode mt_M_which.2.1 15 = .ok (.getfield 43, 3) := by decide +kernel
theorem d_M_which_18 : decode mt_M_which.2.1 18 = .ok (.aload_n 0, 1) := by decide +kernel
theorem d_M_which_19 : decode mt_M_which.2.1 19 = .ok (.getfield 40, 3) := by decide +kernel
theorem d_M_which_22 : decode mt_M_which.2.1 22 = .ok (.invokestatic 131, 3) := by decide +kernel
theorem d_M_which_25 : decode mt_M_which.2.1 25 = .ok (.iconst 0, 1) := by decide +kernel
theorem d_M_which_26 : decode mt_M_which.2.1 26 = .ok (.istore_n 2, 1) := by decide +kernel
theorem d_M_which_27 : decode mt_M_which.2.1 27 = .ok (.iload_n 2, 1) := by decide +kernel
theorem d_M_which_28 : decode mt_M_which.2.1 28 = .ok (.bipush 10, 2) := by decide +kernel
theorem d_M_which_30 : decode mt_M_which.2.1 30 = .ok (.if_icmp .ge 130, 3) := by decide +kernel
theorem d_M_which_33 : decode mt_M_which.2.1 33 = .ok (.iconst 0, 1) := by decide +kernel
theorem d_M_which_34 : decode mt_M_which.2.1 34 = .ok (.istore_n 3, 1) := by decide +kernel
theorem d_M_which_35 : decode mt_M_which.2.1 35 = .ok (.iload_n 3, 1) := by decide +kernel
theorem d_M_which_36 : decode mt_M_which.2.1 36 = .ok (.aload_n 0, 1) := by decide +kernel
theorem d_M_which_37 : decode mt_M_which.2.1 37 = .ok (.getfield 269, 3) := by decide +kernel
theorem d_M_which_40 : decode mt_M_which.2.1 40 = .ok (.if_icmp .ge 106, 3) := by decide +kernel
theorem d_M_which_43 : decode mt_M_which.2.1 43 = .ok (.iconst 0, 1) := by decide +kernel
theorem d_M_which_44 : decode mt_M_which.2.1 44 = .ok (.istore 4, 2) := by decide +kernel
theorem d_M_which_46 : decode mt_M_which.2.1 46 = .ok (.iload 4, 2) := by decide +kernel
theorem d_M_which_48 : decode mt_M_which.2.1 48 = .ok (.aload_n 0, 1) := by decide +kernel
theorem d_M_which_49 : decode mt_M_which.2.1 49 = .ok (.getfield 78, 3) := by decide +kernel
theorem d_M_which_52 : decode mt_M_which.2.1 52 = .ok (.if_icmp .ge 88, 3) := by decide +kernel
theorem d_M_which_55 : decode mt_M_which.2.1 55 = .ok (.aload_n 0, 1) := by decide +kernel
theorem d_M_which_56 : decode mt_M_which.2.1 56 = .ok (.getfield 59, 3) := by decide +kernel
theorem d_M_which_59 : decode mt_M_which.2.1 59 = .ok (.iload_n 3, 1) := by decide +kernel
theorem d_M_which_60 : decode mt_M_which.2.1 60 = .ok (.iaload, 1) := by decide +kernel
theorem d_M_which_61 : decode mt_M_which.2.1 61 = .ok (.iload_n 2, 1) := by decide +kernel
theorem d_M_which_62 : decode mt_M_which.2.1 62 = .ok (.if_icmp .ne 78, 3) := by decide +kernel
theorem d_M_which_65 : decode mt_M_which.2.1 65 = .ok (.aload_n 0, 1) := by decide +kernel
theorem d_M_which_66 : decode mt_M_which.2.1 66 = .ok (.getfield 62, 3) := by decide +kernel
theorem d_M_which_69 : decode mt_M_which.2.1 69 = .ok (.iload_n 3, 1) := by decide +kernel
theorem d_M_which_70 : decode mt_M_which.2.1 70 = .ok (.iaload, 1) := by decide +kernel
theorem d_M_which_71 : decode mt_M_which.2.1 71 = .ok (.iconst 2, 1) := by decide +kernel
theorem d_M_which_72 : decode mt_M_which.2.1 72 = .ok (.if_icmp .ne 18, 3) := by decide +kernel
theorem d_M_which_75 : decode mt_M_which.2.1 75 = .ok (.aload_n 0, 1) := by decide +kernel
theorem d_M_which_76 : decode mt_M_which.2.1 76 = .ok (.getfield 43, 3) := by decide +kernel
theorem d_M_which_79 : decode mt_M_which.2.1 79 = .ok (.bipush 8, 2) := by decide +kernel
theorem d_M_which_81 : decode mt_M_which.2.1 81 = .ok (.iload 4, 2) := by decide +kernel
theorem d_M_which_83 : decode mt_M_which.2.1 83 = .ok (.imul, 1) := by decide +kernel
theorem d_M_which_84 : decode mt_M_which.2.1 84 = .ok (.iconst 4, 1) := by decide +kernel
theorem d_M_which_85 : decode mt_M_which.2.1 85 = .ok (.iadd, 1) := by decide +kernel
theorem d_M_which_86 : decode mt_M_which.2.1 86 = .ok (.iaload, 1) := by decide +kernel
theorem d_M_which_87 : decode mt_M_which.2.1 87 = .ok (.goto 20, 3) := by decide +kernel
theorem d_M_which_90 : decode mt_M_which.2.1 90 = .ok (.aload_n 0, 1) := by decide +kernel
theorem d_M_which_91 : decode mt_M_which.2.1 91 = .ok (.getfield 43, 3) := by decide +kernel
theorem d_M_which_94 : decode mt_M_which.2.1 94 = .ok (.bipush 8, 2) := by decide +kernel
theorem d_M_which_96 : decode mt_M_which.2.1 96 = .ok (.iload 4, 2) := by decide +kernel
theorem d_M_which_98 : decode mt_M_which.2.1 98 = .ok (.imul, 1) := by decide +kernel
theorem d_M_which_99 : decode mt_M_which.2.1 99 = .ok (.aload_n 0, 1) := by decide +kernel
theorem d_M_which_100 : decode mt_M_which.2.1 100 = .ok (.getfield 62, 3) := by decide +kernel
theorem d_M_which_103 : decode mt_M_which.2.1 103 = .ok (.iload_n 3, 1) := by decide +kernel
theorem d_M_which_104 : decode mt_M_which.2.1 104 = .ok (.iaload, 1) := by decide +kernel
theorem d_M_which_105 : decode mt_M_which.2.1 105 = .ok (.iadd, 1) := by decide +kernel
theorem d_M_which_106 : decode mt_M_which.2.1 106 = .ok (.iaload, 1) := by decide +kernel
theorem d_M_which_107 : decode mt_M_which.2.1 107 = .ok (.istore 5, 2) := by decide +kernel
theorem d_M_which_109 : decode mt_M_which.2.1 109 = .ok (.iload_n 1, 1) := by decide +kernel
theorem d_M_which_110 : decode mt_M_which.2.1 110 = .ok (.iload 5, 2) := by decide +kernel
theorem d_M_which_112 : decode mt_M_which.2.1 112 = .ok (.aload_n 0, 1) := by decide +kernel
theorem d_M_which_113 : decode mt_M_which.2.1 113 = .ok (.getfield 65, 3) := by decide +kernel
theorem d_M_which_116 : decode mt_M_which.2.1 116 = .ok (.iload_n 3, 1) := by decide +kernel
theorem d_M_which_117 : decode mt_M_which.2.1 117 = .ok (.iaload, 1) := by decide +kernel
theorem d_M_which_118 : decode mt_M_which.2.1 118 = .ok (.if_icmp .ne 8, 3) := by decide +kernel
theorem d_M_which_121 : decode mt_M_which.2.1 121 = .ok (.bipush 15, 2) := by decide +kernel
theorem d_M_which_123 : decode mt_M_which.2.1 123 = .ok (.goto 9, 3) := by decide +kernel
theorem d_M_which_126 : decode mt_M_which.2.1 126 = .ok (.iconst 1, 1) := by decide +kernel
theorem d_M_which_127 : decode mt_M_which.2.1 127 = .ok (.iload 4, 2) := by decide +kernel
theorem d_M_which_129 : decode mt_M_which.2.1 129 = .ok (.ishl, 1) := by decide +kernel
theorem d_M_which_130 : decode mt_M_which.2.1 130 = .ok (.iconst (-1), 1) := by decide +kernel
theorem d_M_which_131 : decode mt_M_which.2.1 131 = .ok (.ixor, 1) := by decide +kernel
theorem d_M_which_132 : decode mt_M_which.2.1 132 = .ok (.iand, 1) := by decide +kernel
theorem d_M_which_133 : decode mt_M_which.2.1 133 = .ok (.istore_n 1, 1) := by decide +kernel
theorem d_M_which_134 : decode mt_M_which.2.1 134 = .ok (.iinc 4 1, 3) := by decide +kernel
theorem d_M_which_137 : decode mt_M_which.2.1 137 = .ok (.goto (-91), 3) := by decide +kernel
theorem d_M_which_140 : decode mt_M_which.2.1 140 = .ok (.iinc 3 1, 3) := by decide +kernel
theorem d_M_which_143 : decode mt_M_which.2.1 143 = .ok (.goto (-108), 3) := by decide +kernel
theorem d_M_which_146 : decode mt_M_which.2.1 146 = .ok (.aload_n 0, 1) := by decide +kernel
theorem d_M_which_147 : decode mt_M_which.2.1 147 = .ok (.aload_n 0, 1) := by decide +kernel
theorem d_M_which_148 : decode mt_M_which.2.1 148 = .ok (.getfield 43, 3) := by decide +kernel
theorem d_M_which_151 : decode mt_M_which.2.1 151 = .ok (.invokevirtual 199, 3) := by decide +kernel
theorem d_M_which_154 : decode mt_M_which.2.1 154 = .ok (.iinc 2 1, 3) := by decide +kernel
theorem d_M_which_157 : decode mt_M_which.2.1 157 = .ok (.goto (-130), 3) := by decide +kernel
theorem d_M_which_160 : decode mt_M_which.2.1 160 = .ok (.iload_n 1, 1) := by decide +kernel
theorem d_M_which_161 : decode mt_M_which.2.1 161 = .ok (.ireturn, 1) := by decide +kernel
theorem d_M_share_0 : decode mt_M_share.2.1 0 = .ok (.aload_n 0, 1) := by decide +kernel
theorem d_M_share_1 : decode mt_M_share.2.1 1 = .ok (.iconst 0, 1) := by decide +kernel
theorem d_M_share_2 : decode mt_M_share.2.1 2 = .ok (.putfield 75, 3) := by decide +kernel
theorem d_M_share_5 : decode mt_M_share.2.1 5 = .ok (.iload_n 1, 1) := by decide +kernel
theorem d_M_share_6 : decode mt_M_share.2.1 6 = .ok (.i2l, 1) := by decide +kernel
theorem d_M_share_7 : decode mt_M_share.2.1 7 = .ok (.lconst 0, 1) := by decide +kernel
theorem d_M_share_8 : decode mt_M_share.2.1 8 = .ok (.aload_n 0, 1) := by decide +kernel
theorem d_M_share_9 : decode mt_M_share.2.1 9 = .ok (.getfield 138, 3) := by decide +kernel
theorem d_M_share_12 : decode mt_M_share.2.1 12 = .ok (.iconst 1, 1) := by decide +kernel
theorem d_M_share_13 : decode mt_M_share.2.1 13 = .ok (.isub, 1) := by decide +kernel
theorem d_M_share_14 : decode mt_M_share.2.1 14 = .ok (.i2l, 1) := by decide +kernel
theorem d_M_share_15 : decode mt_M_share.2.1 15 = .ok (.invokestatic 81, 3) := by decide +kernel
theorem d_M_share_18 : decode mt_M_share.2.1 18 = .ok (.ifCond .ne 5, 3) := by decide +kernel
theorem d_M_share_21 : decode mt_M_share.2.1 21 = .ok (.iconst (-1), 1) := by decide +kernel
theorem d_M_share_22 : decode mt_M_share.2.1 22 = .ok (.ireturn, 1) := by decide +kernel
theorem d_M_share_23 : decode mt_M_share.2.1 23 = .ok (.iconst 0, 1) := by decide +kernel
theorem d_M_share_24 : decode mt_M_share.2.1 24 = .ok (.istore_n 3, 1) := by decide +kernel
theorem d_M_share_25 : decode mt_M_share.2.1 25 = .ok (.iload_n 3, 1) := by decide +kernel
theorem d_M_share_26 : decode mt_M_share.2.1 26 = .ok (.iconst 1, 1) := by decide +kernel
theorem d_M_share_27 : decode mt_M_share.2.1 27 = .ok (.aload_n 0, 1) := by decide +kernel
theorem d_M_share_28 : decode mt_M_share.2.1 28 = .ok (.getfield 138, 3) := by decide +kernel
theorem d_M_share_31 : decode mt_M_share.2.1 31 = .ok (.ishl, 1) := by decide +kernel
theorem d_M_share_32 : decode mt_M_share.2.1 32 = .ok (.if_icmp .ge 79, 3) := by decide +kernel
theorem d_M_share_35 : decode mt_M_share.2.1 35 = .ok (.aload_n 0, 1) := by decide +kernel
theorem d_M_share_36 : decode mt_M_share.2.1 36 = .ok (.iload_n 3, 1) := by decide +kernel
theorem d_M_share_37 : decode mt_M_share.2.1 37 = .ok (.putfield 68, 3) := by decide +kernel
theorem d_M_share_40 : decode mt_M_share.2.1 40 = .ok (.aload_n 0, 1) := by decide +kernel
theorem d_M_share_41 : decode mt_M_share.2.1 41 = .ok (.getfield 43, 3) := by decide +kernel
theorem d_M_share_44 : decode mt_M_share.2.1 44 = .ok (.aload_n 0, 1) := by decide +kernel
theorem d_M_share_45 : decode mt_M_share.2.1 45 = .ok (.getfield 40, 3) := by decide +kernel
theorem d_M_share_48 : decode mt_M_share.2.1 48 = .ok (.invokestatic 131, 3) := by decide +kernel
theorem d_M_share_51 : decode mt_M_share.2.1 51 = .ok (.aload_n 0, 1) := by decide +kernel
theorem d_M_share_52 : decode mt_M_share.2.1 52 = .ok (.getfield 72, 3) := by decide +kernel
theorem d_M_share_55 : decode mt_M_share.2.1 55 = .ok (.iload_n 3, 1) := by decide +kernel
theorem d_M_share_56 : decode mt_M_share.2.1 56 = .ok (.iconst 0, 1) := by decide +kernel
theorem d_M_share_57 : decode mt_M_share.2.1 57 = .ok (.iastore, 1) := by decide +kernel
theorem d_M_share_58 : decode mt_M_share.2.1 58 = .ok (.iconst 0, 1) := by decide +kernel
theorem d_M_share_59 : decode mt_M_share.2.1 59 = .ok (.istore 4, 2) := by decide +kernel
theorem d_M_share_61 : decode mt_M_share.2.1 61 = .ok (.iload 4, 2) := by decide +kernel
theorem d_M_share_63 : decode mt_M_share.2.1 63 = .ok (.bipush 20, 2) := by decide +kernel
theorem d_M_share_65 : decode mt_M_share.2.1 65 = .ok (.if_icmp .ge 40, 3) := by decide +kernel
theorem d_M_share_68 : decode mt_M_share.2.1 68 = .ok (.aload_n 0, 1) := by decide +kernel
theorem d_M_share_69 : decode mt_M_share.2.1 69 = .ok (.aload_n 0, 1) := by decide +kernel
theorem d_M_share_70 : decode mt_M_share.2.1 70 = .ok (.getfield 43, 3) := by decide +kernel
theorem d_M_share_73 : decode mt_M_share.2.1 73 = .ok (.invokevirtual 199, 3) := by decide +kernel
theorem d_M_share_76 : decode mt_M_share.2.1 76 = .ok (.aload_n 0, 1) := by decide +kernel
theorem d_M_share_77 : decode mt_M_share.2.1 77 = .ok (.getfield 72, 3) := by decide +kernel
theorem d_M_share_80 : decode mt_M_share.2.1 80 = .ok (.iload_n 3, 1) := by decide +kernel
theorem d_M_share_81 : decode mt_M_share.2.1 81 = .ok (.dup2, 1) := by decide +kernel
theorem d_M_share_82 : decode mt_M_share.2.1 82 = .ok (.iaload, 1) := by decide +kernel
theorem d_M_share_83 : decode mt_M_share.2.1 83 = .ok (.aload_n 0, 1) := by decide +kernel
theorem d_M_share_84 : decode mt_M_share.2.1 84 = .ok (.getfield 43, 3) := by decide +kernel
theorem d_M_share_87 : decode mt_M_share.2.1 87 = .ok (.aload_n 0, 1) := by decide +kernel
theorem d_M_share_88 : decode mt_M_share.2.1 88 = .ok (.getfield 78, 3) := by decide +kernel
theorem d_M_share_91 : decode mt_M_share.2.1 91 = .ok (.invokestatic 189, 3) := by decide +kernel
theorem d_M_share_94 : decode mt_M_share.2.1 94 = .ok (.invokestatic 229, 3) := by decide +kernel
theorem d_M_share_97 : decode mt_M_share.2.1 97 = .ok (.iadd, 1) := by decide +kernel
theorem d_M_share_98 : decode mt_M_share.2.1 98 = .ok (.iastore, 1) := by decide +kernel
theorem d_M_share_99 : decode mt_M_share.2.1 99 = .ok (.iinc 4 1, 3) := by decide +kernel
theorem d_M_share_102 : decode mt_M_share.2.1 102 = .ok (.goto (-41), 3) := by decide +kernel
theorem d_M_share_105 : decode mt_M_share.2.1 105 = .ok (.iinc 3 1, 3) := by decide +kernel
theorem d_M_share_108 : decode mt_M_share.2.1 108 = .ok (.goto (-83), 3) := by decide +kernel
theorem d_M_share_111 : decode mt_M_share.2.1 111 = .ok (.aload_n 0, 1) := by decide +kernel
theorem d_M_share_112 : decode mt_M_share.2.1 112 = .ok (.bipush 63, 2) := by decide +kernel
theorem d_M_share_114 : decode mt_M_share.2.1 114 = .ok (.putfield 68, 3) := by decide +kernel
theorem d_M_share_117 : decode mt_M_share.2.1 117 = .ok (.iconst 0, 1) := by decide +kernel
theorem d_M_share_118 : decode mt_M_share.2.1 118 = .ok (.istore_n 3, 1) := by decide +kernel
theorem d_M_share_119 : decode mt_M_share.2.1 119 = .ok (.iconst 0, 1) := by decide +kernel
theorem d_M_share_120 : decode mt_M_share.2.1 120 = .ok (.istore 4, 2) := by decide +kernel
theorem d_M_share_122 : decode mt_M_share.2.1 122 = .ok (.iload 4, 2) := by decide +kernel
theorem d_M_share_124 : decode mt_M_share.2.1 124 = .ok (.iconst 1, 1) := by decide +kernel
theorem d_M_share_125 : decode mt_M_share.2.1 125 = .ok (.aload_n 0, 1) := by decide +kernel
theorem d_M_share_126 : decode mt_M_share.2.1 126 = .ok (.getfield 138, 3) := by decide +kernel
theorem d_M_share_129 : decode mt_M_share.2.1 129 = .ok (.ishl, 1) := by decide +kernel
theorem d_M_share_130 : decode mt_M_share.2.1 130 = .ok (.if_icmp .ge 70, 3) := by decide +kernel
theorem d_M_share_133 : decode mt_M_share.2.1 133 = .ok (.iload 4, 2) := by decide +kernel
theorem d_M_share_135 : decode mt_M_share.2.1 135 = .ok (.invokestatic 229, 3) := by decide +kernel
theorem d_M_share_138 : decode mt_M_share.2.1 138 = .ok (.istore 5, 2) := by decide +kernel
theorem d_M_share_140 : decode mt_M_share.2.1 140 = .ok (.iload_n 3, 1) := by decide +kernel
theorem d_M_share_141 : decode mt_M_share.2.1 141 = .ok (.iload 4, 2) := by decide +kernel
theorem d_M_share_143 : decode mt_M_share.2.1 143 = .ok (.iload_n 1, 1) := by decide +kernel
theorem d_M_share_144 : decode mt_M_share.2.1 144 = .ok (.invokestatic 175, 3) := by decide +kernel
theorem d_M_share_147 : decode mt_M_share.2.1 147 = .ok (.ifCond .eq 7, 3) := by decide +kernel
theorem d_M_share_150 : decode mt_M_share.2.1 150 = .ok (.iconst 0, 1) := by decide +kernel
theorem d_M_share_151 : decode mt_M_share.2.1 151 = .ok (.goto 41, 3) := by decide +kernel
theorem d_M_share_154 : decode mt_M_share.2.1 154 = .ok (.iload 5, 2) := by decide +kernel
theorem d_M_share_156 : decode mt_M_share.2.1 156 = .ok (.invokestatic 276, 3) := by decide +kernel
theorem d_M_share_159 : decode mt_M_share.2.1 159 = .ok (.aload_n 0, 1) := by decide +kernel
theorem d_M_share_160 : decode mt_M_share.2.1 160 = .ok (.getfield 138, 3) := by decide +kernel
theorem d_M_share_163 : decode mt_M_share.2.1 163 = .ok (.iconst 1, 1) := by decide +kernel
theorem d_M_share_164 : decode mt_M_share.2.1 164 = .ok (.isub, 1) := by decide +kernel
theorem d_M_share_165 : decode mt_M_share.2.1 165 = .ok (.iload 5, 2) := by decide +kernel
theorem d_M_share_167 : decode mt_M_share.2.1 167 = .ok (.isub, 1) := by decide +kernel
theorem d_M_share_168 : decode mt_M_share.2.1 168 = .ok (.invokestatic 276, 3) := by decide +kernel
theorem d_M_share_171 : decode mt_M_share.2.1 171 = .ok (.imul, 1) := by decide +kernel
theorem d_M_share_172 : decode mt_M_share.2.1 172 = .ok (.aload_n 0, 1) := by decide +kernel
theorem d_M_share_173 : decode mt_M_share.2.1 173 = .ok (.getfield 72, 3) := by decide +kernel
theorem d_M_share_176 : decode mt_M_share.2.1 176 = .ok (.iload 4, 2) := by decide +kernel
theorem d_M_share_178 : decode mt_M_share.2.1 178 = .ok (.iconst 1, 1) := by decide +kernel
theorem d_M_share_179 : decode mt_M_share.2.1 179 = .ok (.iload_n 1, 1) := by decide +kernel
theorem d_M_share_180 : decode mt_M_share.2.1 180 = .ok (.ishl, 1) := by decide +kernel
theorem d_M_share_181 : decode mt_M_share.2.1 181 = .ok (.ior, 1) := by decide +kernel
theorem d_M_share_182 : decode mt_M_share.2.1 182 = .ok (.iaload, 1) := by decide +kernel
theorem d_M_share_183 : decode mt_M_share.2.1 183 = .ok (.aload_n 0, 1) := by decide +kernel
theorem d_M_share_184 : decode mt_M_share.2.1 184 = .ok (.getfield 72, 3) := by decide +kernel
theorem d_M_share_187 : decode mt_M_share.2.1 187 = .ok (.iload 4, 2) := by decide +kernel
theorem d_M_share_189 : decode mt_M_share.2.1 189 = .ok (.iaload, 1) := by decide +kernel
theorem d_M_share_190 : decode mt_M_share.2.1 190 = .ok (.isub, 1) := by decide +kernel
theorem d_M_share_191 : decode mt_M_share.2.1 191 = .ok (.imul, 1) := by decide +kernel
theorem d_M_share_192 : decode mt_M_share.2.1 192 = .ok (.iadd, 1) := by decide +kernel
theorem d_M_share_193 : decode mt_M_share.2.1 193 = .ok (.istore_n 3, 1) := by decide +kernel
theorem d_M_share_194 : decode mt_M_share.2.1 194 = .ok (.iinc 4 1, 3) := by decide +kernel
theorem d_M_share_197 : decode mt_M_share.2.1 197 = .ok (.goto (-75), 3) := by decide +kernel
theorem d_M_share_200 : decode mt_M_share.2.1 200 = .ok (.iload_n 3, 1) := by decide +kernel
theorem d_M_share_201 : decode mt_M_share.2.1 201 = .ok (.aload_n 0, 1) := by decide +kernel
theorem d_M_share_202 : decode mt_M_share.2.1 202 = .ok (.getfield 138, 3) := by decide +kernel
theorem d_M_share_205 : decode mt_M_share.2.1 205 = .ok (.invokestatic 276, 3) := by decide +kernel
theorem d_M_share_208 : decode mt_M_share.2.1 208 = .ok (.iload_n 2, 1) := by decide +kernel
theorem d_M_share_209 : decode mt_M_share.2.1 209 = .ok (.invokestatic 279, 3) := by decide +kernel
theorem d_M_share_212 : decode mt_M_share.2.1 212 = .ok (.ireturn, 1) := by decide +kernel
theorem d_M_factorial_0 : decode mt_M_factorial.2.1 0 = .ok (.iconst 1, 1) := by decide +kernel
theorem d_M_factorial_1 : decode mt_M_factorial.2.1 1 = .ok (.istore_n 1, 1) := by decide +kernel
theorem d_M_factorial_2 : decode mt_M_factorial.2.1 2 = .ok (.iconst 2, 1) := by decide +kernel
theorem d_M_factorial_3 : decode mt_M_factorial.2.1 3 = .ok (.istore_n 2, 1) := by decide +kernel
theorem d_M_factorial_4 : decode mt_M_factorial.2.1 4 = .ok (.iload_n 2, 1) := by decide +kernel
theorem d_M_factorial_5 : decode mt_M_factorial.2.1 5 = .ok (.iload_n 0, 1) := by decide +kernel
theorem d_M_factorial_6 : decode mt_M_factorial.2.1 6 = .ok (.if_icmp .gt 13, 3) := by decide +kernel
theorem d_M_factorial_9 : decode mt_M_factorial.2.1 9 = .ok (.iload_n 1, 1) := by decide +kernel
theorem d_M_factorial_10 : decode mt_M_factorial.2.1 10 = .ok (.iload_n 2, 1) := by decide +kernel
theorem d_M_factorial_11 : decode mt_M_factorial.2.1 11 = .ok (.imul, 1) := by decide +kernel
theorem d_M_factorial_12 : decode mt_M_factorial.2.1 12 = .ok (.istore_n 1, 1) := by decide +kernel
theorem d_M_factorial_13 : decode mt_M_factorial.2.1 13 = .ok (.iinc 2 1, 3) := by decide +kernel
theorem d_M_factorial_16 : decode mt_M_factorial.2.1 16 = .ok (.goto (-12), 3) := by decide +kernel
theorem d_M_factorial_19 : decode mt_M_factorial.2.1 19 = .ok (.iload_n 1, 1) := by decide +kernel
theorem d_M_factorial_20 : decode mt_M_factorial.2.1 20 = .ok (.ireturn, 1) := by decide +kernel
theorem d_M_fraction_0 : decode mt_M_fraction.2.1 0 = .ok (.iload_n 0, 1) := by decide +kernel
theorem d_M_fraction_1 : decode mt_M_fraction.2.1 1 = .ok (.iload_n 1, 1) := by decide +kernel
theorem d_M_fraction_2 : decode mt_M_fraction.2.1 2 = .ok (.invokestatic 272, 3) := by decide +kernel
theorem d_M_fraction_5 : decode mt_M_fraction.2.1 5 = .ok (.istore_n 3, 1) := by decide +kernel
theorem d_M_fraction_6 : decode mt_M_fraction.2.1 6 = .ok (.iload_n 2, 1) := by decide +kernel
theorem d_M_fraction_7 : decode mt_M_fraction.2.1 7 = .ok (.ifCond .eq 9, 3) := by decide +kernel
theorem d_M_fraction_10 : decode mt_M_fraction.2.1 10 = .ok (.iload_n 0, 1) := by decide +kernel
theorem d_M_fraction_11 : decode mt_M_fraction.2.1 11 = .ok (.iload_n 3, 1) := by decide +kernel
theorem d_M_fraction_12 : decode mt_M_fraction.2.1 12 = .ok (.idiv, 1) := by decide +kernel
theorem d_M_fraction_13 : decode mt_M_fraction.2.1 13 = .ok (.goto 6, 3) := by decide +kernel
theorem d_M_fraction_16 : decode mt_M_fraction.2.1 16 = .ok (.iload_n 1, 1) := by decide +kernel
theorem d_M_fraction_17 : decode mt_M_fraction.2.1 17 = .ok (.iload_n 3, 1) := by decide +kernel
theorem d_M_fraction_18 : decode mt_M_fraction.2.1 18 = .ok (.idiv, 1) := by decide +kernel
theorem d_M_fraction_19 : decode mt_M_fraction.2.1 19 = .ok (.ireturn, 1) := by decide +kernel
theorem d_M_divisor_0 : decode mt_M_divisor.2.1 0 = .ok (.iload_n 0, 1) := by decide +kernel
theorem d_M_divisor_1 : decode mt_M_divisor.2.1 1 = .ok (.ifCond .ge 8, 3) := by decide +kernel
theorem d_M_divisor_4 : decode mt_M_divisor.2.1 4 = .ok (.iload_n 0, 1) := by decide +kernel
theorem d_M_divisor_5 : decode mt_M_divisor.2.1 5 = .ok (.ineg, 1) := by decide +kernel
theorem d_M_divisor_6 : decode mt_M_divisor.2.1 6 = .ok (.goto 4, 3) := by decide +kernel
theorem d_M_divisor_9 : decode mt_M_divisor.2.1 9 = .ok (.iload_n 0, 1) := by decide +kernel
theorem d_M_divisor_10 : decode mt_M_divisor.2.1 10 = .ok (.istore_n 2, 1) := by decide +kernel
theorem d_M_divisor_11 : decode mt_M_divisor.2.1 11 = .ok (.iload_n 1, 1) := by decide +kernel
theorem d_M_divisor_12 : decode mt_M_divisor.2.1 12 = .ok (.istore_n 3, 1) := by decide +kernel
theorem d_M_divisor_13 : decode mt_M_divisor.2.1 13 = .ok (.iload_n 3, 1) := by decide +kernel
theorem d_M_divisor_14 : decode mt_M_divisor.2.1 14 = .ok (.ifCond .eq 16, 3) := by decide +kernel
theorem d_M_divisor_17 : decode mt_M_divisor.2.1 17 = .ok (.iload_n 2, 1) := by decide +kernel
theorem d_M_divisor_18 : decode mt_M_divisor.2.1 18 = .ok (.iload_n 3, 1) := by decide +kernel
theorem d_M_divisor_19 : decode mt_M_divisor.2.1 19 = .ok (.irem, 1) := by decide +kernel
theorem d_M_divisor_20 : decode mt_M_divisor.2.1 20 = .ok (.istore 4, 2) := by decide +kernel
theorem d_M_divisor_22 : decode mt_M_divisor.2.1 22 = .ok (.iload_n 3, 1) := by decide +kernel
theorem d_M_divisor_23 : decode mt_M_divisor.2.1 23 = .ok (.istore_n 2, 1) := by decide +kernel
theorem d_M_divisor_24 : decode mt_M_divisor.2.1 24 = .ok (.iload 4, 2) := by decide +kernel
theorem d_M_divisor_26 : decode mt_M_divisor.2.1 26 = .ok (.istore_n 3, 1) := by decide +kernel
theorem d_M_divisor_27 : decode mt_M_divisor.2.1 27 = .ok (.goto (-14), 3) := by decide +kernel
theorem d_M_divisor_30 : decode mt_M_divisor.2.1 30 = .ok (.iload_n 2, 1) := by decide +kernel
theorem d_M_divisor_31 : decode mt_M_divisor.2.1 31 = .ok (.ireturn, 1) := by decide +kernel
theorem d_M_lost_0 : decode mt_M_lost.2.1 0 = .ok (.aload_n 0, 1) := by decide +kernel
theorem d_M_lost_1 : decode mt_M_lost.2.1 1 = .ok (.iconst 0, 1) := by decide +kernel
theorem d_M_lost_2 : decode mt_M_lost.2.1 2 = .ok (.putfield 75, 3) := by decide +kernel
theorem d_M_lost_5 : decode mt_M_lost.2.1 5 = .ok (.iload_n 1, 1) := by decide +kernel
theorem d_M_lost_6 : decode mt_M_lost.2.1 6 = .ok (.i2l, 1) := by decide +kernel
theorem d_M_lost_7 : decode mt_M_lost.2.1 7 = .ok (.lconst 0, 1) := by decide +kernel
theorem d_M_lost_8 : decode mt_M_lost.2.1 8 = .ok (.ldc2_w 283, 3) := by decide +kernel
theorem d_M_lost_11 : decode mt_M_lost.2.1 11 = .ok (.invokestatic 81, 3) := by decide +kernel
theorem d_M_lost_14 : decode mt_M_lost.2.1 14 = .ok (.ifCond .ne 6, 3) := by decide +kernel
theorem d_M_lost_17 : decode mt_M_lost.2.1 17 = .ok (.bipush (-2), 2) := by decide +kernel
theorem d_M_lost_19 : decode mt_M_lost.2.1 19 = .ok (.ireturn, 1) := by decide +kernel
theorem d_M_lost_20 : decode mt_M_lost.2.1 20 = .ok (.aload_n 0, 1) := by decide +kernel
theorem d_M_lost_21 : decode mt_M_lost.2.1 21 = .ok (.getfield 40, 3) := by decide +kernel
theorem d_M_lost_24 : decode mt_M_lost.2.1 24 = .ok (.bipush 80, 2) := by decide +kernel
theorem d_M_lost_26 : decode mt_M_lost.2.1 26 = .ok (.iaload, 1) := by decide +kernel
theorem d_M_lost_27 : decode mt_M_lost.2.1 27 = .ok (.istore_n 3, 1) := by decide +kernel
theorem d_M_lost_28 : decode mt_M_lost.2.1 28 = .ok (.iconst 0, 1) := by decide +kernel
theorem d_M_lost_29 : decode mt_M_lost.2.1 29 = .ok (.istore 4, 2) := by decide +kernel
theorem d_M_lost_31 : decode mt_M_lost.2.1 31 = .ok (.iconst 0, 1) := by decide +kernel
theorem d_M_lost_32 : decode mt_M_lost.2.1 32 = .ok (.istore 5, 2) := by decide +kernel
theorem d_M_lost_34 : decode mt_M_lost.2.1 34 = .ok (.iload 5, 2) := by decide +kernel
theorem d_M_lost_36 : decode mt_M_lost.2.1 36 = .ok (.iconst 1, 1) := by decide +kernel
theorem d_M_lost_37 : decode mt_M_lost.2.1 37 = .ok (.iload_n 3, 1) := by decide +kernel
theorem d_M_lost_38 : decode mt_M_lost.2.1 38 = .ok (.ishl, 1) := by decide +kernel
theorem d_M_lost_39 : decode mt_M_lost.2.1 39 = .ok (.if_icmp .ge 132, 3) := by decide +kernel
theorem d_M_lost_42 : decode mt_M_lost.2.1 42 = .ok (.aload_n 0, 1) := by decide +kernel
theorem d_M_lost_43 : decode mt_M_lost.2.1 43 = .ok (.getfield 43, 3) := by decide +kernel
theorem d_M_lost_46 : decode mt_M_lost.2.1 46 = .ok (.aload_n 0, 1) := by decide +kernel
theorem d_M_lost_47 : decode mt_M_lost.2.1 47 = .ok (.getfield 40, 3) := by decide +kernel
theorem d_M_lost_50 : decode mt_M_lost.2.1 50 = .ok (.invokestatic 131, 3) := by decide +kernel
theorem d_M_lost_53 : decode mt_M_lost.2.1 53 = .ok (.iload_n 3, 1) := by decide +kernel
theorem d_M_lost_54 : decode mt_M_lost.2.1 54 = .ok (.iconst 1, 1) := by decide +kernel
theorem d_M_lost_55 : decode mt_M_lost.2.1 55 = .ok (.isub, 1) := by decide +kernel
theorem d_M_lost_56 : decode mt_M_lost.2.1 56 = .ok (.istore 6, 2) := by decide +kernel
theorem d_M_lost_58 : decode mt_M_lost.2.1 58 = .ok (.iload 6, 2) := by decide +kernel
theorem d_M_lost_60 : decode mt_M_lost.2.1 60 = .ok (.ifCond .lt 28, 3) := by decide +kernel
theorem d_M_lost_63 : decode mt_M_lost.2.1 63 = .ok (.iload 5, 2) := by decide +kernel
theorem d_M_lost_65 : decode mt_M_lost.2.1 65 = .ok (.iload 6, 2) := by decide +kernel
theorem d_M_lost_67 : decode mt_M_lost.2.1 67 = .ok (.invokestatic 175, 3) := by decide +kernel
theorem d_M_lost_70 : decode mt_M_lost.2.1 70 = .ok (.ifCond .ne 12, 3) := by decide +kernel
theorem d_M_lost_73 : decode mt_M_lost.2.1 73 = .ok (.aload_n 0, 1) := by decide +kernel
theorem d_M_lost_74 : decode mt_M_lost.2.1 74 = .ok (.getfield 43, 3) := by decide +kernel
theorem d_M_lost_77 : decode mt_M_lost.2.1 77 = .ok (.iload 6, 2) := by decide +kernel
theorem d_M_lost_79 : decode mt_M_lost.2.1 79 = .ok (.invokestatic 172, 3) := by decide +kernel
theorem d_M_lost_82 : decode mt_M_lost.2.1 82 = .ok (.iinc 6 (-1), 3) := by decide +kernel
theorem d_M_lost_85 : decode mt_M_lost.2.1 85 = .ok (.goto (-27), 3) := by decide +kernel
theorem d_M_lost_88 : decode mt_M_lost.2.1 88 = .ok (.aload_n 0, 1) := by decide +kernel
theorem d_M_lost_89 : decode mt_M_lost.2.1 89 = .ok (.aload_n 0, 1) := by decide +kernel
theorem d_M_lost_90 : decode mt_M_lost.2.1 90 = .ok (.getfield 43, 3) := by decide +kernel
theorem d_M_lost_93 : decode mt_M_lost.2.1 93 = .ok (.bipush 10, 2) := by decide +kernel
theorem d_M_lost_95 : decode mt_M_lost.2.1 95 = .ok (.invokevirtual 226, 3) := by decide +kernel
theorem d_M_lost_98 : decode mt_M_lost.2.1 98 = .ok (.aload_n 0, 1) := by decide +kernel
theorem d_M_lost_99 : decode mt_M_lost.2.1 99 = .ok (.getfield 43, 3) := by decide +kernel
theorem d_M_lost_102 : decode mt_M_lost.2.1 102 = .ok (.aload_n 0, 1) := by decide +kernel
theorem d_M_lost_103 : decode mt_M_lost.2.1 103 = .ok (.getfield 78, 3) := by decide +kernel
theorem d_M_lost_106 : decode mt_M_lost.2.1 106 = .ok (.invokestatic 189, 3) := by decide +kernel
theorem d_M_lost_109 : decode mt_M_lost.2.1 109 = .ok (.iconst 1, 1) := by decide +kernel
theorem d_M_lost_110 : decode mt_M_lost.2.1 110 = .ok (.aload_n 0, 1) := by decide +kernel
theorem d_M_lost_111 : decode mt_M_lost.2.1 111 = .ok (.getfield 78, 3) := by decide +kernel
theorem d_M_lost_114 : decode mt_M_lost.2.1 114 = .ok (.ishl, 1) := by decide +kernel
theorem d_M_lost_115 : decode mt_M_lost.2.1 115 = .ok (.iconst 1, 1) := by decide +kernel
theorem d_M_lost_116 : decode mt_M_lost.2.1 116 = .ok (.isub, 1) := by decide +kernel
theorem d_M_lost_117 : decode mt_M_lost.2.1 117 = .ok (.if_icmp .ne 7, 3) := by decide +kernel
theorem d_M_lost_120 : decode mt_M_lost.2.1 120 = .ok (.iconst 1, 1) := by decide +kernel
theorem d_M_lost_121 : decode mt_M_lost.2.1 121 = .ok (.goto 4, 3) := by decide +kernel
theorem d_M_lost_124 : decode mt_M_lost.2.1 124 = .ok (.iconst 0, 1) := by decide +kernel
theorem d_M_lost_125 : decode mt_M_lost.2.1 125 = .ok (.istore 6, 2) := by decide +kernel
theorem d_M_lost_127 : decode mt_M_lost.2.1 127 = .ok (.iload 4, 2) := by decide +kernel
theorem d_M_lost_129 : decode mt_M_lost.2.1 129 = .ok (.iload 6, 2) := by decide +kernel
theorem d_M_lost_131 : decode mt_M_lost.2.1 131 = .ok (.ifCond .eq 30, 3) := by decide +kernel
theorem d_M_lost_134 : decode mt_M_lost.2.1 134 = .ok (.bipush 10, 2) := by decide +kernel
theorem d_M_lost_136 : decode mt_M_lost.2.1 136 = .ok (.iload_n 1, 1) := by decide +kernel
theorem d_M_lost_137 : decode mt_M_lost.2.1 137 = .ok (.isub, 1) := by decide +kernel
theorem d_M_lost_138 : decode mt_M_lost.2.1 138 = .ok (.iload 5, 2) := by decide +kernel
theorem d_M_lost_140 : decode mt_M_lost.2.1 140 = .ok (.invokestatic 229, 3) := by decide +kernel
theorem d_M_lost_143 : decode mt_M_lost.2.1 143 = .ok (.invokestatic 285, 3) := by decide +kernel
theorem d_M_lost_146 : decode mt_M_lost.2.1 146 = .ok (.iload_n 1, 1) := by decide +kernel
theorem d_M_lost_147 : decode mt_M_lost.2.1 147 = .ok (.iload_n 3, 1) := by decide +kernel
theorem d_M_lost_148 : decode mt_M_lost.2.1 148 = .ok (.iload 5, 2) := by decide +kernel
theorem d_M_lost_150 : decode mt_M_lost.2.1 150 = .ok (.invokestatic 229, 3) := by decide +kernel
theorem d_M_lost_153 : decode mt_M_lost.2.1 153 = .ok (.isub, 1) := by decide +kernel
theorem d_M_lost_154 : decode mt_M_lost.2.1 154 = .ok (.invokestatic 285, 3) := by decide +kernel
theorem d_M_lost_157 : decode mt_M_lost.2.1 157 = .ok (.imul, 1) := by decide +kernel
theorem d_M_lost_158 : decode mt_M_lost.2.1 158 = .ok (.goto 4, 3) := by decide +kernel
theorem d_M_lost_161 : decode mt_M_lost.2.1 161 = .ok (.iconst 0, 1) := by decide +kernel
theorem d_M_lost_162 : decode mt_M_lost.2.1 162 = .ok (.iadd, 1) := by decide +kernel
theorem d_M_lost_163 : decode mt_M_lost.2.1 163 = .ok (.istore 4, 2) := by decide +kernel
theorem d_M_lost_165 : decode mt_M_lost.2.1 165 = .ok (.iinc 5 1, 3) := by decide +kernel
theorem d_M_lost_168 : decode mt_M_lost.2.1 168 = .ok (.goto (-134), 3) := by decide +kernel
theorem d_M_lost_171 : decode mt_M_lost.2.1 171 = .ok (.iload 4, 2) := by decide +kernel
theorem d_M_lost_173 : decode mt_M_lost.2.1 173 = .ok (.bipush 10, 2) := by decide +kernel
theorem d_M_lost_175 : decode mt_M_lost.2.1 175 = .ok (.iload_n 3, 1) := by decide +kernel
theorem d_M_lost_176 : decode mt_M_lost.2.1 176 = .ok (.invokestatic 285, 3) := by decide +kernel
theorem d_M_lost_179 : decode mt_M_lost.2.1 179 = .ok (.iload_n 2, 1) := by decide +kernel
theorem d_M_lost_180 : decode mt_M_lost.2.1 180 = .ok (.invokestatic 279, 3) := by decide +kernel
theorem d_M_lost_183 : decode mt_M_lost.2.1 183 = .ok (.ireturn, 1) := by decide +kernel
theorem d_M_power_0 : decode mt_M_power.2.1 0 = .ok (.iconst 1, 1) := by decide +kernel
theorem d_M_power_1 : decode mt_M_power.2.1 1 = .ok (.istore_n 2, 1) := by decide +kernel
theorem d_M_power_2 : decode mt_M_power.2.1 2 = .ok (.iconst 0, 1) := by decide +kernel
theorem d_M_power_3 : decode mt_M_power.2.1 3 = .ok (.istore_n 3, 1) := by decide +kernel
theorem d_M_power_4 : decode mt_M_power.2.1 4 = .ok (.iload_n 3, 1) := by decide +kernel
theorem d_M_power_5 : decode mt_M_power.2.1 5 = .ok (.iload_n 1, 1) := by decide +kernel
theorem d_M_power_6 : decode mt_M_power.2.1 6 = .ok (.if_icmp .ge 13, 3) := by decide +kernel
theorem d_M_power_9 : decode mt_M_power.2.1 9 = .ok (.iload_n 2, 1) := by decide +kernel
theorem d_M_power_10 : decode mt_M_power.2.1 10 = .ok (.iload_n 0, 1) := by decide +kernel
theorem d_M_power_11 : decode mt_M_power.2.1 11 = .ok (.imul, 1) := by decide +kernel
theorem d_M_power_12 : decode mt_M_power.2.1 12 = .ok (.istore_n 2, 1) := by decide +kernel
theorem d_M_power_13 : decode mt_M_power.2.1 13 = .ok (.iinc 3 1, 3) := by decide +kernel
theorem d_M_power_16 : decode mt_M_power.2.1 16 = .ok (.goto (-12), 3) := by decide +kernel
theorem d_M_power_19 : decode mt_M_power.2.1 19 = .ok (.iload_n 2, 1) := by decide +kernel
theorem d_M_power_20 : decode mt_M_power.2.1 20 = .ok (.ireturn, 1) := by decide +kernel
theorem d_M_seed_0 : decode mt_M_seed.2.1 0 = .ok (.aload_n 0, 1) := by decide +kernel
theorem d_M_seed_1 : decode mt_M_seed.2.1 1 = .ok (.iconst 0, 1) := by decide +kernel
theorem d_M_seed_2 : decode mt_M_seed.2.1 2 = .ok (.putfield 75, 3) := by decide +kernel
theorem d_M_seed_5 : decode mt_M_seed.2.1 5 = .ok (.aload_n 0, 1) := by decide +kernel
theorem d_M_seed_6 : decode mt_M_seed.2.1 6 = .ok (.getfield 288, 3) := by decide +kernel
theorem d_M_seed_9 : decode mt_M_seed.2.1 9 = .ok (.lstore_n 3, 1) := by decide +kernel
theorem d_M_seed_10 : decode mt_M_seed.2.1 10 = .ok (.aload_n 0, 1) := by decide +kernel
theorem d_M_seed_11 : decode mt_M_seed.2.1 11 = .ok (.lload_n 1, 1) := by decide +kernel
theorem d_M_seed_12 : decode mt_M_seed.2.1 12 = .ok (.putfield 288, 3) := by decide +kernel
theorem d_M_seed_15 : decode mt_M_seed.2.1 15 = .ok (.lload_n 3, 1) := by decide +kernel
theorem d_M_seed_16 : decode mt_M_seed.2.1 16 = .ok (.lreturn, 1) := by decide +kernel
theorem d_M_drawn_0 : decode mt_M_drawn.2.1 0 = .ok (.aload_n 0, 1) := by decide +kernel
theorem d_M_drawn_1 : decode mt_M_drawn.2.1 1 = .ok (.iconst 0, 1) := by decide +kernel
theorem d_M_drawn_2 : decode mt_M_drawn.2.1 2 = .ok (.putfield 75, 3) := by decide +kernel
theorem d_M_drawn_5 : decode mt_M_drawn.2.1 5 = .ok (.iload_n 1, 1) := by decide +kernel
theorem d_M_drawn_6 : decode mt_M_drawn.2.1 6 = .ok (.i2l, 1) := by decide +kernel
theorem d_M_drawn_7 : decode mt_M_drawn.2.1 7 = .ok (.lconst 1, 1) := by decide +kernel
theorem d_M_drawn_8 : decode mt_M_drawn.2.1 8 = .ok (.ldc2_w 292, 3) := by decide +kernel
theorem d_M_drawn_11 : decode mt_M_drawn.2.1 11 = .ok (.invokestatic 81, 3) := by decide +kernel
theorem d_M_drawn_14 : decode mt_M_drawn.2.1 14 = .ok (.ifCond .ne 6, 3) := by decide +kernel
theorem d_M_drawn_17 : decode mt_M_drawn.2.1 17 = .ok (.bipush (-2), 2) := by decide +kernel
theorem d_M_drawn_19 : decode mt_M_drawn.2.1 19 = .ok (.ireturn, 1) := by decide +kernel
theorem d_M_drawn_20 : decode mt_M_drawn.2.1 20 = .ok (.aload_n 0, 1) := by decide +kernel
theorem d_M_drawn_21 : decode mt_M_drawn.2.1 21 = .ok (.getfield 46, 3) := by decide +kernel
theorem d_M_drawn_24 : decode mt_M_drawn.2.1 24 = .ok (.aload_n 0, 1) := by decide +kernel
theorem d_M_drawn_25 : decode mt_M_drawn.2.1 25 = .ok (.getfield 40, 3) := by decide +kernel
theorem d_M_drawn_28 : decode mt_M_drawn.2.1 28 = .ok (.invokestatic 131, 3) := by decide +kernel
theorem d_M_drawn_31 : decode mt_M_drawn.2.1 31 = .ok (.iconst 0, 1) := by decide +kernel
theorem d_M_drawn_32 : decode mt_M_drawn.2.1 32 = .ok (.istore_n 2, 1) := by decide +kernel
theorem d_M_drawn_33 : decode mt_M_drawn.2.1 33 = .ok (.iconst 0, 1) := by decide +kernel
theorem d_M_drawn_34 : decode mt_M_drawn.2.1 34 = .ok (.istore_n 3, 1) := by decide +kernel
theorem d_M_drawn_35 : decode mt_M_drawn.2.1 35 = .ok (.iload_n 3, 1) := by decide +kernel
theorem d_M_drawn_36 : decode mt_M_drawn.2.1 36 = .ok (.iload_n 1, 1) := by decide +kernel
theorem d_M_drawn_37 : decode mt_M_drawn.2.1 37 = .ok (.if_icmp .ge 101, 3) := by decide +kernel
theorem d_M_drawn_40 : decode mt_M_drawn.2.1 40 = .ok (.aload_n 0, 1) := by decide +kernel
theorem d_M_drawn_41 : decode mt_M_drawn.2.1 41 = .ok (.aload_n 0, 1) := by decide +kernel
theorem d_M_drawn_42 : decode mt_M_drawn.2.1 42 = .ok (.getfield 288, 3) := by decide +kernel
theorem d_M_drawn_45 : decode mt_M_drawn.2.1 45 = .ok (.ldc2_w 294, 3) := by decide +kernel
theorem d_M_drawn_48 : decode mt_M_drawn.2.1 48 = .ok (.lmul, 1) := by decide +kernel
theorem d_M_drawn_49 : decode mt_M_drawn.2.1 49 = .ok (.ldc2_w 296, 3) := by decide +kernel
theorem d_M_drawn_52 : decode mt_M_drawn.2.1 52 = .ok (.ladd, 1) := by decide +kernel
theorem d_M_drawn_53 : decode mt_M_drawn.2.1 53 = .ok (.putfield 288, 3) := by decide +kernel
theorem d_M_drawn_56 : decode mt_M_drawn.2.1 56 = .ok (.aload_n 0, 1) := by decide +kernel
theorem d_M_drawn_57 : decode mt_M_drawn.2.1 57 = .ok (.getfield 288, 3) := by decide +kernel
theorem d_M_drawn_60 : decode mt_M_drawn.2.1 60 = .ok (.bipush 33, 2) := by decide +kernel
theorem d_M_drawn_62 : decode mt_M_drawn.2.1 62 = .ok (.lushr, 1) := by decide +kernel
theorem d_M_drawn_63 : decode mt_M_drawn.2.1 63 = .ok (.l2i, 1) := by decide +kernel
theorem d_M_drawn_64 : decode mt_M_drawn.2.1 64 = .ok (.istore 4, 2) := by decide +kernel
theorem d_M_drawn_66 : decode mt_M_drawn.2.1 66 = .ok (.aload_n 0, 1) := by decide +kernel
theorem d_M_drawn_67 : decode mt_M_drawn.2.1 67 = .ok (.getfield 78, 3) := by decide +kernel
theorem d_M_drawn_70 : decode mt_M_drawn.2.1 70 = .ok (.ifCond .le 62, 3) := by decide +kernel
theorem d_M_drawn_73 : decode mt_M_drawn.2.1 73 = .ok (.aload_n 0, 1) := by decide +kernel
theorem d_M_drawn_74 : decode mt_M_drawn.2.1 74 = .ok (.getfield 46, 3) := by decide +kernel
theorem d_M_drawn_77 : decode mt_M_drawn.2.1 77 = .ok (.bipush 80, 2) := by decide +kernel
theorem d_M_drawn_79 : decode mt_M_drawn.2.1 79 = .ok (.iaload, 1) := by decide +kernel
theorem d_M_drawn_80 : decode mt_M_drawn.2.1 80 = .ok (.bipush 8, 2) := by decide +kernel
theorem d_M_drawn_82 : decode mt_M_drawn.2.1 82 = .ok (.if_icmp .ge 25, 3) := by decide +kernel
theorem d_M_drawn_85 : decode mt_M_drawn.2.1 85 = .ok (.aload_n 0, 1) := by decide +kernel
theorem d_M_drawn_86 : decode mt_M_drawn.2.1 86 = .ok (.getfield 46, 3) := by decide +kernel
theorem d_M_drawn_89 : decode mt_M_drawn.2.1 89 = .ok (.iload 4, 2) := by decide +kernel
theorem d_M_drawn_91 : decode mt_M_drawn.2.1 91 = .ok (.iconst 3, 1) := by decide +kernel
theorem d_M_drawn_92 : decode mt_M_drawn.2.1 92 = .ok (.irem, 1) := by decide +kernel
theorem d_M_drawn_93 : decode mt_M_drawn.2.1 93 = .ok (.iload 4, 2) := by decide +kernel
theorem d_M_drawn_95 : decode mt_M_drawn.2.1 95 = .ok (.iconst 4, 1) := by decide +kernel
theorem d_M_drawn_96 : decode mt_M_drawn.2.1 96 = .ok (.idiv, 1) := by decide +kernel
theorem d_M_drawn_97 : decode mt_M_drawn.2.1 97 = .ok (.aload_n 0, 1) := by decide +kernel
theorem d_M_drawn_98 : decode mt_M_drawn.2.1 98 = .ok (.getfield 78, 3) := by decide +kernel
theorem d_M_drawn_101 : decode mt_M_drawn.2.1 101 = .ok (.irem, 1) := by decide +kernel
theorem d_M_drawn_102 : decode mt_M_drawn.2.1 102 = .ok (.iconst 0, 1) := by decide +kernel
theorem d_M_drawn_103 : decode mt_M_drawn.2.1 103 = .ok (.iconst 0, 1) := by decide +kernel
theorem d_M_drawn_104 : decode mt_M_drawn.2.1 104 = .ok (.invokestatic 240, 3) := by decide +kernel
theorem d_M_drawn_107 : decode mt_M_drawn.2.1 107 = .ok (.aload_n 0, 1) := by decide +kernel
theorem d_M_drawn_108 : decode mt_M_drawn.2.1 108 = .ok (.aload_n 0, 1) := by decide +kernel
theorem d_M_drawn_109 : decode mt_M_drawn.2.1 109 = .ok (.getfield 46, 3) := by decide +kernel
theorem d_M_drawn_112 : decode mt_M_drawn.2.1 112 = .ok (.invokevirtual 199, 3) := by decide +kernel
theorem d_M_drawn_115 : decode mt_M_drawn.2.1 115 = .ok (.iload_n 2, 1) := by decide +kernel
theorem d_M_drawn_116 : decode mt_M_drawn.2.1 116 = .ok (.aload_n 0, 1) := by decide +kernel
theorem d_M_drawn_117 : decode mt_M_drawn.2.1 117 = .ok (.getfield 46, 3) := by decide +kernel
theorem d_M_drawn_120 : decode mt_M_drawn.2.1 120 = .ok (.aload_n 0, 1) := by decide +kernel
theorem d_M_drawn_121 : decode mt_M_drawn.2.1 121 = .ok (.getfield 78, 3) := by decide +kernel
theorem d_M_drawn_124 : decode mt_M_drawn.2.1 124 = .ok (.invokestatic 189, 3) := by decide +kernel
theorem d_M_drawn_127 : decode mt_M_drawn.2.1 127 = .ok (.invokestatic 229, 3) := by decide +kernel
theorem d_M_drawn_130 : decode mt_M_drawn.2.1 130 = .ok (.iadd, 1) := by decide +kernel
theorem d_M_drawn_131 : decode mt_M_drawn.2.1 131 = .ok (.istore_n 2, 1) := by decide +kernel
theorem d_M_drawn_132 : decode mt_M_drawn.2.1 132 = .ok (.iinc 3 1, 3) := by decide +kernel
theorem d_M_drawn_135 : decode mt_M_drawn.2.1 135 = .ok (.goto (-100), 3) := by decide +kernel
theorem d_M_drawn_138 : decode mt_M_drawn.2.1 138 = .ok (.iload_n 2, 1) := by decide +kernel
theorem d_M_drawn_139 : decode mt_M_drawn.2.1 139 = .ok (.ireturn, 1) := by decide +kernel
theorem d_M_keep_0 : decode mt_M_keep.2.1 0 = .ok (.aload_n 0, 1) := by decide +kernel
theorem d_M_keep_1 : decode mt_M_keep.2.1 1 = .ok (.iconst 0, 1) := by decide +kernel
theorem d_M_keep_2 : decode mt_M_keep.2.1 2 = .ok (.putfield 75, 3) := by decide +kernel
theorem d_M_keep_5 : decode mt_M_keep.2.1 5 = .ok (.iload_n 1, 1) := by decide +kernel
theorem d_M_keep_6 : decode mt_M_keep.2.1 6 = .ok (.i2l, 1) := by decide +kernel
theorem d_M_keep_7 : decode mt_M_keep.2.1 7 = .ok (.lconst 0, 1) := by decide +kernel
theorem d_M_keep_8 : decode mt_M_keep.2.1 8 = .ok (.lconst 1, 1) := by decide +kernel
theorem d_M_keep_9 : decode mt_M_keep.2.1 9 = .ok (.invokestatic 81, 3) := by decide +kernel
theorem d_M_keep_12 : decode mt_M_keep.2.1 12 = .ok (.ifCond .ne 5, 3) := by decide +kernel
theorem d_M_keep_15 : decode mt_M_keep.2.1 15 = .ok (.iconst (-1), 1) := by decide +kernel
theorem d_M_keep_16 : decode mt_M_keep.2.1 16 = .ok (.ireturn, 1) := by decide +kernel
theorem d_M_keep_17 : decode mt_M_keep.2.1 17 = .ok (.aload_n 0, 1) := by decide +kernel
theorem d_M_keep_18 : decode mt_M_keep.2.1 18 = .ok (.getfield 55, 3) := by decide +kernel
theorem d_M_keep_21 : decode mt_M_keep.2.1 21 = .ok (.iload_n 1, 1) := by decide +kernel
theorem d_M_keep_22 : decode mt_M_keep.2.1 22 = .ok (.iconst 1, 1) := by decide +kernel
theorem d_M_keep_23 : decode mt_M_keep.2.1 23 = .ok (.bastore, 1) := by decide +kernel
theorem d_M_keep_24 : decode mt_M_keep.2.1 24 = .ok (.iconst 0, 1) := by decide +kernel
theorem d_M_keep_25 : decode mt_M_keep.2.1 25 = .ok (.istore_n 2, 1) := by decide +kernel
theorem d_M_keep_26 : decode mt_M_keep.2.1 26 = .ok (.iload_n 2, 1) := by decide +kernel
theorem d_M_keep_27 : decode mt_M_keep.2.1 27 = .ok (.sipush 165, 3) := by decide +kernel
theorem d_M_keep_30 : decode mt_M_keep.2.1 30 = .ok (.if_icmp .ge 27, 3) := by decide +kernel
theorem d_M_keep_33 : decode mt_M_keep.2.1 33 = .ok (.aload_n 0, 1) := by decide +kernel
theorem d_M_keep_34 : decode mt_M_keep.2.1 34 = .ok (.getfield 52, 3) := by decide +kernel
theorem d_M_keep_37 : decode mt_M_keep.2.1 37 = .ok (.sipush 165, 3) := by decide +kernel
theorem d_M_keep_40 : decode mt_M_keep.2.1 40 = .ok (.iload_n 1, 1) := by decide +kernel
theorem d_M_keep_41 : decode mt_M_keep.2.1 41 = .ok (.imul, 1) := by decide +kernel
theorem d_M_keep_42 : decode mt_M_keep.2.1 42 = .ok (.iload_n 2, 1) := by decide +kernel
theorem d_M_keep_43 : decode mt_M_keep.2.1 43 = .ok (.iadd, 1) := by decide +kernel
theorem d_M_keep_44 : decode mt_M_keep.2.1 44 = .ok (.aload_n 0, 1) := by decide +kernel
theorem d_M_keep_45 : decode mt_M_keep.2.1 45 = .ok (.getfield 40, 3) := by decide +kernel
theorem d_M_keep_48 : decode mt_M_keep.2.1 48 = .ok (.iload_n 2, 1) := by decide +kernel
theorem d_M_keep_49 : decode mt_M_keep.2.1 49 = .ok (.iaload, 1) := by decide +kernel
theorem d_M_keep_50 : decode mt_M_keep.2.1 50 = .ok (.iastore, 1) := by decide +kernel
theorem d_M_keep_51 : decode mt_M_keep.2.1 51 = .ok (.iinc 2 1, 3) := by decide +kernel
theorem d_M_keep_54 : decode mt_M_keep.2.1 54 = .ok (.goto (-28), 3) := by decide +kernel
theorem d_M_keep_57 : decode mt_M_keep.2.1 57 = .ok (.aload_n 0, 1) := by decide +kernel
theorem d_M_keep_58 : decode mt_M_keep.2.1 58 = .ok (.getfield 78, 3) := by decide +kernel
theorem d_M_keep_61 : decode mt_M_keep.2.1 61 = .ok (.ireturn, 1) := by decide +kernel
theorem d_M_again_0 : decode mt_M_again.2.1 0 = .ok (.aload_n 0, 1) := by decide +kernel
theorem d_M_again_1 : decode mt_M_again.2.1 1 = .ok (.iconst 0, 1) := by decide +kernel
theorem d_M_again_2 : decode mt_M_again.2.1 2 = .ok (.putfield 75, 3) := by decide +kernel
theorem d_M_again_5 : decode mt_M_again.2.1 5 = .ok (.iload_n 1, 1) := by decide +kernel
theorem d_M_again_6 : decode mt_M_again.2.1 6 = .ok (.i2l, 1) := by decide +kernel
theorem d_M_again_7 : decode mt_M_again.2.1 7 = .ok (.lconst 0, 1) := by decide +kernel
theorem d_M_again_8 : decode mt_M_again.2.1 8 = .ok (.lconst 1, 1) := by decide +kernel
theorem d_M_again_9 : decode mt_M_again.2.1 9 = .ok (.invokestatic 81, 3) := by decide +kernel
theorem d_M_again_12 : decode mt_M_again.2.1 12 = .ok (.ifCond .ne 5, 3) := by decide +kernel
theorem d_M_again_15 : decode mt_M_again.2.1 15 = .ok (.iconst (-1), 1) := by decide +kernel
theorem d_M_again_16 : decode mt_M_again.2.1 16 = .ok (.ireturn, 1) := by decide +kernel
theorem d_M_again_17 : decode mt_M_again.2.1 17 = .ok (.aload_n 0, 1) := by decide +kernel
theorem d_M_again_18 : decode mt_M_again.2.1 18 = .ok (.getfield 55, 3) := by decide +kernel
theorem d_M_again_21 : decode mt_M_again.2.1 21 = .ok (.iload_n 1, 1) := by decide +kernel
theorem d_M_again_22 : decode mt_M_again.2.1 22 = .ok (.baload, 1) := by decide +kernel
theorem d_M_again_23 : decode mt_M_again.2.1 23 = .ok (.ifCond .ne 6, 3) := by decide +kernel
theorem d_M_again_26 : decode mt_M_again.2.1 26 = .ok (.bipush (-3), 2) := by decide +kernel
theorem d_M_again_28 : decode mt_M_again.2.1 28 = .ok (.ireturn, 1) := by decide +kernel
theorem d_M_again_29 : decode mt_M_again.2.1 29 = .ok (.iconst 0, 1) := by decide +kernel
theorem d_M_again_30 : decode mt_M_again.2.1 30 = .ok (.istore_n 2, 1) := by decide +kernel
theorem d_M_again_31 : decode mt_M_again.2.1 31 = .ok (.iload_n 2, 1) := by decide +kernel
theorem d_M_again_32 : decode mt_M_again.2.1 32 = .ok (.sipush 165, 3) := by decide +kernel
theorem d_M_again_35 : decode mt_M_again.2.1 35 = .ok (.if_icmp .ge 27, 3) := by decide +kernel
theorem d_M_again_38 : decode mt_M_again.2.1 38 = .ok (.aload_n 0, 1) := by decide +kernel
theorem d_M_again_39 : decode mt_M_again.2.1 39 = .ok (.getfield 40, 3) := by decide +kernel
theorem d_M_again_42 : decode mt_M_again.2.1 42 = .ok (.iload_n 2, 1) := by decide +kernel
theorem d_M_again_43 : decode mt_M_again.2.1 43 = .ok (.aload_n 0, 1) := by decide +kernel
theorem d_M_again_44 : decode mt_M_again.2.1 44 = .ok (.getfield 52, 3) := by decide +kernel
theorem d_M_again_47 : decode mt_M_again.2.1 47 = .ok (.sipush 165, 3) := by decide +kernel
theorem d_M_again_50 : decode mt_M_again.2.1 50 = .ok (.iload_n 1, 1) := by decide +kernel
theorem d_M_again_51 : decode mt_M_again.2.1 51 = .ok (.imul, 1) := by decide +kernel
theorem d_M_again_52 : decode mt_M_again.2.1 52 = .ok (.iload_n 2, 1) := by decide +kernel
theorem d_M_again_53 : decode mt_M_again.2.1 53 = .ok (.iadd, 1) := by decide +kernel
theorem d_M_again_54 : decode mt_M_again.2.1 54 = .ok (.iaload, 1) := by decide +kernel
theorem d_M_again_55 : decode mt_M_again.2.1 55 = .ok (.iastore, 1) := by decide +kernel
theorem d_M_again_56 : decode mt_M_again.2.1 56 = .ok (.iinc 2 1, 3) := by decide +kernel
theorem d_M_again_59 : decode mt_M_again.2.1 59 = .ok (.goto (-28), 3) := by decide +kernel
theorem d_M_again_62 : decode mt_M_again.2.1 62 = .ok (.aload_n 0, 1) := by decide +kernel
theorem d_M_again_63 : decode mt_M_again.2.1 63 = .ok (.iconst 0, 1) := by decide +kernel
theorem d_M_again_64 : decode mt_M_again.2.1 64 = .ok (.putfield 141, 3) := by decide +kernel
theorem d_M_again_67 : decode mt_M_again.2.1 67 = .ok (.aload_n 0, 1) := by decide +kernel
theorem d_M_again_68 : decode mt_M_again.2.1 68 = .ok (.getfield 78, 3) := by decide +kernel
theorem d_M_again_71 : decode mt_M_again.2.1 71 = .ok (.ireturn, 1) := by decide +kernel
theorem d_M_count_0 : decode mt_M_count.2.1 0 = .ok (.aload_n 0, 1) := by decide +kernel
theorem d_M_count_1 : decode mt_M_count.2.1 1 = .ok (.iconst 0, 1) := by decide +kernel
theorem d_M_count_2 : decode mt_M_count.2.1 2 = .ok (.putfield 75, 3) := by decide +kernel
theorem d_M_count_5 : decode mt_M_count.2.1 5 = .ok (.iload_n 1, 1) := by decide +kernel
theorem d_M_count_6 : decode mt_M_count.2.1 6 = .ok (.tableswitch 141 0 11 #[62, 67, 72, 77, 82, 94, 102, 110, 118, 118, 131, 136], 62) := by decide +kernel
theorem d_M_count_68 : decode mt_M_count.2.1 68 = .ok (.aload_n 0, 1) := by decide +kernel
theorem d_M_count_69 : decode mt_M_count.2.1 69 = .ok (.getfield 87, 3) := by decide +kernel
theorem d_M_count_72 : decode mt_M_count.2.1 72 = .ok (.ireturn, 1) := by decide +kernel
theorem d_M_count_73 : decode mt_M_count.2.1 73 = .ok (.aload_n 0, 1) := by decide +kernel
theorem d_M_count_74 : decode mt_M_count.2.1 74 = .ok (.getfield 135, 3) := by decide +kernel
theorem d_M_count_77 : decode mt_M_count.2.1 77 = .ok (.ireturn, 1) := by decide +kernel
theorem d_M_count_78 : decode mt_M_count.2.1 78 = .ok (.aload_n 0, 1) := by decide +kernel
theorem d_M_count_79 : decode mt_M_count.2.1 79 = .ok (.getfield 78, 3) := by decide +kernel
theorem d_M_count_82 : decode mt_M_count.2.1 82 = .ok (.ireturn, 1) := by decide +kernel
theorem d_M_count_83 : decode mt_M_count.2.1 83 = .ok (.aload_n 0, 1) := by decide +kernel
theorem d_M_count_84 : decode mt_M_count.2.1 84 = .ok (.getfield 138, 3) := by decide +kernel
theorem d_M_count_87 : decode mt_M_count.2.1 87 = .ok (.ireturn, 1) := by decide +kernel
theorem d_M_count_88 : decode mt_M_count.2.1 88 = .ok (.aload_n 0, 1) := by decide +kernel
theorem d_M_count_89 : decode mt_M_count.2.1 89 = .ok (.getfield 40, 3) := by decide +kernel
theorem d_M_count_92 : decode mt_M_count.2.1 92 = .ok (.aload_n 0, 1) := by decide +kernel
theorem d_M_count_93 : decode mt_M_count.2.1 93 = .ok (.getfield 78, 3) := by decide +kernel
theorem d_M_count_96 : decode mt_M_count.2.1 96 = .ok (.invokestatic 189, 3) := by decide +kernel
theorem d_M_count_99 : decode mt_M_count.2.1 99 = .ok (.ireturn, 1) := by decide +kernel
theorem d_M_count_100 : decode mt_M_count.2.1 100 = .ok (.aload_n 0, 1) := by decide +kernel
theorem d_M_count_101 : decode mt_M_count.2.1 101 = .ok (.getfield 40, 3) := by decide +kernel
theorem d_M_count_104 : decode mt_M_count.2.1 104 = .ok (.bipush 80, 2) := by decide +kernel
theorem d_M_count_106 : decode mt_M_count.2.1 106 = .ok (.iaload, 1) := by decide +kernel
theorem d_M_count_107 : decode mt_M_count.2.1 107 = .ok (.ireturn, 1) := by decide +kernel
theorem d_M_count_108 : decode mt_M_count.2.1 108 = .ok (.aload_n 0, 1) := by decide +kernel
theorem d_M_count_109 : decode mt_M_count.2.1 109 = .ok (.getfield 40, 3) := by decide +kernel
theorem d_M_count_112 : decode mt_M_count.2.1 112 = .ok (.bipush 76, 2) := by decide +kernel
theorem d_M_count_114 : decode mt_M_count.2.1 114 = .ok (.iaload, 1) := by decide +kernel
theorem d_M_count_115 : decode mt_M_count.2.1 115 = .ok (.ireturn, 1) := by decide +kernel
theorem d_M_count_116 : decode mt_M_count.2.1 116 = .ok (.aload_n 0, 1) := by decide +kernel
theorem d_M_count_117 : decode mt_M_count.2.1 117 = .ok (.getfield 40, 3) := by decide +kernel
theorem d_M_count_120 : decode mt_M_count.2.1 120 = .ok (.bipush 77, 2) := by decide +kernel
theorem d_M_count_122 : decode mt_M_count.2.1 122 = .ok (.iaload, 1) := by decide +kernel
theorem d_M_count_123 : decode mt_M_count.2.1 123 = .ok (.ireturn, 1) := by decide +kernel
theorem d_M_count_124 : decode mt_M_count.2.1 124 = .ok (.aload_n 0, 1) := by decide +kernel
theorem d_M_count_125 : decode mt_M_count.2.1 125 = .ok (.getfield 40, 3) := by decide +kernel
theorem d_M_count_128 : decode mt_M_count.2.1 128 = .ok (.bipush 78, 2) := by decide +kernel
theorem d_M_count_130 : decode mt_M_count.2.1 130 = .ok (.iload_n 1, 1) := by decide +kernel
theorem d_M_count_131 : decode mt_M_count.2.1 131 = .ok (.iadd, 1) := by decide +kernel
theorem d_M_count_132 : decode mt_M_count.2.1 132 = .ok (.bipush 8, 2) := by decide +kernel
theorem d_M_count_134 : decode mt_M_count.2.1 134 = .ok (.isub, 1) := by decide +kernel
theorem d_M_count_135 : decode mt_M_count.2.1 135 = .ok (.iaload, 1) := by decide +kernel
theorem d_M_count_136 : decode mt_M_count.2.1 136 = .ok (.ireturn, 1) := by decide +kernel
theorem d_M_count_137 : decode mt_M_count.2.1 137 = .ok (.aload_n 0, 1) := by decide +kernel
theorem d_M_count_138 : decode mt_M_count.2.1 138 = .ok (.getfield 141, 3) := by decide +kernel
theorem d_M_count_141 : decode mt_M_count.2.1 141 = .ok (.ireturn, 1) := by decide +kernel
theorem d_M_count_142 : decode mt_M_count.2.1 142 = .ok (.aload_n 0, 1) := by decide +kernel
theorem d_M_count_143 : decode mt_M_count.2.1 143 = .ok (.getfield 269, 3) := by decide +kernel
theorem d_M_count_146 : decode mt_M_count.2.1 146 = .ok (.ireturn, 1) := by decide +kernel
theorem d_M_count_147 : decode mt_M_count.2.1 147 = .ok (.bipush (-2), 2) := by decide +kernel
theorem d_M_count_149 : decode mt_M_count.2.1 149 = .ok (.ireturn, 1) := by decide +kernel
theorem d_L_law_0 : decode mt_L_law.2.1 0 = .ok (.new 7, 3) := by decide +kernel
theorem d_L_law_3 : decode mt_L_law.2.1 3 = .ok (.dup, 1) := by decide +kernel
theorem d_L_law_4 : decode mt_L_law.2.1 4 = .ok (.invokespecial 9, 3) := by decide +kernel
theorem d_L_law_7 : decode mt_L_law.2.1 7 = .ok (.astore_n 1, 1) := by decide +kernel
theorem d_L_law_8 : decode mt_L_law.2.1 8 = .ok (.new 10, 3) := by decide +kernel
theorem d_L_law_11 : decode mt_L_law.2.1 11 = .ok (.dup, 1) := by decide +kernel
theorem d_L_law_12 : decode mt_L_law.2.1 12 = .ok (.invokespecial 12, 3) := by decide +kernel
theorem d_L_law_15 : decode mt_L_law.2.1 15 = .ok (.astore_n 2, 1) := by decide +kernel
theorem d_L_law_16 : decode mt_L_law.2.1 16 = .ok (.iconst 0, 1) := by decide +kernel
theorem d_L_law_17 : decode mt_L_law.2.1 17 = .ok (.istore_n 3, 1) := by decide +kernel
theorem d_L_law_18 : decode mt_L_law.2.1 18 = .ok (.iload_n 3, 1) := by decide +kernel
theorem d_L_law_19 : decode mt_L_law.2.1 19 = .ok (.aload_n 0, 1) := by decide +kernel
theorem d_L_law_20 : decode mt_L_law.2.1 20 = .ok (.arraylength, 1) := by decide +kernel
theorem d_L_law_21 : decode mt_L_law.2.1 21 = .ok (.bipush 7, 2) := by decide +kernel
theorem d_L_law_23 : decode mt_L_law.2.1 23 = .ok (.isub, 1) := by decide +kernel
theorem d_L_law_24 : decode mt_L_law.2.1 24 = .ok (.if_icmp .gt 1098, 3) := by decide +kernel
theorem d_L_law_27 : decode mt_L_law.2.1 27 = .ok (.aload_n 0, 1) := by decide +kernel
theorem d_L_law_28 : decode mt_L_law.2.1 28 = .ok (.iload_n 3, 1) := by decide +kernel
theorem d_L_law_29 : decode mt_L_law.2.1 29 = .ok (.iaload, 1) := by decide +kernel
theorem d_L_law_30 : decode mt_L_law.2.1 30 = .ok (.bipush 31, 2) := by decide +kernel
theorem d_L_law_32 : decode mt_L_law.2.1 32 = .ok (.iand, 1) := by decide +kernel
theorem d_L_law_33 : decode mt_L_law.2.1 33 = .ok (.tableswitch 1083 0 30 #[139, 162, 175, 188, 201, 234, 267, 290, 323, 346, 399, 490, 523, 536, 569, 582, 625, 648, 671, 694, 707, 770, 813, 826, 839, 888, 937, 991, 1014, 1037, 1060], 139) := by decide +kernel
theorem d_L_law_172 : decode mt_L_law.2.1 172 = .ok (.aload_n 1, 1) := by decide +kernel
theorem d_L_law_173 : decode mt_L_law.2.1 173 = .ok (.aload_n 0, 1) := by decide +kernel
theorem d_L_law_174 : decode mt_L_law.2.1 174 = .ok (.iload_n 3, 1) := by decide +kernel
theorem d_L_law_175 : decode mt_L_law.2.1 175 = .ok (.iconst 1, 1) := by decide +kernel
theorem d_L_law_176 : decode mt_L_law.2.1 176 = .ok (.iadd, 1) := by decide +kernel
theorem d_L_law_177 : decode mt_L_law.2.1 177 = .ok (.iaload, 1) := by decide +kernel
theorem d_L_law_178 : decode mt_L_law.2.1 178 = .ok (.invokevirtual 13, 3) := by decide +kernel
theorem d_L_law_181 : decode mt_L_law.2.1 181 = .ok (.aload_n 2, 1) := by decide +kernel
theorem d_L_law_182 : decode mt_L_law.2.1 182 = .ok (.aload_n 0, 1) := by decide +kernel
theorem d_L_law_183 : decode mt_L_law.2.1 183 = .ok (.iload_n 3, 1) := by decide +kernel
theorem d_L_law_184 : decode mt_L_law.2.1 184 = .ok (.iconst 1, 1) := by decide +kernel
theorem d_L_law_185 : decode mt_L_law.2.1 185 = .ok (.iadd, 1) := by decide +kernel
theorem d_L_law_186 : decode mt_L_law.2.1 186 = .ok (.iaload, 1) := by decide +kernel
theorem d_L_law_187 : decode mt_L_law.2.1 187 = .ok (.invokevirtual 17, 3) := by decide +kernel
theorem d_L_law_190 : decode mt_L_law.2.1 190 = .ok (.if_icmp .eq 926, 3) := by decide +kernel
theorem d_L_law_193 : decode mt_L_law.2.1 193 = .ok (.iconst 0, 1) := by decide +kernel
theorem d_L_law_194 : decode mt_L_law.2.1 194 = .ok (.ireturn, 1) := by decide +kernel
theorem d_L_law_195 : decode mt_L_law.2.1 195 = .ok (.aload_n 1, 1) := by decide +kernel
theorem d_L_law_196 : decode mt_L_law.2.1 196 = .ok (.invokevirtual 18, 3) := by decide +kernel
theorem d_L_law_199 : decode mt_L_law.2.1 199 = .ok (.aload_n 2, 1) := by decide +kernel
theorem d_L_law_200 : decode mt_L_law.2.1 200 = .ok (.invokevirtual 22, 3) := by decide +kernel
theorem d_L_law_203 : decode mt_L_law.2.1 203 = .ok (.if_icmp .eq 913, 3) := by decide +kernel
theorem d_L_law_206 : decode mt_L_law.2.1 206 = .ok (.iconst 0, 1) := by decide +kernel
theorem d_L_law_207 : decode mt_L_law.2.1 207 = .ok (.ireturn, 1) := by decide +kernel
theorem d_L_law_208 : decode mt_L_law.2.1 208 = .ok (.aload_n 1, 1) := by decide +kernel
theorem d_L_law_209 : decode mt_L_law.2.1 209 = .ok (.invokevirtual 23, 3) := by decide +kernel
theorem d_L_law_212 : decode mt_L_law.2.1 212 = .ok (.aload_n 2, 1) := by decide +kernel
theorem d_L_law_213 : decode mt_L_law.2.1 213 = .ok (.invokevirtual 26, 3) := by decide +kernel
theorem d_L_law_216 : decode mt_L_law.2.1 216 = .ok (.if_icmp .eq 900, 3) := by decide +kernel
theorem d_L_law_219 : decode mt_L_law.2.1 219 = .ok (.iconst 0, 1) := by decide +kernel
theorem d_L_law_220 : decode mt_L_law.2.1 220 = .ok (.ireturn, 1) := by decide +kernel
theorem d_L_law_221 : decode mt_L_law.2.1 221 = .ok (.aload_n 1, 1) := by decide +kernel
theorem d_L_law_222 : decode mt_L_law.2.1 222 = .ok (.invokevirtual 27, 3) := by decide +kernel
theorem d_L_law_225 : decode mt_L_law.2.1 225 = .ok (.aload_n 2, 1) := by decide +kernel
theorem d_L_law_226 : decode mt_L_law.2.1 226 = .ok (.invokevirtual 30, 3) := by decide +kernel
theorem d_L_law_229 : decode mt_L_law.2.1 229 = .ok (.if_icmp .eq 887, 3) := by decide +kernel
theorem d_L_law_232 : decode mt_L_law.2.1 232 = .ok (.iconst 0, 1) := by decide +kernel
theorem d_L_law_233 : decode mt_L_law.2.1 233 = .ok (.ireturn, 1) := by decide +kernel
theorem d_L_law_234 : decode mt_L_law.2.1 234 = .ok (.aload_n 1, 1) := by decide +kernel
theorem d_L_law_235 : decode mt_L_law.2.1 235 = .ok (.aload_n 0, 1) := by decide +kernel
theorem d_L_law_236 : decode mt_L_law.2.1 236 = .ok (.iload_n 3, 1) := by decide +kernel
theorem d_L_law_237 : decode mt_L_law.2.1 237 = .ok (.iconst 1, 1) := by decide +kernel
theorem d_L_law_238 : decode mt_L_law.2.1 238 = .ok (.iadd, 1) := by decide +kernel
theorem d_L_law_239 : decode mt_L_law.2.1 239 = .ok (.iaload, 1) := by decide +kernel
theorem d_L_law_240 : decode mt_L_law.2.1 240 = .ok (.aload_n 0, 1) := by decide +kernel
theorem d_L_law_241 : decode mt_L_law.2.1 241 = .ok (.iload_n 3, 1) := by decide +kernel
theorem d_L_law_242 : decode mt_L_law.2.1 242 = .ok (.iconst 2, 1) := by decide +kernel
theorem d_L_law_243 : decode mt_L_law.2.1 243 = .ok (.iadd, 1) := by decide +kernel
theorem d_L_law_244 : decode mt_L_law.2.1 244 = .ok (.iaload, 1) := by decide +kernel
theorem d_L_law_245 : decode mt_L_law.2.1 245 = .ok (.invokevirtual 31, 3) := by decide +kernel
theorem d_L_law_248 : decode mt_L_law.2.1 248 = .ok (.aload_n 2, 1) := by decide +kernel
theorem d_L_law_249 : decode mt_L_law.2.1 249 = .ok (.aload_n 0, 1) := by decide +kernel
theorem d_L_law_250 : decode mt_L_law.2.1 250 = .ok (.iload_n 3, 1) := by decide +kernel
theorem d_L_law_251 : decode mt_L_law.2.1 251 = .ok (.iconst 1, 1) := by decide +kernel
theorem d_L_law_252 : decode mt_L_law.2.1 252 = .ok (.iadd, 1) := by decide +kernel
theorem d_L_law_253 : decode mt_L_law.2.1 253 = .ok (.iaload, 1) := by decide +kernel
theorem d_L_law_254 : decode mt_L_law.2.1 254 = .ok (.aload_n 0, 1) := by decide +kernel
theorem d_L_law_255 : decode mt_L_law.2.1 255 = .ok (.iload_n 3, 1) := by decide +kernel
theorem d_L_law_256 : decode mt_L_law.2.1 256 = .ok (.iconst 2, 1) := by decide +kernel
theorem d_L_law_257 : decode mt_L_law.2.1 257 = .ok (.iadd, 1) := by decide +kernel
theorem d_L_law_258 : decode mt_L_law.2.1 258 = .ok (.iaload, 1) := by decide +kernel
theorem d_L_law_259 : decode mt_L_law.2.1 259 = .ok (.invokevirtual 35, 3) := by decide +kernel
theorem d_L_law_262 : decode mt_L_law.2.1 262 = .ok (.if_icmp .eq 854, 3) := by decide +kernel
theorem d_L_law_265 : decode mt_L_law.2.1 265 = .ok (.iconst 0, 1) := by decide +kernel
theorem d_L_law_266 : decode mt_L_law.2.1 266 = .ok (.ireturn, 1) := by decide +kernel
theorem d_L_law_267 : decode mt_L_law.2.1 267 = .ok (.aload_n 1, 1) := by decide +kernel
theorem d_L_law_268 : decode mt_L_law.2.1 268 = .ok (.aload_n 0, 1) := by decide +kernel
theorem d_L_law_269 : decode mt_L_law.2.1 269 = .ok (.iload_n 3, 1) := by decide +kernel
theorem d_L_law_270 : decode mt_L_law.2.1 270 = .ok (.iconst 1, 1) := by decide +kernel
theorem d_L_law_271 : decode mt_L_law.2.1 271 = .ok (.iadd, 1) := by decide +kernel
theorem d_L_law_272 : decode mt_L_law.2.1 272 = .ok (.iaload, 1) := by decide +kernel
theorem d_L_law_273 : decode mt_L_law.2.1 273 = .ok (.aload_n 0, 1) := by decide +kernel
theorem d_L_law_274 : decode mt_L_law.2.1 274 = .ok (.iload_n 3, 1) := by decide +kernel
theorem d_L_law_275 : decode mt_L_law.2.1 275 = .ok (.iconst 2, 1) := by decide +kernel
theorem d_L_law_276 : decode mt_L_law.2.1 276 = .ok (.iadd, 1) := by decide +kernel
theorem d_L_law_277 : decode mt_L_law.2.1 277 = .ok (.iaload, 1) := by decide +kernel
theorem d_L_law_278 : decode mt_L_law.2.1 278 = .ok (.invokevirtual 36, 3) := by decide +kernel
theorem d_L_law_281 : decode mt_L_law.2.1 281 = .ok (.aload_n 2, 1) := by decide +kernel
theorem d_L_law_282 : decode mt_L_law.2.1 282 = .ok (.aload_n 0, 1) := by decide +kernel
theorem d_L_law_283 : decode mt_L_law.2.1 283 = .ok (.iload_n 3, 1) := by decide +kernel
theorem d_L_law_284 : decode mt_L_law.2.1 284 = .ok (.iconst 1, 1) := by decide +kernel
theorem d_L_law_285 : decode mt_L_law.2.1 285 = .ok (.iadd, 1) := by decide +kernel
theorem d_L_law_286 : decode mt_L_law.2.1 286 = .ok (.iaload, 1) := by decide +kernel
theorem d_L_law_287 : decode mt_L_law.2.1 287 = .ok (.aload_n 0, 1) := by decide +kernel
theorem d_L_law_288 : decode mt_L_law.2.1 288 = .ok (.iload_n 3, 1) := by decide +kernel
theorem d_L_law_289 : decode mt_L_law.2.1 289 = .ok (.iconst 2, 1) := by decide +kernel
theorem d_L_law_290 : decode mt_L_law.2.1 290 = .ok (.iadd, 1) := by decide +kernel
theorem d_L_law_291 : decode mt_L_law.2.1 291 = .ok (.iaload, 1) := by decide +kernel
theorem d_L_law_292 : decode mt_L_law.2.1 292 = .ok (.invokevirtual 39, 3) := by decide +kernel
theorem d_L_law_295 : decode mt_L_law.2.1 295 = .ok (.if_icmp .eq 821, 3) := by decide +kernel
theorem d_L_law_298 : decode mt_L_law.2.1 298 = .ok (.iconst 0, 1) := by decide +kernel
theorem d_L_law_299 : decode mt_L_law.2.1 299 = .ok (.ireturn, 1) := by decide +kernel
theorem d_L_law_300 : decode mt_L_law.2.1 300 = .ok (.aload_n 1, 1) := by decide +kernel
theorem d_L_law_301 : decode mt_L_law.2.1 301 = .ok (.aload_n 0, 1) := by decide +kernel
theorem d_L_law_302 : decode mt_L_law.2.1 302 = .ok (.iload_n 3, 1) := by decide +kernel
theorem d_L_law_303 : decode mt_L_law.2.1 303 = .ok (.iconst 1, 1) := by decide +kernel
theorem d_L_law_304 : decode mt_L_law.2.1 304 = .ok (.iadd, 1) := by decide +kernel
theorem d_L_law_305 : decode mt_L_law.2.1 305 = .ok (.iaload, 1) := by decide +kernel
theorem d_L_law_306 : decode mt_L_law.2.1 306 = .ok (.invokevirtual 40, 3) := by decide +kernel
theorem d_L_law_309 : decode mt_L_law.2.1 309 = .ok (.aload_n 2, 1) := by decide +kernel
theorem d_L_law_310 : decode mt_L_law.2.1 310 = .ok (.aload_n 0, 1) := by decide +kernel
theorem d_L_law_311 : decode mt_L_law.2.1 311 = .ok (.iload_n 3, 1) := by decide +kernel
theorem d_L_law_312 : decode mt_L_law.2.1 312 = .ok (.iconst 1, 1) := by decide +kernel
theorem d_L_law_313 : decode mt_L_law.2.1 313 = .ok (.iadd, 1) := by decide +kernel
theorem d_L_law_314 : decode mt_L_law.2.1 314 = .ok (.iaload, 1) := by decide +kernel
theorem d_L_law_315 : decode mt_L_law.2.1 315 = .ok (.invokevirtual 43, 3) := by decide +kernel
theorem d_L_law_318 : decode mt_L_law.2.1 318 = .ok (.if_icmp .eq 798, 3) := by decide +kernel
theorem d_L_law_321 : decode mt_L_law.2.1 321 = .ok (.iconst 0, 1) := by decide +kernel
theorem d_L_law_322 : decode mt_L_law.2.1 322 = .ok (.ireturn, 1) := by decide +kernel
theorem d_L_law_323 : decode mt_L_law.2.1 323 = .ok (.aload_n 1, 1) := by decide +kernel
theorem d_L_law_324 : decode mt_L_law.2.1 324 = .ok (.aload_n 0, 1) := by decide +kernel
theorem d_L_law_325 : decode mt_L_law.2.1 325 = .ok (.iload_n 3, 1) := by decide +kernel
theorem d_L_law_326 : decode mt_L_law.2.1 326 = .ok (.iconst 1, 1) := by decide +kernel
theorem d_L_law_327 : decode mt_L_law.2.1 327 = .ok (.iadd, 1) := by decide +kernel
theorem d_L_law_328 : decode mt_L_law.2.1 328 = .ok (.iaload, 1) := by decide +kernel
theorem d_L_law_329 : decode mt_L_law.2.1 329 = .ok (.aload_n 0, 1) := by decide +kernel
theorem d_L_law_330 : decode mt_L_law.2.1 330 = .ok (.iload_n 3, 1) := by decide +kernel
theorem d_L_law_331 : decode mt_L_law.2.1 331 = .ok (.iconst 2, 1) := by decide +kernel
theorem d_L_law_332 : decode mt_L_law.2.1 332 = .ok (.iadd, 1) := by decide +kernel
theorem d_L_law_333 : decode mt_L_law.2.1 333 = .ok (.iaload, 1) := by decide +kernel
theorem d_L_law_334 : decode mt_L_law.2.1 334 = .ok (.invokevirtual 44, 3) := by decide +kernel
theorem d_L_law_337 : decode mt_L_law.2.1 337 = .ok (.aload_n 2, 1) := by decide +kernel
theorem d_L_law_338 : decode mt_L_law.2.1 338 = .ok (.aload_n 0, 1) := by decide +kernel
theorem d_L_law_339 : decode mt_L_law.2.1 339 = .ok (.iload_n 3, 1) := by decide +kernel
theorem d_L_law_340 : decode mt_L_law.2.1 340 = .ok (.iconst 1, 1) := by decide +kernel
theorem d_L_law_341 : decode mt_L_law.2.1 341 = .ok (.iadd, 1) := by decide +kernel
theorem d_L_law_342 : decode mt_L_law.2.1 342 = .ok (.iaload, 1) := by decide +kernel
theorem d_L_law_343 : decode mt_L_law.2.1 343 = .ok (.aload_n 0, 1) := by decide +kernel
theorem d_L_law_344 : decode mt_L_law.2.1 344 = .ok (.iload_n 3, 1) := by decide +kernel
theorem d_L_law_345 : decode mt_L_law.2.1 345 = .ok (.iconst 2, 1) := by decide +kernel
theorem d_L_law_346 : decode mt_L_law.2.1 346 = .ok (.iadd, 1) := by decide +kernel
theorem d_L_law_347 : decode mt_L_law.2.1 347 = .ok (.iaload, 1) := by decide +kernel
theorem d_L_law_348 : decode mt_L_law.2.1 348 = .ok (.invokevirtual 47, 3) := by decide +kernel
theorem d_L_law_351 : decode mt_L_law.2.1 351 = .ok (.if_icmp .eq 765, 3) := by decide +kernel
theorem d_L_law_354 : decode mt_L_law.2.1 354 = .ok (.iconst 0, 1) := by decide +kernel
theorem d_L_law_355 : decode mt_L_law.2.1 355 = .ok (.ireturn, 1) := by decide +kernel
theorem d_L_law_356 : decode mt_L_law.2.1 356 = .ok (.aload_n 1, 1) := by decide +kernel
theorem d_L_law_357 : decode mt_L_law.2.1 357 = .ok (.aload_n 0, 1) := by decide +kernel
theorem d_L_law_358 : decode mt_L_law.2.1 358 = .ok (.iload_n 3, 1) := by decide +kernel
theorem d_L_law_359 : decode mt_L_law.2.1 359 = .ok (.iconst 1, 1) := by decide +kernel
theorem d_L_law_360 : decode mt_L_law.2.1 360 = .ok (.iadd, 1) := by decide +kernel
theorem d_L_law_361 : decode mt_L_law.2.1 361 = .ok (.iaload, 1) := by decide +kernel
theorem d_L_law_362 : decode mt_L_law.2.1 362 = .ok (.invokevirtual 48, 3) := by decide +kernel
theorem d_L_law_365 : decode mt_L_law.2.1 365 = .ok (.aload_n 2, 1) := by decide +kernel
theorem d_L_law_366 : decode mt_L_law.2.1 366 = .ok (.aload_n 0, 1) := by decide +kernel
theorem d_L_law_367 : decode mt_L_law.2.1 367 = .ok (.iload_n 3, 1) := by decide +kernel
theorem d_L_law_368 : decode mt_L_law.2.1 368 = .ok (.iconst 1, 1) := by decide +kernel
theorem d_L_law_369 : decode mt_L_law.2.1 369 = .ok (.iadd, 1) := by decide +kernel
theorem d_L_law_370 : decode mt_L_law.2.1 370 = .ok (.iaload, 1) := by decide +kernel
theorem d_L_law_371 : decode mt_L_law.2.1 371 = .ok (.invokevirtual 51, 3) := by decide +kernel
theorem d_L_law_374 : decode mt_L_law.2.1 374 = .ok (.if_icmp .eq 742, 3) := by decide +kernel
theorem d_L_law_377 : decode mt_L_law.2.1 377 = .ok (.iconst 0, 1) := by decide +kernel
theorem d_L_law_378 : decode mt_L_law.2.1 378 = .ok (.ireturn, 1) := by decide +kernel
theorem d_L_law_379 : decode mt_L_law.2.1 379 = .ok (.aload_n 1, 1) := by decide +kernel
theorem d_L_law_380 : decode mt_L_law.2.1 380 = .ok (.aload_n 0, 1) := by decide +kernel
theorem d_L_law_381 : decode mt_L_law.2.1 381 = .ok (.iload_n 3, 1) := by decide +kernel
theorem d_L_law_382 : decode mt_L_law.2.1 382 = .ok (.iconst 1, 1) := by decide +kernel
theorem d_L_law_383 : decode mt_L_law.2.1 383 = .ok (.iadd, 1) := by decide +kernel
theorem d_L_law_384 : decode mt_L_law.2.1 384 = .ok (.iaload, 1) := by decide +kernel
theorem d_L_law_385 : decode mt_L_law.2.1 385 = .ok (.aload_n 0, 1) := by decide +kernel
theorem d_L_law_386 : decode mt_L_law.2.1 386 = .ok (.iload_n 3, 1) := by decide +kernel
theorem d_L_law_387 : decode mt_L_law.2.1 387 = .ok (.iconst 2, 1) := by decide +kernel
theorem d_L_law_388 : decode mt_L_law.2.1 388 = .ok (.iadd, 1) := by decide +kernel
theorem d_L_law_389 : decode mt_L_law.2.1 389 = .ok (.iaload, 1) := by decide +kernel
theorem d_L_law_390 : decode mt_L_law.2.1 390 = .ok (.aload_n 0, 1) := by decide +kernel
theorem d_L_law_391 : decode mt_L_law.2.1 391 = .ok (.iload_n 3, 1) := by decide +kernel
theorem d_L_law_392 : decode mt_L_law.2.1 392 = .ok (.iconst 3, 1) := by decide +kernel
theorem d_L_law_393 : decode mt_L_law.2.1 393 = .ok (.iadd, 1) := by decide +kernel
theorem d_L_law_394 : decode mt_L_law.2.1 394 = .ok (.iaload, 1) := by decide +kernel
theorem d_L_law_395 : decode mt_L_law.2.1 395 = .ok (.aload_n 0, 1) := by decide +kernel
theorem d_L_law_396 : decode mt_L_law.2.1 396 = .ok (.iload_n 3, 1) := by decide +kernel
theorem d_L_law_397 : decode mt_L_law.2.1 397 = .ok (.iconst 4, 1) := by decide +kernel
theorem d_L_law_398 : decode mt_L_law.2.1 398 = .ok (.iadd, 1) := by decide +kernel
theorem d_L_law_399 : decode mt_L_law.2.1 399 = .ok (.iaload, 1) := by decide +kernel
theorem d_L_law_400 : decode mt_L_law.2.1 400 = .ok (.invokevirtual 52, 3) := by decide +kernel
theorem d_L_law_403 : decode mt_L_law.2.1 403 = .ok (.aload_n 2, 1) := by decide +kernel
theorem d_L_law_404 : decode mt_L_law.2.1 404 = .ok (.aload_n 0, 1) := by decide +kernel
theorem d_L_law_405 : decode mt_L_law.2.1 405 = .ok (.iload_n 3, 1) := by decide +kernel
theorem d_L_law_406 : decode mt_L_law.2.1 406 = .ok (.iconst 1, 1) := by decide +kernel
theorem d_L_law_407 : decode mt_L_law.2.1 407 = .ok (.iadd, 1) := by decide +kernel
theorem d_L_law_408 : decode mt_L_law.2.1 408 = .ok (.iaload, 1) := by decide +kernel
theorem d_L_law_409 : decode mt_L_law.2.1 409 = .ok (.aload_n 0, 1) := by decide +kernel
theorem d_L_law_410 : decode mt_L_law.2.1 410 = .ok (.iload_n 3, 1) := by decide +kernel
theorem d_L_law_411 : decode mt_L_law.2.1 411 = .ok (.iconst 2, 1) := by decide +kernel
theorem d_L_law_412 : decode mt_L_law.2.1 412 = .ok (.iadd, 1) := by decide +kernel
theorem d_L_law_413 : decode mt_L_law.2.1 413 = .ok (.iaload, 1) := by decide +kernel
theorem d_L_law_414 : decode mt_L_law.2.1 414 = .ok (.aload_n 0, 1) := by decide +kernel
theorem d_L_law_415 : decode mt_L_law.2.1 415 = .ok (.iload_n 3, 1) := by decide +kernel
theorem d_L_law_416 : decode mt_L_law.2.1 416 = .ok (.iconst 3, 1) := by decide +kernel
theorem d_L_law_417 : decode mt_L_law.2.1 417 = .ok (.iadd, 1) := by decide +kernel
theorem d_L_law_418 : decode mt_L_law.2.1 418 = .ok (.iaload, 1) := by decide +kernel
theorem d_L_law_419 : decode mt_L_law.2.1 419 = .ok (.aload_n 0, 1) := by decide +kernel
theorem d_L_law_420 : decode mt_L_law.2.1 420 = .ok (.iload_n 3, 1) := by decide +kernel
theorem d_L_law_421 : decode mt_L_law.2.1 421 = .ok (.iconst 4, 1) := by decide +kernel
theorem d_L_law_422 : decode mt_L_law.2.1 422 = .ok (.iadd, 1) := by decide +kernel
theorem d_L_law_423 : decode mt_L_law.2.1 423 = .ok (.iaload, 1) := by decide +kernel
theorem d_L_law_424 : decode mt_L_law.2.1 424 = .ok (.invokevirtual 56, 3) := by decide +kernel
theorem d_L_law_427 : decode mt_L_law.2.1 427 = .ok (.if_icmp .eq 689, 3) := by decide +kernel
theorem d_L_law_430 : decode mt_L_law.2.1 430 = .ok (.iconst 0, 1) := by decide +kernel
theorem d_L_law_431 : decode mt_L_law.2.1 431 = .ok (.ireturn, 1) := by decide +kernel
theorem d_L_law_432 : decode mt_L_law.2.1 432 = .ok (.aload_n 1, 1) := by decide +kernel
theorem d_L_law_433 : decode mt_L_law.2.1 433 = .ok (.aload_n 0, 1) := by decide +kernel
theorem d_L_law_434 : decode mt_L_law.2.1 434 = .ok (.iload_n 3, 1) := by decide +kernel
theorem d_L_law_435 : decode mt_L_law.2.1 435 = .ok (.iconst 1, 1) := by decide +kernel
theorem d_L_law_436 : decode mt_L_law.2.1 436 = .ok (.iadd, 1) := by decide +kernel
theorem d_L_law_437 : decode mt_L_law.2.1 437 = .ok (.iaload, 1) := by decide +kernel
theorem d_L_law_438 : decode mt_L_law.2.1 438 = .ok (.aload_n 0, 1) := by decide +kernel
theorem d_L_law_439 : decode mt_L_law.2.1 439 = .ok (.iload_n 3, 1) := by decide +kernel
theorem d_L_law_440 : decode mt_L_law.2.1 440 = .ok (.iconst 2, 1) := by decide +kernel
theorem d_L_law_441 : decode mt_L_law.2.1 441 = .ok (.iadd, 1) := by decide +kernel
theorem d_L_law_442 : decode mt_L_law.2.1 442 = .ok (.iaload, 1) := by decide +kernel
theorem d_L_law_443 : decode mt_L_law.2.1 443 = .ok (.aload_n 0, 1) := by decide +kernel
theorem d_L_law_444 : decode mt_L_law.2.1 444 = .ok (.iload_n 3, 1) := by decide +kernel
theorem d_L_law_445 : decode mt_L_law.2.1 445 = .ok (.iconst 3, 1) := by decide +kernel
theorem d_L_law_446 : decode mt_L_law.2.1 446 = .ok (.iadd, 1) := by decide +kernel
theorem d_L_law_447 : decode mt_L_law.2.1 447 = .ok (.iaload, 1) := by decide +kernel
theorem d_L_law_448 : decode mt_L_law.2.1 448 = .ok (.aload_n 0, 1) := by decide +kernel
theorem d_L_law_449 : decode mt_L_law.2.1 449 = .ok (.iload_n 3, 1) := by decide +kernel
theorem d_L_law_450 : decode mt_L_law.2.1 450 = .ok (.iconst 4, 1) := by decide +kernel
theorem d_L_law_451 : decode mt_L_law.2.1 451 = .ok (.iadd, 1) := by decide +kernel
theorem d_L_law_452 : decode mt_L_law.2.1 452 = .ok (.iaload, 1) := by decide +kernel
theorem d_L_law_453 : decode mt_L_law.2.1 453 = .ok (.aload_n 0, 1) := by decide +kernel
theorem d_L_law_454 : decode mt_L_law.2.1 454 = .ok (.iload_n 3, 1) := by decide +kernel
theorem d_L_law_455 : decode mt_L_law.2.1 455 = .ok (.iconst 5, 1) := by decide +kernel
theorem d_L_law_456 : decode mt_L_law.2.1 456 = .ok (.iadd, 1) := by decide +kernel
theorem d_L_law_457 : decode mt_L_law.2.1 457 = .ok (.iaload, 1) := by decide +kernel
theorem d_L_law_458 : decode mt_L_law.2.1 458 = .ok (.aload_n 0, 1) := by decide +kernel
theorem d_L_law_459 : decode mt_L_law.2.1 459 = .ok (.iload_n 3, 1) := by decide +kernel
theorem d_L_law_460 : decode mt_L_law.2.1 460 = .ok (.bipush 6, 2) := by decide +kernel
theorem d_L_law_462 : decode mt_L_law.2.1 462 = .ok (.iadd, 1) := by decide +kernel
theorem d_L_law_463 : decode mt_L_law.2.1 463 = .ok (.iaload, 1) := by decide +kernel
theorem d_L_law_464 : decode mt_L_law.2.1 464 = .ok (.ifCond .eq 7, 3) := by decide +kernel
theorem d_L_law_467 : decode mt_L_law.2.1 467 = .ok (.iconst 1, 1) := by decide +kernel
theorem d_L_law_468 : decode mt_L_law.2.1 468 = .ok (.goto 4, 3) := by decide +kernel
theorem d_L_law_471 : decode mt_L_law.2.1 471 = .ok (.iconst 0, 1) := by decide +kernel
theorem d_L_law_472 : decode mt_L_law.2.1 472 = .ok (.invokevirtual 57, 3) := by decide +kernel
theorem d_L_law_475 : decode mt_L_law.2.1 475 = .ok (.aload_n 2, 1) := by decide +kernel
theorem d_L_law_476 : decode mt_L_law.2.1 476 = .ok (.aload_n 0, 1) := by decide +kernel
theorem d_L_law_477 : decode mt_L_law.2.1 477 = .ok (.iload_n 3, 1) := by decide +kernel
theorem d_L_law_478 : decode mt_L_law.2.1 478 = .ok (.iconst 1, 1) := by decide +kernel
theorem d_L_law_479 : decode mt_L_law.2.1 479 = .ok (.iadd, 1) := by decide +kernel
theorem d_L_law_480 : decode mt_L_law.2.1 480 = .ok (.iaload, 1) := by decide +kernel
theorem d_L_law_481 : decode mt_L_law.2.1 481 = .ok (.aload_n 0, 1) := by decide +kernel
theorem d_L_law_482 : decode mt_L_law.2.1 482 = .ok (.iload_n 3, 1) := by decide +kernel
theorem d_L_law_483 : decode mt_L_law.2.1 483 = .ok (.iconst 2, 1) := by decide +kernel
theorem d_L_law_484 : decode mt_L_law.2.1 484 = .ok (.iadd, 1) := by decide +kernel
theorem d_L_law_485 : decode mt_L_law.2.1 485 = .ok (.iaload, 1) := by decide +kernel
theorem d_L_law_486 : decode mt_L_law.2.1 486 = .ok (.aload_n 0, 1) := by decide +kernel
theorem d_L_law_487 : decode mt_L_law.2.1 487 = .ok (.iload_n 3, 1) := by decide +kernel
theorem d_L_law_488 : decode mt_L_law.2.1 488 = .ok (.iconst 3, 1) := by decide +kernel
theorem d_L_law_489 : decode mt_L_law.2.1 489 = .ok (.iadd, 1) := by decide +kernel
theorem d_L_law_490 : decode mt_L_law.2.1 490 = .ok (.iaload, 1) := by decide +kernel
theorem d_L_law_491 : decode mt_L_law.2.1 491 = .ok (.aload_n 0, 1) := by decide +kernel
theorem d_L_law_492 : decode mt_L_law.2.1 492 = .ok (.iload_n 3, 1) := by decide +kernel
theorem d_L_law_493 : decode mt_L_law.2.1 493 = .ok (.iconst 4, 1) := by decide +kernel
theorem d_L_law_494 : decode mt_L_law.2.1 494 = .ok (.iadd, 1) := by decide +kernel
theorem d_L_law_495 : decode mt_L_law.2.1 495 = .ok (.iaload, 1) := by decide +kernel
theorem d_L_law_496 : decode mt_L_law.2.1 496 = .ok (.aload_n 0, 1) := by decide +kernel
theorem d_L_law_497 : decode mt_L_law.2.1 497 = .ok (.iload_n 3, 1) := by decide +kernel
theorem d_L_law_498 : decode mt_L_law.2.1 498 = .ok (.iconst 5, 1) := by decide +kernel
theorem d_L_law_499 : decode mt_L_law.2.1 499 = .ok (.iadd, 1) := by decide +kernel
theorem d_L_law_500 : decode mt_L_law.2.1 500 = .ok (.iaload, 1) := by decide +kernel
theorem d_L_law_501 : decode mt_L_law.2.1 501 = .ok (.aload_n 0, 1) := by decide +kernel
theorem d_L_law_502 : decode mt_L_law.2.1 502 = .ok (.iload_n 3, 1) := by decide +kernel
theorem d_L_law_503 : decode mt_L_law.2.1 503 = .ok (.bipush 6, 2) := by decide +kernel
theorem d_L_law_505 : decode mt_L_law.2.1 505 = .ok (.iadd, 1) := by decide +kernel
theorem d_L_law_506 : decode mt_L_law.2.1 506 = .ok (.iaload, 1) := by decide +kernel
theorem d_L_law_507 : decode mt_L_law.2.1 507 = .ok (.ifCond .eq 7, 3) := by decide +kernel
theorem d_L_law_510 : decode mt_L_law.2.1 510 = .ok (.iconst 1, 1) := by decide +kernel
theorem d_L_law_511 : decode mt_L_law.2.1 511 = .ok (.goto 4, 3) := by decide +kernel
theorem d_L_law_514 : decode mt_L_law.2.1 514 = .ok (.iconst 0, 1) := by decide +kernel
theorem d_L_law_515 : decode mt_L_law.2.1 515 = .ok (.invokevirtual 61, 3) := by decide +kernel
theorem d_L_law_518 : decode mt_L_law.2.1 518 = .ok (.if_icmp .eq 598, 3) := by decide +kernel
theorem d_L_law_521 : decode mt_L_law.2.1 521 = .ok (.iconst 0, 1) := by decide +kernel
theorem d_L_law_522 : decode mt_L_law.2.1 522 = .ok (.ireturn, 1) := by decide +kernel
theorem d_L_law_523 : decode mt_L_law.2.1 523 = .ok (.aload_n 1, 1) := by decide +kernel
theorem d_L_law_524 : decode mt_L_law.2.1 524 = .ok (.aload_n 0, 1) := by decide +kernel
theorem d_L_law_525 : decode mt_L_law.2.1 525 = .ok (.iload_n 3, 1) := by decide +kernel
theorem d_L_law_526 : decode mt_L_law.2.1 526 = .ok (.iconst 1, 1) := by decide +kernel
theorem d_L_law_527 : decode mt_L_law.2.1 527 = .ok (.iadd, 1) := by decide +kernel
theorem d_L_law_528 : decode mt_L_law.2.1 528 = .ok (.iaload, 1) := by decide +kernel
theorem d_L_law_529 : decode mt_L_law.2.1 529 = .ok (.aload_n 0, 1) := by decide +kernel
theorem d_L_law_530 : decode mt_L_law.2.1 530 = .ok (.iload_n 3, 1) := by decide +kernel
theorem d_L_law_531 : decode mt_L_law.2.1 531 = .ok (.iconst 2, 1) := by decide +kernel
theorem d_L_law_532 : decode mt_L_law.2.1 532 = .ok (.iadd, 1) := by decide +kernel
theorem d_L_law_533 : decode mt_L_law.2.1 533 = .ok (.iaload, 1) := by decide +kernel
theorem d_L_law_534 : decode mt_L_law.2.1 534 = .ok (.invokevirtual 62, 3) := by decide +kernel
theorem d_L_law_537 : decode mt_L_law.2.1 537 = .ok (.aload_n 2, 1) := by decide +kernel
theorem d_L_law_538 : decode mt_L_law.2.1 538 = .ok (.aload_n 0, 1) := by decide +kernel
theorem d_L_law_539 : decode mt_L_law.2.1 539 = .ok (.iload_n 3, 1) := by decide +kernel
theorem d_L_law_540 : decode mt_L_law.2.1 540 = .ok (.iconst 1, 1) := by decide +kernel
theorem d_L_law_541 : decode mt_L_law.2.1 541 = .ok (.iadd, 1) := by decide +kernel
theorem d_L_law_542 : decode mt_L_law.2.1 542 = .ok (.iaload, 1) := by decide +kernel
theorem d_L_law_543 : decode mt_L_law.2.1 543 = .ok (.aload_n 0, 1) := by decide +kernel
theorem d_L_law_544 : decode mt_L_law.2.1 544 = .ok (.iload_n 3, 1) := by decide +kernel
theorem d_L_law_545 : decode mt_L_law.2.1 545 = .ok (.iconst 2, 1) := by decide +kernel
theorem d_L_law_546 : decode mt_L_law.2.1 546 = .ok (.iadd, 1) := by decide +kernel
theorem d_L_law_547 : decode mt_L_law.2.1 547 = .ok (.iaload, 1) := by decide +kernel
theorem d_L_law_548 : decode mt_L_law.2.1 548 = .ok (.invokevirtual 65, 3) := by decide +kernel
theorem d_L_law_551 : decode mt_L_law.2.1 551 = .ok (.if_icmp .eq 565, 3) := by decide +kernel
theorem d_L_law_554 : decode mt_L_law.2.1 554 = .ok (.iconst 0, 1) := by decide +kernel
theorem d_L_law_555 : decode mt_L_law.2.1 555 = .ok (.ireturn, 1) := by decide +kernel
theorem d_L_law_556 : decode mt_L_law.2.1 556 = .ok (.aload_n 1, 1) := by decide +kernel
theorem d_L_law_557 : decode mt_L_law.2.1 557 = .ok (.invokevirtual 66, 3) := by decide +kernel
theorem d_L_law_560 : decode mt_L_law.2.1 560 = .ok (.aload_n 2, 1) := by decide +kernel
theorem d_L_law_561 : decode mt_L_law.2.1 561 = .ok (.invokevirtual 69, 3) := by decide +kernel
theorem d_L_law_564 : decode mt_L_law.2.1 564 = .ok (.if_icmp .eq 552, 3) := by decide +kernel
theorem d_L_law_567 : decode mt_L_law.2.1 567 = .ok (.iconst 0, 1) := by decide +kernel
theorem d_L_law_568 : decode mt_L_law.2.1 568 = .ok (.ireturn, 1) := by decide +kernel
theorem d_L_law_569 : decode mt_L_law.2.1 569 = .ok (.aload_n 1, 1) := by decide +kernel
theorem d_L_law_570 : decode mt_L_law.2.1 570 = .ok (.aload_n 0, 1) := by decide +kernel
theorem d_L_law_571 : decode mt_L_law.2.1 571 = .ok (.iload_n 3, 1) := by decide +kernel
theorem d_L_law_572 : decode mt_L_law.2.1 572 = .ok (.iconst 1, 1) := by decide +kernel
theorem d_L_law_573 : decode mt_L_law.2.1 573 = .ok (.iadd, 1) := by decide +kernel
theorem d_L_law_574 : decode mt_L_law.2.1 574 = .ok (.iaload, 1) := by decide +kernel
theorem d_L_law_575 : decode mt_L_law.2.1 575 = .ok (.aload_n 0, 1) := by decide +kernel
theorem d_L_law_576 : decode mt_L_law.2.1 576 = .ok (.iload_n 3, 1) := by decide +kernel
theorem d_L_law_577 : decode mt_L_law.2.1 577 = .ok (.iconst 2, 1) := by decide +kernel
theorem d_L_law_578 : decode mt_L_law.2.1 578 = .ok (.iadd, 1) := by decide +kernel
theorem d_L_law_579 : decode mt_L_law.2.1 579 = .ok (.iaload, 1) := by decide +kernel
theorem d_L_law_580 : decode mt_L_law.2.1 580 = .ok (.invokevirtual 70, 3) := by decide +kernel
theorem d_L_law_583 : decode mt_L_law.2.1 583 = .ok (.aload_n 2, 1) := by decide +kernel
theorem d_L_law_584 : decode mt_L_law.2.1 584 = .ok (.aload_n 0, 1) := by decide +kernel
theorem d_L_law_585 : decode mt_L_law.2.1 585 = .ok (.iload_n 3, 1) := by decide +kernel
theorem d_L_law_586 : decode mt_L_law.2.1 586 = .ok (.iconst 1, 1) := by decide +kernel
theorem d_L_law_587 : decode mt_L_law.2.1 587 = .ok (.iadd, 1) := by decide +kernel
theorem d_L_law_588 : decode mt_L_law.2.1 588 = .ok (.iaload, 1) := by decide +kernel
theorem d_L_law_589 : decode mt_L_law.2.1 589 = .ok (.aload_n 0, 1) := by decide +kernel
theorem d_L_law_590 : decode mt_L_law.2.1 590 = .ok (.iload_n 3, 1) := by decide +kernel
theorem d_L_law_591 : decode mt_L_law.2.1 591 = .ok (.iconst 2, 1) := by decide +kernel
theorem d_L_law_592 : decode mt_L_law.2.1 592 = .ok (.iadd, 1) := by decide +kernel
theorem d_L_law_593 : decode mt_L_law.2.1 593 = .ok (.iaload, 1) := by decide +kernel
theorem d_L_law_594 : decode mt_L_law.2.1 594 = .ok (.invokevirtual 73, 3) := by decide +kernel
theorem d_L_law_597 : decode mt_L_law.2.1 597 = .ok (.if_icmp .eq 519, 3) := by decide +kernel
theorem d_L_law_600 : decode mt_L_law.2.1 600 = .ok (.iconst 0, 1) := by decide +kernel
theorem d_L_law_601 : decode mt_L_law.2.1 601 = .ok (.ireturn, 1) := by decide +kernel
theorem d_L_law_602 : decode mt_L_law.2.1 602 = .ok (.aload_n 1, 1) := by decide +kernel
theorem d_L_law_603 : decode mt_L_law.2.1 603 = .ok (.invokevirtual 74, 3) := by decide +kernel
theorem d_L_law_606 : decode mt_L_law.2.1 606 = .ok (.aload_n 2, 1) := by decide +kernel
theorem d_L_law_607 : decode mt_L_law.2.1 607 = .ok (.invokevirtual 77, 3) := by decide +kernel
theorem d_L_law_610 : decode mt_L_law.2.1 610 = .ok (.if_icmp .eq 506, 3) := by decide +kernel
theorem d_L_law_613 : decode mt_L_law.2.1 613 = .ok (.iconst 0, 1) := by decide +kernel
theorem d_L_law_614 : decode mt_L_law.2.1 614 = .ok (.ireturn, 1) := by decide +kernel
theorem d_L_law_615 : decode mt_L_law.2.1 615 = .ok (.aload_n 1, 1) := by decide +kernel
theorem d_L_law_616 : decode mt_L_law.2.1 616 = .ok (.aload_n 0, 1) := by decide +kernel
theorem d_L_law_617 : decode mt_L_law.2.1 617 = .ok (.iload_n 3, 1) := by decide +kernel
theorem d_L_law_618 : decode mt_L_law.2.1 618 = .ok (.iconst 1, 1) := by decide +kernel
theorem d_L_law_619 : decode mt_L_law.2.1 619 = .ok (.iadd, 1) := by decide +kernel
theorem d_L_law_620 : decode mt_L_law.2.1 620 = .ok (.iaload, 1) := by decide +kernel
theorem d_L_law_621 : decode mt_L_law.2.1 621 = .ok (.aload_n 0, 1) := by decide +kernel
theorem d_L_law_622 : decode mt_L_law.2.1 622 = .ok (.iload_n 3, 1) := by decide +kernel
theorem d_L_law_623 : decode mt_L_law.2.1 623 = .ok (.iconst 2, 1) := by decide +kernel
theorem d_L_law_624 : decode mt_L_law.2.1 624 = .ok (.iadd, 1) := by decide +kernel
theorem d_L_law_625 : decode mt_L_law.2.1 625 = .ok (.iaload, 1) := by decide +kernel
theorem d_L_law_626 : decode mt_L_law.2.1 626 = .ok (.aload_n 0, 1) := by decide +kernel
theorem d_L_law_627 : decode mt_L_law.2.1 627 = .ok (.iload_n 3, 1) := by decide +kernel
theorem d_L_law_628 : decode mt_L_law.2.1 628 = .ok (.iconst 3, 1) := by decide +kernel
theorem d_L_law_629 : decode mt_L_law.2.1 629 = .ok (.iadd, 1) := by decide +kernel
theorem d_L_law_630 : decode mt_L_law.2.1 630 = .ok (.iaload, 1) := by decide +kernel
theorem d_L_law_631 : decode mt_L_law.2.1 631 = .ok (.invokevirtual 78, 3) := by decide +kernel
theorem d_L_law_634 : decode mt_L_law.2.1 634 = .ok (.aload_n 2, 1) := by decide +kernel
theorem d_L_law_635 : decode mt_L_law.2.1 635 = .ok (.aload_n 0, 1) := by decide +kernel
theorem d_L_law_636 : decode mt_L_law.2.1 636 = .ok (.iload_n 3, 1) := by decide +kernel
theorem d_L_law_637 : decode mt_L_law.2.1 637 = .ok (.iconst 1, 1) := by decide +kernel
theorem d_L_law_638 : decode mt_L_law.2.1 638 = .ok (.iadd, 1) := by decide +kernel
theorem d_L_law_639 : decode mt_L_law.2.1 639 = .ok (.iaload, 1) := by decide +kernel
theorem d_L_law_640 : decode mt_L_law.2.1 640 = .ok (.aload_n 0, 1) := by decide +kernel
theorem d_L_law_641 : decode mt_L_law.2.1 641 = .ok (.iload_n 3, 1) := by decide +kernel
theorem d_L_law_642 : decode mt_L_law.2.1 642 = .ok (.iconst 2, 1) := by decide +kernel
theorem d_L_law_643 : decode mt_L_law.2.1 643 = .ok (.iadd, 1) := by decide +kernel
theorem d_L_law_644 : decode mt_L_law.2.1 644 = .ok (.iaload, 1) := by decide +kernel
theorem d_L_law_645 : decode mt_L_law.2.1 645 = .ok (.aload_n 0, 1) := by decide +kernel
theorem d_L_law_646 : decode mt_L_law.2.1 646 = .ok (.iload_n 3, 1) := by decide +kernel
theorem d_L_law_647 : decode mt_L_law.2.1 647 = .ok (.iconst 3, 1) := by decide +kernel
theorem d_L_law_648 : decode mt_L_law.2.1 648 = .ok (.iadd, 1) := by decide +kernel
theorem d_L_law_649 : decode mt_L_law.2.1 649 = .ok (.iaload, 1) := by decide +kernel
theorem d_L_law_650 : decode mt_L_law.2.1 650 = .ok (.invokevirtual 82, 3) := by decide +kernel
theorem d_L_law_653 : decode mt_L_law.2.1 653 = .ok (.if_icmp .eq 463, 3) := by decide +kernel
theorem d_L_law_656 : decode mt_L_law.2.1 656 = .ok (.iconst 0, 1) := by decide +kernel
theorem d_L_law_657 : decode mt_L_law.2.1 657 = .ok (.ireturn, 1) := by decide +kernel
theorem d_L_law_658 : decode mt_L_law.2.1 658 = .ok (.aload_n 1, 1) := by decide +kernel
theorem d_L_law_659 : decode mt_L_law.2.1 659 = .ok (.aload_n 0, 1) := by decide +kernel
theorem d_L_law_660 : decode mt_L_law.2.1 660 = .ok (.iload_n 3, 1) := by decide +kernel
theorem d_L_law_661 : decode mt_L_law.2.1 661 = .ok (.iconst 1, 1) := by decide +kernel
theorem d_L_law_662 : decode mt_L_law.2.1 662 = .ok (.iadd, 1) := by decide +kernel
theorem d_L_law_663 : decode mt_L_law.2.1 663 = .ok (.iaload, 1) := by decide +kernel
theorem d_L_law_664 : decode mt_L_law.2.1 664 = .ok (.invokevirtual 83, 3) := by decide +kernel
theorem d_L_law_667 : decode mt_L_law.2.1 667 = .ok (.aload_n 2, 1) := by decide +kernel
theorem d_L_law_668 : decode mt_L_law.2.1 668 = .ok (.aload_n 0, 1) := by decide +kernel
theorem d_L_law_669 : decode mt_L_law.2.1 669 = .ok (.iload_n 3, 1) := by decide +kernel
theorem d_L_law_670 : decode mt_L_law.2.1 670 = .ok (.iconst 1, 1) := by decide +kernel
theorem d_L_law_671 : decode mt_L_law.2.1 671 = .ok (.iadd, 1) := by decide +kernel
theorem d_L_law_672 : decode mt_L_law.2.1 672 = .ok (.iaload, 1) := by decide +kernel
theorem d_L_law_673 : decode mt_L_law.2.1 673 = .ok (.invokevirtual 86, 3) := by decide +kernel
theorem d_L_law_676 : decode mt_L_law.2.1 676 = .ok (.if_icmp .eq 440, 3) := by decide +kernel
theorem d_L_law_679 : decode mt_L_law.2.1 679 = .ok (.iconst 0, 1) := by decide +kernel
theorem d_L_law_680 : decode mt_L_law.2.1 680 = .ok (.ireturn, 1) := by decide +kernel
theorem d_L_law_681 : decode mt_L_law.2.1 681 = .ok (.aload_n 1, 1) := by decide +kernel
theorem d_L_law_682 : decode mt_L_law.2.1 682 = .ok (.aload_n 0, 1) := by decide +kernel
theorem d_L_law_683 : decode mt_L_law.2.1 683 = .ok (.iload_n 3, 1) := by decide +kernel
theorem d_L_law_684 : decode mt_L_law.2.1 684 = .ok (.iconst 1, 1) := by decide +kernel
theorem d_L_law_685 : decode mt_L_law.2.1 685 = .ok (.iadd, 1) := by decide +kernel
theorem d_L_law_686 : decode mt_L_law.2.1 686 = .ok (.iaload, 1) := by decide +kernel
theorem d_L_law_687 : decode mt_L_law.2.1 687 = .ok (.invokevirtual 87, 3) := by decide +kernel
theorem d_L_law_690 : decode mt_L_law.2.1 690 = .ok (.aload_n 2, 1) := by decide +kernel
theorem d_L_law_691 : decode mt_L_law.2.1 691 = .ok (.aload_n 0, 1) := by decide +kernel
theorem d_L_law_692 : decode mt_L_law.2.1 692 = .ok (.iload_n 3, 1) := by decide +kernel
theorem d_L_law_693 : decode mt_L_law.2.1 693 = .ok (.iconst 1, 1) := by decide +kernel
theorem d_L_law_694 : decode mt_L_law.2.1 694 = .ok (.iadd, 1) := by decide +kernel
theorem d_L_law_695 : decode mt_L_law.2.1 695 = .ok (.iaload, 1) := by decide +kernel
theorem d_L_law_696 : decode mt_L_law.2.1 696 = .ok (.invokevirtual 90, 3) := by decide +kernel
theorem d_L_law_699 : decode mt_L_law.2.1 699 = .ok (.if_icmp .eq 417, 3) := by decide +kernel
theorem d_L_law_702 : decode mt_L_law.2.1 702 = .ok (.iconst 0, 1) := by decide +kernel
theorem d_L_law_703 : decode mt_L_law.2.1 703 = .ok (.ireturn, 1) := by decide +kernel
theorem d_L_law_704 : decode mt_L_law.2.1 704 = .ok (.aload_n 1, 1) := by decide +kernel
theorem d_L_law_705 : decode mt_L_law.2.1 705 = .ok (.aload_n 0, 1) := by decide +kernel
theorem d_L_law_706 : decode mt_L_law.2.1 706 = .ok (.iload_n 3, 1) := by decide +kernel
theorem d_L_law_707 : decode mt_L_law.2.1 707 = .ok (.iconst 1, 1) := by decide +kernel
theorem d_L_law_708 : decode mt_L_law.2.1 708 = .ok (.iadd, 1) := by decide +kernel
theorem d_L_law_709 : decode mt_L_law.2.1 709 = .ok (.iaload, 1) := by decide +kernel
theorem d_L_law_710 : decode mt_L_law.2.1 710 = .ok (.invokevirtual 91, 3) := by decide +kernel
theorem d_L_law_713 : decode mt_L_law.2.1 713 = .ok (.aload_n 2, 1) := by decide +kernel
theorem d_L_law_714 : decode mt_L_law.2.1 714 = .ok (.aload_n 0, 1) := by decide +kernel
theorem d_L_law_715 : decode mt_L_law.2.1 715 = .ok (.iload_n 3, 1) := by decide +kernel
theorem d_L_law_716 : decode mt_L_law.2.1 716 = .ok (.iconst 1, 1) := by decide +kernel
theorem d_L_law_717 : decode mt_L_law.2.1 717 = .ok (.iadd, 1) := by decide +kernel
theorem d_L_law_718 : decode mt_L_law.2.1 718 = .ok (.iaload, 1) := by decide +kernel
theorem d_L_law_719 : decode mt_L_law.2.1 719 = .ok (.invokevirtual 94, 3) := by decide +kernel
theorem d_L_law_722 : decode mt_L_law.2.1 722 = .ok (.if_icmp .eq 394, 3) := by decide +kernel
theorem d_L_law_725 : decode mt_L_law.2.1 725 = .ok (.iconst 0, 1) := by decide +kernel
theorem d_L_law_726 : decode mt_L_law.2.1 726 = .ok (.ireturn, 1) := by decide +kernel
theorem d_L_law_727 : decode mt_L_law.2.1 727 = .ok (.aload_n 1, 1) := by decide +kernel
theorem d_L_law_728 : decode mt_L_law.2.1 728 = .ok (.invokevirtual 95, 3) := by decide +kernel
theorem d_L_law_731 : decode mt_L_law.2.1 731 = .ok (.aload_n 2, 1) := by decide +kernel
theorem d_L_law_732 : decode mt_L_law.2.1 732 = .ok (.invokevirtual 98, 3) := by decide +kernel
theorem d_L_law_735 : decode mt_L_law.2.1 735 = .ok (.if_icmp .eq 381, 3) := by decide +kernel
theorem d_L_law_738 : decode mt_L_law.2.1 738 = .ok (.iconst 0, 1) := by decide +kernel
theorem d_L_law_739 : decode mt_L_law.2.1 739 = .ok (.ireturn, 1) := by decide +kernel
theorem d_L_law_740 : decode mt_L_law.2.1 740 = .ok (.aload_n 1, 1) := by decide +kernel
theorem d_L_law_741 : decode mt_L_law.2.1 741 = .ok (.aload_n 0, 1) := by decide +kernel
theorem d_L_law_742 : decode mt_L_law.2.1 742 = .ok (.iload_n 3, 1) := by decide +kernel
theorem d_L_law_743 : decode mt_L_law.2.1 743 = .ok (.iconst 1, 1) := by decide +kernel
theorem d_L_law_744 : decode mt_L_law.2.1 744 = .ok (.iadd, 1) := by decide +kernel
theorem d_L_law_745 : decode mt_L_law.2.1 745 = .ok (.iaload, 1) := by decide +kernel
theorem d_L_law_746 : decode mt_L_law.2.1 746 = .ok (.aload_n 0, 1) := by decide +kernel
theorem d_L_law_747 : decode mt_L_law.2.1 747 = .ok (.iload_n 3, 1) := by decide +kernel
theorem d_L_law_748 : decode mt_L_law.2.1 748 = .ok (.iconst 2, 1) := by decide +kernel
theorem d_L_law_749 : decode mt_L_law.2.1 749 = .ok (.iadd, 1) := by decide +kernel
theorem d_L_law_750 : decode mt_L_law.2.1 750 = .ok (.iaload, 1) := by decide +kernel
theorem d_L_law_751 : decode mt_L_law.2.1 751 = .ok (.i2l, 1) := by decide +kernel
theorem d_L_law_752 : decode mt_L_law.2.1 752 = .ok (.bipush 32, 2) := by decide +kernel
theorem d_L_law_754 : decode mt_L_law.2.1 754 = .ok (.lshl, 1) := by decide +kernel
theorem d_L_law_755 : decode mt_L_law.2.1 755 = .ok (.aload_n 0, 1) := by decide +kernel
theorem d_L_law_756 : decode mt_L_law.2.1 756 = .ok (.iload_n 3, 1) := by decide +kernel
theorem d_L_law_757 : decode mt_L_law.2.1 757 = .ok (.iconst 3, 1) := by decide +kernel
theorem d_L_law_758 : decode mt_L_law.2.1 758 = .ok (.iadd, 1) := by decide +kernel
theorem d_L_law_759 : decode mt_L_law.2.1 759 = .ok (.iaload, 1) := by decide +kernel
theorem d_L_law_760 : decode mt_L_law.2.1 760 = .ok (.i2l, 1) := by decide +kernel
theorem d_L_law_761 : decode mt_L_law.2.1 761 = .ok (.ldc2_w 99, 3) := by decide +kernel
theorem d_L_law_764 : decode mt_L_law.2.1 764 = .ok (.land, 1) := by decide +kernel
theorem d_L_law_765 : decode mt_L_law.2.1 765 = .ok (.lor, 1) := by decide +kernel
theorem d_L_law_766 : decode mt_L_law.2.1 766 = .ok (.invokevirtual 101, 3) := by decide +kernel
theorem d_L_law_769 : decode mt_L_law.2.1 769 = .ok (.aload_n 2, 1) := by decide +kernel
theorem d_L_law_770 : decode mt_L_law.2.1 770 = .ok (.aload_n 0, 1) := by decide +kernel
theorem d_L_law_771 : decode mt_L_law.2.1 771 = .ok (.iload_n 3, 1) := by decide +kernel
theorem d_L_law_772 : decode mt_L_law.2.1 772 = .ok (.iconst 1, 1) := by decide +kernel
theorem d_L_law_773 : decode mt_L_law.2.1 773 = .ok (.iadd, 1) := by decide +kernel
theorem d_L_law_774 : decode mt_L_law.2.1 774 = .ok (.iaload, 1) := by decide +kernel
theorem d_L_law_775 : decode mt_L_law.2.1 775 = .ok (.aload_n 0, 1) := by decide +kernel
theorem d_L_law_776 : decode mt_L_law.2.1 776 = .ok (.iload_n 3, 1) := by decide +kernel
theorem d_L_law_777 : decode mt_L_law.2.1 777 = .ok (.iconst 2, 1) := by decide +kernel
theorem d_L_law_778 : decode mt_L_law.2.1 778 = .ok (.iadd, 1) := by decide +kernel
theorem d_L_law_779 : decode mt_L_law.2.1 779 = .ok (.iaload, 1) := by decide +kernel
theorem d_L_law_780 : decode mt_L_law.2.1 780 = .ok (.i2l, 1) := by decide +kernel
theorem d_L_law_781 : decode mt_L_law.2.1 781 = .ok (.bipush 32, 2) := by decide +kernel
theorem d_L_law_783 : decode mt_L_law.2.1 783 = .ok (.lshl, 1) := by decide +kernel
theorem d_L_law_784 : decode mt_L_law.2.1 784 = .ok (.aload_n 0, 1) := by decide +kernel
theorem d_L_law_785 : decode mt_L_law.2.1 785 = .ok (.iload_n 3, 1) := by decide +kernel
theorem d_L_law_786 : decode mt_L_law.2.1 786 = .ok (.iconst 3, 1) := by decide +kernel
theorem d_L_law_787 : decode mt_L_law.2.1 787 = .ok (.iadd, 1) := by decide +kernel
theorem d_L_law_788 : decode mt_L_law.2.1 788 = .ok (.iaload, 1) := by decide +kernel
theorem d_L_law_789 : decode mt_L_law.2.1 789 = .ok (.i2l, 1) := by decide +kernel
theorem d_L_law_790 : decode mt_L_law.2.1 790 = .ok (.ldc2_w 99, 3) := by decide +kernel
theorem d_L_law_793 : decode mt_L_law.2.1 793 = .ok (.land, 1) := by decide +kernel
theorem d_L_law_794 : decode mt_L_law.2.1 794 = .ok (.lor, 1) := by decide +kernel
theorem d_L_law_795 : decode mt_L_law.2.1 795 = .ok (.invokevirtual 105, 3) := by decide +kernel
theorem d_L_law_798 : decode mt_L_law.2.1 798 = .ok (.if_icmp .eq 318, 3) := by decide +kernel
theorem d_L_law_801 : decode mt_L_law.2.1 801 = .ok (.iconst 0, 1) := by decide +kernel
theorem d_L_law_802 : decode mt_L_law.2.1 802 = .ok (.ireturn, 1) := by decide +kernel
theorem d_L_law_803 : decode mt_L_law.2.1 803 = .ok (.aload_n 1, 1) := by decide +kernel
theorem d_L_law_804 : decode mt_L_law.2.1 804 = .ok (.aload_n 0, 1) := by decide +kernel
theorem d_L_law_805 : decode mt_L_law.2.1 805 = .ok (.iload_n 3, 1) := by decide +kernel
theorem d_L_law_806 : decode mt_L_law.2.1 806 = .ok (.iconst 1, 1) := by decide +kernel
theorem d_L_law_807 : decode mt_L_law.2.1 807 = .ok (.iadd, 1) := by decide +kernel
theorem d_L_law_808 : decode mt_L_law.2.1 808 = .ok (.iaload, 1) := by decide +kernel
theorem d_L_law_809 : decode mt_L_law.2.1 809 = .ok (.aload_n 0, 1) := by decide +kernel
theorem d_L_law_810 : decode mt_L_law.2.1 810 = .ok (.iload_n 3, 1) := by decide +kernel
theorem d_L_law_811 : decode mt_L_law.2.1 811 = .ok (.iconst 2, 1) := by decide +kernel
theorem d_L_law_812 : decode mt_L_law.2.1 812 = .ok (.iadd, 1) := by decide +kernel
theorem d_L_law_813 : decode mt_L_law.2.1 813 = .ok (.iaload, 1) := by decide +kernel
theorem d_L_law_814 : decode mt_L_law.2.1 814 = .ok (.aload_n 0, 1) := by decide +kernel
theorem d_L_law_815 : decode mt_L_law.2.1 815 = .ok (.iload_n 3, 1) := by decide +kernel
theorem d_L_law_816 : decode mt_L_law.2.1 816 = .ok (.iconst 3, 1) := by decide +kernel
theorem d_L_law_817 : decode mt_L_law.2.1 817 = .ok (.iadd, 1) := by decide +kernel
theorem d_L_law_818 : decode mt_L_law.2.1 818 = .ok (.iaload, 1) := by decide +kernel
theorem d_L_law_819 : decode mt_L_law.2.1 819 = .ok (.invokevirtual 106, 3) := by decide +kernel
theorem d_L_law_822 : decode mt_L_law.2.1 822 = .ok (.aload_n 2, 1) := by decide +kernel
theorem d_L_law_823 : decode mt_L_law.2.1 823 = .ok (.aload_n 0, 1) := by decide +kernel
theorem d_L_law_824 : decode mt_L_law.2.1 824 = .ok (.iload_n 3, 1) := by decide +kernel
theorem d_L_law_825 : decode mt_L_law.2.1 825 = .ok (.iconst 1, 1) := by decide +kernel
theorem d_L_law_826 : decode mt_L_law.2.1 826 = .ok (.iadd, 1) := by decide +kernel
theorem d_L_law_827 : decode mt_L_law.2.1 827 = .ok (.iaload, 1) := by decide +kernel
theorem d_L_law_828 : decode mt_L_law.2.1 828 = .ok (.aload_n 0, 1) := by decide +kernel
theorem d_L_law_829 : decode mt_L_law.2.1 829 = .ok (.iload_n 3, 1) := by decide +kernel
theorem d_L_law_830 : decode mt_L_law.2.1 830 = .ok (.iconst 2, 1) := by decide +kernel
theorem d_L_law_831 : decode mt_L_law.2.1 831 = .ok (.iadd, 1) := by decide +kernel
theorem d_L_law_832 : decode mt_L_law.2.1 832 = .ok (.iaload, 1) := by decide +kernel
theorem d_L_law_833 : decode mt_L_law.2.1 833 = .ok (.aload_n 0, 1) := by decide +kernel
theorem d_L_law_834 : decode mt_L_law.2.1 834 = .ok (.iload_n 3, 1) := by decide +kernel
theorem d_L_law_835 : decode mt_L_law.2.1 835 = .ok (.iconst 3, 1) := by decide +kernel
theorem d_L_law_836 : decode mt_L_law.2.1 836 = .ok (.iadd, 1) := by decide +kernel
theorem d_L_law_837 : decode mt_L_law.2.1 837 = .ok (.iaload, 1) := by decide +kernel
theorem d_L_law_838 : decode mt_L_law.2.1 838 = .ok (.invokevirtual 109, 3) := by decide +kernel
theorem d_L_law_841 : decode mt_L_law.2.1 841 = .ok (.if_icmp .eq 275, 3) := by decide +kernel
theorem d_L_law_844 : decode mt_L_law.2.1 844 = .ok (.iconst 0, 1) := by decide +kernel
theorem d_L_law_845 : decode mt_L_law.2.1 845 = .ok (.ireturn, 1) := by decide +kernel
theorem d_L_law_846 : decode mt_L_law.2.1 846 = .ok (.aload_n 1, 1) := by decide +kernel
theorem d_L_law_847 : decode mt_L_law.2.1 847 = .ok (.invokevirtual 110, 3) := by decide +kernel
theorem d_L_law_850 : decode mt_L_law.2.1 850 = .ok (.aload_n 2, 1) := by decide +kernel
theorem d_L_law_851 : decode mt_L_law.2.1 851 = .ok (.invokevirtual 113, 3) := by decide +kernel
theorem d_L_law_854 : decode mt_L_law.2.1 854 = .ok (.if_icmp .eq 262, 3) := by decide +kernel
theorem d_L_law_857 : decode mt_L_law.2.1 857 = .ok (.iconst 0, 1) := by decide +kernel
theorem d_L_law_858 : decode mt_L_law.2.1 858 = .ok (.ireturn, 1) := by decide +kernel
theorem d_L_law_859 : decode mt_L_law.2.1 859 = .ok (.aload_n 1, 1) := by decide +kernel
theorem d_L_law_860 : decode mt_L_law.2.1 860 = .ok (.invokevirtual 114, 3) := by decide +kernel
theorem d_L_law_863 : decode mt_L_law.2.1 863 = .ok (.aload_n 2, 1) := by decide +kernel
theorem d_L_law_864 : decode mt_L_law.2.1 864 = .ok (.invokevirtual 117, 3) := by decide +kernel
theorem d_L_law_867 : decode mt_L_law.2.1 867 = .ok (.if_icmp .eq 249, 3) := by decide +kernel
theorem d_L_law_870 : decode mt_L_law.2.1 870 = .ok (.iconst 0, 1) := by decide +kernel
theorem d_L_law_871 : decode mt_L_law.2.1 871 = .ok (.ireturn, 1) := by decide +kernel
theorem d_L_law_872 : decode mt_L_law.2.1 872 = .ok (.aload_n 1, 1) := by decide +kernel
theorem d_L_law_873 : decode mt_L_law.2.1 873 = .ok (.aload_n 0, 1) := by decide +kernel
theorem d_L_law_874 : decode mt_L_law.2.1 874 = .ok (.iload_n 3, 1) := by decide +kernel
theorem d_L_law_875 : decode mt_L_law.2.1 875 = .ok (.iconst 1, 1) := by decide +kernel
theorem d_L_law_876 : decode mt_L_law.2.1 876 = .ok (.iadd, 1) := by decide +kernel
theorem d_L_law_877 : decode mt_L_law.2.1 877 = .ok (.iaload, 1) := by decide +kernel
theorem d_L_law_878 : decode mt_L_law.2.1 878 = .ok (.aload_n 0, 1) := by decide +kernel
theorem d_L_law_879 : decode mt_L_law.2.1 879 = .ok (.iload_n 3, 1) := by decide +kernel
theorem d_L_law_880 : decode mt_L_law.2.1 880 = .ok (.iconst 2, 1) := by decide +kernel
theorem d_L_law_881 : decode mt_L_law.2.1 881 = .ok (.iadd, 1) := by decide +kernel
theorem d_L_law_882 : decode mt_L_law.2.1 882 = .ok (.iaload, 1) := by decide +kernel
theorem d_L_law_883 : decode mt_L_law.2.1 883 = .ok (.ifCond .eq 7, 3) := by decide +kernel
theorem d_L_law_886 : decode mt_L_law.2.1 886 = .ok (.iconst 1, 1) := by decide +kernel
theorem d_L_law_887 : decode mt_L_law.2.1 887 = .ok (.goto 4, 3) := by decide +kernel
theorem d_L_law_890 : decode mt_L_law.2.1 890 = .ok (.iconst 0, 1) := by decide +kernel
theorem d_L_law_891 : decode mt_L_law.2.1 891 = .ok (.invokevirtual 118, 3) := by decide +kernel
theorem d_L_law_894 : decode mt_L_law.2.1 894 = .ok (.aload_n 2, 1) := by decide +kernel
theorem d_L_law_895 : decode mt_L_law.2.1 895 = .ok (.aload_n 0, 1) := by decide +kernel
theorem d_L_law_896 : decode mt_L_law.2.1 896 = .ok (.iload_n 3, 1) := by decide +kernel
theorem d_L_law_897 : decode mt_L_law.2.1 897 = .ok (.iconst 1, 1) := by decide +kernel
theorem d_L_law_898 : decode mt_L_law.2.1 898 = .ok (.iadd, 1) := by decide +kernel
theorem d_L_law_899 : decode mt_L_law.2.1 899 = .ok (.iaload, 1) := by decide +kernel
theorem d_L_law_900 : decode mt_L_law.2.1 900 = .ok (.aload_n 0, 1) := by decide +kernel
theorem d_L_law_901 : decode mt_L_law.2.1 901 = .ok (.iload_n 3, 1) := by decide +kernel
theorem d_L_law_902 : decode mt_L_law.2.1 902 = .ok (.iconst 2, 1) := by decide +kernel
theorem d_L_law_903 : decode mt_L_law.2.1 903 = .ok (.iadd, 1) := by decide +kernel
theorem d_L_law_904 : decode mt_L_law.2.1 904 = .ok (.iaload, 1) := by decide +kernel
theorem d_L_law_905 : decode mt_L_law.2.1 905 = .ok (.ifCond .eq 7, 3) := by decide +kernel
theorem d_L_law_908 : decode mt_L_law.2.1 908 = .ok (.iconst 1, 1) := by decide +kernel
theorem d_L_law_909 : decode mt_L_law.2.1 909 = .ok (.goto 4, 3) := by decide +kernel
theorem d_L_law_912 : decode mt_L_law.2.1 912 = .ok (.iconst 0, 1) := by decide +kernel
