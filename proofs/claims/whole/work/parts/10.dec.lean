theorem d_R_init_0 : decode mt_R_init.2.1 0 = .ok (.aload_n 0, 1) := by decide +kernel
theorem d_R_init_1 : decode mt_R_init.2.1 1 = .ok (.invokespecial 1, 3) := by decide +kernel
theorem d_R_init_4 : decode mt_R_init.2.1 4 = .ok (.aload_n 0, 1) := by decide +kernel
theorem d_R_init_5 : decode mt_R_init.2.1 5 = .ok (.new 7, 3) := by decide +kernel
theorem d_R_init_8 : decode mt_R_init.2.1 8 = .ok (.dup, 1) := by decide +kernel
theorem d_R_init_9 : decode mt_R_init.2.1 9 = .ok (.invokespecial 9, 3) := by decide +kernel
theorem d_R_init_12 : decode mt_R_init.2.1 12 = .ok (.putfield 10, 3) := by decide +kernel
theorem d_R_init_15 : decode mt_R_init.2.1 15 = .ok (.aload_n 0, 1) := by decide +kernel
theorem d_R_init_16 : decode mt_R_init.2.1 16 = .ok (.new 16, 3) := by decide +kernel
theorem d_R_init_19 : decode mt_R_init.2.1 19 = .ok (.dup, 1) := by decide +kernel
theorem d_R_init_20 : decode mt_R_init.2.1 20 = .ok (.invokespecial 18, 3) := by decide +kernel
theorem d_R_init_23 : decode mt_R_init.2.1 23 = .ok (.putfield 19, 3) := by decide +kernel
theorem d_R_init_26 : decode mt_R_init.2.1 26 = .ok (.aload_n 0, 1) := by decide +kernel
theorem d_R_init_27 : decode mt_R_init.2.1 27 = .ok (.new 23, 3) := by decide +kernel
theorem d_R_init_30 : decode mt_R_init.2.1 30 = .ok (.dup, 1) := by decide +kernel
theorem d_R_init_31 : decode mt_R_init.2.1 31 = .ok (.invokespecial 25, 3) := by decide +kernel
theorem d_R_init_34 : decode mt_R_init.2.1 34 = .ok (.putfield 26, 3) := by decide +kernel
theorem d_R_init_37 : decode mt_R_init.2.1 37 = .ok (.aload_n 0, 1) := by decide +kernel
theorem d_R_init_38 : decode mt_R_init.2.1 38 = .ok (.new 23, 3) := by decide +kernel
theorem d_R_init_41 : decode mt_R_init.2.1 41 = .ok (.dup, 1) := by decide +kernel
theorem d_R_init_42 : decode mt_R_init.2.1 42 = .ok (.invokespecial 25, 3) := by decide +kernel
theorem d_R_init_45 : decode mt_R_init.2.1 45 = .ok (.putfield 30, 3) := by decide +kernel
theorem d_R_init_48 : decode mt_R_init.2.1 48 = .ok (.aload_n 0, 1) := by decide +kernel
theorem d_R_init_49 : decode mt_R_init.2.1 49 = .ok (.new 33, 3) := by decide +kernel
theorem d_R_init_52 : decode mt_R_init.2.1 52 = .ok (.dup, 1) := by decide +kernel
theorem d_R_init_53 : decode mt_R_init.2.1 53 = .ok (.invokespecial 35, 3) := by decide +kernel
theorem d_R_init_56 : decode mt_R_init.2.1 56 = .ok (.putfield 36, 3) := by decide +kernel
theorem d_R_init_59 : decode mt_R_init.2.1 59 = .ok (.aload_n 0, 1) := by decide +kernel
theorem d_R_init_60 : decode mt_R_init.2.1 60 = .ok (.iconst 2, 1) := by decide +kernel
theorem d_R_init_61 : decode mt_R_init.2.1 61 = .ok (.anewarray 23, 3) := by decide +kernel
theorem d_R_init_64 : decode mt_R_init.2.1 64 = .ok (.putfield 40, 3) := by decide +kernel
theorem d_R_init_67 : decode mt_R_init.2.1 67 = .ok (.aload_n 0, 1) := by decide +kernel
theorem d_R_init_68 : decode mt_R_init.2.1 68 = .ok (.iconst 2, 1) := by decide +kernel
theorem d_R_init_69 : decode mt_R_init.2.1 69 = .ok (.newarray .boolean, 2) := by decide +kernel
theorem d_R_init_71 : decode mt_R_init.2.1 71 = .ok (.putfield 44, 3) := by decide +kernel
theorem d_R_init_74 : decode mt_R_init.2.1 74 = .ok (.aload_n 0, 1) := by decide +kernel
theorem d_R_init_75 : decode mt_R_init.2.1 75 = .ok (.new 48, 3) := by decide +kernel
theorem d_R_init_78 : decode mt_R_init.2.1 78 = .ok (.dup, 1) := by decide +kernel
theorem d_R_init_79 : decode mt_R_init.2.1 79 = .ok (.invokespecial 50, 3) := by decide +kernel
theorem d_R_init_82 : decode mt_R_init.2.1 82 = .ok (.putfield 51, 3) := by decide +kernel
theorem d_R_init_85 : decode mt_R_init.2.1 85 = .ok (.aload_n 0, 1) := by decide +kernel
theorem d_R_init_86 : decode mt_R_init.2.1 86 = .ok (.bipush 64, 2) := by decide +kernel
theorem d_R_init_88 : decode mt_R_init.2.1 88 = .ok (.newarray .int, 2) := by decide +kernel
theorem d_R_init_90 : decode mt_R_init.2.1 90 = .ok (.putfield 55, 3) := by decide +kernel
theorem d_R_init_93 : decode mt_R_init.2.1 93 = .ok (.iconst 0, 1) := by decide +kernel
theorem d_R_init_94 : decode mt_R_init.2.1 94 = .ok (.istore_n 1, 1) := by decide +kernel
theorem d_R_init_95 : decode mt_R_init.2.1 95 = .ok (.iload_n 1, 1) := by decide +kernel
theorem d_R_init_96 : decode mt_R_init.2.1 96 = .ok (.iconst 2, 1) := by decide +kernel
theorem d_R_init_97 : decode mt_R_init.2.1 97 = .ok (.if_icmp .ge 22, 3) := by decide +kernel
theorem d_R_init_100 : decode mt_R_init.2.1 100 = .ok (.aload_n 0, 1) := by decide +kernel
theorem d_R_init_101 : decode mt_R_init.2.1 101 = .ok (.getfield 40, 3) := by decide +kernel
theorem d_R_init_104 : decode mt_R_init.2.1 104 = .ok (.iload_n 1, 1) := by decide +kernel
theorem d_R_init_105 : decode mt_R_init.2.1 105 = .ok (.new 23, 3) := by decide +kernel
theorem d_R_init_108 : decode mt_R_init.2.1 108 = .ok (.dup, 1) := by decide +kernel
theorem d_R_init_109 : decode mt_R_init.2.1 109 = .ok (.invokespecial 25, 3) := by decide +kernel
theorem d_R_init_112 : decode mt_R_init.2.1 112 = .ok (.aastore, 1) := by decide +kernel
theorem d_R_init_113 : decode mt_R_init.2.1 113 = .ok (.iinc 1 1, 3) := by decide +kernel
theorem d_R_init_116 : decode mt_R_init.2.1 116 = .ok (.goto (-21), 3) := by decide +kernel
theorem d_R_init_119 : decode mt_R_init.2.1 119 = .ok (.return_, 1) := by decide +kernel
theorem d_T_init_0 : decode mt_T_init.2.1 0 = .ok (.aload_n 0, 1) := by decide +kernel
theorem d_T_init_1 : decode mt_T_init.2.1 1 = .ok (.invokespecial 3, 3) := by decide +kernel
theorem d_T_init_4 : decode mt_T_init.2.1 4 = .ok (.aload_n 0, 1) := by decide +kernel
theorem d_T_init_5 : decode mt_T_init.2.1 5 = .ok (.sipush 150, 3) := by decide +kernel
theorem d_T_init_8 : decode mt_T_init.2.1 8 = .ok (.newarray .int, 2) := by decide +kernel
theorem d_T_init_10 : decode mt_T_init.2.1 10 = .ok (.putfield 9, 3) := by decide +kernel
theorem d_T_init_13 : decode mt_T_init.2.1 13 = .ok (.aload_n 0, 1) := by decide +kernel
theorem d_T_init_14 : decode mt_T_init.2.1 14 = .ok (.new 15, 3) := by decide +kernel
theorem d_T_init_17 : decode mt_T_init.2.1 17 = .ok (.dup, 1) := by decide +kernel
theorem d_T_init_18 : decode mt_T_init.2.1 18 = .ok (.invokespecial 17, 3) := by decide +kernel
theorem d_T_init_21 : decode mt_T_init.2.1 21 = .ok (.putfield 18, 3) := by decide +kernel
theorem d_T_init_24 : decode mt_T_init.2.1 24 = .ok (.aload_n 0, 1) := by decide +kernel
theorem d_T_init_25 : decode mt_T_init.2.1 25 = .ok (.new 22, 3) := by decide +kernel
theorem d_T_init_28 : decode mt_T_init.2.1 28 = .ok (.dup, 1) := by decide +kernel
theorem d_T_init_29 : decode mt_T_init.2.1 29 = .ok (.invokespecial 24, 3) := by decide +kernel
theorem d_T_init_32 : decode mt_T_init.2.1 32 = .ok (.putfield 25, 3) := by decide +kernel
theorem d_T_init_35 : decode mt_T_init.2.1 35 = .ok (.return_, 1) := by decide +kernel
theorem d_P_init_0 : decode mt_P_init.2.1 0 = .ok (.aload_n 0, 1) := by decide +kernel
theorem d_P_init_1 : decode mt_P_init.2.1 1 = .ok (.invokespecial 3, 3) := by decide +kernel
theorem d_P_init_4 : decode mt_P_init.2.1 4 = .ok (.aload_n 0, 1) := by decide +kernel
theorem d_P_init_5 : decode mt_P_init.2.1 5 = .ok (.bipush 16, 2) := by decide +kernel
theorem d_P_init_7 : decode mt_P_init.2.1 7 = .ok (.newarray .int, 2) := by decide +kernel
theorem d_P_init_9 : decode mt_P_init.2.1 9 = .ok (.putfield 9, 3) := by decide +kernel
theorem d_P_init_12 : decode mt_P_init.2.1 12 = .ok (.aload_n 0, 1) := by decide +kernel
theorem d_P_init_13 : decode mt_P_init.2.1 13 = .ok (.bipush 16, 2) := by decide +kernel
theorem d_P_init_15 : decode mt_P_init.2.1 15 = .ok (.newarray .int, 2) := by decide +kernel
theorem d_P_init_17 : decode mt_P_init.2.1 17 = .ok (.putfield 15, 3) := by decide +kernel
theorem d_P_init_20 : decode mt_P_init.2.1 20 = .ok (.aload_n 0, 1) := by decide +kernel
theorem d_P_init_21 : decode mt_P_init.2.1 21 = .ok (.bipush 16, 2) := by decide +kernel
theorem d_P_init_23 : decode mt_P_init.2.1 23 = .ok (.newarray .int, 2) := by decide +kernel
theorem d_P_init_25 : decode mt_P_init.2.1 25 = .ok (.putfield 18, 3) := by decide +kernel
theorem d_P_init_28 : decode mt_P_init.2.1 28 = .ok (.return_, 1) := by decide +kernel
theorem d_S_init_0 : decode mt_S_init.2.1 0 = .ok (.aload_n 0, 1) := by decide +kernel
theorem d_S_init_1 : decode mt_S_init.2.1 1 = .ok (.invokespecial 3, 3) := by decide +kernel
theorem d_S_init_4 : decode mt_S_init.2.1 4 = .ok (.aload_n 0, 1) := by decide +kernel
theorem d_S_init_5 : decode mt_S_init.2.1 5 = .ok (.new 9, 3) := by decide +kernel
theorem d_S_init_8 : decode mt_S_init.2.1 8 = .ok (.dup, 1) := by decide +kernel
theorem d_S_init_9 : decode mt_S_init.2.1 9 = .ok (.invokespecial 11, 3) := by decide +kernel
theorem d_S_init_12 : decode mt_S_init.2.1 12 = .ok (.putfield 12, 3) := by decide +kernel
theorem d_S_init_15 : decode mt_S_init.2.1 15 = .ok (.aload_n 0, 1) := by decide +kernel
theorem d_S_init_16 : decode mt_S_init.2.1 16 = .ok (.iconst 4, 1) := by decide +kernel
theorem d_S_init_17 : decode mt_S_init.2.1 17 = .ok (.anewarray 18, 3) := by decide +kernel
theorem d_S_init_20 : decode mt_S_init.2.1 20 = .ok (.putfield 20, 3) := by decide +kernel
theorem d_S_init_23 : decode mt_S_init.2.1 23 = .ok (.aload_n 0, 1) := by decide +kernel
theorem d_S_init_24 : decode mt_S_init.2.1 24 = .ok (.bipush 6, 2) := by decide +kernel
theorem d_S_init_26 : decode mt_S_init.2.1 26 = .ok (.anewarray 24, 3) := by decide +kernel
theorem d_S_init_29 : decode mt_S_init.2.1 29 = .ok (.putfield 26, 3) := by decide +kernel
theorem d_S_init_32 : decode mt_S_init.2.1 32 = .ok (.aload_n 0, 1) := by decide +kernel
theorem d_S_init_33 : decode mt_S_init.2.1 33 = .ok (.bipush 8, 2) := by decide +kernel
theorem d_S_init_35 : decode mt_S_init.2.1 35 = .ok (.newarray .int, 2) := by decide +kernel
theorem d_S_init_37 : decode mt_S_init.2.1 37 = .ok (.putfield 30, 3) := by decide +kernel
theorem d_S_init_40 : decode mt_S_init.2.1 40 = .ok (.iconst 0, 1) := by decide +kernel
theorem d_S_init_41 : decode mt_S_init.2.1 41 = .ok (.istore_n 1, 1) := by decide +kernel
theorem d_S_init_42 : decode mt_S_init.2.1 42 = .ok (.iload_n 1, 1) := by decide +kernel
theorem d_S_init_43 : decode mt_S_init.2.1 43 = .ok (.iconst 4, 1) := by decide +kernel
theorem d_S_init_44 : decode mt_S_init.2.1 44 = .ok (.if_icmp .ge 22, 3) := by decide +kernel
theorem d_S_init_47 : decode mt_S_init.2.1 47 = .ok (.aload_n 0, 1) := by decide +kernel
theorem d_S_init_48 : decode mt_S_init.2.1 48 = .ok (.getfield 20, 3) := by decide +kernel
theorem d_S_init_51 : decode mt_S_init.2.1 51 = .ok (.iload_n 1, 1) := by decide +kernel
theorem d_S_init_52 : decode mt_S_init.2.1 52 = .ok (.new 18, 3) := by decide +kernel
theorem d_S_init_55 : decode mt_S_init.2.1 55 = .ok (.dup, 1) := by decide +kernel
theorem d_S_init_56 : decode mt_S_init.2.1 56 = .ok (.invokespecial 34, 3) := by decide +kernel
theorem d_S_init_59 : decode mt_S_init.2.1 59 = .ok (.aastore, 1) := by decide +kernel
theorem d_S_init_60 : decode mt_S_init.2.1 60 = .ok (.iinc 1 1, 3) := by decide +kernel
theorem d_S_init_63 : decode mt_S_init.2.1 63 = .ok (.goto (-21), 3) := by decide +kernel
theorem d_S_init_66 : decode mt_S_init.2.1 66 = .ok (.iconst 0, 1) := by decide +kernel
theorem d_S_init_67 : decode mt_S_init.2.1 67 = .ok (.istore_n 1, 1) := by decide +kernel
theorem d_S_init_68 : decode mt_S_init.2.1 68 = .ok (.iload_n 1, 1) := by decide +kernel
theorem d_S_init_69 : decode mt_S_init.2.1 69 = .ok (.bipush 6, 2) := by decide +kernel
theorem d_S_init_71 : decode mt_S_init.2.1 71 = .ok (.if_icmp .ge 22, 3) := by decide +kernel
theorem d_S_init_74 : decode mt_S_init.2.1 74 = .ok (.aload_n 0, 1) := by decide +kernel
theorem d_S_init_75 : decode mt_S_init.2.1 75 = .ok (.getfield 26, 3) := by decide +kernel
theorem d_S_init_78 : decode mt_S_init.2.1 78 = .ok (.iload_n 1, 1) := by decide +kernel
theorem d_S_init_79 : decode mt_S_init.2.1 79 = .ok (.new 24, 3) := by decide +kernel
theorem d_S_init_82 : decode mt_S_init.2.1 82 = .ok (.dup, 1) := by decide +kernel
theorem d_S_init_83 : decode mt_S_init.2.1 83 = .ok (.invokespecial 35, 3) := by decide +kernel
theorem d_S_init_86 : decode mt_S_init.2.1 86 = .ok (.aastore, 1) := by decide +kernel
theorem d_S_init_87 : decode mt_S_init.2.1 87 = .ok (.iinc 1 1, 3) := by decide +kernel
theorem d_S_init_90 : decode mt_S_init.2.1 90 = .ok (.goto (-22), 3) := by decide +kernel
theorem d_S_init_93 : decode mt_S_init.2.1 93 = .ok (.return_, 1) := by decide +kernel
theorem d_D_init_0 : decode mt_D_init.2.1 0 = .ok (.aload_n 0, 1) := by decide +kernel
theorem d_D_init_1 : decode mt_D_init.2.1 1 = .ok (.invokespecial 3, 3) := by decide +kernel
theorem d_D_init_4 : decode mt_D_init.2.1 4 = .ok (.aload_n 0, 1) := by decide +kernel
theorem d_D_init_5 : decode mt_D_init.2.1 5 = .ok (.bipush 12, 2) := by decide +kernel
theorem d_D_init_7 : decode mt_D_init.2.1 7 = .ok (.anewarray 9, 3) := by decide +kernel
theorem d_D_init_10 : decode mt_D_init.2.1 10 = .ok (.putfield 11, 3) := by decide +kernel
theorem d_D_init_13 : decode mt_D_init.2.1 13 = .ok (.aload_n 0, 1) := by decide +kernel
theorem d_D_init_14 : decode mt_D_init.2.1 14 = .ok (.iconst 2, 1) := by decide +kernel
theorem d_D_init_15 : decode mt_D_init.2.1 15 = .ok (.newarray .int, 2) := by decide +kernel
theorem d_D_init_17 : decode mt_D_init.2.1 17 = .ok (.putfield 17, 3) := by decide +kernel
theorem d_D_init_20 : decode mt_D_init.2.1 20 = .ok (.iconst 0, 1) := by decide +kernel
theorem d_D_init_21 : decode mt_D_init.2.1 21 = .ok (.istore_n 1, 1) := by decide +kernel
theorem d_D_init_22 : decode mt_D_init.2.1 22 = .ok (.iload_n 1, 1) := by decide +kernel
theorem d_D_init_23 : decode mt_D_init.2.1 23 = .ok (.aload_n 0, 1) := by decide +kernel
theorem d_D_init_24 : decode mt_D_init.2.1 24 = .ok (.getfield 11, 3) := by decide +kernel
theorem d_D_init_27 : decode mt_D_init.2.1 27 = .ok (.arraylength, 1) := by decide +kernel
theorem d_D_init_28 : decode mt_D_init.2.1 28 = .ok (.if_icmp .ge 22, 3) := by decide +kernel
theorem d_D_init_31 : decode mt_D_init.2.1 31 = .ok (.aload_n 0, 1) := by decide +kernel
theorem d_D_init_32 : decode mt_D_init.2.1 32 = .ok (.getfield 11, 3) := by decide +kernel
theorem d_D_init_35 : decode mt_D_init.2.1 35 = .ok (.iload_n 1, 1) := by decide +kernel
theorem d_D_init_36 : decode mt_D_init.2.1 36 = .ok (.new 9, 3) := by decide +kernel
theorem d_D_init_39 : decode mt_D_init.2.1 39 = .ok (.dup, 1) := by decide +kernel
theorem d_D_init_40 : decode mt_D_init.2.1 40 = .ok (.invokespecial 21, 3) := by decide +kernel
theorem d_D_init_43 : decode mt_D_init.2.1 43 = .ok (.aastore, 1) := by decide +kernel
theorem d_D_init_44 : decode mt_D_init.2.1 44 = .ok (.iinc 1 1, 3) := by decide +kernel
theorem d_D_init_47 : decode mt_D_init.2.1 47 = .ok (.goto (-25), 3) := by decide +kernel
theorem d_D_init_50 : decode mt_D_init.2.1 50 = .ok (.return_, 1) := by decide +kernel
theorem d_O_init_0 : decode mt_O_init.2.1 0 = .ok (.aload_n 0, 1) := by decide +kernel
theorem d_O_init_1 : decode mt_O_init.2.1 1 = .ok (.invokespecial 3, 3) := by decide +kernel
theorem d_O_init_4 : decode mt_O_init.2.1 4 = .ok (.return_, 1) := by decide +kernel
theorem d_H_init_0 : decode mt_H_init.2.1 0 = .ok (.aload_n 0, 1) := by decide +kernel
theorem d_H_init_1 : decode mt_H_init.2.1 1 = .ok (.invokespecial 3, 3) := by decide +kernel
theorem d_H_init_4 : decode mt_H_init.2.1 4 = .ok (.aload_n 0, 1) := by decide +kernel
theorem d_H_init_5 : decode mt_H_init.2.1 5 = .ok (.iconst 4, 1) := by decide +kernel
theorem d_H_init_6 : decode mt_H_init.2.1 6 = .ok (.newarray .int, 2) := by decide +kernel
theorem d_H_init_8 : decode mt_H_init.2.1 8 = .ok (.putfield 9, 3) := by decide +kernel
theorem d_H_init_11 : decode mt_H_init.2.1 11 = .ok (.return_, 1) := by decide +kernel
theorem d_U_init_0 : decode mt_U_init.2.1 0 = .ok (.aload_n 0, 1) := by decide +kernel
theorem d_U_init_1 : decode mt_U_init.2.1 1 = .ok (.invokespecial 3, 3) := by decide +kernel
theorem d_U_init_4 : decode mt_U_init.2.1 4 = .ok (.return_, 1) := by decide +kernel
theorem d_A_init_0 : decode mt_A_init.2.1 0 = .ok (.aload_n 0, 1) := by decide +kernel
theorem d_A_init_1 : decode mt_A_init.2.1 1 = .ok (.invokespecial 3, 3) := by decide +kernel
theorem d_A_init_4 : decode mt_A_init.2.1 4 = .ok (.aload_n 0, 1) := by decide +kernel
theorem d_A_init_5 : decode mt_A_init.2.1 5 = .ok (.bipush 14, 2) := by decide +kernel
theorem d_A_init_7 : decode mt_A_init.2.1 7 = .ok (.anewarray 9, 3) := by decide +kernel
theorem d_A_init_10 : decode mt_A_init.2.1 10 = .ok (.putfield 11, 3) := by decide +kernel
theorem d_A_init_13 : decode mt_A_init.2.1 13 = .ok (.iconst 0, 1) := by decide +kernel
theorem d_A_init_14 : decode mt_A_init.2.1 14 = .ok (.istore_n 1, 1) := by decide +kernel
theorem d_A_init_15 : decode mt_A_init.2.1 15 = .ok (.iload_n 1, 1) := by decide +kernel
theorem d_A_init_16 : decode mt_A_init.2.1 16 = .ok (.bipush 14, 2) := by decide +kernel
theorem d_A_init_18 : decode mt_A_init.2.1 18 = .ok (.if_icmp .ge 22, 3) := by decide +kernel
theorem d_A_init_21 : decode mt_A_init.2.1 21 = .ok (.aload_n 0, 1) := by decide +kernel
theorem d_A_init_22 : decode mt_A_init.2.1 22 = .ok (.getfield 11, 3) := by decide +kernel
theorem d_A_init_25 : decode mt_A_init.2.1 25 = .ok (.iload_n 1, 1) := by decide +kernel
theorem d_A_init_26 : decode mt_A_init.2.1 26 = .ok (.new 9, 3) := by decide +kernel
theorem d_A_init_29 : decode mt_A_init.2.1 29 = .ok (.dup, 1) := by decide +kernel
theorem d_A_init_30 : decode mt_A_init.2.1 30 = .ok (.invokespecial 17, 3) := by decide +kernel
theorem d_A_init_33 : decode mt_A_init.2.1 33 = .ok (.aastore, 1) := by decide +kernel
theorem d_A_init_34 : decode mt_A_init.2.1 34 = .ok (.iinc 1 1, 3) := by decide +kernel
theorem d_A_init_37 : decode mt_A_init.2.1 37 = .ok (.goto (-22), 3) := by decide +kernel
theorem d_A_init_40 : decode mt_A_init.2.1 40 = .ok (.return_, 1) := by decide +kernel
theorem d_G_init_0 : decode mt_G_init.2.1 0 = .ok (.aload_n 0, 1) := by decide +kernel
theorem d_G_init_1 : decode mt_G_init.2.1 1 = .ok (.invokespecial 3, 3) := by decide +kernel
theorem d_G_init_4 : decode mt_G_init.2.1 4 = .ok (.aload_n 0, 1) := by decide +kernel
theorem d_G_init_5 : decode mt_G_init.2.1 5 = .ok (.bipush 6, 2) := by decide +kernel
theorem d_G_init_7 : decode mt_G_init.2.1 7 = .ok (.newarray .int, 2) := by decide +kernel
theorem d_G_init_9 : decode mt_G_init.2.1 9 = .ok (.putfield 9, 3) := by decide +kernel
theorem d_G_init_12 : decode mt_G_init.2.1 12 = .ok (.aload_n 0, 1) := by decide +kernel
theorem d_G_init_13 : decode mt_G_init.2.1 13 = .ok (.bipush 6, 2) := by decide +kernel
theorem d_G_init_15 : decode mt_G_init.2.1 15 = .ok (.newarray .int, 2) := by decide +kernel
theorem d_G_init_17 : decode mt_G_init.2.1 17 = .ok (.putfield 15, 3) := by decide +kernel
theorem d_G_init_20 : decode mt_G_init.2.1 20 = .ok (.aload_n 0, 1) := by decide +kernel
theorem d_G_init_21 : decode mt_G_init.2.1 21 = .ok (.bipush 6, 2) := by decide +kernel
theorem d_G_init_23 : decode mt_G_init.2.1 23 = .ok (.newarray .int, 2) := by decide +kernel
theorem d_G_init_25 : decode mt_G_init.2.1 25 = .ok (.putfield 18, 3) := by decide +kernel
theorem d_G_init_28 : decode mt_G_init.2.1 28 = .ok (.return_, 1) := by decide +kernel
theorem d_R_write_0 : decode mt_R_write.2.1 0 = .ok (.iload_n 1, 1) := by decide +kernel
theorem d_R_write_1 : decode mt_R_write.2.1 1 = .ok (.ifCond .lt 10, 3) := by decide +kernel
theorem d_R_write_4 : decode mt_R_write.2.1 4 = .ok (.iload_n 1, 1) := by decide +kernel
theorem d_R_write_5 : decode mt_R_write.2.1 5 = .ok (.sipush 256, 3) := by decide +kernel
theorem d_R_write_8 : decode mt_R_write.2.1 8 = .ok (.if_icmp .lt 6, 3) := by decide +kernel
theorem d_R_write_11 : decode mt_R_write.2.1 11 = .ok (.bipush (-2), 2) := by decide +kernel
theorem d_R_write_13 : decode mt_R_write.2.1 13 = .ok (.ireturn, 1) := by decide +kernel
theorem d_R_write_14 : decode mt_R_write.2.1 14 = .ok (.aload_n 0, 1) := by decide +kernel
theorem d_R_write_15 : decode mt_R_write.2.1 15 = .ok (.getfield 10, 3) := by decide +kernel
theorem d_R_write_18 : decode mt_R_write.2.1 18 = .ok (.iload_n 1, 1) := by decide +kernel
theorem d_R_write_19 : decode mt_R_write.2.1 19 = .ok (.invokevirtual 59, 3) := by decide +kernel
theorem d_R_write_22 : decode mt_R_write.2.1 22 = .ok (.ifCond .eq 13, 3) := by decide +kernel
theorem d_R_write_25 : decode mt_R_write.2.1 25 = .ok (.aload_n 0, 1) := by decide +kernel
theorem d_R_write_26 : decode mt_R_write.2.1 26 = .ok (.getfield 10, 3) := by decide +kernel
theorem d_R_write_29 : decode mt_R_write.2.1 29 = .ok (.getfield 63, 3) := by decide +kernel
theorem d_R_write_32 : decode mt_R_write.2.1 32 = .ok (.goto 5, 3) := by decide +kernel
theorem d_R_write_35 : decode mt_R_write.2.1 35 = .ok (.bipush (-4), 2) := by decide +kernel
theorem d_R_write_37 : decode mt_R_write.2.1 37 = .ok (.ireturn, 1) := by decide +kernel
theorem d_T_append_0 : decode mt_T_append.2.1 0 = .ok (.aload_n 0, 1) := by decide +kernel
theorem d_T_append_1 : decode mt_T_append.2.1 1 = .ok (.getfield 29, 3) := by decide +kernel
theorem d_T_append_4 : decode mt_T_append.2.1 4 = .ok (.sipush 150, 3) := by decide +kernel
theorem d_T_append_7 : decode mt_T_append.2.1 7 = .ok (.if_icmp .lt 5, 3) := by decide +kernel
theorem d_T_append_10 : decode mt_T_append.2.1 10 = .ok (.iconst 0, 1) := by decide +kernel
theorem d_T_append_11 : decode mt_T_append.2.1 11 = .ok (.ireturn, 1) := by decide +kernel
theorem d_T_append_12 : decode mt_T_append.2.1 12 = .ok (.aload_n 0, 1) := by decide +kernel
theorem d_T_append_13 : decode mt_T_append.2.1 13 = .ok (.getfield 9, 3) := by decide +kernel
theorem d_T_append_16 : decode mt_T_append.2.1 16 = .ok (.aload_n 0, 1) := by decide +kernel
theorem d_T_append_17 : decode mt_T_append.2.1 17 = .ok (.getfield 29, 3) := by decide +kernel
theorem d_T_append_20 : decode mt_T_append.2.1 20 = .ok (.iload_n 1, 1) := by decide +kernel
theorem d_T_append_21 : decode mt_T_append.2.1 21 = .ok (.iastore, 1) := by decide +kernel
theorem d_T_append_22 : decode mt_T_append.2.1 22 = .ok (.aload_n 0, 1) := by decide +kernel
theorem d_T_append_23 : decode mt_T_append.2.1 23 = .ok (.dup, 1) := by decide +kernel
theorem d_T_append_24 : decode mt_T_append.2.1 24 = .ok (.getfield 29, 3) := by decide +kernel
theorem d_T_append_27 : decode mt_T_append.2.1 27 = .ok (.iconst 1, 1) := by decide +kernel
theorem d_T_append_28 : decode mt_T_append.2.1 28 = .ok (.iadd, 1) := by decide +kernel
theorem d_T_append_29 : decode mt_T_append.2.1 29 = .ok (.putfield 29, 3) := by decide +kernel
theorem d_T_append_32 : decode mt_T_append.2.1 32 = .ok (.iconst 1, 1) := by decide +kernel
theorem d_T_append_33 : decode mt_T_append.2.1 33 = .ok (.ireturn, 1) := by decide +kernel
theorem d_R_wipe_0 : decode mt_R_wipe.2.1 0 = .ok (.aload_n 0, 1) := by decide +kernel
theorem d_R_wipe_1 : decode mt_R_wipe.2.1 1 = .ok (.getfield 10, 3) := by decide +kernel
theorem d_R_wipe_4 : decode mt_R_wipe.2.1 4 = .ok (.getfield 63, 3) := by decide +kernel
theorem d_R_wipe_7 : decode mt_R_wipe.2.1 7 = .ok (.istore_n 1, 1) := by decide +kernel
theorem d_R_wipe_8 : decode mt_R_wipe.2.1 8 = .ok (.aload_n 0, 1) := by decide +kernel
theorem d_R_wipe_9 : decode mt_R_wipe.2.1 9 = .ok (.getfield 10, 3) := by decide +kernel
theorem d_R_wipe_12 : decode mt_R_wipe.2.1 12 = .ok (.iconst 0, 1) := by decide +kernel
theorem d_R_wipe_13 : decode mt_R_wipe.2.1 13 = .ok (.putfield 63, 3) := by decide +kernel
theorem d_R_wipe_16 : decode mt_R_wipe.2.1 16 = .ok (.iload_n 1, 1) := by decide +kernel
theorem d_R_wipe_17 : decode mt_R_wipe.2.1 17 = .ok (.ireturn, 1) := by decide +kernel
theorem d_R_fault_0 : decode mt_R_fault.2.1 0 = .ok (.aload_n 0, 1) := by decide +kernel
theorem d_R_fault_1 : decode mt_R_fault.2.1 1 = .ok (.getfield 10, 3) := by decide +kernel
theorem d_R_fault_4 : decode mt_R_fault.2.1 4 = .ok (.invokevirtual 67, 3) := by decide +kernel
theorem d_R_fault_7 : decode mt_R_fault.2.1 7 = .ok (.ireturn, 1) := by decide +kernel
theorem d_T_findFault_0 : decode mt_T_findFault.2.1 0 = .ok (.aload_n 0, 1) := by decide +kernel
theorem d_T_findFault_1 : decode mt_T_findFault.2.1 1 = .ok (.iconst 0, 1) := by decide +kernel
theorem d_T_findFault_2 : decode mt_T_findFault.2.1 2 = .ok (.putfield 33, 3) := by decide +kernel
theorem d_T_findFault_5 : decode mt_T_findFault.2.1 5 = .ok (.aload_n 0, 1) := by decide +kernel
theorem d_T_findFault_6 : decode mt_T_findFault.2.1 6 = .ok (.iconst 0, 1) := by decide +kernel
theorem d_T_findFault_7 : decode mt_T_findFault.2.1 7 = .ok (.putfield 36, 3) := by decide +kernel
theorem d_T_findFault_10 : decode mt_T_findFault.2.1 10 = .ok (.aload_n 0, 1) := by decide +kernel
theorem d_T_findFault_11 : decode mt_T_findFault.2.1 11 = .ok (.getfield 18, 3) := by decide +kernel
theorem d_T_findFault_14 : decode mt_T_findFault.2.1 14 = .ok (.iconst 0, 1) := by decide +kernel
theorem d_T_findFault_15 : decode mt_T_findFault.2.1 15 = .ok (.putfield 40, 3) := by decide +kernel
theorem d_T_findFault_18 : decode mt_T_findFault.2.1 18 = .ok (.aload_n 0, 1) := by decide +kernel
theorem d_T_findFault_19 : decode mt_T_findFault.2.1 19 = .ok (.getfield 25, 3) := by decide +kernel
theorem d_T_findFault_22 : decode mt_T_findFault.2.1 22 = .ok (.iconst 0, 1) := by decide +kernel
theorem d_T_findFault_23 : decode mt_T_findFault.2.1 23 = .ok (.putfield 41, 3) := by decide +kernel
theorem d_T_findFault_26 : decode mt_T_findFault.2.1 26 = .ok (.aload_n 0, 1) := by decide +kernel
theorem d_T_findFault_27 : decode mt_T_findFault.2.1 27 = .ok (.getfield 25, 3) := by decide +kernel
theorem d_T_findFault_30 : decode mt_T_findFault.2.1 30 = .ok (.iconst 0, 1) := by decide +kernel
theorem d_T_findFault_31 : decode mt_T_findFault.2.1 31 = .ok (.putfield 44, 3) := by decide +kernel
theorem d_T_findFault_34 : decode mt_T_findFault.2.1 34 = .ok (.aload_n 0, 1) := by decide +kernel
theorem d_T_findFault_35 : decode mt_T_findFault.2.1 35 = .ok (.bipush 82, 2) := by decide +kernel
theorem d_T_findFault_37 : decode mt_T_findFault.2.1 37 = .ok (.iconst 1, 1) := by decide +kernel
theorem d_T_findFault_38 : decode mt_T_findFault.2.1 38 = .ok (.invokevirtual 47, 3) := by decide +kernel
theorem d_T_findFault_41 : decode mt_T_findFault.2.1 41 = .ok (.pop, 1) := by decide +kernel
theorem d_T_findFault_42 : decode mt_T_findFault.2.1 42 = .ok (.iconst 0, 1) := by decide +kernel
theorem d_T_findFault_43 : decode mt_T_findFault.2.1 43 = .ok (.istore_n 1, 1) := by decide +kernel
theorem d_T_findFault_44 : decode mt_T_findFault.2.1 44 = .ok (.iload_n 1, 1) := by decide +kernel
theorem d_T_findFault_45 : decode mt_T_findFault.2.1 45 = .ok (.sipush 150, 3) := by decide +kernel
theorem d_T_findFault_48 : decode mt_T_findFault.2.1 48 = .ok (.if_icmp .ge 40, 3) := by decide +kernel
theorem d_T_findFault_51 : decode mt_T_findFault.2.1 51 = .ok (.aload_n 0, 1) := by decide +kernel
theorem d_T_findFault_52 : decode mt_T_findFault.2.1 52 = .ok (.getfield 36, 3) := by decide +kernel
theorem d_T_findFault_55 : decode mt_T_findFault.2.1 55 = .ok (.ifCond .ne 33, 3) := by decide +kernel
theorem d_T_findFault_58 : decode mt_T_findFault.2.1 58 = .ok (.aload_n 0, 1) := by decide +kernel
theorem d_T_findFault_59 : decode mt_T_findFault.2.1 59 = .ok (.getfield 33, 3) := by decide +kernel
theorem d_T_findFault_62 : decode mt_T_findFault.2.1 62 = .ok (.aload_n 0, 1) := by decide +kernel
theorem d_T_findFault_63 : decode mt_T_findFault.2.1 63 = .ok (.getfield 29, 3) := by decide +kernel
theorem d_T_findFault_66 : decode mt_T_findFault.2.1 66 = .ok (.if_icmp .ge 22, 3) := by decide +kernel
theorem d_T_findFault_69 : decode mt_T_findFault.2.1 69 = .ok (.aload_n 0, 1) := by decide +kernel
theorem d_T_findFault_70 : decode mt_T_findFault.2.1 70 = .ok (.aload_n 0, 1) := by decide +kernel
theorem d_T_findFault_71 : decode mt_T_findFault.2.1 71 = .ok (.getfield 9, 3) := by decide +kernel
theorem d_T_findFault_74 : decode mt_T_findFault.2.1 74 = .ok (.aload_n 0, 1) := by decide +kernel
theorem d_T_findFault_75 : decode mt_T_findFault.2.1 75 = .ok (.getfield 33, 3) := by decide +kernel
theorem d_T_findFault_78 : decode mt_T_findFault.2.1 78 = .ok (.iaload, 1) := by decide +kernel
theorem d_T_findFault_79 : decode mt_T_findFault.2.1 79 = .ok (.invokevirtual 51, 3) := by decide +kernel
theorem d_T_findFault_82 : decode mt_T_findFault.2.1 82 = .ok (.iinc 1 1, 3) := by decide +kernel
theorem d_T_findFault_85 : decode mt_T_findFault.2.1 85 = .ok (.goto (-41), 3) := by decide +kernel
theorem d_T_findFault_88 : decode mt_T_findFault.2.1 88 = .ok (.aload_n 0, 1) := by decide +kernel
theorem d_T_findFault_89 : decode mt_T_findFault.2.1 89 = .ok (.getfield 36, 3) := by decide +kernel
theorem d_T_findFault_92 : decode mt_T_findFault.2.1 92 = .ok (.ifCond .eq 10, 3) := by decide +kernel
theorem d_T_findFault_95 : decode mt_T_findFault.2.1 95 = .ok (.aload_n 0, 1) := by decide +kernel
theorem d_T_findFault_96 : decode mt_T_findFault.2.1 96 = .ok (.getfield 33, 3) := by decide +kernel
theorem d_T_findFault_99 : decode mt_T_findFault.2.1 99 = .ok (.goto 5, 3) := by decide +kernel
theorem d_T_findFault_102 : decode mt_T_findFault.2.1 102 = .ok (.bipush (-9), 2) := by decide +kernel
theorem d_T_findFault_104 : decode mt_T_findFault.2.1 104 = .ok (.ireturn, 1) := by decide +kernel
theorem d_T_take_0 : decode mt_T_take.2.1 0 = .ok (.aload_n 0, 1) := by decide +kernel
theorem d_T_take_1 : decode mt_T_take.2.1 1 = .ok (.getfield 36, 3) := by decide +kernel
theorem d_T_take_4 : decode mt_T_take.2.1 4 = .ok (.ifCond .ne 28, 3) := by decide +kernel
theorem d_T_take_7 : decode mt_T_take.2.1 7 = .ok (.aload_n 0, 1) := by decide +kernel
theorem d_T_take_8 : decode mt_T_take.2.1 8 = .ok (.getfield 33, 3) := by decide +kernel
theorem d_T_take_11 : decode mt_T_take.2.1 11 = .ok (.aload_n 0, 1) := by decide +kernel
theorem d_T_take_12 : decode mt_T_take.2.1 12 = .ok (.getfield 29, 3) := by decide +kernel
theorem d_T_take_15 : decode mt_T_take.2.1 15 = .ok (.if_icmp .ge 17, 3) := by decide +kernel
theorem d_T_take_18 : decode mt_T_take.2.1 18 = .ok (.aload_n 0, 1) := by decide +kernel
theorem d_T_take_19 : decode mt_T_take.2.1 19 = .ok (.getfield 9, 3) := by decide +kernel
theorem d_T_take_22 : decode mt_T_take.2.1 22 = .ok (.aload_n 0, 1) := by decide +kernel
theorem d_T_take_23 : decode mt_T_take.2.1 23 = .ok (.getfield 33, 3) := by decide +kernel
theorem d_T_take_26 : decode mt_T_take.2.1 26 = .ok (.iaload, 1) := by decide +kernel
theorem d_T_take_27 : decode mt_T_take.2.1 27 = .ok (.iload_n 1, 1) := by decide +kernel
theorem d_T_take_28 : decode mt_T_take.2.1 28 = .ok (.isub, 1) := by decide +kernel
theorem d_T_take_29 : decode mt_T_take.2.1 29 = .ok (.goto 5, 3) := by decide +kernel
theorem d_T_take_32 : decode mt_T_take.2.1 32 = .ok (.bipush (-9), 2) := by decide +kernel
theorem d_T_take_34 : decode mt_T_take.2.1 34 = .ok (.istore_n 3, 1) := by decide +kernel
theorem d_T_take_35 : decode mt_T_take.2.1 35 = .ok (.iload_n 3, 1) := by decide +kernel
theorem d_T_take_36 : decode mt_T_take.2.1 36 = .ok (.iload_n 2, 1) := by decide +kernel
theorem d_T_take_37 : decode mt_T_take.2.1 37 = .ok (.invokestatic 102, 3) := by decide +kernel
theorem d_T_take_40 : decode mt_T_take.2.1 40 = .ok (.ifCond .ne 10, 3) := by decide +kernel
theorem d_T_take_43 : decode mt_T_take.2.1 43 = .ok (.aload_n 0, 1) := by decide +kernel
theorem d_T_take_44 : decode mt_T_take.2.1 44 = .ok (.iconst 1, 1) := by decide +kernel
theorem d_T_take_45 : decode mt_T_take.2.1 45 = .ok (.putfield 36, 3) := by decide +kernel
theorem d_T_take_48 : decode mt_T_take.2.1 48 = .ok (.iconst 0, 1) := by decide +kernel
theorem d_T_take_49 : decode mt_T_take.2.1 49 = .ok (.ireturn, 1) := by decide +kernel
theorem d_T_take_50 : decode mt_T_take.2.1 50 = .ok (.aload_n 0, 1) := by decide +kernel
theorem d_T_take_51 : decode mt_T_take.2.1 51 = .ok (.dup, 1) := by decide +kernel
theorem d_T_take_52 : decode mt_T_take.2.1 52 = .ok (.getfield 33, 3) := by decide +kernel
theorem d_T_take_55 : decode mt_T_take.2.1 55 = .ok (.iconst 1, 1) := by decide +kernel
theorem d_T_take_56 : decode mt_T_take.2.1 56 = .ok (.iadd, 1) := by decide +kernel
theorem d_T_take_57 : decode mt_T_take.2.1 57 = .ok (.putfield 33, 3) := by decide +kernel
theorem d_T_take_60 : decode mt_T_take.2.1 60 = .ok (.iload_n 3, 1) := by decide +kernel
theorem d_T_take_61 : decode mt_T_take.2.1 61 = .ok (.ireturn, 1) := by decide +kernel
theorem d_R_isBelow_0 : decode mt_R_isBelow.2.1 0 = .ok (.iload_n 0, 1) := by decide +kernel
theorem d_R_isBelow_1 : decode mt_R_isBelow.2.1 1 = .ok (.ifCond .lt 12, 3) := by decide +kernel
theorem d_R_isBelow_4 : decode mt_R_isBelow.2.1 4 = .ok (.iload_n 0, 1) := by decide +kernel
theorem d_R_isBelow_5 : decode mt_R_isBelow.2.1 5 = .ok (.iload_n 1, 1) := by decide +kernel
theorem d_R_isBelow_6 : decode mt_R_isBelow.2.1 6 = .ok (.if_icmp .ge 7, 3) := by decide +kernel
theorem d_R_isBelow_9 : decode mt_R_isBelow.2.1 9 = .ok (.iconst 1, 1) := by decide +kernel
theorem d_R_isBelow_10 : decode mt_R_isBelow.2.1 10 = .ok (.goto 4, 3) := by decide +kernel
theorem d_R_isBelow_13 : decode mt_R_isBelow.2.1 13 = .ok (.iconst 0, 1) := by decide +kernel
theorem d_R_isBelow_14 : decode mt_R_isBelow.2.1 14 = .ok (.ireturn, 1) := by decide +kernel
theorem d_T_readPart_0 : decode mt_T_readPart.2.1 0 = .ok (.iload_n 1, 1) := by decide +kernel
theorem d_T_readPart_1 : decode mt_T_readPart.2.1 1 = .ok (.lookupswitch 73 #[(84, 65), (104, 50), (105, 43), (116, 57)], 43) := by decide +kernel
theorem d_T_readPart_44 : decode mt_T_readPart.2.1 44 = .ok (.aload_n 0, 1) := by decide +kernel
theorem d_T_readPart_45 : decode mt_T_readPart.2.1 45 = .ok (.invokevirtual 55, 3) := by decide +kernel
theorem d_T_readPart_48 : decode mt_T_readPart.2.1 48 = .ok (.goto 31, 3) := by decide +kernel
theorem d_T_readPart_51 : decode mt_T_readPart.2.1 51 = .ok (.aload_n 0, 1) := by decide +kernel
theorem d_T_readPart_52 : decode mt_T_readPart.2.1 52 = .ok (.invokevirtual 58, 3) := by decide +kernel
theorem d_T_readPart_55 : decode mt_T_readPart.2.1 55 = .ok (.goto 24, 3) := by decide +kernel
theorem d_T_readPart_58 : decode mt_T_readPart.2.1 58 = .ok (.aload_n 0, 1) := by decide +kernel
theorem d_T_readPart_59 : decode mt_T_readPart.2.1 59 = .ok (.iconst 0, 1) := by decide +kernel
theorem d_T_readPart_60 : decode mt_T_readPart.2.1 60 = .ok (.invokevirtual 61, 3) := by decide +kernel
theorem d_T_readPart_63 : decode mt_T_readPart.2.1 63 = .ok (.goto 16, 3) := by decide +kernel
theorem d_T_readPart_66 : decode mt_T_readPart.2.1 66 = .ok (.aload_n 0, 1) := by decide +kernel
theorem d_T_readPart_67 : decode mt_T_readPart.2.1 67 = .ok (.iconst 1, 1) := by decide +kernel
theorem d_T_readPart_68 : decode mt_T_readPart.2.1 68 = .ok (.invokevirtual 61, 3) := by decide +kernel
theorem d_T_readPart_71 : decode mt_T_readPart.2.1 71 = .ok (.goto 8, 3) := by decide +kernel
theorem d_T_readPart_74 : decode mt_T_readPart.2.1 74 = .ok (.aload_n 0, 1) := by decide +kernel
theorem d_T_readPart_75 : decode mt_T_readPart.2.1 75 = .ok (.iconst 1, 1) := by decide +kernel
theorem d_T_readPart_76 : decode mt_T_readPart.2.1 76 = .ok (.putfield 36, 3) := by decide +kernel
theorem d_T_readPart_79 : decode mt_T_readPart.2.1 79 = .ok (.return_, 1) := by decide +kernel
theorem d_T_readInstruction_0 : decode mt_T_readInstruction.2.1 0 = .ok (.aload_n 0, 1) := by decide +kernel
theorem d_T_readInstruction_1 : decode mt_T_readInstruction.2.1 1 = .ok (.getfield 18, 3) := by decide +kernel
theorem d_T_readInstruction_4 : decode mt_T_readInstruction.2.1 4 = .ok (.getfield 40, 3) := by decide +kernel
theorem d_T_readInstruction_7 : decode mt_T_readInstruction.2.1 7 = .ok (.bipush 16, 2) := by decide +kernel
theorem d_T_readInstruction_9 : decode mt_T_readInstruction.2.1 9 = .ok (.if_icmp .lt 9, 3) := by decide +kernel
theorem d_T_readInstruction_12 : decode mt_T_readInstruction.2.1 12 = .ok (.aload_n 0, 1) := by decide +kernel
theorem d_T_readInstruction_13 : decode mt_T_readInstruction.2.1 13 = .ok (.iconst 1, 1) := by decide +kernel
theorem d_T_readInstruction_14 : decode mt_T_readInstruction.2.1 14 = .ok (.putfield 36, 3) := by decide +kernel
theorem d_T_readInstruction_17 : decode mt_T_readInstruction.2.1 17 = .ok (.return_, 1) := by decide +kernel
theorem d_T_readInstruction_18 : decode mt_T_readInstruction.2.1 18 = .ok (.aload_n 0, 1) := by decide +kernel
theorem d_T_readInstruction_19 : decode mt_T_readInstruction.2.1 19 = .ok (.dup, 1) := by decide +kernel
theorem d_T_readInstruction_20 : decode mt_T_readInstruction.2.1 20 = .ok (.getfield 33, 3) := by decide +kernel
theorem d_T_readInstruction_23 : decode mt_T_readInstruction.2.1 23 = .ok (.iconst 1, 1) := by decide +kernel
theorem d_T_readInstruction_24 : decode mt_T_readInstruction.2.1 24 = .ok (.iadd, 1) := by decide +kernel
theorem d_T_readInstruction_25 : decode mt_T_readInstruction.2.1 25 = .ok (.putfield 33, 3) := by decide +kernel
theorem d_T_readInstruction_28 : decode mt_T_readInstruction.2.1 28 = .ok (.aload_n 0, 1) := by decide +kernel
theorem d_T_readInstruction_29 : decode mt_T_readInstruction.2.1 29 = .ok (.invokevirtual 65, 3) := by decide +kernel
theorem d_T_readInstruction_32 : decode mt_T_readInstruction.2.1 32 = .ok (.istore_n 1, 1) := by decide +kernel
theorem d_T_readInstruction_33 : decode mt_T_readInstruction.2.1 33 = .ok (.iload_n 1, 1) := by decide +kernel
theorem d_T_readInstruction_34 : decode mt_T_readInstruction.2.1 34 = .ok (.invokestatic 69, 3) := by decide +kernel
theorem d_T_readInstruction_37 : decode mt_T_readInstruction.2.1 37 = .ok (.ifCond .eq 13, 3) := by decide +kernel
theorem d_T_readInstruction_40 : decode mt_T_readInstruction.2.1 40 = .ok (.aload_n 0, 1) := by decide +kernel
theorem d_T_readInstruction_41 : decode mt_T_readInstruction.2.1 41 = .ok (.bipush 48, 2) := by decide +kernel
theorem d_T_readInstruction_43 : decode mt_T_readInstruction.2.1 43 = .ok (.iconst 4, 1) := by decide +kernel
theorem d_T_readInstruction_44 : decode mt_T_readInstruction.2.1 44 = .ok (.invokevirtual 47, 3) := by decide +kernel
theorem d_T_readInstruction_47 : decode mt_T_readInstruction.2.1 47 = .ok (.goto 4, 3) := by decide +kernel
theorem d_T_readInstruction_50 : decode mt_T_readInstruction.2.1 50 = .ok (.iconst 0, 1) := by decide +kernel
theorem d_T_readInstruction_51 : decode mt_T_readInstruction.2.1 51 = .ok (.istore_n 2, 1) := by decide +kernel
theorem d_T_readInstruction_52 : decode mt_T_readInstruction.2.1 52 = .ok (.getstatic 73, 3) := by decide +kernel
theorem d_T_readInstruction_55 : decode mt_T_readInstruction.2.1 55 = .ok (.iload_n 1, 1) := by decide +kernel
theorem d_T_readInstruction_56 : decode mt_T_readInstruction.2.1 56 = .ok (.iaload, 1) := by decide +kernel
theorem d_T_readInstruction_57 : decode mt_T_readInstruction.2.1 57 = .ok (.ifCond .le 28, 3) := by decide +kernel
theorem d_T_readInstruction_60 : decode mt_T_readInstruction.2.1 60 = .ok (.aload_n 0, 1) := by decide +kernel
theorem d_T_readInstruction_61 : decode mt_T_readInstruction.2.1 61 = .ok (.iload_n 1, 1) := by decide +kernel
theorem d_T_readInstruction_62 : decode mt_T_readInstruction.2.1 62 = .ok (.bipush 6, 2) := by decide +kernel
theorem d_T_readInstruction_64 : decode mt_T_readInstruction.2.1 64 = .ok (.if_icmp .ne 8, 3) := by decide +kernel
theorem d_T_readInstruction_67 : decode mt_T_readInstruction.2.1 67 = .ok (.bipush 97, 2) := by decide +kernel
theorem d_T_readInstruction_69 : decode mt_T_readInstruction.2.1 69 = .ok (.goto 5, 3) := by decide +kernel
theorem d_T_readInstruction_72 : decode mt_T_readInstruction.2.1 72 = .ok (.bipush 48, 2) := by decide +kernel
theorem d_T_readInstruction_74 : decode mt_T_readInstruction.2.1 74 = .ok (.getstatic 73, 3) := by decide +kernel
theorem d_T_readInstruction_77 : decode mt_T_readInstruction.2.1 77 = .ok (.iload_n 1, 1) := by decide +kernel
theorem d_T_readInstruction_78 : decode mt_T_readInstruction.2.1 78 = .ok (.iaload, 1) := by decide +kernel
theorem d_T_readInstruction_79 : decode mt_T_readInstruction.2.1 79 = .ok (.invokevirtual 47, 3) := by decide +kernel
theorem d_T_readInstruction_82 : decode mt_T_readInstruction.2.1 82 = .ok (.goto 4, 3) := by decide +kernel
theorem d_T_readInstruction_85 : decode mt_T_readInstruction.2.1 85 = .ok (.iconst 0, 1) := by decide +kernel
theorem d_T_readInstruction_86 : decode mt_T_readInstruction.2.1 86 = .ok (.istore_n 3, 1) := by decide +kernel
theorem d_T_readInstruction_87 : decode mt_T_readInstruction.2.1 87 = .ok (.aload_n 0, 1) := by decide +kernel
theorem d_T_readInstruction_88 : decode mt_T_readInstruction.2.1 88 = .ok (.getfield 36, 3) := by decide +kernel
theorem d_T_readInstruction_91 : decode mt_T_readInstruction.2.1 91 = .ok (.ifCond .ne 13, 3) := by decide +kernel
theorem d_T_readInstruction_94 : decode mt_T_readInstruction.2.1 94 = .ok (.aload_n 0, 1) := by decide +kernel
theorem d_T_readInstruction_95 : decode mt_T_readInstruction.2.1 95 = .ok (.getfield 18, 3) := by decide +kernel
theorem d_T_readInstruction_98 : decode mt_T_readInstruction.2.1 98 = .ok (.iload_n 1, 1) := by decide +kernel
theorem d_T_readInstruction_99 : decode mt_T_readInstruction.2.1 99 = .ok (.iload_n 2, 1) := by decide +kernel
theorem d_T_readInstruction_100 : decode mt_T_readInstruction.2.1 100 = .ok (.iload_n 3, 1) := by decide +kernel
theorem d_T_readInstruction_101 : decode mt_T_readInstruction.2.1 101 = .ok (.invokevirtual 76, 3) := by decide +kernel
theorem d_T_readInstruction_104 : decode mt_T_readInstruction.2.1 104 = .ok (.return_, 1) := by decide +kernel
theorem d_T_takeCode_0 : decode mt_T_takeCode.2.1 0 = .ok (.aload_n 0, 1) := by decide +kernel
theorem d_T_takeCode_1 : decode mt_T_takeCode.2.1 1 = .ok (.getfield 33, 3) := by decide +kernel
theorem d_T_takeCode_4 : decode mt_T_takeCode.2.1 4 = .ok (.aload_n 0, 1) := by decide +kernel
theorem d_T_takeCode_5 : decode mt_T_takeCode.2.1 5 = .ok (.getfield 29, 3) := by decide +kernel
theorem d_T_takeCode_8 : decode mt_T_takeCode.2.1 8 = .ok (.if_icmp .ge 23, 3) := by decide +kernel
theorem d_T_takeCode_11 : decode mt_T_takeCode.2.1 11 = .ok (.ldc 94, 2) := by decide +kernel
theorem d_T_takeCode_13 : decode mt_T_takeCode.2.1 13 = .ok (.aload_n 0, 1) := by decide +kernel
theorem d_T_takeCode_14 : decode mt_T_takeCode.2.1 14 = .ok (.getfield 9, 3) := by decide +kernel
theorem d_T_takeCode_17 : decode mt_T_takeCode.2.1 17 = .ok (.aload_n 0, 1) := by decide +kernel
theorem d_T_takeCode_18 : decode mt_T_takeCode.2.1 18 = .ok (.getfield 33, 3) := by decide +kernel
theorem d_T_takeCode_21 : decode mt_T_takeCode.2.1 21 = .ok (.iaload, 1) := by decide +kernel
theorem d_T_takeCode_22 : decode mt_T_takeCode.2.1 22 = .ok (.i2c, 1) := by decide +kernel
theorem d_T_takeCode_23 : decode mt_T_takeCode.2.1 23 = .ok (.invokevirtual 96, 3) := by decide +kernel
theorem d_T_takeCode_26 : decode mt_T_takeCode.2.1 26 = .ok (.iconst 1, 1) := by decide +kernel
theorem d_T_takeCode_27 : decode mt_T_takeCode.2.1 27 = .ok (.iadd, 1) := by decide +kernel
theorem d_T_takeCode_28 : decode mt_T_takeCode.2.1 28 = .ok (.goto 4, 3) := by decide +kernel
theorem d_T_takeCode_31 : decode mt_T_takeCode.2.1 31 = .ok (.iconst 0, 1) := by decide +kernel
theorem d_T_takeCode_32 : decode mt_T_takeCode.2.1 32 = .ok (.istore_n 1, 1) := by decide +kernel
theorem d_T_takeCode_33 : decode mt_T_takeCode.2.1 33 = .ok (.iload_n 1, 1) := by decide +kernel
theorem d_T_takeCode_34 : decode mt_T_takeCode.2.1 34 = .ok (.ifCond .ne 11, 3) := by decide +kernel
theorem d_T_takeCode_37 : decode mt_T_takeCode.2.1 37 = .ok (.aload_n 0, 1) := by decide +kernel
theorem d_T_takeCode_38 : decode mt_T_takeCode.2.1 38 = .ok (.iconst 1, 1) := by decide +kernel
theorem d_T_takeCode_39 : decode mt_T_takeCode.2.1 39 = .ok (.putfield 36, 3) := by decide +kernel
theorem d_T_takeCode_42 : decode mt_T_takeCode.2.1 42 = .ok (.goto 13, 3) := by decide +kernel
theorem d_T_takeCode_45 : decode mt_T_takeCode.2.1 45 = .ok (.aload_n 0, 1) := by decide +kernel
theorem d_T_takeCode_46 : decode mt_T_takeCode.2.1 46 = .ok (.dup, 1) := by decide +kernel
theorem d_T_takeCode_47 : decode mt_T_takeCode.2.1 47 = .ok (.getfield 33, 3) := by decide +kernel
theorem d_T_takeCode_50 : decode mt_T_takeCode.2.1 50 = .ok (.iconst 1, 1) := by decide +kernel
theorem d_T_takeCode_51 : decode mt_T_takeCode.2.1 51 = .ok (.iadd, 1) := by decide +kernel
theorem d_T_takeCode_52 : decode mt_T_takeCode.2.1 52 = .ok (.putfield 33, 3) := by decide +kernel
theorem d_T_takeCode_55 : decode mt_T_takeCode.2.1 55 = .ok (.iload_n 1, 1) := by decide +kernel
theorem d_T_takeCode_56 : decode mt_T_takeCode.2.1 56 = .ok (.ireturn, 1) := by decide +kernel
theorem d_JS_indexOf_0 : decode mt_JS_indexOf.2.1 0 = .ok (.aload_n 0, 1) := by decide +kernel
theorem d_JS_indexOf_1 : decode mt_JS_indexOf.2.1 1 = .ok (.iload_n 1, 1) := by decide +kernel
theorem d_JS_indexOf_2 : decode mt_JS_indexOf.2.1 2 = .ok (.iconst 0, 1) := by decide +kernel
theorem d_JS_indexOf_3 : decode mt_JS_indexOf.2.1 3 = .ok (.invokevirtual 633, 3) := by decide +kernel
theorem d_JS_indexOf_6 : decode mt_JS_indexOf.2.1 6 = .ok (.ireturn, 1) := by decide +kernel
theorem d_JS_indexOf_5_0 : decode mt_JS_indexOf_5.2.1 0 = .ok (.aload_n 0, 1) := by decide +kernel
theorem d_JS_indexOf_5_1 : decode mt_JS_indexOf_5.2.1 1 = .ok (.invokevirtual 492, 3) := by decide +kernel
theorem d_JS_indexOf_5_4 : decode mt_JS_indexOf_5.2.1 4 = .ok (.ifCond .eq 19, 3) := by decide +kernel
theorem d_JS_indexOf_5_7 : decode mt_JS_indexOf_5.2.1 7 = .ok (.aload_n 0, 1) := by decide +kernel
theorem d_JS_indexOf_5_8 : decode mt_JS_indexOf_5.2.1 8 = .ok (.getfield 9, 3) := by decide +kernel
theorem d_JS_indexOf_5_11 : decode mt_JS_indexOf_5.2.1 11 = .ok (.iload_n 1, 1) := by decide +kernel
theorem d_JS_indexOf_5_12 : decode mt_JS_indexOf_5.2.1 12 = .ok (.iload_n 2, 1) := by decide +kernel
theorem d_JS_indexOf_5_13 : decode mt_JS_indexOf_5.2.1 13 = .ok (.aload_n 0, 1) := by decide +kernel
theorem d_JS_indexOf_5_14 : decode mt_JS_indexOf_5.2.1 14 = .ok (.invokevirtual 505, 3) := by decide +kernel
theorem d_JS_indexOf_5_17 : decode mt_JS_indexOf_5.2.1 17 = .ok (.invokestatic 637, 3) := by decide +kernel
theorem d_JS_indexOf_5_20 : decode mt_JS_indexOf_5.2.1 20 = .ok (.goto 16, 3) := by decide +kernel
theorem d_JS_indexOf_5_23 : decode mt_JS_indexOf_5.2.1 23 = .ok (.aload_n 0, 1) := by decide +kernel
theorem d_JS_indexOf_5_24 : decode mt_JS_indexOf_5.2.1 24 = .ok (.getfield 9, 3) := by decide +kernel
theorem d_JS_indexOf_5_27 : decode mt_JS_indexOf_5.2.1 27 = .ok (.iload_n 1, 1) := by decide +kernel
theorem d_JS_indexOf_5_28 : decode mt_JS_indexOf_5.2.1 28 = .ok (.iload_n 2, 1) := by decide +kernel
theorem d_JS_indexOf_5_29 : decode mt_JS_indexOf_5.2.1 29 = .ok (.aload_n 0, 1) := by decide +kernel
theorem d_JS_indexOf_5_30 : decode mt_JS_indexOf_5.2.1 30 = .ok (.invokevirtual 505, 3) := by decide +kernel
theorem d_JS_indexOf_5_33 : decode mt_JS_indexOf_5.2.1 33 = .ok (.invokestatic 640, 3) := by decide +kernel
theorem d_JS_indexOf_5_36 : decode mt_JS_indexOf_5.2.1 36 = .ok (.ireturn, 1) := by decide +kernel
theorem d_JS_isLatin1_0 : decode mt_JS_isLatin1.2.1 0 = .ok (.getstatic 38, 3) := by decide +kernel
theorem d_JS_isLatin1_3 : decode mt_JS_isLatin1.2.1 3 = .ok (.ifCond .eq 14, 3) := by decide +kernel
theorem d_JS_isLatin1_6 : decode mt_JS_isLatin1.2.1 6 = .ok (.aload_n 0, 1) := by decide +kernel
theorem d_JS_isLatin1_7 : decode mt_JS_isLatin1.2.1 7 = .ok (.getfield 15, 3) := by decide +kernel
theorem d_JS_isLatin1_10 : decode mt_JS_isLatin1.2.1 10 = .ok (.ifCond .ne 7, 3) := by decide +kernel
theorem d_JS_isLatin1_13 : decode mt_JS_isLatin1.2.1 13 = .ok (.iconst 1, 1) := by decide +kernel
theorem d_JS_isLatin1_14 : decode mt_JS_isLatin1.2.1 14 = .ok (.goto 4, 3) := by decide +kernel
theorem d_JS_isLatin1_17 : decode mt_JS_isLatin1.2.1 17 = .ok (.iconst 0, 1) := by decide +kernel
theorem d_JS_isLatin1_18 : decode mt_JS_isLatin1.2.1 18 = .ok (.ireturn, 1) := by decide +kernel
theorem d_JS_length_0 : decode mt_JS_length.2.1 0 = .ok (.aload_n 0, 1) := by decide +kernel
theorem d_JS_length_1 : decode mt_JS_length.2.1 1 = .ok (.getfield 9, 3) := by decide +kernel
theorem d_JS_length_4 : decode mt_JS_length.2.1 4 = .ok (.arraylength, 1) := by decide +kernel
theorem d_JS_length_5 : decode mt_JS_length.2.1 5 = .ok (.aload_n 0, 1) := by decide +kernel
theorem d_JS_length_6 : decode mt_JS_length.2.1 6 = .ok (.invokevirtual 335, 3) := by decide +kernel
theorem d_JS_length_9 : decode mt_JS_length.2.1 9 = .ok (.ishr, 1) := by decide +kernel
theorem d_JS_length_10 : decode mt_JS_length.2.1 10 = .ok (.ireturn, 1) := by decide +kernel
theorem d_JS_coder_0 : decode mt_JS_coder.2.1 0 = .ok (.getstatic 38, 3) := by decide +kernel
theorem d_JS_coder_3 : decode mt_JS_coder.2.1 3 = .ok (.ifCond .eq 10, 3) := by decide +kernel
theorem d_JS_coder_6 : decode mt_JS_coder.2.1 6 = .ok (.aload_n 0, 1) := by decide +kernel
theorem d_JS_coder_7 : decode mt_JS_coder.2.1 7 = .ok (.getfield 15, 3) := by decide +kernel
theorem d_JS_coder_10 : decode mt_JS_coder.2.1 10 = .ok (.goto 4, 3) := by decide +kernel
theorem d_JS_coder_13 : decode mt_JS_coder.2.1 13 = .ok (.iconst 1, 1) := by decide +kernel
theorem d_JS_coder_14 : decode mt_JS_coder.2.1 14 = .ok (.ireturn, 1) := by decide +kernel
theorem d_JL_indexOf_0 : decode mt_JL_indexOf.2.1 0 = .ok (.iload_n 1, 1) := by decide +kernel
theorem d_JL_indexOf_1 : decode mt_JL_indexOf.2.1 1 = .ok (.invokestatic 88, 3) := by decide +kernel
theorem d_JL_indexOf_4 : decode mt_JL_indexOf.2.1 4 = .ok (.ifCond .ne 5, 3) := by decide +kernel
theorem d_JL_indexOf_7 : decode mt_JL_indexOf.2.1 7 = .ok (.iconst (-1), 1) := by decide +kernel
theorem d_JL_indexOf_8 : decode mt_JL_indexOf.2.1 8 = .ok (.ireturn, 1) := by decide +kernel
theorem d_JL_indexOf_9 : decode mt_JL_indexOf.2.1 9 = .ok (.iload_n 2, 1) := by decide +kernel
theorem d_JL_indexOf_10 : decode mt_JL_indexOf.2.1 10 = .ok (.iconst 0, 1) := by decide +kernel
theorem d_JL_indexOf_11 : decode mt_JL_indexOf.2.1 11 = .ok (.invokestatic 92, 3) := by decide +kernel
theorem d_JL_indexOf_14 : decode mt_JL_indexOf.2.1 14 = .ok (.istore_n 2, 1) := by decide +kernel
theorem d_JL_indexOf_15 : decode mt_JL_indexOf.2.1 15 = .ok (.iload_n 3, 1) := by decide +kernel
theorem d_JL_indexOf_16 : decode mt_JL_indexOf.2.1 16 = .ok (.aload_n 0, 1) := by decide +kernel
theorem d_JL_indexOf_17 : decode mt_JL_indexOf.2.1 17 = .ok (.arraylength, 1) := by decide +kernel
theorem d_JL_indexOf_18 : decode mt_JL_indexOf.2.1 18 = .ok (.invokestatic 38, 3) := by decide +kernel
theorem d_JL_indexOf_21 : decode mt_JL_indexOf.2.1 21 = .ok (.istore_n 3, 1) := by decide +kernel
theorem d_JL_indexOf_22 : decode mt_JL_indexOf.2.1 22 = .ok (.iload_n 2, 1) := by decide +kernel
theorem d_JL_indexOf_23 : decode mt_JL_indexOf.2.1 23 = .ok (.iload_n 3, 1) := by decide +kernel
theorem d_JL_indexOf_24 : decode mt_JL_indexOf.2.1 24 = .ok (.if_icmp .lt 5, 3) := by decide +kernel
theorem d_JL_indexOf_27 : decode mt_JL_indexOf.2.1 27 = .ok (.iconst (-1), 1) := by decide +kernel
theorem d_JL_indexOf_28 : decode mt_JL_indexOf.2.1 28 = .ok (.ireturn, 1) := by decide +kernel
theorem d_JL_indexOf_29 : decode mt_JL_indexOf.2.1 29 = .ok (.aload_n 0, 1) := by decide +kernel
theorem d_JL_indexOf_30 : decode mt_JL_indexOf.2.1 30 = .ok (.iload_n 1, 1) := by decide +kernel
theorem d_JL_indexOf_31 : decode mt_JL_indexOf.2.1 31 = .ok (.iload_n 2, 1) := by decide +kernel
theorem d_JL_indexOf_32 : decode mt_JL_indexOf.2.1 32 = .ok (.iload_n 3, 1) := by decide +kernel
theorem d_JL_indexOf_33 : decode mt_JL_indexOf.2.1 33 = .ok (.invokestatic 95, 3) := by decide +kernel
theorem d_JL_indexOf_36 : decode mt_JL_indexOf.2.1 36 = .ok (.ireturn, 1) := by decide +kernel
theorem d_JL_canEncode_0 : decode mt_JL_canEncode.2.1 0 = .ok (.iload_n 0, 1) := by decide +kernel
theorem d_JL_canEncode_1 : decode mt_JL_canEncode.2.1 1 = .ok (.ifCond .lt 14, 3) := by decide +kernel
theorem d_JL_canEncode_4 : decode mt_JL_canEncode.2.1 4 = .ok (.iload_n 0, 1) := by decide +kernel
theorem d_JL_canEncode_5 : decode mt_JL_canEncode.2.1 5 = .ok (.sipush 255, 3) := by decide +kernel
theorem d_JL_canEncode_8 : decode mt_JL_canEncode.2.1 8 = .ok (.if_icmp .gt 7, 3) := by decide +kernel
theorem d_JL_canEncode_11 : decode mt_JL_canEncode.2.1 11 = .ok (.iconst 1, 1) := by decide +kernel
theorem d_JL_canEncode_12 : decode mt_JL_canEncode.2.1 12 = .ok (.goto 4, 3) := by decide +kernel
theorem d_JL_canEncode_15 : decode mt_JL_canEncode.2.1 15 = .ok (.iconst 0, 1) := by decide +kernel
theorem d_JL_canEncode_16 : decode mt_JL_canEncode.2.1 16 = .ok (.ireturn, 1) := by decide +kernel
theorem d_JM_max_0 : decode mt_JM_max.2.1 0 = .ok (.iload_n 0, 1) := by decide +kernel
theorem d_JM_max_1 : decode mt_JM_max.2.1 1 = .ok (.iload_n 1, 1) := by decide +kernel
theorem d_JM_max_2 : decode mt_JM_max.2.1 2 = .ok (.if_icmp .lt 7, 3) := by decide +kernel
theorem d_JM_max_5 : decode mt_JM_max.2.1 5 = .ok (.iload_n 0, 1) := by decide +kernel
theorem d_JM_max_6 : decode mt_JM_max.2.1 6 = .ok (.goto 4, 3) := by decide +kernel
theorem d_JM_max_9 : decode mt_JM_max.2.1 9 = .ok (.iload_n 1, 1) := by decide +kernel
theorem d_JM_max_10 : decode mt_JM_max.2.1 10 = .ok (.ireturn, 1) := by decide +kernel
theorem d_JM_min_0 : decode mt_JM_min.2.1 0 = .ok (.iload_n 0, 1) := by decide +kernel
theorem d_JM_min_1 : decode mt_JM_min.2.1 1 = .ok (.iload_n 1, 1) := by decide +kernel
theorem d_JM_min_2 : decode mt_JM_min.2.1 2 = .ok (.if_icmp .gt 7, 3) := by decide +kernel
theorem d_JM_min_5 : decode mt_JM_min.2.1 5 = .ok (.iload_n 0, 1) := by decide +kernel
theorem d_JM_min_6 : decode mt_JM_min.2.1 6 = .ok (.goto 4, 3) := by decide +kernel
theorem d_JM_min_9 : decode mt_JM_min.2.1 9 = .ok (.iload_n 1, 1) := by decide +kernel
theorem d_JM_min_10 : decode mt_JM_min.2.1 10 = .ok (.ireturn, 1) := by decide +kernel
theorem d_JL_indexOfChar_0 : decode mt_JL_indexOfChar.2.1 0 = .ok (.iload_n 1, 1) := by decide +kernel
theorem d_JL_indexOfChar_1 : decode mt_JL_indexOfChar.2.1 1 = .ok (.i2b, 1) := by decide +kernel
theorem d_JL_indexOfChar_2 : decode mt_JL_indexOfChar.2.1 2 = .ok (.istore 4, 2) := by decide +kernel
theorem d_JL_indexOfChar_4 : decode mt_JL_indexOfChar.2.1 4 = .ok (.iload_n 2, 1) := by decide +kernel
theorem d_JL_indexOfChar_5 : decode mt_JL_indexOfChar.2.1 5 = .ok (.istore 5, 2) := by decide +kernel
theorem d_JL_indexOfChar_7 : decode mt_JL_indexOfChar.2.1 7 = .ok (.iload 5, 2) := by decide +kernel
theorem d_JL_indexOfChar_9 : decode mt_JL_indexOfChar.2.1 9 = .ok (.iload_n 3, 1) := by decide +kernel
theorem d_JL_indexOfChar_10 : decode mt_JL_indexOfChar.2.1 10 = .ok (.if_icmp .ge 21, 3) := by decide +kernel
theorem d_JL_indexOfChar_13 : decode mt_JL_indexOfChar.2.1 13 = .ok (.aload_n 0, 1) := by decide +kernel
theorem d_JL_indexOfChar_14 : decode mt_JL_indexOfChar.2.1 14 = .ok (.iload 5, 2) := by decide +kernel
theorem d_JL_indexOfChar_16 : decode mt_JL_indexOfChar.2.1 16 = .ok (.baload, 1) := by decide +kernel
theorem d_JL_indexOfChar_17 : decode mt_JL_indexOfChar.2.1 17 = .ok (.iload 4, 2) := by decide +kernel
theorem d_JL_indexOfChar_19 : decode mt_JL_indexOfChar.2.1 19 = .ok (.if_icmp .ne 6, 3) := by decide +kernel
theorem d_JL_indexOfChar_22 : decode mt_JL_indexOfChar.2.1 22 = .ok (.iload 5, 2) := by decide +kernel
theorem d_JL_indexOfChar_24 : decode mt_JL_indexOfChar.2.1 24 = .ok (.ireturn, 1) := by decide +kernel
theorem d_JL_indexOfChar_25 : decode mt_JL_indexOfChar.2.1 25 = .ok (.iinc 5 1, 3) := by decide +kernel
theorem d_JL_indexOfChar_28 : decode mt_JL_indexOfChar.2.1 28 = .ok (.goto (-21), 3) := by decide +kernel
theorem d_JL_indexOfChar_31 : decode mt_JL_indexOfChar.2.1 31 = .ok (.iconst (-1), 1) := by decide +kernel
theorem d_JL_indexOfChar_32 : decode mt_JL_indexOfChar.2.1 32 = .ok (.ireturn, 1) := by decide +kernel
theorem d_P_hasRegister_0 : decode mt_P_hasRegister.2.1 0 = .ok (.iload_n 0, 1) := by decide +kernel
theorem d_P_hasRegister_1 : decode mt_P_hasRegister.2.1 1 = .ok (.iconst 1, 1) := by decide +kernel
theorem d_P_hasRegister_2 : decode mt_P_hasRegister.2.1 2 = .ok (.if_icmp .lt 13, 3) := by decide +kernel
theorem d_P_hasRegister_5 : decode mt_P_hasRegister.2.1 5 = .ok (.iload_n 0, 1) := by decide +kernel
theorem d_P_hasRegister_6 : decode mt_P_hasRegister.2.1 6 = .ok (.bipush 6, 2) := by decide +kernel
theorem d_P_hasRegister_8 : decode mt_P_hasRegister.2.1 8 = .ok (.if_icmp .gt 7, 3) := by decide +kernel
theorem d_P_hasRegister_11 : decode mt_P_hasRegister.2.1 11 = .ok (.iconst 1, 1) := by decide +kernel
theorem d_P_hasRegister_12 : decode mt_P_hasRegister.2.1 12 = .ok (.goto 4, 3) := by decide +kernel
theorem d_P_hasRegister_15 : decode mt_P_hasRegister.2.1 15 = .ok (.iconst 0, 1) := by decide +kernel
theorem d_P_hasRegister_16 : decode mt_P_hasRegister.2.1 16 = .ok (.ireturn, 1) := by decide +kernel
theorem d_P_append_0 : decode mt_P_append.2.1 0 = .ok (.aload_n 0, 1) := by decide +kernel
theorem d_P_append_1 : decode mt_P_append.2.1 1 = .ok (.getfield 21, 3) := by decide +kernel
theorem d_P_append_4 : decode mt_P_append.2.1 4 = .ok (.bipush 16, 2) := by decide +kernel
theorem d_P_append_6 : decode mt_P_append.2.1 6 = .ok (.if_icmp .ge 43, 3) := by decide +kernel
theorem d_P_append_9 : decode mt_P_append.2.1 9 = .ok (.aload_n 0, 1) := by decide +kernel
theorem d_P_append_10 : decode mt_P_append.2.1 10 = .ok (.getfield 9, 3) := by decide +kernel
theorem d_P_append_13 : decode mt_P_append.2.1 13 = .ok (.aload_n 0, 1) := by decide +kernel
theorem d_P_append_14 : decode mt_P_append.2.1 14 = .ok (.getfield 21, 3) := by decide +kernel
theorem d_P_append_17 : decode mt_P_append.2.1 17 = .ok (.iload_n 1, 1) := by decide +kernel
theorem d_P_append_18 : decode mt_P_append.2.1 18 = .ok (.iastore, 1) := by decide +kernel
theorem d_P_append_19 : decode mt_P_append.2.1 19 = .ok (.aload_n 0, 1) := by decide +kernel
theorem d_P_append_20 : decode mt_P_append.2.1 20 = .ok (.getfield 15, 3) := by decide +kernel
theorem d_P_append_23 : decode mt_P_append.2.1 23 = .ok (.aload_n 0, 1) := by decide +kernel
theorem d_P_append_24 : decode mt_P_append.2.1 24 = .ok (.getfield 21, 3) := by decide +kernel
theorem d_P_append_27 : decode mt_P_append.2.1 27 = .ok (.iload_n 2, 1) := by decide +kernel
theorem d_P_append_28 : decode mt_P_append.2.1 28 = .ok (.iastore, 1) := by decide +kernel
theorem d_P_append_29 : decode mt_P_append.2.1 29 = .ok (.aload_n 0, 1) := by decide +kernel
theorem d_P_append_30 : decode mt_P_append.2.1 30 = .ok (.getfield 18, 3) := by decide +kernel
theorem d_P_append_33 : decode mt_P_append.2.1 33 = .ok (.aload_n 0, 1) := by decide +kernel
theorem d_P_append_34 : decode mt_P_append.2.1 34 = .ok (.getfield 21, 3) := by decide +kernel
theorem d_P_append_37 : decode mt_P_append.2.1 37 = .ok (.iload_n 3, 1) := by decide +kernel
theorem d_P_append_38 : decode mt_P_append.2.1 38 = .ok (.iastore, 1) := by decide +kernel
theorem d_P_append_39 : decode mt_P_append.2.1 39 = .ok (.aload_n 0, 1) := by decide +kernel
theorem d_P_append_40 : decode mt_P_append.2.1 40 = .ok (.dup, 1) := by decide +kernel
theorem d_P_append_41 : decode mt_P_append.2.1 41 = .ok (.getfield 21, 3) := by decide +kernel
theorem d_P_append_44 : decode mt_P_append.2.1 44 = .ok (.iconst 1, 1) := by decide +kernel
theorem d_P_append_45 : decode mt_P_append.2.1 45 = .ok (.iadd, 1) := by decide +kernel
theorem d_P_append_46 : decode mt_P_append.2.1 46 = .ok (.putfield 21, 3) := by decide +kernel
theorem d_P_append_49 : decode mt_P_append.2.1 49 = .ok (.return_, 1) := by decide +kernel
theorem d_T_readHart_0 : decode mt_T_readHart.2.1 0 = .ok (.aload_n 0, 1) := by decide +kernel
theorem d_T_readHart_1 : decode mt_T_readHart.2.1 1 = .ok (.getfield 25, 3) := by decide +kernel
theorem d_T_readHart_4 : decode mt_T_readHart.2.1 4 = .ok (.getfield 41, 3) := by decide +kernel
theorem d_T_readHart_7 : decode mt_T_readHart.2.1 7 = .ok (.iconst 4, 1) := by decide +kernel
theorem d_T_readHart_8 : decode mt_T_readHart.2.1 8 = .ok (.if_icmp .lt 9, 3) := by decide +kernel
theorem d_T_readHart_11 : decode mt_T_readHart.2.1 11 = .ok (.aload_n 0, 1) := by decide +kernel
theorem d_T_readHart_12 : decode mt_T_readHart.2.1 12 = .ok (.iconst 1, 1) := by decide +kernel
theorem d_T_readHart_13 : decode mt_T_readHart.2.1 13 = .ok (.putfield 36, 3) := by decide +kernel
theorem d_T_readHart_16 : decode mt_T_readHart.2.1 16 = .ok (.return_, 1) := by decide +kernel
theorem d_T_readHart_17 : decode mt_T_readHart.2.1 17 = .ok (.aload_n 0, 1) := by decide +kernel
theorem d_T_readHart_18 : decode mt_T_readHart.2.1 18 = .ok (.dup, 1) := by decide +kernel
theorem d_T_readHart_19 : decode mt_T_readHart.2.1 19 = .ok (.getfield 33, 3) := by decide +kernel
theorem d_T_readHart_22 : decode mt_T_readHart.2.1 22 = .ok (.iconst 1, 1) := by decide +kernel
theorem d_T_readHart_23 : decode mt_T_readHart.2.1 23 = .ok (.iadd, 1) := by decide +kernel
theorem d_T_readHart_24 : decode mt_T_readHart.2.1 24 = .ok (.putfield 33, 3) := by decide +kernel
theorem d_T_readHart_27 : decode mt_T_readHart.2.1 27 = .ok (.aload_n 0, 1) := by decide +kernel
theorem d_T_readHart_28 : decode mt_T_readHart.2.1 28 = .ok (.bipush 97, 2) := by decide +kernel
theorem d_T_readHart_30 : decode mt_T_readHart.2.1 30 = .ok (.bipush 16, 2) := by decide +kernel
theorem d_T_readHart_32 : decode mt_T_readHart.2.1 32 = .ok (.invokevirtual 47, 3) := by decide +kernel
theorem d_T_readHart_35 : decode mt_T_readHart.2.1 35 = .ok (.istore_n 1, 1) := by decide +kernel
theorem d_T_readHart_36 : decode mt_T_readHart.2.1 36 = .ok (.aload_n 0, 1) := by decide +kernel
theorem d_T_readHart_37 : decode mt_T_readHart.2.1 37 = .ok (.bipush 48, 2) := by decide +kernel
theorem d_T_readHart_39 : decode mt_T_readHart.2.1 39 = .ok (.iconst 3, 1) := by decide +kernel
theorem d_T_readHart_40 : decode mt_T_readHart.2.1 40 = .ok (.invokevirtual 47, 3) := by decide +kernel
theorem d_T_readHart_43 : decode mt_T_readHart.2.1 43 = .ok (.istore_n 2, 1) := by decide +kernel
theorem d_T_readHart_44 : decode mt_T_readHart.2.1 44 = .ok (.aload_n 0, 1) := by decide +kernel
theorem d_T_readHart_45 : decode mt_T_readHart.2.1 45 = .ok (.getfield 36, 3) := by decide +kernel
theorem d_T_readHart_48 : decode mt_T_readHart.2.1 48 = .ok (.ifCond .ne 12, 3) := by decide +kernel
theorem d_T_readHart_51 : decode mt_T_readHart.2.1 51 = .ok (.aload_n 0, 1) := by decide +kernel
theorem d_T_readHart_52 : decode mt_T_readHart.2.1 52 = .ok (.getfield 25, 3) := by decide +kernel
theorem d_T_readHart_55 : decode mt_T_readHart.2.1 55 = .ok (.iload_n 1, 1) := by decide +kernel
theorem d_T_readHart_56 : decode mt_T_readHart.2.1 56 = .ok (.iload_n 2, 1) := by decide +kernel
theorem d_T_readHart_57 : decode mt_T_readHart.2.1 57 = .ok (.invokevirtual 80, 3) := by decide +kernel
theorem d_T_readHart_60 : decode mt_T_readHart.2.1 60 = .ok (.return_, 1) := by decide +kernel
theorem d_S_addHart_0 : decode mt_S_addHart.2.1 0 = .ok (.aload_n 0, 1) := by decide +kernel
theorem d_S_addHart_1 : decode mt_S_addHart.2.1 1 = .ok (.getfield 36, 3) := by decide +kernel
theorem d_S_addHart_4 : decode mt_S_addHart.2.1 4 = .ok (.iconst 4, 1) := by decide +kernel
theorem d_S_addHart_5 : decode mt_S_addHart.2.1 5 = .ok (.if_icmp .ge 37, 3) := by decide +kernel
theorem d_S_addHart_8 : decode mt_S_addHart.2.1 8 = .ok (.aload_n 0, 1) := by decide +kernel
theorem d_S_addHart_9 : decode mt_S_addHart.2.1 9 = .ok (.getfield 20, 3) := by decide +kernel
theorem d_S_addHart_12 : decode mt_S_addHart.2.1 12 = .ok (.aload_n 0, 1) := by decide +kernel
theorem d_S_addHart_13 : decode mt_S_addHart.2.1 13 = .ok (.getfield 36, 3) := by decide +kernel
theorem d_S_addHart_16 : decode mt_S_addHart.2.1 16 = .ok (.aaload, 1) := by decide +kernel
theorem d_S_addHart_17 : decode mt_S_addHart.2.1 17 = .ok (.astore_n 3, 1) := by decide +kernel
theorem d_S_addHart_18 : decode mt_S_addHart.2.1 18 = .ok (.aload_n 3, 1) := by decide +kernel
theorem d_S_addHart_19 : decode mt_S_addHart.2.1 19 = .ok (.iload_n 1, 1) := by decide +kernel
theorem d_S_addHart_20 : decode mt_S_addHart.2.1 20 = .ok (.putfield 40, 3) := by decide +kernel
theorem d_S_addHart_23 : decode mt_S_addHart.2.1 23 = .ok (.aload_n 3, 1) := by decide +kernel
theorem d_S_addHart_24 : decode mt_S_addHart.2.1 24 = .ok (.iload_n 2, 1) := by decide +kernel
theorem d_S_addHart_25 : decode mt_S_addHart.2.1 25 = .ok (.putfield 43, 3) := by decide +kernel
theorem d_S_addHart_28 : decode mt_S_addHart.2.1 28 = .ok (.aload_n 3, 1) := by decide +kernel
theorem d_S_addHart_29 : decode mt_S_addHart.2.1 29 = .ok (.invokevirtual 46, 3) := by decide +kernel
theorem d_S_addHart_32 : decode mt_S_addHart.2.1 32 = .ok (.aload_n 0, 1) := by decide +kernel
theorem d_S_addHart_33 : decode mt_S_addHart.2.1 33 = .ok (.dup, 1) := by decide +kernel
theorem d_S_addHart_34 : decode mt_S_addHart.2.1 34 = .ok (.getfield 36, 3) := by decide +kernel
theorem d_S_addHart_37 : decode mt_S_addHart.2.1 37 = .ok (.iconst 1, 1) := by decide +kernel
theorem d_S_addHart_38 : decode mt_S_addHart.2.1 38 = .ok (.iadd, 1) := by decide +kernel
theorem d_S_addHart_39 : decode mt_S_addHart.2.1 39 = .ok (.putfield 36, 3) := by decide +kernel
theorem d_S_addHart_42 : decode mt_S_addHart.2.1 42 = .ok (.return_, 1) := by decide +kernel
theorem d_H_restart_0 : decode mt_H_restart.2.1 0 = .ok (.iconst 0, 1) := by decide +kernel
theorem d_H_restart_1 : decode mt_H_restart.2.1 1 = .ok (.istore_n 1, 1) := by decide +kernel
theorem d_H_restart_2 : decode mt_H_restart.2.1 2 = .ok (.iload_n 1, 1) := by decide +kernel
theorem d_H_restart_3 : decode mt_H_restart.2.1 3 = .ok (.iconst 4, 1) := by decide +kernel
theorem d_H_restart_4 : decode mt_H_restart.2.1 4 = .ok (.if_icmp .ge 16, 3) := by decide +kernel
theorem d_H_restart_7 : decode mt_H_restart.2.1 7 = .ok (.aload_n 0, 1) := by decide +kernel
theorem d_H_restart_8 : decode mt_H_restart.2.1 8 = .ok (.getfield 9, 3) := by decide +kernel
theorem d_H_restart_11 : decode mt_H_restart.2.1 11 = .ok (.iload_n 1, 1) := by decide +kernel
theorem d_H_restart_12 : decode mt_H_restart.2.1 12 = .ok (.iconst 0, 1) := by decide +kernel
theorem d_H_restart_13 : decode mt_H_restart.2.1 13 = .ok (.iastore, 1) := by decide +kernel
theorem d_H_restart_14 : decode mt_H_restart.2.1 14 = .ok (.iinc 1 1, 3) := by decide +kernel
theorem d_H_restart_17 : decode mt_H_restart.2.1 17 = .ok (.goto (-15), 3) := by decide +kernel
theorem d_H_restart_20 : decode mt_H_restart.2.1 20 = .ok (.aload_n 0, 1) := by decide +kernel
theorem d_H_restart_21 : decode mt_H_restart.2.1 21 = .ok (.aload_n 0, 1) := by decide +kernel
theorem d_H_restart_22 : decode mt_H_restart.2.1 22 = .ok (.getfield 21, 3) := by decide +kernel
theorem d_H_restart_25 : decode mt_H_restart.2.1 25 = .ok (.putfield 28, 3) := by decide +kernel
theorem d_H_restart_28 : decode mt_H_restart.2.1 28 = .ok (.aload_n 0, 1) := by decide +kernel
theorem d_H_restart_29 : decode mt_H_restart.2.1 29 = .ok (.iconst 0, 1) := by decide +kernel
theorem d_H_restart_30 : decode mt_H_restart.2.1 30 = .ok (.putfield 31, 3) := by decide +kernel
theorem d_H_restart_33 : decode mt_H_restart.2.1 33 = .ok (.aload_n 0, 1) := by decide +kernel
theorem d_H_restart_34 : decode mt_H_restart.2.1 34 = .ok (.iconst 0, 1) := by decide +kernel
theorem d_H_restart_35 : decode mt_H_restart.2.1 35 = .ok (.putfield 34, 3) := by decide +kernel
theorem d_H_restart_38 : decode mt_H_restart.2.1 38 = .ok (.aload_n 0, 1) := by decide +kernel
theorem d_H_restart_39 : decode mt_H_restart.2.1 39 = .ok (.iconst 0, 1) := by decide +kernel
theorem d_H_restart_40 : decode mt_H_restart.2.1 40 = .ok (.putfield 37, 3) := by decide +kernel
theorem d_H_restart_43 : decode mt_H_restart.2.1 43 = .ok (.return_, 1) := by decide +kernel
theorem d_T_readTrigger_0 : decode mt_T_readTrigger.2.1 0 = .ok (.aload_n 0, 1) := by decide +kernel
theorem d_T_readTrigger_1 : decode mt_T_readTrigger.2.1 1 = .ok (.getfield 25, 3) := by decide +kernel
theorem d_T_readTrigger_4 : decode mt_T_readTrigger.2.1 4 = .ok (.getfield 41, 3) := by decide +kernel
theorem d_T_readTrigger_7 : decode mt_T_readTrigger.2.1 7 = .ok (.ifCond .eq 15, 3) := by decide +kernel
theorem d_T_readTrigger_10 : decode mt_T_readTrigger.2.1 10 = .ok (.aload_n 0, 1) := by decide +kernel
theorem d_T_readTrigger_11 : decode mt_T_readTrigger.2.1 11 = .ok (.getfield 25, 3) := by decide +kernel
theorem d_T_readTrigger_14 : decode mt_T_readTrigger.2.1 14 = .ok (.getfield 44, 3) := by decide +kernel
theorem d_T_readTrigger_17 : decode mt_T_readTrigger.2.1 17 = .ok (.bipush 6, 2) := by decide +kernel
theorem d_T_readTrigger_19 : decode mt_T_readTrigger.2.1 19 = .ok (.if_icmp .lt 9, 3) := by decide +kernel
theorem d_T_readTrigger_22 : decode mt_T_readTrigger.2.1 22 = .ok (.aload_n 0, 1) := by decide +kernel
theorem d_T_readTrigger_23 : decode mt_T_readTrigger.2.1 23 = .ok (.iconst 1, 1) := by decide +kernel
theorem d_T_readTrigger_24 : decode mt_T_readTrigger.2.1 24 = .ok (.putfield 36, 3) := by decide +kernel
theorem d_T_readTrigger_27 : decode mt_T_readTrigger.2.1 27 = .ok (.return_, 1) := by decide +kernel
theorem d_T_readTrigger_28 : decode mt_T_readTrigger.2.1 28 = .ok (.aload_n 0, 1) := by decide +kernel
theorem d_T_readTrigger_29 : decode mt_T_readTrigger.2.1 29 = .ok (.dup, 1) := by decide +kernel
theorem d_T_readTrigger_30 : decode mt_T_readTrigger.2.1 30 = .ok (.getfield 33, 3) := by decide +kernel
theorem d_T_readTrigger_33 : decode mt_T_readTrigger.2.1 33 = .ok (.iconst 1, 1) := by decide +kernel
theorem d_T_readTrigger_34 : decode mt_T_readTrigger.2.1 34 = .ok (.iadd, 1) := by decide +kernel
theorem d_T_readTrigger_35 : decode mt_T_readTrigger.2.1 35 = .ok (.putfield 33, 3) := by decide +kernel
theorem d_T_readTrigger_38 : decode mt_T_readTrigger.2.1 38 = .ok (.aload_n 0, 1) := by decide +kernel
theorem d_T_readTrigger_39 : decode mt_T_readTrigger.2.1 39 = .ok (.bipush 48, 2) := by decide +kernel
theorem d_T_readTrigger_41 : decode mt_T_readTrigger.2.1 41 = .ok (.aload_n 0, 1) := by decide +kernel
theorem d_T_readTrigger_42 : decode mt_T_readTrigger.2.1 42 = .ok (.getfield 25, 3) := by decide +kernel
theorem d_T_readTrigger_45 : decode mt_T_readTrigger.2.1 45 = .ok (.getfield 41, 3) := by decide +kernel
theorem d_T_readTrigger_48 : decode mt_T_readTrigger.2.1 48 = .ok (.invokevirtual 47, 3) := by decide +kernel
theorem d_T_readTrigger_51 : decode mt_T_readTrigger.2.1 51 = .ok (.istore_n 2, 1) := by decide +kernel
theorem d_T_readTrigger_52 : decode mt_T_readTrigger.2.1 52 = .ok (.aload_n 0, 1) := by decide +kernel
theorem d_T_readTrigger_53 : decode mt_T_readTrigger.2.1 53 = .ok (.bipush 112, 2) := by decide +kernel
theorem d_T_readTrigger_55 : decode mt_T_readTrigger.2.1 55 = .ok (.iconst 2, 1) := by decide +kernel
theorem d_T_readTrigger_56 : decode mt_T_readTrigger.2.1 56 = .ok (.invokevirtual 47, 3) := by decide +kernel
theorem d_T_readTrigger_59 : decode mt_T_readTrigger.2.1 59 = .ok (.istore_n 3, 1) := by decide +kernel
theorem d_T_readTrigger_60 : decode mt_T_readTrigger.2.1 60 = .ok (.iload_n 3, 1) := by decide +kernel
theorem d_T_readTrigger_61 : decode mt_T_readTrigger.2.1 61 = .ok (.ifCond .ne 14, 3) := by decide +kernel
theorem d_T_readTrigger_64 : decode mt_T_readTrigger.2.1 64 = .ok (.aload_n 0, 1) := by decide +kernel
theorem d_T_readTrigger_65 : decode mt_T_readTrigger.2.1 65 = .ok (.bipush 97, 2) := by decide +kernel
theorem d_T_readTrigger_67 : decode mt_T_readTrigger.2.1 67 = .ok (.bipush 16, 2) := by decide +kernel
theorem d_T_readTrigger_69 : decode mt_T_readTrigger.2.1 69 = .ok (.invokevirtual 47, 3) := by decide +kernel
theorem d_T_readTrigger_72 : decode mt_T_readTrigger.2.1 72 = .ok (.goto 10, 3) := by decide +kernel
theorem d_T_readTrigger_75 : decode mt_T_readTrigger.2.1 75 = .ok (.aload_n 0, 1) := by decide +kernel
theorem d_T_readTrigger_76 : decode mt_T_readTrigger.2.1 76 = .ok (.bipush 48, 2) := by decide +kernel
theorem d_T_readTrigger_78 : decode mt_T_readTrigger.2.1 78 = .ok (.iconst 4, 1) := by decide +kernel
theorem d_T_readTrigger_79 : decode mt_T_readTrigger.2.1 79 = .ok (.invokevirtual 47, 3) := by decide +kernel
theorem d_T_readTrigger_82 : decode mt_T_readTrigger.2.1 82 = .ok (.istore 4, 2) := by decide +kernel
theorem d_T_readTrigger_84 : decode mt_T_readTrigger.2.1 84 = .ok (.iload_n 3, 1) := by decide +kernel
theorem d_T_readTrigger_85 : decode mt_T_readTrigger.2.1 85 = .ok (.ifCond .ne 7, 3) := by decide +kernel
theorem d_T_readTrigger_88 : decode mt_T_readTrigger.2.1 88 = .ok (.iconst 0, 1) := by decide +kernel
theorem d_T_readTrigger_89 : decode mt_T_readTrigger.2.1 89 = .ok (.goto 35, 3) := by decide +kernel
theorem d_T_readTrigger_92 : decode mt_T_readTrigger.2.1 92 = .ok (.aload_n 0, 1) := by decide +kernel
theorem d_T_readTrigger_93 : decode mt_T_readTrigger.2.1 93 = .ok (.bipush 48, 2) := by decide +kernel
theorem d_T_readTrigger_95 : decode mt_T_readTrigger.2.1 95 = .ok (.bipush 10, 2) := by decide +kernel
theorem d_T_readTrigger_97 : decode mt_T_readTrigger.2.1 97 = .ok (.invokevirtual 47, 3) := by decide +kernel
theorem d_T_readTrigger_100 : decode mt_T_readTrigger.2.1 100 = .ok (.bipush 100, 2) := by decide +kernel
theorem d_T_readTrigger_102 : decode mt_T_readTrigger.2.1 102 = .ok (.imul, 1) := by decide +kernel
theorem d_T_readTrigger_103 : decode mt_T_readTrigger.2.1 103 = .ok (.aload_n 0, 1) := by decide +kernel
theorem d_T_readTrigger_104 : decode mt_T_readTrigger.2.1 104 = .ok (.bipush 48, 2) := by decide +kernel
theorem d_T_readTrigger_106 : decode mt_T_readTrigger.2.1 106 = .ok (.bipush 10, 2) := by decide +kernel
theorem d_T_readTrigger_108 : decode mt_T_readTrigger.2.1 108 = .ok (.invokevirtual 47, 3) := by decide +kernel
theorem d_T_readTrigger_111 : decode mt_T_readTrigger.2.1 111 = .ok (.bipush 10, 2) := by decide +kernel
theorem d_T_readTrigger_113 : decode mt_T_readTrigger.2.1 113 = .ok (.imul, 1) := by decide +kernel
theorem d_T_readTrigger_114 : decode mt_T_readTrigger.2.1 114 = .ok (.iadd, 1) := by decide +kernel
theorem d_T_readTrigger_115 : decode mt_T_readTrigger.2.1 115 = .ok (.aload_n 0, 1) := by decide +kernel
theorem d_T_readTrigger_116 : decode mt_T_readTrigger.2.1 116 = .ok (.bipush 48, 2) := by decide +kernel
theorem d_T_readTrigger_118 : decode mt_T_readTrigger.2.1 118 = .ok (.bipush 10, 2) := by decide +kernel
theorem d_T_readTrigger_120 : decode mt_T_readTrigger.2.1 120 = .ok (.invokevirtual 47, 3) := by decide +kernel
theorem d_T_readTrigger_123 : decode mt_T_readTrigger.2.1 123 = .ok (.iadd, 1) := by decide +kernel
theorem d_T_readTrigger_124 : decode mt_T_readTrigger.2.1 124 = .ok (.istore 5, 2) := by decide +kernel
theorem d_T_readTrigger_126 : decode mt_T_readTrigger.2.1 126 = .ok (.iconst 1, 1) := by decide +kernel
theorem d_T_readTrigger_127 : decode mt_T_readTrigger.2.1 127 = .ok (.aload_n 0, 1) := by decide +kernel
theorem d_T_readTrigger_128 : decode mt_T_readTrigger.2.1 128 = .ok (.bipush 49, 2) := by decide +kernel
theorem d_T_readTrigger_130 : decode mt_T_readTrigger.2.1 130 = .ok (.bipush 9, 2) := by decide +kernel
theorem d_T_readTrigger_132 : decode mt_T_readTrigger.2.1 132 = .ok (.invokevirtual 47, 3) := by decide +kernel
theorem d_T_readTrigger_135 : decode mt_T_readTrigger.2.1 135 = .ok (.iadd, 1) := by decide +kernel
theorem d_T_readTrigger_136 : decode mt_T_readTrigger.2.1 136 = .ok (.istore 6, 2) := by decide +kernel
theorem d_T_readTrigger_138 : decode mt_T_readTrigger.2.1 138 = .ok (.aload_n 0, 1) := by decide +kernel
theorem d_T_readTrigger_139 : decode mt_T_readTrigger.2.1 139 = .ok (.getfield 36, 3) := by decide +kernel
theorem d_T_readTrigger_142 : decode mt_T_readTrigger.2.1 142 = .ok (.ifCond .ne 22, 3) := by decide +kernel
theorem d_T_readTrigger_145 : decode mt_T_readTrigger.2.1 145 = .ok (.aload_n 0, 1) := by decide +kernel
theorem d_T_readTrigger_146 : decode mt_T_readTrigger.2.1 146 = .ok (.getfield 25, 3) := by decide +kernel
theorem d_T_readTrigger_149 : decode mt_T_readTrigger.2.1 149 = .ok (.iload_n 2, 1) := by decide +kernel
theorem d_T_readTrigger_150 : decode mt_T_readTrigger.2.1 150 = .ok (.invokevirtual 84, 3) := by decide +kernel
theorem d_T_readTrigger_153 : decode mt_T_readTrigger.2.1 153 = .ok (.iload_n 3, 1) := by decide +kernel
theorem d_T_readTrigger_154 : decode mt_T_readTrigger.2.1 154 = .ok (.iload 4, 2) := by decide +kernel
theorem d_T_readTrigger_156 : decode mt_T_readTrigger.2.1 156 = .ok (.iload 5, 2) := by decide +kernel
theorem d_T_readTrigger_158 : decode mt_T_readTrigger.2.1 158 = .ok (.iload 6, 2) := by decide +kernel
theorem d_T_readTrigger_160 : decode mt_T_readTrigger.2.1 160 = .ok (.iload_n 1, 1) := by decide +kernel
theorem d_T_readTrigger_161 : decode mt_T_readTrigger.2.1 161 = .ok (.invokevirtual 88, 3) := by decide +kernel
theorem d_T_readTrigger_164 : decode mt_T_readTrigger.2.1 164 = .ok (.return_, 1) := by decide +kernel
theorem d_S_addTrigger_0 : decode mt_S_addTrigger.2.1 0 = .ok (.aload_n 0, 1) := by decide +kernel
theorem d_S_addTrigger_1 : decode mt_S_addTrigger.2.1 1 = .ok (.getfield 49, 3) := by decide +kernel
theorem d_S_addTrigger_4 : decode mt_S_addTrigger.2.1 4 = .ok (.iconst 5, 1) := by decide +kernel
theorem d_S_addTrigger_5 : decode mt_S_addTrigger.2.1 5 = .ok (.invokestatic 52, 3) := by decide +kernel
theorem d_S_addTrigger_8 : decode mt_S_addTrigger.2.1 8 = .ok (.istore_n 2, 1) := by decide +kernel
theorem d_S_addTrigger_9 : decode mt_S_addTrigger.2.1 9 = .ok (.aload_n 0, 1) := by decide +kernel
theorem d_S_addTrigger_10 : decode mt_S_addTrigger.2.1 10 = .ok (.getfield 26, 3) := by decide +kernel
theorem d_S_addTrigger_13 : decode mt_S_addTrigger.2.1 13 = .ok (.iload_n 2, 1) := by decide +kernel
theorem d_S_addTrigger_14 : decode mt_S_addTrigger.2.1 14 = .ok (.aaload, 1) := by decide +kernel
theorem d_S_addTrigger_15 : decode mt_S_addTrigger.2.1 15 = .ok (.iload_n 1, 1) := by decide +kernel
theorem d_S_addTrigger_16 : decode mt_S_addTrigger.2.1 16 = .ok (.putfield 58, 3) := by decide +kernel
theorem d_S_addTrigger_19 : decode mt_S_addTrigger.2.1 19 = .ok (.aload_n 0, 1) := by decide +kernel
theorem d_S_addTrigger_20 : decode mt_S_addTrigger.2.1 20 = .ok (.iload_n 2, 1) := by decide +kernel
theorem d_S_addTrigger_21 : decode mt_S_addTrigger.2.1 21 = .ok (.iconst 1, 1) := by decide +kernel
theorem d_S_addTrigger_22 : decode mt_S_addTrigger.2.1 22 = .ok (.iadd, 1) := by decide +kernel
theorem d_S_addTrigger_23 : decode mt_S_addTrigger.2.1 23 = .ok (.putfield 49, 3) := by decide +kernel
theorem d_S_addTrigger_26 : decode mt_S_addTrigger.2.1 26 = .ok (.aload_n 0, 1) := by decide +kernel
theorem d_S_addTrigger_27 : decode mt_S_addTrigger.2.1 27 = .ok (.getfield 26, 3) := by decide +kernel
theorem d_S_addTrigger_30 : decode mt_S_addTrigger.2.1 30 = .ok (.iload_n 2, 1) := by decide +kernel
theorem d_S_addTrigger_31 : decode mt_S_addTrigger.2.1 31 = .ok (.aaload, 1) := by decide +kernel
theorem d_S_addTrigger_32 : decode mt_S_addTrigger.2.1 32 = .ok (.areturn, 1) := by decide +kernel
theorem d_U_become_0 : decode mt_U_become.2.1 0 = .ok (.aload_n 0, 1) := by decide +kernel
theorem d_U_become_1 : decode mt_U_become.2.1 1 = .ok (.iload_n 1, 1) := by decide +kernel
theorem d_U_become_2 : decode mt_U_become.2.1 2 = .ok (.putfield 15, 3) := by decide +kernel
theorem d_U_become_5 : decode mt_U_become.2.1 5 = .ok (.aload_n 0, 1) := by decide +kernel
theorem d_U_become_6 : decode mt_U_become.2.1 6 = .ok (.iload_n 2, 1) := by decide +kernel
theorem d_U_become_7 : decode mt_U_become.2.1 7 = .ok (.putfield 18, 3) := by decide +kernel
theorem d_U_become_10 : decode mt_U_become.2.1 10 = .ok (.aload_n 0, 1) := by decide +kernel
theorem d_U_become_11 : decode mt_U_become.2.1 11 = .ok (.iload_n 3, 1) := by decide +kernel
theorem d_U_become_12 : decode mt_U_become.2.1 12 = .ok (.putfield 21, 3) := by decide +kernel
theorem d_U_become_15 : decode mt_U_become.2.1 15 = .ok (.aload_n 0, 1) := by decide +kernel
theorem d_U_become_16 : decode mt_U_become.2.1 16 = .ok (.iload 4, 2) := by decide +kernel
theorem d_U_become_18 : decode mt_U_become.2.1 18 = .ok (.putfield 24, 3) := by decide +kernel
theorem d_U_become_21 : decode mt_U_become.2.1 21 = .ok (.aload_n 0, 1) := by decide +kernel
theorem d_U_become_22 : decode mt_U_become.2.1 22 = .ok (.iload 4, 2) := by decide +kernel
theorem d_U_become_24 : decode mt_U_become.2.1 24 = .ok (.putfield 27, 3) := by decide +kernel
theorem d_U_become_27 : decode mt_U_become.2.1 27 = .ok (.aload_n 0, 1) := by decide +kernel
theorem d_U_become_28 : decode mt_U_become.2.1 28 = .ok (.iload 5, 2) := by decide +kernel
theorem d_U_become_30 : decode mt_U_become.2.1 30 = .ok (.putfield 30, 3) := by decide +kernel
theorem d_U_become_33 : decode mt_U_become.2.1 33 = .ok (.return_, 1) := by decide +kernel
theorem d_R_board_0 : decode mt_R_board.2.1 0 = .ok (.aload_n 0, 1) := by decide +kernel
theorem d_R_board_1 : decode mt_R_board.2.1 1 = .ok (.getfield 10, 3) := by decide +kernel
theorem d_R_board_4 : decode mt_R_board.2.1 4 = .ok (.invokevirtual 67, 3) := by decide +kernel
theorem d_R_board_7 : decode mt_R_board.2.1 7 = .ok (.bipush (-9), 2) := by decide +kernel
theorem d_R_board_9 : decode mt_R_board.2.1 9 = .ok (.if_icmp .eq 6, 3) := by decide +kernel
theorem d_R_board_12 : decode mt_R_board.2.1 12 = .ok (.bipush (-3), 2) := by decide +kernel
theorem d_R_board_14 : decode mt_R_board.2.1 14 = .ok (.ireturn, 1) := by decide +kernel
theorem d_R_board_15 : decode mt_R_board.2.1 15 = .ok (.aload_n 0, 1) := by decide +kernel
theorem d_R_board_16 : decode mt_R_board.2.1 16 = .ok (.getfield 19, 3) := by decide +kernel
theorem d_R_board_19 : decode mt_R_board.2.1 19 = .ok (.aload_n 0, 1) := by decide +kernel
theorem d_R_board_20 : decode mt_R_board.2.1 20 = .ok (.getfield 10, 3) := by decide +kernel
theorem d_R_board_23 : decode mt_R_board.2.1 23 = .ok (.getfield 71, 3) := by decide +kernel
theorem d_R_board_26 : decode mt_R_board.2.1 26 = .ok (.invokevirtual 72, 3) := by decide +kernel
theorem d_R_board_29 : decode mt_R_board.2.1 29 = .ok (.aload_n 0, 1) := by decide +kernel
theorem d_R_board_30 : decode mt_R_board.2.1 30 = .ok (.getfield 26, 3) := by decide +kernel
theorem d_R_board_33 : decode mt_R_board.2.1 33 = .ok (.aload_n 0, 1) := by decide +kernel
theorem d_R_board_34 : decode mt_R_board.2.1 34 = .ok (.getfield 10, 3) := by decide +kernel
theorem d_R_board_37 : decode mt_R_board.2.1 37 = .ok (.getfield 76, 3) := by decide +kernel
theorem d_R_board_40 : decode mt_R_board.2.1 40 = .ok (.invokevirtual 79, 3) := by decide +kernel
theorem d_R_board_43 : decode mt_R_board.2.1 43 = .ok (.aload_n 0, 1) := by decide +kernel
theorem d_R_board_44 : decode mt_R_board.2.1 44 = .ok (.getfield 36, 3) := by decide +kernel
theorem d_R_board_47 : decode mt_R_board.2.1 47 = .ok (.invokevirtual 82, 3) := by decide +kernel
theorem d_R_board_50 : decode mt_R_board.2.1 50 = .ok (.iconst 0, 1) := by decide +kernel
theorem d_R_board_51 : decode mt_R_board.2.1 51 = .ok (.istore_n 1, 1) := by decide +kernel
theorem d_R_board_52 : decode mt_R_board.2.1 52 = .ok (.iload_n 1, 1) := by decide +kernel
theorem d_R_board_53 : decode mt_R_board.2.1 53 = .ok (.iconst 2, 1) := by decide +kernel
theorem d_R_board_54 : decode mt_R_board.2.1 54 = .ok (.if_icmp .ge 16, 3) := by decide +kernel
theorem d_R_board_57 : decode mt_R_board.2.1 57 = .ok (.aload_n 0, 1) := by decide +kernel
theorem d_R_board_58 : decode mt_R_board.2.1 58 = .ok (.getfield 44, 3) := by decide +kernel
theorem d_R_board_61 : decode mt_R_board.2.1 61 = .ok (.iload_n 1, 1) := by decide +kernel
theorem d_R_board_62 : decode mt_R_board.2.1 62 = .ok (.iconst 0, 1) := by decide +kernel
theorem d_R_board_63 : decode mt_R_board.2.1 63 = .ok (.bastore, 1) := by decide +kernel
theorem d_R_board_64 : decode mt_R_board.2.1 64 = .ok (.iinc 1 1, 3) := by decide +kernel
theorem d_R_board_67 : decode mt_R_board.2.1 67 = .ok (.goto (-15), 3) := by decide +kernel
theorem d_R_board_70 : decode mt_R_board.2.1 70 = .ok (.aload_n 0, 1) := by decide +kernel
theorem d_R_board_71 : decode mt_R_board.2.1 71 = .ok (.getfield 26, 3) := by decide +kernel
theorem d_R_board_74 : decode mt_R_board.2.1 74 = .ok (.getfield 85, 3) := by decide +kernel
theorem d_R_board_77 : decode mt_R_board.2.1 77 = .ok (.ireturn, 1) := by decide +kernel
theorem d_P_copyFrom_0 : decode mt_P_copyFrom.2.1 0 = .ok (.aload_n 1, 1) := by decide +kernel
theorem d_P_copyFrom_1 : decode mt_P_copyFrom.2.1 1 = .ok (.getfield 9, 3) := by decide +kernel
theorem d_P_copyFrom_4 : decode mt_P_copyFrom.2.1 4 = .ok (.iconst 0, 1) := by decide +kernel
theorem d_P_copyFrom_5 : decode mt_P_copyFrom.2.1 5 = .ok (.aload_n 0, 1) := by decide +kernel
theorem d_P_copyFrom_6 : decode mt_P_copyFrom.2.1 6 = .ok (.getfield 9, 3) := by decide +kernel
theorem d_P_copyFrom_9 : decode mt_P_copyFrom.2.1 9 = .ok (.iconst 0, 1) := by decide +kernel
theorem d_P_copyFrom_10 : decode mt_P_copyFrom.2.1 10 = .ok (.bipush 16, 2) := by decide +kernel
theorem d_P_copyFrom_12 : decode mt_P_copyFrom.2.1 12 = .ok (.invokestatic 25, 3) := by decide +kernel
theorem d_P_copyFrom_15 : decode mt_P_copyFrom.2.1 15 = .ok (.aload_n 1, 1) := by decide +kernel
theorem d_P_copyFrom_16 : decode mt_P_copyFrom.2.1 16 = .ok (.getfield 15, 3) := by decide +kernel
theorem d_P_copyFrom_19 : decode mt_P_copyFrom.2.1 19 = .ok (.iconst 0, 1) := by decide +kernel
theorem d_P_copyFrom_20 : decode mt_P_copyFrom.2.1 20 = .ok (.aload_n 0, 1) := by decide +kernel
theorem d_P_copyFrom_21 : decode mt_P_copyFrom.2.1 21 = .ok (.getfield 15, 3) := by decide +kernel
theorem d_P_copyFrom_24 : decode mt_P_copyFrom.2.1 24 = .ok (.iconst 0, 1) := by decide +kernel
theorem d_P_copyFrom_25 : decode mt_P_copyFrom.2.1 25 = .ok (.bipush 16, 2) := by decide +kernel
theorem d_P_copyFrom_27 : decode mt_P_copyFrom.2.1 27 = .ok (.invokestatic 25, 3) := by decide +kernel
theorem d_P_copyFrom_30 : decode mt_P_copyFrom.2.1 30 = .ok (.aload_n 1, 1) := by decide +kernel
theorem d_P_copyFrom_31 : decode mt_P_copyFrom.2.1 31 = .ok (.getfield 18, 3) := by decide +kernel
theorem d_P_copyFrom_34 : decode mt_P_copyFrom.2.1 34 = .ok (.iconst 0, 1) := by decide +kernel
theorem d_P_copyFrom_35 : decode mt_P_copyFrom.2.1 35 = .ok (.aload_n 0, 1) := by decide +kernel
theorem d_P_copyFrom_36 : decode mt_P_copyFrom.2.1 36 = .ok (.getfield 18, 3) := by decide +kernel
theorem d_P_copyFrom_39 : decode mt_P_copyFrom.2.1 39 = .ok (.iconst 0, 1) := by decide +kernel
theorem d_P_copyFrom_40 : decode mt_P_copyFrom.2.1 40 = .ok (.bipush 16, 2) := by decide +kernel
theorem d_P_copyFrom_42 : decode mt_P_copyFrom.2.1 42 = .ok (.invokestatic 25, 3) := by decide +kernel
theorem d_P_copyFrom_45 : decode mt_P_copyFrom.2.1 45 = .ok (.aload_n 0, 1) := by decide +kernel
theorem d_P_copyFrom_46 : decode mt_P_copyFrom.2.1 46 = .ok (.aload_n 1, 1) := by decide +kernel
theorem d_P_copyFrom_47 : decode mt_P_copyFrom.2.1 47 = .ok (.getfield 21, 3) := by decide +kernel
theorem d_P_copyFrom_50 : decode mt_P_copyFrom.2.1 50 = .ok (.putfield 21, 3) := by decide +kernel
theorem d_P_copyFrom_53 : decode mt_P_copyFrom.2.1 53 = .ok (.return_, 1) := by decide +kernel
theorem d_S_copyFrom_0 : decode mt_S_copyFrom.2.1 0 = .ok (.aload_n 0, 1) := by decide +kernel
theorem d_S_copyFrom_1 : decode mt_S_copyFrom.2.1 1 = .ok (.getfield 12, 3) := by decide +kernel
theorem d_S_copyFrom_4 : decode mt_S_copyFrom.2.1 4 = .ok (.aload_n 1, 1) := by decide +kernel
theorem d_S_copyFrom_5 : decode mt_S_copyFrom.2.1 5 = .ok (.getfield 12, 3) := by decide +kernel
theorem d_S_copyFrom_8 : decode mt_S_copyFrom.2.1 8 = .ok (.invokevirtual 61, 3) := by decide +kernel
theorem d_S_copyFrom_11 : decode mt_S_copyFrom.2.1 11 = .ok (.iconst 0, 1) := by decide +kernel
theorem d_S_copyFrom_12 : decode mt_S_copyFrom.2.1 12 = .ok (.istore_n 2, 1) := by decide +kernel
theorem d_S_copyFrom_13 : decode mt_S_copyFrom.2.1 13 = .ok (.iload_n 2, 1) := by decide +kernel
theorem d_S_copyFrom_14 : decode mt_S_copyFrom.2.1 14 = .ok (.aload_n 1, 1) := by decide +kernel
theorem d_S_copyFrom_15 : decode mt_S_copyFrom.2.1 15 = .ok (.getfield 36, 3) := by decide +kernel
theorem d_S_copyFrom_18 : decode mt_S_copyFrom.2.1 18 = .ok (.if_icmp .ge 24, 3) := by decide +kernel
theorem d_S_copyFrom_21 : decode mt_S_copyFrom.2.1 21 = .ok (.aload_n 0, 1) := by decide +kernel
theorem d_S_copyFrom_22 : decode mt_S_copyFrom.2.1 22 = .ok (.getfield 20, 3) := by decide +kernel
theorem d_S_copyFrom_25 : decode mt_S_copyFrom.2.1 25 = .ok (.iload_n 2, 1) := by decide +kernel
theorem d_S_copyFrom_26 : decode mt_S_copyFrom.2.1 26 = .ok (.aaload, 1) := by decide +kernel
theorem d_S_copyFrom_27 : decode mt_S_copyFrom.2.1 27 = .ok (.aload_n 1, 1) := by decide +kernel
theorem d_S_copyFrom_28 : decode mt_S_copyFrom.2.1 28 = .ok (.getfield 20, 3) := by decide +kernel
theorem d_S_copyFrom_31 : decode mt_S_copyFrom.2.1 31 = .ok (.iload_n 2, 1) := by decide +kernel
theorem d_S_copyFrom_32 : decode mt_S_copyFrom.2.1 32 = .ok (.aaload, 1) := by decide +kernel
theorem d_S_copyFrom_33 : decode mt_S_copyFrom.2.1 33 = .ok (.invokevirtual 65, 3) := by decide +kernel
theorem d_S_copyFrom_36 : decode mt_S_copyFrom.2.1 36 = .ok (.iinc 2 1, 3) := by decide +kernel
theorem d_S_copyFrom_39 : decode mt_S_copyFrom.2.1 39 = .ok (.goto (-26), 3) := by decide +kernel
theorem d_S_copyFrom_42 : decode mt_S_copyFrom.2.1 42 = .ok (.iconst 0, 1) := by decide +kernel
theorem d_S_copyFrom_43 : decode mt_S_copyFrom.2.1 43 = .ok (.istore_n 2, 1) := by decide +kernel
theorem d_S_copyFrom_44 : decode mt_S_copyFrom.2.1 44 = .ok (.iload_n 2, 1) := by decide +kernel
theorem d_S_copyFrom_45 : decode mt_S_copyFrom.2.1 45 = .ok (.aload_n 1, 1) := by decide +kernel
theorem d_S_copyFrom_46 : decode mt_S_copyFrom.2.1 46 = .ok (.getfield 49, 3) := by decide +kernel
theorem d_S_copyFrom_49 : decode mt_S_copyFrom.2.1 49 = .ok (.if_icmp .ge 24, 3) := by decide +kernel
theorem d_S_copyFrom_52 : decode mt_S_copyFrom.2.1 52 = .ok (.aload_n 0, 1) := by decide +kernel
theorem d_S_copyFrom_53 : decode mt_S_copyFrom.2.1 53 = .ok (.getfield 26, 3) := by decide +kernel
theorem d_S_copyFrom_56 : decode mt_S_copyFrom.2.1 56 = .ok (.iload_n 2, 1) := by decide +kernel
theorem d_S_copyFrom_57 : decode mt_S_copyFrom.2.1 57 = .ok (.aaload, 1) := by decide +kernel
theorem d_S_copyFrom_58 : decode mt_S_copyFrom.2.1 58 = .ok (.aload_n 1, 1) := by decide +kernel
theorem d_S_copyFrom_59 : decode mt_S_copyFrom.2.1 59 = .ok (.getfield 26, 3) := by decide +kernel
theorem d_S_copyFrom_62 : decode mt_S_copyFrom.2.1 62 = .ok (.iload_n 2, 1) := by decide +kernel
theorem d_S_copyFrom_63 : decode mt_S_copyFrom.2.1 63 = .ok (.aaload, 1) := by decide +kernel
theorem d_S_copyFrom_64 : decode mt_S_copyFrom.2.1 64 = .ok (.invokevirtual 68, 3) := by decide +kernel
theorem d_S_copyFrom_67 : decode mt_S_copyFrom.2.1 67 = .ok (.iinc 2 1, 3) := by decide +kernel
theorem d_S_copyFrom_70 : decode mt_S_copyFrom.2.1 70 = .ok (.goto (-26), 3) := by decide +kernel
theorem d_S_copyFrom_73 : decode mt_S_copyFrom.2.1 73 = .ok (.aload_n 1, 1) := by decide +kernel
theorem d_S_copyFrom_74 : decode mt_S_copyFrom.2.1 74 = .ok (.getfield 30, 3) := by decide +kernel
theorem d_S_copyFrom_77 : decode mt_S_copyFrom.2.1 77 = .ok (.iconst 0, 1) := by decide +kernel
theorem d_S_copyFrom_78 : decode mt_S_copyFrom.2.1 78 = .ok (.aload_n 0, 1) := by decide +kernel
theorem d_S_copyFrom_79 : decode mt_S_copyFrom.2.1 79 = .ok (.getfield 30, 3) := by decide +kernel
theorem d_S_copyFrom_82 : decode mt_S_copyFrom.2.1 82 = .ok (.iconst 0, 1) := by decide +kernel
theorem d_S_copyFrom_83 : decode mt_S_copyFrom.2.1 83 = .ok (.bipush 8, 2) := by decide +kernel
theorem d_S_copyFrom_85 : decode mt_S_copyFrom.2.1 85 = .ok (.invokestatic 71, 3) := by decide +kernel
theorem d_S_copyFrom_88 : decode mt_S_copyFrom.2.1 88 = .ok (.aload_n 0, 1) := by decide +kernel
theorem d_S_copyFrom_89 : decode mt_S_copyFrom.2.1 89 = .ok (.aload_n 1, 1) := by decide +kernel
theorem d_S_copyFrom_90 : decode mt_S_copyFrom.2.1 90 = .ok (.getfield 36, 3) := by decide +kernel
theorem d_S_copyFrom_93 : decode mt_S_copyFrom.2.1 93 = .ok (.putfield 36, 3) := by decide +kernel
theorem d_S_copyFrom_96 : decode mt_S_copyFrom.2.1 96 = .ok (.aload_n 0, 1) := by decide +kernel
theorem d_S_copyFrom_97 : decode mt_S_copyFrom.2.1 97 = .ok (.aload_n 1, 1) := by decide +kernel
theorem d_S_copyFrom_98 : decode mt_S_copyFrom.2.1 98 = .ok (.getfield 49, 3) := by decide +kernel
theorem d_S_copyFrom_101 : decode mt_S_copyFrom.2.1 101 = .ok (.putfield 49, 3) := by decide +kernel
theorem d_S_copyFrom_104 : decode mt_S_copyFrom.2.1 104 = .ok (.aload_n 0, 1) := by decide +kernel
theorem d_S_copyFrom_105 : decode mt_S_copyFrom.2.1 105 = .ok (.aload_n 1, 1) := by decide +kernel
theorem d_S_copyFrom_106 : decode mt_S_copyFrom.2.1 106 = .ok (.getfield 77, 3) := by decide +kernel
theorem d_S_copyFrom_109 : decode mt_S_copyFrom.2.1 109 = .ok (.putfield 77, 3) := by decide +kernel
theorem d_S_copyFrom_112 : decode mt_S_copyFrom.2.1 112 = .ok (.return_, 1) := by decide +kernel
theorem d_D_copyFrom_0 : decode mt_D_copyFrom.2.1 0 = .ok (.iconst 0, 1) := by decide +kernel
theorem d_D_copyFrom_1 : decode mt_D_copyFrom.2.1 1 = .ok (.istore_n 2, 1) := by decide +kernel
theorem d_D_copyFrom_2 : decode mt_D_copyFrom.2.1 2 = .ok (.iload_n 2, 1) := by decide +kernel
theorem d_D_copyFrom_3 : decode mt_D_copyFrom.2.1 3 = .ok (.aload_n 1, 1) := by decide +kernel
theorem d_D_copyFrom_4 : decode mt_D_copyFrom.2.1 4 = .ok (.getfield 22, 3) := by decide +kernel
theorem d_D_copyFrom_7 : decode mt_D_copyFrom.2.1 7 = .ok (.if_icmp .ge 24, 3) := by decide +kernel
theorem d_D_copyFrom_10 : decode mt_D_copyFrom.2.1 10 = .ok (.aload_n 0, 1) := by decide +kernel
theorem d_D_copyFrom_11 : decode mt_D_copyFrom.2.1 11 = .ok (.getfield 11, 3) := by decide +kernel
theorem d_D_copyFrom_14 : decode mt_D_copyFrom.2.1 14 = .ok (.iload_n 2, 1) := by decide +kernel
theorem d_D_copyFrom_15 : decode mt_D_copyFrom.2.1 15 = .ok (.aaload, 1) := by decide +kernel
theorem d_D_copyFrom_16 : decode mt_D_copyFrom.2.1 16 = .ok (.aload_n 1, 1) := by decide +kernel
theorem d_D_copyFrom_17 : decode mt_D_copyFrom.2.1 17 = .ok (.getfield 11, 3) := by decide +kernel
theorem d_D_copyFrom_20 : decode mt_D_copyFrom.2.1 20 = .ok (.iload_n 2, 1) := by decide +kernel
theorem d_D_copyFrom_21 : decode mt_D_copyFrom.2.1 21 = .ok (.aaload, 1) := by decide +kernel
theorem d_D_copyFrom_22 : decode mt_D_copyFrom.2.1 22 = .ok (.invokevirtual 26, 3) := by decide +kernel
theorem d_D_copyFrom_25 : decode mt_D_copyFrom.2.1 25 = .ok (.iinc 2 1, 3) := by decide +kernel
theorem d_D_copyFrom_28 : decode mt_D_copyFrom.2.1 28 = .ok (.goto (-26), 3) := by decide +kernel
theorem d_D_copyFrom_31 : decode mt_D_copyFrom.2.1 31 = .ok (.aload_n 1, 1) := by decide +kernel
theorem d_D_copyFrom_32 : decode mt_D_copyFrom.2.1 32 = .ok (.getfield 17, 3) := by decide +kernel
theorem d_D_copyFrom_35 : decode mt_D_copyFrom.2.1 35 = .ok (.iconst 0, 1) := by decide +kernel
theorem d_D_copyFrom_36 : decode mt_D_copyFrom.2.1 36 = .ok (.aload_n 0, 1) := by decide +kernel
theorem d_D_copyFrom_37 : decode mt_D_copyFrom.2.1 37 = .ok (.getfield 17, 3) := by decide +kernel
theorem d_D_copyFrom_40 : decode mt_D_copyFrom.2.1 40 = .ok (.iconst 0, 1) := by decide +kernel
theorem d_D_copyFrom_41 : decode mt_D_copyFrom.2.1 41 = .ok (.iconst 2, 1) := by decide +kernel
theorem d_D_copyFrom_42 : decode mt_D_copyFrom.2.1 42 = .ok (.invokestatic 30, 3) := by decide +kernel
theorem d_D_copyFrom_45 : decode mt_D_copyFrom.2.1 45 = .ok (.aload_n 0, 1) := by decide +kernel
theorem d_D_copyFrom_46 : decode mt_D_copyFrom.2.1 46 = .ok (.aload_n 1, 1) := by decide +kernel
theorem d_D_copyFrom_47 : decode mt_D_copyFrom.2.1 47 = .ok (.getfield 22, 3) := by decide +kernel
theorem d_D_copyFrom_50 : decode mt_D_copyFrom.2.1 50 = .ok (.putfield 22, 3) := by decide +kernel
theorem d_D_copyFrom_53 : decode mt_D_copyFrom.2.1 53 = .ok (.aload_n 0, 1) := by decide +kernel
theorem d_D_copyFrom_54 : decode mt_D_copyFrom.2.1 54 = .ok (.aload_n 1, 1) := by decide +kernel
theorem d_D_copyFrom_55 : decode mt_D_copyFrom.2.1 55 = .ok (.getfield 36, 3) := by decide +kernel
theorem d_D_copyFrom_58 : decode mt_D_copyFrom.2.1 58 = .ok (.putfield 36, 3) := by decide +kernel
theorem d_D_copyFrom_61 : decode mt_D_copyFrom.2.1 61 = .ok (.aload_n 0, 1) := by decide +kernel
theorem d_D_copyFrom_62 : decode mt_D_copyFrom.2.1 62 = .ok (.aload_n 1, 1) := by decide +kernel
theorem d_D_copyFrom_63 : decode mt_D_copyFrom.2.1 63 = .ok (.getfield 39, 3) := by decide +kernel
theorem d_D_copyFrom_66 : decode mt_D_copyFrom.2.1 66 = .ok (.putfield 39, 3) := by decide +kernel
theorem d_D_copyFrom_69 : decode mt_D_copyFrom.2.1 69 = .ok (.return_, 1) := by decide +kernel
theorem d_O_copyFrom_0 : decode mt_O_copyFrom.2.1 0 = .ok (.aload_n 0, 1) := by decide +kernel
theorem d_O_copyFrom_1 : decode mt_O_copyFrom.2.1 1 = .ok (.aload_n 1, 1) := by decide +kernel
theorem d_O_copyFrom_2 : decode mt_O_copyFrom.2.1 2 = .ok (.getfield 9, 3) := by decide +kernel
theorem d_O_copyFrom_5 : decode mt_O_copyFrom.2.1 5 = .ok (.putfield 9, 3) := by decide +kernel
theorem d_O_copyFrom_8 : decode mt_O_copyFrom.2.1 8 = .ok (.aload_n 0, 1) := by decide +kernel
theorem d_O_copyFrom_9 : decode mt_O_copyFrom.2.1 9 = .ok (.aload_n 1, 1) := by decide +kernel
theorem d_O_copyFrom_10 : decode mt_O_copyFrom.2.1 10 = .ok (.getfield 15, 3) := by decide +kernel
theorem d_O_copyFrom_13 : decode mt_O_copyFrom.2.1 13 = .ok (.putfield 15, 3) := by decide +kernel
theorem d_O_copyFrom_16 : decode mt_O_copyFrom.2.1 16 = .ok (.aload_n 0, 1) := by decide +kernel
theorem d_O_copyFrom_17 : decode mt_O_copyFrom.2.1 17 = .ok (.aload_n 1, 1) := by decide +kernel
theorem d_O_copyFrom_18 : decode mt_O_copyFrom.2.1 18 = .ok (.getfield 18, 3) := by decide +kernel
theorem d_O_copyFrom_21 : decode mt_O_copyFrom.2.1 21 = .ok (.putfield 18, 3) := by decide +kernel
theorem d_O_copyFrom_24 : decode mt_O_copyFrom.2.1 24 = .ok (.aload_n 0, 1) := by decide +kernel
theorem d_O_copyFrom_25 : decode mt_O_copyFrom.2.1 25 = .ok (.aload_n 1, 1) := by decide +kernel
theorem d_O_copyFrom_26 : decode mt_O_copyFrom.2.1 26 = .ok (.getfield 21, 3) := by decide +kernel
theorem d_O_copyFrom_29 : decode mt_O_copyFrom.2.1 29 = .ok (.putfield 21, 3) := by decide +kernel
theorem d_O_copyFrom_32 : decode mt_O_copyFrom.2.1 32 = .ok (.aload_n 0, 1) := by decide +kernel
theorem d_O_copyFrom_33 : decode mt_O_copyFrom.2.1 33 = .ok (.aload_n 1, 1) := by decide +kernel
theorem d_O_copyFrom_34 : decode mt_O_copyFrom.2.1 34 = .ok (.getfield 24, 3) := by decide +kernel
theorem d_O_copyFrom_37 : decode mt_O_copyFrom.2.1 37 = .ok (.putfield 24, 3) := by decide +kernel
theorem d_O_copyFrom_40 : decode mt_O_copyFrom.2.1 40 = .ok (.aload_n 0, 1) := by decide +kernel
theorem d_O_copyFrom_41 : decode mt_O_copyFrom.2.1 41 = .ok (.aload_n 1, 1) := by decide +kernel
theorem d_O_copyFrom_42 : decode mt_O_copyFrom.2.1 42 = .ok (.getfield 27, 3) := by decide +kernel
theorem d_O_copyFrom_45 : decode mt_O_copyFrom.2.1 45 = .ok (.putfield 27, 3) := by decide +kernel
theorem d_O_copyFrom_48 : decode mt_O_copyFrom.2.1 48 = .ok (.aload_n 0, 1) := by decide +kernel
theorem d_O_copyFrom_49 : decode mt_O_copyFrom.2.1 49 = .ok (.aload_n 1, 1) := by decide +kernel
theorem d_O_copyFrom_50 : decode mt_O_copyFrom.2.1 50 = .ok (.getfield 30, 3) := by decide +kernel
theorem d_O_copyFrom_53 : decode mt_O_copyFrom.2.1 53 = .ok (.putfield 30, 3) := by decide +kernel
theorem d_O_copyFrom_56 : decode mt_O_copyFrom.2.1 56 = .ok (.return_, 1) := by decide +kernel
theorem d_H_copyFrom_0 : decode mt_H_copyFrom.2.1 0 = .ok (.aload_n 1, 1) := by decide +kernel
theorem d_H_copyFrom_1 : decode mt_H_copyFrom.2.1 1 = .ok (.getfield 9, 3) := by decide +kernel
theorem d_H_copyFrom_4 : decode mt_H_copyFrom.2.1 4 = .ok (.iconst 0, 1) := by decide +kernel
theorem d_H_copyFrom_5 : decode mt_H_copyFrom.2.1 5 = .ok (.aload_n 0, 1) := by decide +kernel
theorem d_H_copyFrom_6 : decode mt_H_copyFrom.2.1 6 = .ok (.getfield 9, 3) := by decide +kernel
theorem d_H_copyFrom_9 : decode mt_H_copyFrom.2.1 9 = .ok (.iconst 0, 1) := by decide +kernel
theorem d_H_copyFrom_10 : decode mt_H_copyFrom.2.1 10 = .ok (.iconst 4, 1) := by decide +kernel
theorem d_H_copyFrom_11 : decode mt_H_copyFrom.2.1 11 = .ok (.invokestatic 15, 3) := by decide +kernel
theorem d_H_copyFrom_14 : decode mt_H_copyFrom.2.1 14 = .ok (.aload_n 0, 1) := by decide +kernel
theorem d_H_copyFrom_15 : decode mt_H_copyFrom.2.1 15 = .ok (.aload_n 1, 1) := by decide +kernel
theorem d_H_copyFrom_16 : decode mt_H_copyFrom.2.1 16 = .ok (.getfield 21, 3) := by decide +kernel
theorem d_H_copyFrom_19 : decode mt_H_copyFrom.2.1 19 = .ok (.putfield 21, 3) := by decide +kernel
theorem d_H_copyFrom_22 : decode mt_H_copyFrom.2.1 22 = .ok (.aload_n 0, 1) := by decide +kernel
theorem d_H_copyFrom_23 : decode mt_H_copyFrom.2.1 23 = .ok (.aload_n 1, 1) := by decide +kernel
theorem d_H_copyFrom_24 : decode mt_H_copyFrom.2.1 24 = .ok (.getfield 25, 3) := by decide +kernel
theorem d_H_copyFrom_27 : decode mt_H_copyFrom.2.1 27 = .ok (.putfield 25, 3) := by decide +kernel
theorem d_H_copyFrom_30 : decode mt_H_copyFrom.2.1 30 = .ok (.aload_n 0, 1) := by decide +kernel
theorem d_H_copyFrom_31 : decode mt_H_copyFrom.2.1 31 = .ok (.aload_n 1, 1) := by decide +kernel
theorem d_H_copyFrom_32 : decode mt_H_copyFrom.2.1 32 = .ok (.getfield 28, 3) := by decide +kernel
theorem d_H_copyFrom_35 : decode mt_H_copyFrom.2.1 35 = .ok (.putfield 28, 3) := by decide +kernel
theorem d_H_copyFrom_38 : decode mt_H_copyFrom.2.1 38 = .ok (.aload_n 0, 1) := by decide +kernel
theorem d_H_copyFrom_39 : decode mt_H_copyFrom.2.1 39 = .ok (.aload_n 1, 1) := by decide +kernel
theorem d_H_copyFrom_40 : decode mt_H_copyFrom.2.1 40 = .ok (.getfield 31, 3) := by decide +kernel
theorem d_H_copyFrom_43 : decode mt_H_copyFrom.2.1 43 = .ok (.putfield 31, 3) := by decide +kernel
theorem d_H_copyFrom_46 : decode mt_H_copyFrom.2.1 46 = .ok (.aload_n 0, 1) := by decide +kernel
theorem d_H_copyFrom_47 : decode mt_H_copyFrom.2.1 47 = .ok (.aload_n 1, 1) := by decide +kernel
theorem d_H_copyFrom_48 : decode mt_H_copyFrom.2.1 48 = .ok (.getfield 34, 3) := by decide +kernel
theorem d_H_copyFrom_51 : decode mt_H_copyFrom.2.1 51 = .ok (.putfield 34, 3) := by decide +kernel
theorem d_H_copyFrom_54 : decode mt_H_copyFrom.2.1 54 = .ok (.aload_n 0, 1) := by decide +kernel
theorem d_H_copyFrom_55 : decode mt_H_copyFrom.2.1 55 = .ok (.aload_n 1, 1) := by decide +kernel
theorem d_H_copyFrom_56 : decode mt_H_copyFrom.2.1 56 = .ok (.getfield 37, 3) := by decide +kernel
theorem d_H_copyFrom_59 : decode mt_H_copyFrom.2.1 59 = .ok (.putfield 37, 3) := by decide +kernel
theorem d_H_copyFrom_62 : decode mt_H_copyFrom.2.1 62 = .ok (.return_, 1) := by decide +kernel
theorem d_U_copyFrom_0 : decode mt_U_copyFrom.2.1 0 = .ok (.aload_n 0, 1) := by decide +kernel
theorem d_U_copyFrom_1 : decode mt_U_copyFrom.2.1 1 = .ok (.aload_n 1, 1) := by decide +kernel
theorem d_U_copyFrom_2 : decode mt_U_copyFrom.2.1 2 = .ok (.getfield 9, 3) := by decide +kernel
theorem d_U_copyFrom_5 : decode mt_U_copyFrom.2.1 5 = .ok (.putfield 9, 3) := by decide +kernel
theorem d_U_copyFrom_8 : decode mt_U_copyFrom.2.1 8 = .ok (.aload_n 0, 1) := by decide +kernel
theorem d_U_copyFrom_9 : decode mt_U_copyFrom.2.1 9 = .ok (.aload_n 1, 1) := by decide +kernel
theorem d_U_copyFrom_10 : decode mt_U_copyFrom.2.1 10 = .ok (.getfield 15, 3) := by decide +kernel
theorem d_U_copyFrom_13 : decode mt_U_copyFrom.2.1 13 = .ok (.putfield 15, 3) := by decide +kernel
theorem d_U_copyFrom_16 : decode mt_U_copyFrom.2.1 16 = .ok (.aload_n 0, 1) := by decide +kernel
theorem d_U_copyFrom_17 : decode mt_U_copyFrom.2.1 17 = .ok (.aload_n 1, 1) := by decide +kernel
theorem d_U_copyFrom_18 : decode mt_U_copyFrom.2.1 18 = .ok (.getfield 18, 3) := by decide +kernel
theorem d_U_copyFrom_21 : decode mt_U_copyFrom.2.1 21 = .ok (.putfield 18, 3) := by decide +kernel
theorem d_U_copyFrom_24 : decode mt_U_copyFrom.2.1 24 = .ok (.aload_n 0, 1) := by decide +kernel
theorem d_U_copyFrom_25 : decode mt_U_copyFrom.2.1 25 = .ok (.aload_n 1, 1) := by decide +kernel
theorem d_U_copyFrom_26 : decode mt_U_copyFrom.2.1 26 = .ok (.getfield 21, 3) := by decide +kernel
theorem d_U_copyFrom_29 : decode mt_U_copyFrom.2.1 29 = .ok (.putfield 21, 3) := by decide +kernel
theorem d_U_copyFrom_32 : decode mt_U_copyFrom.2.1 32 = .ok (.aload_n 0, 1) := by decide +kernel
theorem d_U_copyFrom_33 : decode mt_U_copyFrom.2.1 33 = .ok (.aload_n 1, 1) := by decide +kernel
theorem d_U_copyFrom_34 : decode mt_U_copyFrom.2.1 34 = .ok (.getfield 24, 3) := by decide +kernel
theorem d_U_copyFrom_37 : decode mt_U_copyFrom.2.1 37 = .ok (.putfield 24, 3) := by decide +kernel
theorem d_U_copyFrom_40 : decode mt_U_copyFrom.2.1 40 = .ok (.aload_n 0, 1) := by decide +kernel
theorem d_U_copyFrom_41 : decode mt_U_copyFrom.2.1 41 = .ok (.aload_n 1, 1) := by decide +kernel
theorem d_U_copyFrom_42 : decode mt_U_copyFrom.2.1 42 = .ok (.getfield 27, 3) := by decide +kernel
theorem d_U_copyFrom_45 : decode mt_U_copyFrom.2.1 45 = .ok (.putfield 27, 3) := by decide +kernel
theorem d_U_copyFrom_48 : decode mt_U_copyFrom.2.1 48 = .ok (.aload_n 0, 1) := by decide +kernel
theorem d_U_copyFrom_49 : decode mt_U_copyFrom.2.1 49 = .ok (.aload_n 1, 1) := by decide +kernel
theorem d_U_copyFrom_50 : decode mt_U_copyFrom.2.1 50 = .ok (.getfield 30, 3) := by decide +kernel
theorem d_U_copyFrom_53 : decode mt_U_copyFrom.2.1 53 = .ok (.putfield 30, 3) := by decide +kernel
theorem d_U_copyFrom_56 : decode mt_U_copyFrom.2.1 56 = .ok (.return_, 1) := by decide +kernel
theorem d_A_forget_0 : decode mt_A_forget.2.1 0 = .ok (.aload_n 0, 1) := by decide +kernel
theorem d_A_forget_1 : decode mt_A_forget.2.1 1 = .ok (.iconst 0, 1) := by decide +kernel
theorem d_A_forget_2 : decode mt_A_forget.2.1 2 = .ok (.putfield 18, 3) := by decide +kernel
theorem d_A_forget_5 : decode mt_A_forget.2.1 5 = .ok (.return_, 1) := by decide +kernel
theorem d_R_hart_0 : decode mt_R_hart.2.1 0 = .ok (.aload_n 0, 1) := by decide +kernel
theorem d_R_hart_1 : decode mt_R_hart.2.1 1 = .ok (.iload_n 1, 1) := by decide +kernel
theorem d_R_hart_2 : decode mt_R_hart.2.1 2 = .ok (.invokevirtual 88, 3) := by decide +kernel
theorem d_R_hart_5 : decode mt_R_hart.2.1 5 = .ok (.ifCond .eq 19, 3) := by decide +kernel
theorem d_R_hart_8 : decode mt_R_hart.2.1 8 = .ok (.aload_n 0, 1) := by decide +kernel
theorem d_R_hart_9 : decode mt_R_hart.2.1 9 = .ok (.getfield 26, 3) := by decide +kernel
theorem d_R_hart_12 : decode mt_R_hart.2.1 12 = .ok (.getfield 91, 3) := by decide +kernel
theorem d_R_hart_15 : decode mt_R_hart.2.1 15 = .ok (.iload_n 1, 1) := by decide +kernel
theorem d_R_hart_16 : decode mt_R_hart.2.1 16 = .ok (.aaload, 1) := by decide +kernel
theorem d_R_hart_17 : decode mt_R_hart.2.1 17 = .ok (.iload_n 2, 1) := by decide +kernel
theorem d_R_hart_18 : decode mt_R_hart.2.1 18 = .ok (.invokevirtual 95, 3) := by decide +kernel
theorem d_R_hart_21 : decode mt_R_hart.2.1 21 = .ok (.goto 4, 3) := by decide +kernel
theorem d_R_hart_24 : decode mt_R_hart.2.1 24 = .ok (.iconst (-1), 1) := by decide +kernel
theorem d_R_hart_25 : decode mt_R_hart.2.1 25 = .ok (.ireturn, 1) := by decide +kernel
theorem d_R_isHart_0 : decode mt_R_isHart.2.1 0 = .ok (.iload_n 1, 1) := by decide +kernel
theorem d_R_isHart_1 : decode mt_R_isHart.2.1 1 = .ok (.aload_n 0, 1) := by decide +kernel
theorem d_R_isHart_2 : decode mt_R_isHart.2.1 2 = .ok (.getfield 26, 3) := by decide +kernel
theorem d_R_isHart_5 : decode mt_R_isHart.2.1 5 = .ok (.getfield 85, 3) := by decide +kernel
theorem d_R_isHart_8 : decode mt_R_isHart.2.1 8 = .ok (.invokestatic 111, 3) := by decide +kernel
theorem d_R_isHart_11 : decode mt_R_isHart.2.1 11 = .ok (.ireturn, 1) := by decide +kernel
theorem d_H_property_0 : decode mt_H_property.2.1 0 = .ok (.iload_n 1, 1) := by decide +kernel
theorem d_H_property_1 : decode mt_H_property.2.1 1 = .ok (.tableswitch 93 0 9 #[55, 60, 65, 70, 93, 93, 93, 93, 83, 88], 55) := by decide +kernel
theorem d_H_property_56 : decode mt_H_property.2.1 56 = .ok (.aload_n 0, 1) := by decide +kernel
theorem d_H_property_57 : decode mt_H_property.2.1 57 = .ok (.getfield 28, 3) := by decide +kernel
theorem d_H_property_60 : decode mt_H_property.2.1 60 = .ok (.ireturn, 1) := by decide +kernel
theorem d_H_property_61 : decode mt_H_property.2.1 61 = .ok (.aload_n 0, 1) := by decide +kernel
theorem d_H_property_62 : decode mt_H_property.2.1 62 = .ok (.getfield 31, 3) := by decide +kernel
theorem d_H_property_65 : decode mt_H_property.2.1 65 = .ok (.ireturn, 1) := by decide +kernel
theorem d_H_property_66 : decode mt_H_property.2.1 66 = .ok (.aload_n 0, 1) := by decide +kernel
theorem d_H_property_67 : decode mt_H_property.2.1 67 = .ok (.getfield 34, 3) := by decide +kernel
theorem d_H_property_70 : decode mt_H_property.2.1 70 = .ok (.ireturn, 1) := by decide +kernel
theorem d_H_property_71 : decode mt_H_property.2.1 71 = .ok (.aload_n 0, 1) := by decide +kernel
theorem d_H_property_72 : decode mt_H_property.2.1 72 = .ok (.getfield 37, 3) := by decide +kernel
theorem d_H_property_75 : decode mt_H_property.2.1 75 = .ok (.ifCond .eq 7, 3) := by decide +kernel
theorem d_H_property_78 : decode mt_H_property.2.1 78 = .ok (.iconst 1, 1) := by decide +kernel
theorem d_H_property_79 : decode mt_H_property.2.1 79 = .ok (.goto 4, 3) := by decide +kernel
theorem d_H_property_82 : decode mt_H_property.2.1 82 = .ok (.iconst 0, 1) := by decide +kernel
theorem d_H_property_83 : decode mt_H_property.2.1 83 = .ok (.ireturn, 1) := by decide +kernel
theorem d_H_property_84 : decode mt_H_property.2.1 84 = .ok (.aload_n 0, 1) := by decide +kernel
theorem d_H_property_85 : decode mt_H_property.2.1 85 = .ok (.getfield 25, 3) := by decide +kernel
theorem d_H_property_88 : decode mt_H_property.2.1 88 = .ok (.ireturn, 1) := by decide +kernel
theorem d_H_property_89 : decode mt_H_property.2.1 89 = .ok (.aload_n 0, 1) := by decide +kernel
theorem d_H_property_90 : decode mt_H_property.2.1 90 = .ok (.getfield 21, 3) := by decide +kernel
theorem d_H_property_93 : decode mt_H_property.2.1 93 = .ok (.ireturn, 1) := by decide +kernel
theorem d_H_property_94 : decode mt_H_property.2.1 94 = .ok (.iload_n 1, 1) := by decide +kernel
theorem d_H_property_95 : decode mt_H_property.2.1 95 = .ok (.iconst 4, 1) := by decide +kernel
theorem d_H_property_96 : decode mt_H_property.2.1 96 = .ok (.isub, 1) := by decide +kernel
theorem d_H_property_97 : decode mt_H_property.2.1 97 = .ok (.iconst 4, 1) := by decide +kernel
theorem d_H_property_98 : decode mt_H_property.2.1 98 = .ok (.invokestatic 41, 3) := by decide +kernel
theorem d_H_property_101 : decode mt_H_property.2.1 101 = .ok (.ifCond .eq 14, 3) := by decide +kernel
theorem d_H_property_104 : decode mt_H_property.2.1 104 = .ok (.aload_n 0, 1) := by decide +kernel
theorem d_H_property_105 : decode mt_H_property.2.1 105 = .ok (.getfield 9, 3) := by decide +kernel
theorem d_H_property_108 : decode mt_H_property.2.1 108 = .ok (.iload_n 1, 1) := by decide +kernel
theorem d_H_property_109 : decode mt_H_property.2.1 109 = .ok (.iconst 4, 1) := by decide +kernel
theorem d_H_property_110 : decode mt_H_property.2.1 110 = .ok (.isub, 1) := by decide +kernel
theorem d_H_property_111 : decode mt_H_property.2.1 111 = .ok (.iaload, 1) := by decide +kernel
theorem d_H_property_112 : decode mt_H_property.2.1 112 = .ok (.goto 5, 3) := by decide +kernel
theorem d_H_property_115 : decode mt_H_property.2.1 115 = .ok (.bipush (-2), 2) := by decide +kernel
theorem d_H_property_117 : decode mt_H_property.2.1 117 = .ok (.ireturn, 1) := by decide +kernel
theorem d_R_trigger_0 : decode mt_R_trigger.2.1 0 = .ok (.aload_n 0, 1) := by decide +kernel
theorem d_R_trigger_1 : decode mt_R_trigger.2.1 1 = .ok (.iload_n 1, 1) := by decide +kernel
theorem d_R_trigger_2 : decode mt_R_trigger.2.1 2 = .ok (.invokevirtual 101, 3) := by decide +kernel
theorem d_R_trigger_5 : decode mt_R_trigger.2.1 5 = .ok (.ifCond .eq 19, 3) := by decide +kernel
theorem d_R_trigger_8 : decode mt_R_trigger.2.1 8 = .ok (.aload_n 0, 1) := by decide +kernel
theorem d_R_trigger_9 : decode mt_R_trigger.2.1 9 = .ok (.getfield 26, 3) := by decide +kernel
theorem d_R_trigger_12 : decode mt_R_trigger.2.1 12 = .ok (.getfield 104, 3) := by decide +kernel
theorem d_R_trigger_15 : decode mt_R_trigger.2.1 15 = .ok (.iload_n 1, 1) := by decide +kernel
theorem d_R_trigger_16 : decode mt_R_trigger.2.1 16 = .ok (.aaload, 1) := by decide +kernel
theorem d_R_trigger_17 : decode mt_R_trigger.2.1 17 = .ok (.iload_n 2, 1) := by decide +kernel
theorem d_R_trigger_18 : decode mt_R_trigger.2.1 18 = .ok (.invokevirtual 108, 3) := by decide +kernel
theorem d_R_trigger_21 : decode mt_R_trigger.2.1 21 = .ok (.goto 4, 3) := by decide +kernel
theorem d_R_trigger_24 : decode mt_R_trigger.2.1 24 = .ok (.iconst (-1), 1) := by decide +kernel
theorem d_R_trigger_25 : decode mt_R_trigger.2.1 25 = .ok (.ireturn, 1) := by decide +kernel
theorem d_R_isTrigger_0 : decode mt_R_isTrigger.2.1 0 = .ok (.iload_n 1, 1) := by decide +kernel
theorem d_R_isTrigger_1 : decode mt_R_isTrigger.2.1 1 = .ok (.aload_n 0, 1) := by decide +kernel
theorem d_R_isTrigger_2 : decode mt_R_isTrigger.2.1 2 = .ok (.getfield 26, 3) := by decide +kernel
theorem d_R_isTrigger_5 : decode mt_R_isTrigger.2.1 5 = .ok (.getfield 210, 3) := by decide +kernel
theorem d_R_isTrigger_8 : decode mt_R_isTrigger.2.1 8 = .ok (.invokestatic 111, 3) := by decide +kernel
theorem d_R_isTrigger_11 : decode mt_R_isTrigger.2.1 11 = .ok (.ireturn, 1) := by decide +kernel
theorem d_U_property_0 : decode mt_U_property.2.1 0 = .ok (.iload_n 1, 1) := by decide +kernel
theorem d_U_property_1 : decode mt_U_property.2.1 1 = .ok (.tableswitch 86 0 6 #[43, 48, 53, 58, 63, 68, 73], 43) := by decide +kernel
theorem d_U_property_44 : decode mt_U_property.2.1 44 = .ok (.aload_n 0, 1) := by decide +kernel
theorem d_U_property_45 : decode mt_U_property.2.1 45 = .ok (.getfield 9, 3) := by decide +kernel
theorem d_U_property_48 : decode mt_U_property.2.1 48 = .ok (.ireturn, 1) := by decide +kernel
theorem d_U_property_49 : decode mt_U_property.2.1 49 = .ok (.aload_n 0, 1) := by decide +kernel
theorem d_U_property_50 : decode mt_U_property.2.1 50 = .ok (.getfield 15, 3) := by decide +kernel
theorem d_U_property_53 : decode mt_U_property.2.1 53 = .ok (.ireturn, 1) := by decide +kernel
theorem d_U_property_54 : decode mt_U_property.2.1 54 = .ok (.aload_n 0, 1) := by decide +kernel
theorem d_U_property_55 : decode mt_U_property.2.1 55 = .ok (.getfield 18, 3) := by decide +kernel
theorem d_U_property_58 : decode mt_U_property.2.1 58 = .ok (.ireturn, 1) := by decide +kernel
theorem d_U_property_59 : decode mt_U_property.2.1 59 = .ok (.aload_n 0, 1) := by decide +kernel
theorem d_U_property_60 : decode mt_U_property.2.1 60 = .ok (.getfield 21, 3) := by decide +kernel
theorem d_U_property_63 : decode mt_U_property.2.1 63 = .ok (.ireturn, 1) := by decide +kernel
theorem d_U_property_64 : decode mt_U_property.2.1 64 = .ok (.aload_n 0, 1) := by decide +kernel
theorem d_U_property_65 : decode mt_U_property.2.1 65 = .ok (.getfield 24, 3) := by decide +kernel
theorem d_U_property_68 : decode mt_U_property.2.1 68 = .ok (.ireturn, 1) := by decide +kernel
theorem d_U_property_69 : decode mt_U_property.2.1 69 = .ok (.aload_n 0, 1) := by decide +kernel
theorem d_U_property_70 : decode mt_U_property.2.1 70 = .ok (.getfield 27, 3) := by decide +kernel
theorem d_U_property_73 : decode mt_U_property.2.1 73 = .ok (.ireturn, 1) := by decide +kernel
theorem d_U_property_74 : decode mt_U_property.2.1 74 = .ok (.aload_n 0, 1) := by decide +kernel
theorem d_U_property_75 : decode mt_U_property.2.1 75 = .ok (.getfield 30, 3) := by decide +kernel
theorem d_U_property_78 : decode mt_U_property.2.1 78 = .ok (.ifCond .eq 7, 3) := by decide +kernel
theorem d_U_property_81 : decode mt_U_property.2.1 81 = .ok (.iconst 1, 1) := by decide +kernel
theorem d_U_property_82 : decode mt_U_property.2.1 82 = .ok (.goto 4, 3) := by decide +kernel
theorem d_U_property_85 : decode mt_U_property.2.1 85 = .ok (.iconst 0, 1) := by decide +kernel
theorem d_U_property_86 : decode mt_U_property.2.1 86 = .ok (.ireturn, 1) := by decide +kernel
theorem d_U_property_87 : decode mt_U_property.2.1 87 = .ok (.bipush (-2), 2) := by decide +kernel
theorem d_U_property_89 : decode mt_U_property.2.1 89 = .ok (.ireturn, 1) := by decide +kernel
theorem d_R_cell_0 : decode mt_R_cell.2.1 0 = .ok (.iload_n 1, 1) := by decide +kernel
theorem d_R_cell_1 : decode mt_R_cell.2.1 1 = .ok (.bipush 8, 2) := by decide +kernel
theorem d_R_cell_3 : decode mt_R_cell.2.1 3 = .ok (.invokestatic 111, 3) := by decide +kernel
theorem d_R_cell_6 : decode mt_R_cell.2.1 6 = .ok (.ifCond .eq 15, 3) := by decide +kernel
theorem d_R_cell_9 : decode mt_R_cell.2.1 9 = .ok (.aload_n 0, 1) := by decide +kernel
theorem d_R_cell_10 : decode mt_R_cell.2.1 10 = .ok (.getfield 26, 3) := by decide +kernel
theorem d_R_cell_13 : decode mt_R_cell.2.1 13 = .ok (.getfield 115, 3) := by decide +kernel
theorem d_R_cell_16 : decode mt_R_cell.2.1 16 = .ok (.iload_n 1, 1) := by decide +kernel
theorem d_R_cell_17 : decode mt_R_cell.2.1 17 = .ok (.iaload, 1) := by decide +kernel
theorem d_R_cell_18 : decode mt_R_cell.2.1 18 = .ok (.goto 5, 3) := by decide +kernel
theorem d_R_cell_21 : decode mt_R_cell.2.1 21 = .ok (.bipush (-2), 2) := by decide +kernel
theorem d_R_cell_23 : decode mt_R_cell.2.1 23 = .ok (.ireturn, 1) := by decide +kernel
theorem d_R_order_0 : decode mt_R_order.2.1 0 = .ok (.aload_n 0, 1) := by decide +kernel
theorem d_R_order_1 : decode mt_R_order.2.1 1 = .ok (.getfield 26, 3) := by decide +kernel
theorem d_R_order_4 : decode mt_R_order.2.1 4 = .ok (.getfield 118, 3) := by decide +kernel
theorem d_R_order_7 : decode mt_R_order.2.1 7 = .ok (.astore_n 3, 1) := by decide +kernel
theorem d_R_order_8 : decode mt_R_order.2.1 8 = .ok (.iload_n 1, 1) := by decide +kernel
theorem d_R_order_9 : decode mt_R_order.2.1 9 = .ok (.aload_n 3, 1) := by decide +kernel
theorem d_R_order_10 : decode mt_R_order.2.1 10 = .ok (.getfield 122, 3) := by decide +kernel
theorem d_R_order_13 : decode mt_R_order.2.1 13 = .ok (.invokestatic 111, 3) := by decide +kernel
theorem d_R_order_16 : decode mt_R_order.2.1 16 = .ok (.ifCond .eq 16, 3) := by decide +kernel
theorem d_R_order_19 : decode mt_R_order.2.1 19 = .ok (.aload_n 3, 1) := by decide +kernel
theorem d_R_order_20 : decode mt_R_order.2.1 20 = .ok (.getfield 127, 3) := by decide +kernel
theorem d_R_order_23 : decode mt_R_order.2.1 23 = .ok (.iload_n 1, 1) := by decide +kernel
theorem d_R_order_24 : decode mt_R_order.2.1 24 = .ok (.aaload, 1) := by decide +kernel
theorem d_R_order_25 : decode mt_R_order.2.1 25 = .ok (.iload_n 2, 1) := by decide +kernel
theorem d_R_order_26 : decode mt_R_order.2.1 26 = .ok (.invokevirtual 131, 3) := by decide +kernel
theorem d_R_order_29 : decode mt_R_order.2.1 29 = .ok (.goto 4, 3) := by decide +kernel
theorem d_R_order_32 : decode mt_R_order.2.1 32 = .ok (.iconst (-1), 1) := by decide +kernel
theorem d_R_order_33 : decode mt_R_order.2.1 33 = .ok (.ireturn, 1) := by decide +kernel
theorem d_O_property_0 : decode mt_O_property.2.1 0 = .ok (.iload_n 1, 1) := by decide +kernel
theorem d_O_property_1 : decode mt_O_property.2.1 1 = .ok (.tableswitch 51 0 3 #[31, 36, 41, 46], 31) := by decide +kernel
theorem d_O_property_32 : decode mt_O_property.2.1 32 = .ok (.aload_n 0, 1) := by decide +kernel
theorem d_O_property_33 : decode mt_O_property.2.1 33 = .ok (.getfield 9, 3) := by decide +kernel
theorem d_O_property_36 : decode mt_O_property.2.1 36 = .ok (.ireturn, 1) := by decide +kernel
theorem d_O_property_37 : decode mt_O_property.2.1 37 = .ok (.aload_n 0, 1) := by decide +kernel
theorem d_O_property_38 : decode mt_O_property.2.1 38 = .ok (.getfield 15, 3) := by decide +kernel
theorem d_O_property_41 : decode mt_O_property.2.1 41 = .ok (.ireturn, 1) := by decide +kernel
theorem d_O_property_42 : decode mt_O_property.2.1 42 = .ok (.aload_n 0, 1) := by decide +kernel
theorem d_O_property_43 : decode mt_O_property.2.1 43 = .ok (.getfield 24, 3) := by decide +kernel
theorem d_O_property_46 : decode mt_O_property.2.1 46 = .ok (.ireturn, 1) := by decide +kernel
theorem d_O_property_47 : decode mt_O_property.2.1 47 = .ok (.aload_n 0, 1) := by decide +kernel
theorem d_O_property_48 : decode mt_O_property.2.1 48 = .ok (.getfield 27, 3) := by decide +kernel
theorem d_O_property_51 : decode mt_O_property.2.1 51 = .ok (.ireturn, 1) := by decide +kernel
theorem d_O_property_52 : decode mt_O_property.2.1 52 = .ok (.bipush (-2), 2) := by decide +kernel
theorem d_O_property_54 : decode mt_O_property.2.1 54 = .ok (.ireturn, 1) := by decide +kernel
theorem d_R_tick_0 : decode mt_R_tick.2.1 0 = .ok (.iload_n 1, 1) := by decide +kernel
theorem d_R_tick_1 : decode mt_R_tick.2.1 1 = .ok (.iconst 1, 1) := by decide +kernel
theorem d_R_tick_2 : decode mt_R_tick.2.1 2 = .ok (.if_icmp .lt 9, 3) := by decide +kernel
theorem d_R_tick_5 : decode mt_R_tick.2.1 5 = .ok (.iload_n 1, 1) := by decide +kernel
theorem d_R_tick_6 : decode mt_R_tick.2.1 6 = .ok (.bipush 99, 2) := by decide +kernel
theorem d_R_tick_8 : decode mt_R_tick.2.1 8 = .ok (.if_icmp .le 6, 3) := by decide +kernel
theorem d_R_tick_11 : decode mt_R_tick.2.1 11 = .ok (.bipush (-2), 2) := by decide +kernel
theorem d_R_tick_13 : decode mt_R_tick.2.1 13 = .ok (.ireturn, 1) := by decide +kernel
theorem d_R_tick_14 : decode mt_R_tick.2.1 14 = .ok (.aload_n 0, 1) := by decide +kernel
theorem d_R_tick_15 : decode mt_R_tick.2.1 15 = .ok (.getfield 36, 3) := by decide +kernel
theorem d_R_tick_18 : decode mt_R_tick.2.1 18 = .ok (.aload_n 0, 1) := by decide +kernel
theorem d_R_tick_19 : decode mt_R_tick.2.1 19 = .ok (.getfield 26, 3) := by decide +kernel
theorem d_R_tick_22 : decode mt_R_tick.2.1 22 = .ok (.invokevirtual 134, 3) := by decide +kernel
theorem d_R_tick_25 : decode mt_R_tick.2.1 25 = .ok (.aload_n 0, 1) := by decide +kernel
theorem d_R_tick_26 : decode mt_R_tick.2.1 26 = .ok (.getfield 26, 3) := by decide +kernel
theorem d_R_tick_29 : decode mt_R_tick.2.1 29 = .ok (.aload_n 0, 1) := by decide +kernel
theorem d_R_tick_30 : decode mt_R_tick.2.1 30 = .ok (.getfield 19, 3) := by decide +kernel
theorem d_R_tick_33 : decode mt_R_tick.2.1 33 = .ok (.iload_n 1, 1) := by decide +kernel
theorem d_R_tick_34 : decode mt_R_tick.2.1 34 = .ok (.invokevirtual 137, 3) := by decide +kernel
theorem d_R_tick_37 : decode mt_R_tick.2.1 37 = .ok (.aload_n 0, 1) := by decide +kernel
theorem d_R_tick_38 : decode mt_R_tick.2.1 38 = .ok (.getfield 26, 3) := by decide +kernel
theorem d_R_tick_41 : decode mt_R_tick.2.1 41 = .ok (.invokevirtual 141, 3) := by decide +kernel
theorem d_R_tick_44 : decode mt_R_tick.2.1 44 = .ok (.ireturn, 1) := by decide +kernel
theorem d_A_push_0 : decode mt_A_push.2.1 0 = .ok (.aload_n 0, 1) := by decide +kernel
theorem d_A_push_1 : decode mt_A_push.2.1 1 = .ok (.getfield 11, 3) := by decide +kernel
theorem d_A_push_4 : decode mt_A_push.2.1 4 = .ok (.aload_n 0, 1) := by decide +kernel
theorem d_A_push_5 : decode mt_A_push.2.1 5 = .ok (.getfield 22, 3) := by decide +kernel
theorem d_A_push_8 : decode mt_A_push.2.1 8 = .ok (.aaload, 1) := by decide +kernel
theorem d_A_push_9 : decode mt_A_push.2.1 9 = .ok (.aload_n 1, 1) := by decide +kernel
theorem d_A_push_10 : decode mt_A_push.2.1 10 = .ok (.invokevirtual 25, 3) := by decide +kernel
theorem d_A_push_13 : decode mt_A_push.2.1 13 = .ok (.aload_n 0, 1) := by decide +kernel
theorem d_A_push_14 : decode mt_A_push.2.1 14 = .ok (.aload_n 0, 1) := by decide +kernel
theorem d_A_push_15 : decode mt_A_push.2.1 15 = .ok (.getfield 22, 3) := by decide +kernel
theorem d_A_push_18 : decode mt_A_push.2.1 18 = .ok (.iconst 1, 1) := by decide +kernel
theorem d_A_push_19 : decode mt_A_push.2.1 19 = .ok (.iadd, 1) := by decide +kernel
theorem d_A_push_20 : decode mt_A_push.2.1 20 = .ok (.bipush 14, 2) := by decide +kernel
theorem d_A_push_22 : decode mt_A_push.2.1 22 = .ok (.irem, 1) := by decide +kernel
theorem d_A_push_23 : decode mt_A_push.2.1 23 = .ok (.putfield 22, 3) := by decide +kernel
theorem d_A_push_26 : decode mt_A_push.2.1 26 = .ok (.aload_n 0, 1) := by decide +kernel
theorem d_A_push_27 : decode mt_A_push.2.1 27 = .ok (.aload_n 0, 1) := by decide +kernel
theorem d_A_push_28 : decode mt_A_push.2.1 28 = .ok (.getfield 18, 3) := by decide +kernel
theorem d_A_push_31 : decode mt_A_push.2.1 31 = .ok (.iconst 1, 1) := by decide +kernel
theorem d_A_push_32 : decode mt_A_push.2.1 32 = .ok (.iadd, 1) := by decide +kernel
theorem d_A_push_33 : decode mt_A_push.2.1 33 = .ok (.bipush 14, 2) := by decide +kernel
theorem d_A_push_35 : decode mt_A_push.2.1 35 = .ok (.invokestatic 29, 3) := by decide +kernel
theorem d_A_push_38 : decode mt_A_push.2.1 38 = .ok (.putfield 18, 3) := by decide +kernel
theorem d_A_push_41 : decode mt_A_push.2.1 41 = .ok (.return_, 1) := by decide +kernel
theorem d_S_pass_0 : decode mt_S_pass.2.1 0 = .ok (.iconst 0, 1) := by decide +kernel
theorem d_S_pass_1 : decode mt_S_pass.2.1 1 = .ok (.istore_n 3, 1) := by decide +kernel
