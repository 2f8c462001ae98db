/-! ===== methods, links ===== -/
def mt_R_init : jv_Mt := (⟨"HaltRing", "<init>", "()V"⟩, prog_1_method_1_code, 2, none)
def mt_T_init : jv_Mt := (⟨"HaltRing$Text", "<init>", "()V"⟩, prog_9_method_1_code, 1, none)
def mt_P_init : jv_Mt := (⟨"HaltRing$Program", "<init>", "()V"⟩, prog_6_method_1_code, 1, none)
def mt_S_init : jv_Mt := (⟨"HaltRing$State", "<init>", "()V"⟩, prog_8_method_1_code, 2, none)
def mt_D_init : jv_Mt := (⟨"HaltRing$DebugModule", "<init>", "()V"⟩, prog_2_method_1_code, 2, none)
def mt_O_init : jv_Mt := (⟨"HaltRing$Order", "<init>", "()V"⟩, prog_4_method_1_code, 1, none)
def mt_H_init : jv_Mt := (⟨"HaltRing$Hart", "<init>", "()V"⟩, prog_3_method_1_code, 1, none)
def mt_U_init : jv_Mt := (⟨"HaltRing$Trigger", "<init>", "()V"⟩, prog_10_method_1_code, 1, none)
def mt_A_init : jv_Mt := (⟨"HaltRing$Past", "<init>", "()V"⟩, prog_5_method_1_code, 2, none)
def mt_G_init : jv_Mt := (⟨"HaltRing$Sights", "<init>", "()V"⟩, prog_7_method_1_code, 1, none)
def mt_R_write : jv_Mt := (⟨"HaltRing", "write", "(I)I"⟩, prog_1_method_2_code, 2, (some (Jvm.ClassFile.FieldType.int)))
def mt_T_append : jv_Mt := (⟨"HaltRing$Text", "append", "(I)Z"⟩, prog_9_method_2_code, 2, (some (Jvm.ClassFile.FieldType.boolean)))
def mt_R_wipe : jv_Mt := (⟨"HaltRing", "wipe", "()I"⟩, prog_1_method_3_code, 2, (some (Jvm.ClassFile.FieldType.int)))
def mt_R_fault : jv_Mt := (⟨"HaltRing", "fault", "()I"⟩, prog_1_method_4_code, 1, (some (Jvm.ClassFile.FieldType.int)))
def mt_T_findFault : jv_Mt := (⟨"HaltRing$Text", "findFault", "()I"⟩, prog_9_method_3_code, 2, (some (Jvm.ClassFile.FieldType.int)))
def mt_T_take : jv_Mt := (⟨"HaltRing$Text", "take", "(II)I"⟩, prog_9_method_9_code, 4, (some (Jvm.ClassFile.FieldType.int)))
def mt_R_isBelow : jv_Mt := (⟨"HaltRing", "isBelow", "(II)Z"⟩, prog_1_method_33_code, 2, (some (Jvm.ClassFile.FieldType.boolean)))
def mt_T_readPart : jv_Mt := (⟨"HaltRing$Text", "readPart", "(I)V"⟩, prog_9_method_4_code, 2, none)
def mt_T_readInstruction : jv_Mt := (⟨"HaltRing$Text", "readInstruction", "()V"⟩, prog_9_method_5_code, 4, none)
def mt_T_takeCode : jv_Mt := (⟨"HaltRing$Text", "takeCode", "()I"⟩, prog_9_method_8_code, 2, (some (Jvm.ClassFile.FieldType.int)))
def mt_JS_indexOf : jv_Mt := (⟨"java/lang/String", "indexOf", "(I)I"⟩, prog_16_method_79_code, 2, (some (Jvm.ClassFile.FieldType.int)))
def mt_JS_indexOf_5 : jv_Mt := (⟨"java/lang/String", "indexOf", "(II)I"⟩, prog_16_method_80_code, 3, (some (Jvm.ClassFile.FieldType.int)))
def mt_JS_isLatin1 : jv_Mt := (⟨"java/lang/String", "isLatin1", "()Z"⟩, prog_16_method_154_code, 1, (some (Jvm.ClassFile.FieldType.boolean)))
def mt_JS_length : jv_Mt := (⟨"java/lang/String", "length", "()I"⟩, prog_16_method_54_code, 1, (some (Jvm.ClassFile.FieldType.int)))
def mt_JS_coder : jv_Mt := (⟨"java/lang/String", "coder", "()B"⟩, prog_16_method_152_code, 1, (some (Jvm.ClassFile.FieldType.byte)))
def mt_JL_indexOf : jv_Mt := (⟨"java/lang/StringLatin1", "indexOf", "([BIII)I"⟩, prog_17_method_22_code, 4, (some (Jvm.ClassFile.FieldType.int)))
def mt_JL_canEncode : jv_Mt := (⟨"java/lang/StringLatin1", "canEncode", "(I)Z"⟩, prog_17_method_4_code, 1, (some (Jvm.ClassFile.FieldType.boolean)))
def mt_JM_max : jv_Mt := (⟨"java/lang/Math", "max", "(II)I"⟩, prog_15_method_65_code, 2, (some (Jvm.ClassFile.FieldType.int)))
def mt_JM_min : jv_Mt := (⟨"java/lang/Math", "min", "(II)I"⟩, prog_15_method_69_code, 2, (some (Jvm.ClassFile.FieldType.int)))
def mt_JL_indexOfChar : jv_Mt := (⟨"java/lang/StringLatin1", "indexOfChar", "([BIII)I"⟩, prog_17_method_23_code, 6, (some (Jvm.ClassFile.FieldType.int)))
def mt_P_hasRegister : jv_Mt := (⟨"HaltRing$Program", "hasRegister", "(I)Z"⟩, prog_6_method_2_code, 1, (some (Jvm.ClassFile.FieldType.boolean)))
def mt_P_append : jv_Mt := (⟨"HaltRing$Program", "append", "(III)V"⟩, prog_6_method_3_code, 4, none)
def mt_T_readHart : jv_Mt := (⟨"HaltRing$Text", "readHart", "()V"⟩, prog_9_method_6_code, 3, none)
def mt_S_addHart : jv_Mt := (⟨"HaltRing$State", "addHart", "(II)V"⟩, prog_8_method_2_code, 4, none)
def mt_H_restart : jv_Mt := (⟨"HaltRing$Hart", "restart", "()V"⟩, prog_3_method_4_code, 2, none)
def mt_T_readTrigger : jv_Mt := (⟨"HaltRing$Text", "readTrigger", "(Z)V"⟩, prog_9_method_7_code, 7, none)
def mt_S_addTrigger : jv_Mt := (⟨"HaltRing$State", "addTrigger", "(I)LHaltRing$Trigger;"⟩, prog_8_method_3_code, 3, (some ((Jvm.ClassFile.FieldType.object "HaltRing$Trigger"))))
def mt_U_become : jv_Mt := (⟨"HaltRing$Trigger", "become", "(IIIIZ)V"⟩, prog_10_method_4_code, 6, none)
def mt_R_board : jv_Mt := (⟨"HaltRing", "board", "()I"⟩, prog_1_method_5_code, 2, (some (Jvm.ClassFile.FieldType.int)))
def mt_P_copyFrom : jv_Mt := (⟨"HaltRing$Program", "copyFrom", "(LHaltRing$Program;)V"⟩, prog_6_method_4_code, 2, none)
def mt_S_copyFrom : jv_Mt := (⟨"HaltRing$State", "copyFrom", "(LHaltRing$State;)V"⟩, prog_8_method_4_code, 3, none)
def mt_D_copyFrom : jv_Mt := (⟨"HaltRing$DebugModule", "copyFrom", "(LHaltRing$DebugModule;)V"⟩, prog_2_method_2_code, 3, none)
def mt_O_copyFrom : jv_Mt := (⟨"HaltRing$Order", "copyFrom", "(LHaltRing$Order;)V"⟩, prog_4_method_2_code, 2, none)
def mt_H_copyFrom : jv_Mt := (⟨"HaltRing$Hart", "copyFrom", "(LHaltRing$Hart;)V"⟩, prog_3_method_2_code, 2, none)
def mt_U_copyFrom : jv_Mt := (⟨"HaltRing$Trigger", "copyFrom", "(LHaltRing$Trigger;)V"⟩, prog_10_method_2_code, 2, none)
def mt_A_forget : jv_Mt := (⟨"HaltRing$Past", "forget", "()V"⟩, prog_5_method_2_code, 1, none)
def mt_R_hart : jv_Mt := (⟨"HaltRing", "hart", "(II)I"⟩, prog_1_method_6_code, 3, (some (Jvm.ClassFile.FieldType.int)))
def mt_R_isHart : jv_Mt := (⟨"HaltRing", "isHart", "(I)Z"⟩, prog_1_method_34_code, 2, (some (Jvm.ClassFile.FieldType.boolean)))
def mt_H_property : jv_Mt := (⟨"HaltRing$Hart", "property", "(I)I"⟩, prog_3_method_3_code, 2, (some (Jvm.ClassFile.FieldType.int)))
def mt_R_trigger : jv_Mt := (⟨"HaltRing", "trigger", "(II)I"⟩, prog_1_method_7_code, 3, (some (Jvm.ClassFile.FieldType.int)))
def mt_R_isTrigger : jv_Mt := (⟨"HaltRing", "isTrigger", "(I)Z"⟩, prog_1_method_35_code, 2, (some (Jvm.ClassFile.FieldType.boolean)))
def mt_U_property : jv_Mt := (⟨"HaltRing$Trigger", "property", "(I)I"⟩, prog_10_method_3_code, 2, (some (Jvm.ClassFile.FieldType.int)))
def mt_R_cell : jv_Mt := (⟨"HaltRing", "cell", "(I)I"⟩, prog_1_method_8_code, 2, (some (Jvm.ClassFile.FieldType.int)))
def mt_R_order : jv_Mt := (⟨"HaltRing", "order", "(II)I"⟩, prog_1_method_9_code, 4, (some (Jvm.ClassFile.FieldType.int)))
def mt_O_property : jv_Mt := (⟨"HaltRing$Order", "property", "(I)I"⟩, prog_4_method_3_code, 2, (some (Jvm.ClassFile.FieldType.int)))
def mt_R_tick : jv_Mt := (⟨"HaltRing", "tick", "(I)I"⟩, prog_1_method_10_code, 2, (some (Jvm.ClassFile.FieldType.int)))
def mt_A_push : jv_Mt := (⟨"HaltRing$Past", "push", "(LHaltRing$State;)V"⟩, prog_5_method_3_code, 2, none)
def mt_S_pass : jv_Mt := (⟨"HaltRing$State", "pass", "(LHaltRing$Program;I)V"⟩, prog_8_method_8_code, 6, none)
def mt_S_haltedSet : jv_Mt := (⟨"HaltRing$State", "haltedSet", "()I"⟩, prog_8_method_6_code, 3, (some (Jvm.ClassFile.FieldType.int)))
def mt_S_moveOrders : jv_Mt := (⟨"HaltRing$State", "moveOrders", "()V"⟩, prog_8_method_9_code, 4, none)
def mt_S_reach : jv_Mt := (⟨"HaltRing$State", "reach", "(LHaltRing$Order;)V"⟩, prog_8_method_10_code, 3, none)
def mt_O_isAbstract : jv_Mt := (⟨"HaltRing$Order", "isAbstract", "()Z"⟩, prog_4_method_4_code, 1, (some (Jvm.ClassFile.FieldType.boolean)))
def mt_H_halt : jv_Mt := (⟨"HaltRing$Hart", "halt", "(I)V"⟩, prog_3_method_5_code, 2, none)
def mt_H_resume : jv_Mt := (⟨"HaltRing$Hart", "resume", "()V"⟩, prog_3_method_6_code, 1, none)
def mt_S_restart : jv_Mt := (⟨"HaltRing$State", "restart", "(I)V"⟩, prog_8_method_11_code, 3, none)
def mt_S_runBuffer : jv_Mt := (⟨"HaltRing$State", "runBuffer", "(LHaltRing$Hart;)I"⟩, prog_8_method_12_code, 4, (some (Jvm.ClassFile.FieldType.int)))
def mt_S_calculate : jv_Mt := (⟨"HaltRing$State", "calculate", "(LHaltRing$Hart;III)V"⟩, prog_8_method_16_code, 6, none)
def mt_D_finish : jv_Mt := (⟨"HaltRing$DebugModule", "finish", "(LHaltRing$Order;)V"⟩, prog_2_method_8_code, 2, none)
def mt_D_moveForward : jv_Mt := (⟨"HaltRing$DebugModule", "moveForward", "(II)V"⟩, prog_2_method_7_code, 4, none)
def mt_S_step : jv_Mt := (⟨"HaltRing$State", "step", "(ILHaltRing$Program;)V"⟩, prog_8_method_13_code, 7, none)
def mt_S_isStopped : jv_Mt := (⟨"HaltRing$State", "isStopped", "(I)Z"⟩, prog_8_method_14_code, 5, (some (Jvm.ClassFile.FieldType.boolean)))
def mt_U_matches : jv_Mt := (⟨"HaltRing$Trigger", "matches", "(LHaltRing$Hart;)Z"⟩, prog_10_method_5_code, 2, (some (Jvm.ClassFile.FieldType.boolean)))
def mt_S_isJoined : jv_Mt := (⟨"HaltRing$State", "isJoined", "(I)Z"⟩, prog_8_method_15_code, 2, (some (Jvm.ClassFile.FieldType.boolean)))
def mt_U_countsDown : jv_Mt := (⟨"HaltRing$Trigger", "countsDown", "()Z"⟩, prog_10_method_6_code, 1, (some (Jvm.ClassFile.FieldType.boolean)))
def mt_H_sleep : jv_Mt := (⟨"HaltRing$Hart", "sleep", "()V"⟩, prog_3_method_7_code, 1, none)
def mt_S_spreadHalts : jv_Mt := (⟨"HaltRing$State", "spreadHalts", "(I)V"⟩, prog_8_method_18_code, 4, none)
def mt_S_wakeAll : jv_Mt := (⟨"HaltRing$State", "wakeAll", "()V"⟩, prog_8_method_17_code, 2, none)
def mt_H_wake : jv_Mt := (⟨"HaltRing$Hart", "wake", "()V"⟩, prog_3_method_8_code, 1, none)
def mt_S_haltedCount : jv_Mt := (⟨"HaltRing$State", "haltedCount", "()I"⟩, prog_8_method_7_code, 1, (some (Jvm.ClassFile.FieldType.int)))
def mt_JI_bitCount : jv_Mt := (⟨"java/lang/Integer", "bitCount", "(I)I"⟩, prog_14_method_49_code, 1, (some (Jvm.ClassFile.FieldType.int)))
def mt_R_send : jv_Mt := (⟨"HaltRing", "send", "(IIII)I"⟩, prog_1_method_11_code, 6, (some (Jvm.ClassFile.FieldType.int)))
def mt_D_accept : jv_Mt := (⟨"HaltRing$DebugModule", "accept", "(IIII)V"⟩, prog_2_method_3_code, 5, none)
def mt_D_hasAbstract : jv_Mt := (⟨"HaltRing$DebugModule", "hasAbstract", "()Z"⟩, prog_2_method_4_code, 2, (some (Jvm.ClassFile.FieldType.boolean)))
def mt_D_append : jv_Mt := (⟨"HaltRing$DebugModule", "append", "(IIII)V"⟩, prog_2_method_5_code, 6, none)
def mt_R_set : jv_Mt := (⟨"HaltRing", "set", "(IIIIIZ)I"⟩, prog_1_method_12_code, 9, (some (Jvm.ClassFile.FieldType.int)))
def mt_R_buffer : jv_Mt := (⟨"HaltRing", "buffer", "(II)I"⟩, prog_1_method_13_code, 4, (some (Jvm.ClassFile.FieldType.int)))
def mt_R_isBuffered : jv_Mt := (⟨"HaltRing", "isBuffered", "(I)Z"⟩, prog_1_method_36_code, 3, (some (Jvm.ClassFile.FieldType.boolean)))
def mt_R_clear : jv_Mt := (⟨"HaltRing", "clear", "()I"⟩, prog_1_method_14_code, 2, (some (Jvm.ClassFile.FieldType.int)))
def mt_R_poke : jv_Mt := (⟨"HaltRing", "poke", "(II)I"⟩, prog_1_method_15_code, 4, (some (Jvm.ClassFile.FieldType.int)))
def mt_R_undo : jv_Mt := (⟨"HaltRing", "undo", "()I"⟩, prog_1_method_16_code, 1, (some (Jvm.ClassFile.FieldType.int)))
def mt_A_popInto : jv_Mt := (⟨"HaltRing$Past", "popInto", "(LHaltRing$State;)Z"⟩, prog_5_method_4_code, 2, (some (Jvm.ClassFile.FieldType.boolean)))
def mt_R_ahead : jv_Mt := (⟨"HaltRing", "ahead", "(III)I"⟩, prog_1_method_17_code, 4, (some (Jvm.ClassFile.FieldType.int)))
def mt_R_halts : jv_Mt := (⟨"HaltRing", "halts", "(I)I"⟩, prog_1_method_18_code, 2, (some (Jvm.ClassFile.FieldType.int)))
def mt_R_ticksUntilHalted : jv_Mt := (⟨"HaltRing", "ticksUntilHalted", "(II)I"⟩, prog_1_method_37_code, 4, (some (Jvm.ClassFile.FieldType.int)))
def mt_R_soonest : jv_Mt := (⟨"HaltRing", "soonest", "(I)I"⟩, prog_1_method_19_code, 7, (some (Jvm.ClassFile.FieldType.int)))
def mt_R_all : jv_Mt := (⟨"HaltRing", "all", "(I)I"⟩, prog_1_method_20_code, 2, (some (Jvm.ClassFile.FieldType.int)))
def mt_S_everyHart : jv_Mt := (⟨"HaltRing$State", "everyHart", "()I"⟩, prog_8_method_5_code, 1, (some (Jvm.ClassFile.FieldType.int)))
def mt_R_ticksWithHalts : jv_Mt := (⟨"HaltRing", "ticksWithHalts", "(II)I"⟩, prog_1_method_38_code, 4, (some (Jvm.ClassFile.FieldType.int)))
def mt_R_crew : jv_Mt := (⟨"HaltRing", "crew", "()I"⟩, prog_1_method_21_code, 6, (some (Jvm.ClassFile.FieldType.int)))
def mt_R_judge : jv_Mt := (⟨"HaltRing", "judge", "(IJ)I"⟩, prog_1_method_22_code, 7, (some (Jvm.ClassFile.FieldType.int)))
def mt_R_power : jv_Mt := (⟨"HaltRing", "power", "(II)J"⟩, prog_1_method_43_code, 5, (some (Jvm.ClassFile.FieldType.long)))
def mt_R_holdsInTrial : jv_Mt := (⟨"HaltRing", "holdsInTrial", "(I)Z"⟩, prog_1_method_39_code, 5, (some (Jvm.ClassFile.FieldType.boolean)))
def mt_R_isSentInTrial : jv_Mt := (⟨"HaltRing", "isSentInTrial", "(II)Z"⟩, prog_1_method_40_code, 3, (some (Jvm.ClassFile.FieldType.boolean)))
def mt_R_see : jv_Mt := (⟨"HaltRing", "see", "(III)I"⟩, prog_1_method_23_code, 4, (some (Jvm.ClassFile.FieldType.int)))
def mt_G_range : jv_Mt := (⟨"HaltRing$Sights", "range", "(I)I"⟩, prog_7_method_2_code, 1, (some (Jvm.ClassFile.FieldType.int)))
def mt_G_append : jv_Mt := (⟨"HaltRing$Sights", "append", "(III)Z"⟩, prog_7_method_3_code, 4, (some (Jvm.ClassFile.FieldType.boolean)))
def mt_R_unsee : jv_Mt := (⟨"HaltRing", "unsee", "()I"⟩, prog_1_method_24_code, 2, (some (Jvm.ClassFile.FieldType.int)))
def mt_R_which : jv_Mt := (⟨"HaltRing", "which", "()I"⟩, prog_1_method_25_code, 4, (some (Jvm.ClassFile.FieldType.int)))
def mt_G_allow : jv_Mt := (⟨"HaltRing$Sights", "allow", "(ILHaltRing$Hart;)Z"⟩, prog_7_method_4_code, 4, (some (Jvm.ClassFile.FieldType.boolean)))
def mt_G_seen : jv_Mt := (⟨"HaltRing$Sights", "seen", "(LHaltRing$Hart;I)I"⟩, prog_7_method_5_code, 2, (some (Jvm.ClassFile.FieldType.int)))
def mt_R_share : jv_Mt := (⟨"HaltRing", "share", "(IZ)I"⟩, prog_1_method_26_code, 9, (some (Jvm.ClassFile.FieldType.int)))
def mt_R_worth : jv_Mt := (⟨"HaltRing", "worth", "(I)I"⟩, prog_1_method_41_code, 4, (some (Jvm.ClassFile.FieldType.int)))
def mt_R_part : jv_Mt := (⟨"HaltRing", "part", "(JJZ)I"⟩, prog_1_method_44_code, 12, (some (Jvm.ClassFile.FieldType.int)))
def mt_JM_abs : jv_Mt := (⟨"java/lang/Math", "abs", "(J)J"⟩, prog_15_method_61_code, 2, (some (Jvm.ClassFile.FieldType.long)))
def mt_R_lost : jv_Mt := (⟨"HaltRing", "lost", "(IZ)I"⟩, prog_1_method_27_code, 10, (some (Jvm.ClassFile.FieldType.int)))
def mt_R_endsHaltedWithout : jv_Mt := (⟨"HaltRing", "endsHaltedWithout", "(I)Z"⟩, prog_1_method_42_code, 2, (some (Jvm.ClassFile.FieldType.boolean)))
def mt_D_lose : jv_Mt := (⟨"HaltRing$DebugModule", "lose", "(I)V"⟩, prog_2_method_6_code, 4, none)
def mt_R_seed : jv_Mt := (⟨"HaltRing", "seed", "(J)J"⟩, prog_1_method_28_code, 5, (some (Jvm.ClassFile.FieldType.long)))
def mt_R_drawn : jv_Mt := (⟨"HaltRing", "drawn", "(I)I"⟩, prog_1_method_29_code, 5, (some (Jvm.ClassFile.FieldType.int)))
def mt_R_keep : jv_Mt := (⟨"HaltRing", "keep", "(I)I"⟩, prog_1_method_30_code, 2, (some (Jvm.ClassFile.FieldType.int)))
def mt_R_again : jv_Mt := (⟨"HaltRing", "again", "(I)I"⟩, prog_1_method_31_code, 2, (some (Jvm.ClassFile.FieldType.int)))
def mt_R_count : jv_Mt := (⟨"HaltRing", "count", "(I)I"⟩, prog_1_method_32_code, 2, (some (Jvm.ClassFile.FieldType.int)))
def mt_M_init : jv_Mt := (⟨"HaltRingModel", "<init>", "()V"⟩, prog_12_method_1_code, 1, none)
def mt_M_write : jv_Mt := (⟨"HaltRingModel", "write", "(I)I"⟩, prog_12_method_9_code, 2, (some (Jvm.ClassFile.FieldType.int)))
def mt_M_in : jv_Mt := (⟨"HaltRingModel", "in", "(JJJ)Z"⟩, prog_12_method_3_code, 6, (some (Jvm.ClassFile.FieldType.boolean)))
def mt_M_wipe : jv_Mt := (⟨"HaltRingModel", "wipe", "()I"⟩, prog_12_method_10_code, 2, (some (Jvm.ClassFile.FieldType.int)))
def mt_M_fault : jv_Mt := (⟨"HaltRingModel", "fault", "()I"⟩, prog_12_method_19_code, 1, (some (Jvm.ClassFile.FieldType.int)))
def mt_M_readBoard : jv_Mt := (⟨"HaltRingModel", "readBoard", "()I"⟩, prog_12_method_18_code, 2, (some (Jvm.ClassFile.FieldType.int)))
def mt_M_readPart : jv_Mt := (⟨"HaltRingModel", "readPart", "()Z"⟩, prog_12_method_17_code, 1, (some (Jvm.ClassFile.FieldType.boolean)))
def mt_M_readInstruction : jv_Mt := (⟨"HaltRingModel", "readInstruction", "()Z"⟩, prog_12_method_14_code, 3, (some (Jvm.ClassFile.FieldType.boolean)))
def mt_M_kindOf : jv_Mt := (⟨"HaltRingModel", "kindOf", "(I)I"⟩, prog_12_method_13_code, 1, (some (Jvm.ClassFile.FieldType.int)))
def mt_M_isNext : jv_Mt := (⟨"HaltRingModel", "isNext", "(III)Z"⟩, prog_12_method_11_code, 5, (some (Jvm.ClassFile.FieldType.boolean)))
def mt_M_taken : jv_Mt := (⟨"HaltRingModel", "taken", "(I)I"⟩, prog_12_method_12_code, 2, (some (Jvm.ClassFile.FieldType.int)))
def mt_M_readHart : jv_Mt := (⟨"HaltRingModel", "readHart", "()Z"⟩, prog_12_method_15_code, 1, (some (Jvm.ClassFile.FieldType.boolean)))
def mt_M_readTrigger : jv_Mt := (⟨"HaltRingModel", "readTrigger", "(Z)Z"⟩, prog_12_method_16_code, 5, (some (Jvm.ClassFile.FieldType.boolean)))
def mt_M_board : jv_Mt := (⟨"HaltRingModel", "board", "()I"⟩, prog_12_method_20_code, 2, (some (Jvm.ClassFile.FieldType.int)))
def mt_M_lay : jv_Mt := (⟨"HaltRingModel", "lay", "([I[I)V"⟩, prog_12_method_7_code, 3, none)
def mt_M_hart : jv_Mt := (⟨"HaltRingModel", "hart", "(II)I"⟩, prog_12_method_39_code, 3, (some (Jvm.ClassFile.FieldType.int)))
def mt_M_noHart : jv_Mt := (⟨"HaltRingModel", "noHart", "(I)Z"⟩, prog_12_method_8_code, 2, (some (Jvm.ClassFile.FieldType.boolean)))
def mt_M_tellHart : jv_Mt := (⟨"HaltRingModel", "tellHart", "([III)I"⟩, prog_12_method_38_code, 4, (some (Jvm.ClassFile.FieldType.int)))
def mt_M_hartOf : jv_Mt := (⟨"HaltRingModel", "hartOf", "([III)I"⟩, prog_12_method_37_code, 3, (some (Jvm.ClassFile.FieldType.int)))
def mt_M_trigger : jv_Mt := (⟨"HaltRingModel", "trigger", "(II)I"⟩, prog_12_method_40_code, 3, (some (Jvm.ClassFile.FieldType.int)))
def mt_M_cell : jv_Mt := (⟨"HaltRingModel", "cell", "(I)I"⟩, prog_12_method_41_code, 2, (some (Jvm.ClassFile.FieldType.int)))
def mt_M_order : jv_Mt := (⟨"HaltRingModel", "order", "(II)I"⟩, prog_12_method_42_code, 3, (some (Jvm.ClassFile.FieldType.int)))
def mt_M_tick : jv_Mt := (⟨"HaltRingModel", "tick", "(I)I"⟩, prog_12_method_44_code, 2, (some (Jvm.ClassFile.FieldType.int)))
def mt_M_note : jv_Mt := (⟨"HaltRingModel", "note", "()V"⟩, prog_12_method_43_code, 2, none)
def mt_M_tickMany : jv_Mt := (⟨"HaltRingModel", "tickMany", "([II)V"⟩, prog_12_method_36_code, 4, none)
def mt_M_tickOn : jv_Mt := (⟨"HaltRingModel", "tickOn", "([I)V"⟩, prog_12_method_35_code, 7, none)
def mt_M_haltedOf : jv_Mt := (⟨"HaltRingModel", "haltedOf", "([II)I"⟩, prog_12_method_34_code, 4, (some (Jvm.ClassFile.FieldType.int)))
def mt_M_goRound : jv_Mt := (⟨"HaltRingModel", "goRound", "([I)V"⟩, prog_12_method_29_code, 4, none)
def mt_M_reach : jv_Mt := (⟨"HaltRingModel", "reach", "([II)V"⟩, prog_12_method_27_code, 5, none)
def mt_M_halt : jv_Mt := (⟨"HaltRingModel", "halt", "([III)V"⟩, prog_12_method_21_code, 4, none)
def mt_M_resume : jv_Mt := (⟨"HaltRingModel", "resume", "([II)V"⟩, prog_12_method_22_code, 3, none)
def mt_M_reset : jv_Mt := (⟨"HaltRingModel", "reset", "([II)V"⟩, prog_12_method_23_code, 4, none)
def mt_M_runBuffer : jv_Mt := (⟨"HaltRingModel", "runBuffer", "([II)I"⟩, prog_12_method_26_code, 5, (some (Jvm.ClassFile.FieldType.int)))
def mt_M_plain : jv_Mt := (⟨"HaltRingModel", "plain", "(I)I"⟩, prog_12_method_25_code, 1, (some (Jvm.ClassFile.FieldType.int)))
def mt_M_doPlain : jv_Mt := (⟨"HaltRingModel", "doPlain", "([III)V"⟩, prog_12_method_24_code, 6, none)
def mt_M_dropOrder : jv_Mt := (⟨"HaltRingModel", "dropOrder", "([II)V"⟩, prog_12_method_28_code, 3, none)
def mt_M_runHart : jv_Mt := (⟨"HaltRingModel", "runHart", "([II)V"⟩, prog_12_method_33_code, 5, none)
def mt_M_isCaught : jv_Mt := (⟨"HaltRingModel", "isCaught", "([II)Z"⟩, prog_12_method_32_code, 7, (some (Jvm.ClassFile.FieldType.boolean)))
def mt_M_matches : jv_Mt := (⟨"HaltRingModel", "matches", "([II)Z"⟩, prog_12_method_31_code, 6, (some (Jvm.ClassFile.FieldType.boolean)))
def mt_M_has : jv_Mt := (⟨"HaltRingModel", "has", "(II)Z"⟩, prog_12_method_4_code, 2, (some (Jvm.ClassFile.FieldType.boolean)))
def mt_M_leads : jv_Mt := (⟨"HaltRingModel", "leads", "([II)Z"⟩, prog_12_method_30_code, 3, (some (Jvm.ClassFile.FieldType.boolean)))
def mt_M_ones : jv_Mt := (⟨"HaltRingModel", "ones", "(I)I"⟩, prog_12_method_5_code, 3, (some (Jvm.ClassFile.FieldType.int)))
def mt_M_send : jv_Mt := (⟨"HaltRingModel", "send", "(IIII)I"⟩, prog_12_method_47_code, 5, (some (Jvm.ClassFile.FieldType.int)))
def mt_M_sendOn : jv_Mt := (⟨"HaltRingModel", "sendOn", "([IIIII)V"⟩, prog_12_method_46_code, 6, none)
def mt_M_isAbstractOn : jv_Mt := (⟨"HaltRingModel", "isAbstractOn", "([I)Z"⟩, prog_12_method_45_code, 3, (some (Jvm.ClassFile.FieldType.boolean)))
def mt_M_set : jv_Mt := (⟨"HaltRingModel", "set", "(IIIIIZ)I"⟩, prog_12_method_48_code, 9, (some (Jvm.ClassFile.FieldType.int)))
def mt_M_buffer : jv_Mt := (⟨"HaltRingModel", "buffer", "(II)I"⟩, prog_12_method_50_code, 4, (some (Jvm.ClassFile.FieldType.int)))
def mt_M_isTold : jv_Mt := (⟨"HaltRingModel", "isTold", "(I)Z"⟩, prog_12_method_49_code, 3, (some (Jvm.ClassFile.FieldType.boolean)))
def mt_M_clear : jv_Mt := (⟨"HaltRingModel", "clear", "()I"⟩, prog_12_method_51_code, 2, (some (Jvm.ClassFile.FieldType.int)))
def mt_M_poke : jv_Mt := (⟨"HaltRingModel", "poke", "(II)I"⟩, prog_12_method_52_code, 4, (some (Jvm.ClassFile.FieldType.int)))
def mt_M_undo : jv_Mt := (⟨"HaltRingModel", "undo", "()I"⟩, prog_12_method_53_code, 2, (some (Jvm.ClassFile.FieldType.int)))
def mt_M_ahead : jv_Mt := (⟨"HaltRingModel", "ahead", "(III)I"⟩, prog_12_method_54_code, 4, (some (Jvm.ClassFile.FieldType.int)))
def mt_M_halts : jv_Mt := (⟨"HaltRingModel", "halts", "(I)I"⟩, prog_12_method_56_code, 2, (some (Jvm.ClassFile.FieldType.int)))
def mt_M_haltsOn : jv_Mt := (⟨"HaltRingModel", "haltsOn", "([II)I"⟩, prog_12_method_55_code, 4, (some (Jvm.ClassFile.FieldType.int)))
def mt_M_soonest : jv_Mt := (⟨"HaltRingModel", "soonest", "(I)I"⟩, prog_12_method_57_code, 7, (some (Jvm.ClassFile.FieldType.int)))
def mt_M_all : jv_Mt := (⟨"HaltRingModel", "all", "(I)I"⟩, prog_12_method_59_code, 2, (some (Jvm.ClassFile.FieldType.int)))
def mt_M_allBy : jv_Mt := (⟨"HaltRingModel", "allBy", "(I)I"⟩, prog_12_method_58_code, 3, (some (Jvm.ClassFile.FieldType.int)))
def mt_M_crew : jv_Mt := (⟨"HaltRingModel", "crew", "()I"⟩, prog_12_method_60_code, 6, (some (Jvm.ClassFile.FieldType.int)))
def mt_M_judge : jv_Mt := (⟨"HaltRingModel", "judge", "(IJ)I"⟩, prog_12_method_63_code, 5, (some (Jvm.ClassFile.FieldType.int)))
def mt_M_longPower : jv_Mt := (⟨"HaltRingModel", "longPower", "(JI)J"⟩, prog_12_method_61_code, 6, (some (Jvm.ClassFile.FieldType.long)))
def mt_M_does : jv_Mt := (⟨"HaltRingModel", "does", "(I)Z"⟩, prog_12_method_62_code, 5, (some (Jvm.ClassFile.FieldType.boolean)))
def mt_M_see : jv_Mt := (⟨"HaltRingModel", "see", "(III)I"⟩, prog_12_method_64_code, 4, (some (Jvm.ClassFile.FieldType.int)))
def mt_M_unsee : jv_Mt := (⟨"HaltRingModel", "unsee", "()I"⟩, prog_12_method_65_code, 2, (some (Jvm.ClassFile.FieldType.int)))
def mt_M_which : jv_Mt := (⟨"HaltRingModel", "which", "()I"⟩, prog_12_method_66_code, 6, (some (Jvm.ClassFile.FieldType.int)))
def mt_M_share : jv_Mt := (⟨"HaltRingModel", "share", "(IZ)I"⟩, prog_12_method_70_code, 6, (some (Jvm.ClassFile.FieldType.int)))
def mt_M_factorial : jv_Mt := (⟨"HaltRingModel", "factorial", "(I)I"⟩, prog_12_method_69_code, 3, (some (Jvm.ClassFile.FieldType.int)))
def mt_M_fraction : jv_Mt := (⟨"HaltRingModel", "fraction", "(IIZ)I"⟩, prog_12_method_68_code, 4, (some (Jvm.ClassFile.FieldType.int)))
def mt_M_divisor : jv_Mt := (⟨"HaltRingModel", "divisor", "(II)I"⟩, prog_12_method_67_code, 5, (some (Jvm.ClassFile.FieldType.int)))
def mt_M_lost : jv_Mt := (⟨"HaltRingModel", "lost", "(IZ)I"⟩, prog_12_method_71_code, 7, (some (Jvm.ClassFile.FieldType.int)))
def mt_M_power : jv_Mt := (⟨"HaltRingModel", "power", "(II)I"⟩, prog_12_method_6_code, 4, (some (Jvm.ClassFile.FieldType.int)))
def mt_M_seed : jv_Mt := (⟨"HaltRingModel", "seed", "(J)J"⟩, prog_12_method_72_code, 5, (some (Jvm.ClassFile.FieldType.long)))
def mt_M_drawn : jv_Mt := (⟨"HaltRingModel", "drawn", "(I)I"⟩, prog_12_method_73_code, 5, (some (Jvm.ClassFile.FieldType.int)))
def mt_M_keep : jv_Mt := (⟨"HaltRingModel", "keep", "(I)I"⟩, prog_12_method_74_code, 3, (some (Jvm.ClassFile.FieldType.int)))
def mt_M_again : jv_Mt := (⟨"HaltRingModel", "again", "(I)I"⟩, prog_12_method_75_code, 3, (some (Jvm.ClassFile.FieldType.int)))
def mt_M_count : jv_Mt := (⟨"HaltRingModel", "count", "(I)I"⟩, prog_12_method_76_code, 2, (some (Jvm.ClassFile.FieldType.int)))
def mt_L_law : jv_Mt := (⟨"HaltRingLaw", "law", "([I)Z"⟩, code, 4, (some (Jvm.ClassFile.FieldType.boolean)))
theorem ok_R_init : jv_okm mt_R_init 0 := ⟨jv_in (List.mem_of_getElem? (i := 56) (by decide +kernel)) rfl, jv_in (List.mem_of_getElem? (i := 33) (by decide +kernel)) rfl, by decide, by decide, by decide, by decide +kernel⟩
theorem ok_T_init : jv_okm mt_T_init 0 := ⟨jv_in (List.mem_of_getElem? (i := 64) (by decide +kernel)) rfl, jv_in (List.mem_of_getElem? (i := 34) (by decide +kernel)) rfl, by decide, by decide, by decide, by decide +kernel⟩
theorem ok_P_init : jv_okm mt_P_init 0 := ⟨jv_in (List.mem_of_getElem? (i := 70) (by decide +kernel)) rfl, jv_in (List.mem_of_getElem? (i := 35) (by decide +kernel)) rfl, by decide, by decide, by decide, by decide +kernel⟩
theorem ok_S_init : jv_okm mt_S_init 0 := ⟨jv_in (List.mem_of_getElem? (i := 96) (by decide +kernel)) rfl, jv_in (List.mem_of_getElem? (i := 36) (by decide +kernel)) rfl, by decide, by decide, by decide, by decide +kernel⟩
theorem ok_D_init : jv_okm mt_D_init 0 := ⟨jv_in (List.mem_of_getElem? (i := 102) (by decide +kernel)) rfl, jv_in (List.mem_of_getElem? (i := 37) (by decide +kernel)) rfl, by decide, by decide, by decide, by decide +kernel⟩
theorem ok_O_init : jv_okm mt_O_init 0 := ⟨jv_in (List.mem_of_getElem? (i := 109) (by decide +kernel)) rfl, jv_in (List.mem_of_getElem? (i := 38) (by decide +kernel)) rfl, by decide, by decide, by decide, by decide +kernel⟩
theorem ok_H_init : jv_okm mt_H_init 0 := ⟨jv_in (List.mem_of_getElem? (i := 178) (by decide +kernel)) rfl, jv_in (List.mem_of_getElem? (i := 39) (by decide +kernel)) rfl, by decide, by decide, by decide, by decide +kernel⟩
theorem ok_U_init : jv_okm mt_U_init 0 := ⟨jv_in (List.mem_of_getElem? (i := 218) (by decide +kernel)) rfl, jv_in (List.mem_of_getElem? (i := 40) (by decide +kernel)) rfl, by decide, by decide, by decide, by decide +kernel⟩
theorem ok_A_init : jv_okm mt_A_init 0 := ⟨jv_in (List.mem_of_getElem? (i := 312) (by decide +kernel)) rfl, jv_in (List.mem_of_getElem? (i := 41) (by decide +kernel)) rfl, by decide, by decide, by decide, by decide +kernel⟩
theorem ok_G_init : jv_okm mt_G_init 0 := ⟨jv_in (List.mem_of_getElem? (i := 332) (by decide +kernel)) rfl, jv_in (List.mem_of_getElem? (i := 42) (by decide +kernel)) rfl, by decide, by decide, by decide, by decide +kernel⟩
theorem ok_R_write : jv_okm mt_R_write 1 := ⟨jv_in (List.mem_of_getElem? (i := 383) (by decide +kernel)) rfl, jv_in (List.mem_of_getElem? (i := 33) (by decide +kernel)) rfl, by decide, by decide, by decide, by decide +kernel⟩
theorem ok_T_append : jv_okm mt_T_append 1 := ⟨jv_in (List.mem_of_getElem? (i := 387) (by decide +kernel)) rfl, jv_in (List.mem_of_getElem? (i := 34) (by decide +kernel)) rfl, by decide, by decide, by decide, by decide +kernel⟩
theorem ok_R_wipe : jv_okm mt_R_wipe 0 := ⟨jv_in (List.mem_of_getElem? (i := 391) (by decide +kernel)) rfl, jv_in (List.mem_of_getElem? (i := 33) (by decide +kernel)) rfl, by decide, by decide, by decide, by decide +kernel⟩
theorem ok_R_fault : jv_okm mt_R_fault 0 := ⟨jv_in (List.mem_of_getElem? (i := 395) (by decide +kernel)) rfl, jv_in (List.mem_of_getElem? (i := 33) (by decide +kernel)) rfl, by decide, by decide, by decide, by decide +kernel⟩
theorem ok_T_findFault : jv_okm mt_T_findFault 0 := ⟨jv_in (List.mem_of_getElem? (i := 399) (by decide +kernel)) rfl, jv_in (List.mem_of_getElem? (i := 34) (by decide +kernel)) rfl, by decide, by decide, by decide, by decide +kernel⟩
theorem ok_T_take : jv_okm mt_T_take 2 := ⟨jv_in (List.mem_of_getElem? (i := 403) (by decide +kernel)) rfl, jv_in (List.mem_of_getElem? (i := 34) (by decide +kernel)) rfl, by decide, by decide, by decide, by decide +kernel⟩
theorem ok_R_isBelow : jv_okm mt_R_isBelow 2 := ⟨jv_in (List.mem_of_getElem? (i := 406) (by decide +kernel)) rfl, jv_in (List.mem_of_getElem? (i := 33) (by decide +kernel)) rfl, by decide, by decide, by decide, by decide +kernel⟩
theorem ok_T_readPart : jv_okm mt_T_readPart 1 := ⟨jv_in (List.mem_of_getElem? (i := 410) (by decide +kernel)) rfl, jv_in (List.mem_of_getElem? (i := 34) (by decide +kernel)) rfl, by decide, by decide, by decide, by decide +kernel⟩
theorem ok_T_readInstruction : jv_okm mt_T_readInstruction 0 := ⟨jv_in (List.mem_of_getElem? (i := 414) (by decide +kernel)) rfl, jv_in (List.mem_of_getElem? (i := 34) (by decide +kernel)) rfl, by decide, by decide, by decide, by decide +kernel⟩
theorem ok_T_takeCode : jv_okm mt_T_takeCode 0 := ⟨jv_in (List.mem_of_getElem? (i := 418) (by decide +kernel)) rfl, jv_in (List.mem_of_getElem? (i := 34) (by decide +kernel)) rfl, by decide, by decide, by decide, by decide +kernel⟩
theorem ok_JS_indexOf : jv_okm mt_JS_indexOf 1 := ⟨jv_in (List.mem_of_getElem? (i := 423) (by decide +kernel)) rfl, jv_in (List.mem_of_getElem? (i := 44) (by decide +kernel)) rfl, by decide, by decide, by decide, by decide +kernel⟩
theorem ok_JS_indexOf_5 : jv_okm mt_JS_indexOf_5 2 := ⟨jv_in (List.mem_of_getElem? (i := 427) (by decide +kernel)) rfl, jv_in (List.mem_of_getElem? (i := 44) (by decide +kernel)) rfl, by decide, by decide, by decide, by decide +kernel⟩
theorem ok_JS_isLatin1 : jv_okm mt_JS_isLatin1 0 := ⟨jv_in (List.mem_of_getElem? (i := 431) (by decide +kernel)) rfl, jv_in (List.mem_of_getElem? (i := 44) (by decide +kernel)) rfl, by decide, by decide, by decide, by decide +kernel⟩
theorem ok_JS_length : jv_okm mt_JS_length 0 := ⟨jv_in (List.mem_of_getElem? (i := 437) (by decide +kernel)) rfl, jv_in (List.mem_of_getElem? (i := 44) (by decide +kernel)) rfl, by decide, by decide, by decide, by decide +kernel⟩
theorem ok_JS_coder : jv_okm mt_JS_coder 0 := ⟨jv_in (List.mem_of_getElem? (i := 441) (by decide +kernel)) rfl, jv_in (List.mem_of_getElem? (i := 44) (by decide +kernel)) rfl, by decide, by decide, by decide, by decide +kernel⟩
theorem ok_JL_indexOf : jv_okm mt_JL_indexOf 4 := ⟨jv_in (List.mem_of_getElem? (i := 444) (by decide +kernel)) rfl, jv_in (List.mem_of_getElem? (i := 45) (by decide +kernel)) rfl, by decide, by decide, by decide, by decide +kernel⟩
theorem ok_JL_canEncode : jv_okm mt_JL_canEncode 1 := ⟨jv_in (List.mem_of_getElem? (i := 447) (by decide +kernel)) rfl, jv_in (List.mem_of_getElem? (i := 45) (by decide +kernel)) rfl, by decide, by decide, by decide, by decide +kernel⟩
theorem ok_JM_max : jv_okm mt_JM_max 2 := ⟨jv_in (List.mem_of_getElem? (i := 450) (by decide +kernel)) rfl, jv_in (List.mem_of_getElem? (i := 46) (by decide +kernel)) rfl, by decide, by decide, by decide, by decide +kernel⟩
theorem ok_JM_min : jv_okm mt_JM_min 2 := ⟨jv_in (List.mem_of_getElem? (i := 453) (by decide +kernel)) rfl, jv_in (List.mem_of_getElem? (i := 46) (by decide +kernel)) rfl, by decide, by decide, by decide, by decide +kernel⟩
theorem ok_JL_indexOfChar : jv_okm mt_JL_indexOfChar 4 := ⟨jv_in (List.mem_of_getElem? (i := 456) (by decide +kernel)) rfl, jv_in (List.mem_of_getElem? (i := 45) (by decide +kernel)) rfl, by decide, by decide, by decide, by decide +kernel⟩
theorem ok_P_hasRegister : jv_okm mt_P_hasRegister 1 := ⟨jv_in (List.mem_of_getElem? (i := 508) (by decide +kernel)) rfl, jv_in (List.mem_of_getElem? (i := 35) (by decide +kernel)) rfl, by decide, by decide, by decide, by decide +kernel⟩
theorem ok_P_append : jv_okm mt_P_append 3 := ⟨jv_in (List.mem_of_getElem? (i := 514) (by decide +kernel)) rfl, jv_in (List.mem_of_getElem? (i := 35) (by decide +kernel)) rfl, by decide, by decide, by decide, by decide +kernel⟩
theorem ok_T_readHart : jv_okm mt_T_readHart 0 := ⟨jv_in (List.mem_of_getElem? (i := 518) (by decide +kernel)) rfl, jv_in (List.mem_of_getElem? (i := 34) (by decide +kernel)) rfl, by decide, by decide, by decide, by decide +kernel⟩
theorem ok_S_addHart : jv_okm mt_S_addHart 2 := ⟨jv_in (List.mem_of_getElem? (i := 522) (by decide +kernel)) rfl, jv_in (List.mem_of_getElem? (i := 36) (by decide +kernel)) rfl, by decide, by decide, by decide, by decide +kernel⟩
theorem ok_H_restart : jv_okm mt_H_restart 0 := ⟨jv_in (List.mem_of_getElem? (i := 526) (by decide +kernel)) rfl, jv_in (List.mem_of_getElem? (i := 39) (by decide +kernel)) rfl, by decide, by decide, by decide, by decide +kernel⟩
theorem ok_T_readTrigger : jv_okm mt_T_readTrigger 1 := ⟨jv_in (List.mem_of_getElem? (i := 530) (by decide +kernel)) rfl, jv_in (List.mem_of_getElem? (i := 34) (by decide +kernel)) rfl, by decide, by decide, by decide, by decide +kernel⟩
theorem ok_S_addTrigger : jv_okm mt_S_addTrigger 1 := ⟨jv_in (List.mem_of_getElem? (i := 534) (by decide +kernel)) rfl, jv_in (List.mem_of_getElem? (i := 36) (by decide +kernel)) rfl, by decide, by decide, by decide, by decide +kernel⟩
theorem ok_U_become : jv_okm mt_U_become 5 := ⟨jv_in (List.mem_of_getElem? (i := 539) (by decide +kernel)) rfl, jv_in (List.mem_of_getElem? (i := 40) (by decide +kernel)) rfl, by decide, by decide, by decide, by decide +kernel⟩
theorem ok_R_board : jv_okm mt_R_board 0 := ⟨jv_in (List.mem_of_getElem? (i := 544) (by decide +kernel)) rfl, jv_in (List.mem_of_getElem? (i := 33) (by decide +kernel)) rfl, by decide, by decide, by decide, by decide +kernel⟩
theorem ok_P_copyFrom : jv_okm mt_P_copyFrom 1 := ⟨jv_in (List.mem_of_getElem? (i := 548) (by decide +kernel)) rfl, jv_in (List.mem_of_getElem? (i := 35) (by decide +kernel)) rfl, by decide, by decide, by decide, by decide +kernel⟩
theorem ok_S_copyFrom : jv_okm mt_S_copyFrom 1 := ⟨jv_in (List.mem_of_getElem? (i := 555) (by decide +kernel)) rfl, jv_in (List.mem_of_getElem? (i := 36) (by decide +kernel)) rfl, by decide, by decide, by decide, by decide +kernel⟩
theorem ok_D_copyFrom : jv_okm mt_D_copyFrom 1 := ⟨jv_in (List.mem_of_getElem? (i := 559) (by decide +kernel)) rfl, jv_in (List.mem_of_getElem? (i := 37) (by decide +kernel)) rfl, by decide, by decide, by decide, by decide +kernel⟩
theorem ok_O_copyFrom : jv_okm mt_O_copyFrom 1 := ⟨jv_in (List.mem_of_getElem? (i := 563) (by decide +kernel)) rfl, jv_in (List.mem_of_getElem? (i := 38) (by decide +kernel)) rfl, by decide, by decide, by decide, by decide +kernel⟩
theorem ok_H_copyFrom : jv_okm mt_H_copyFrom 1 := ⟨jv_in (List.mem_of_getElem? (i := 568) (by decide +kernel)) rfl, jv_in (List.mem_of_getElem? (i := 39) (by decide +kernel)) rfl, by decide, by decide, by decide, by decide +kernel⟩
theorem ok_U_copyFrom : jv_okm mt_U_copyFrom 1 := ⟨jv_in (List.mem_of_getElem? (i := 573) (by decide +kernel)) rfl, jv_in (List.mem_of_getElem? (i := 40) (by decide +kernel)) rfl, by decide, by decide, by decide, by decide +kernel⟩
theorem ok_A_forget : jv_okm mt_A_forget 0 := ⟨jv_in (List.mem_of_getElem? (i := 578) (by decide +kernel)) rfl, jv_in (List.mem_of_getElem? (i := 41) (by decide +kernel)) rfl, by decide, by decide, by decide, by decide +kernel⟩
theorem ok_R_hart : jv_okm mt_R_hart 2 := ⟨jv_in (List.mem_of_getElem? (i := 582) (by decide +kernel)) rfl, jv_in (List.mem_of_getElem? (i := 33) (by decide +kernel)) rfl, by decide, by decide, by decide, by decide +kernel⟩
theorem ok_R_isHart : jv_okm mt_R_isHart 1 := ⟨jv_in (List.mem_of_getElem? (i := 586) (by decide +kernel)) rfl, jv_in (List.mem_of_getElem? (i := 33) (by decide +kernel)) rfl, by decide, by decide, by decide, by decide +kernel⟩
theorem ok_H_property : jv_okm mt_H_property 1 := ⟨jv_in (List.mem_of_getElem? (i := 591) (by decide +kernel)) rfl, jv_in (List.mem_of_getElem? (i := 39) (by decide +kernel)) rfl, by decide, by decide, by decide, by decide +kernel⟩
theorem ok_R_trigger : jv_okm mt_R_trigger 2 := ⟨jv_in (List.mem_of_getElem? (i := 596) (by decide +kernel)) rfl, jv_in (List.mem_of_getElem? (i := 33) (by decide +kernel)) rfl, by decide, by decide, by decide, by decide +kernel⟩
theorem ok_R_isTrigger : jv_okm mt_R_isTrigger 1 := ⟨jv_in (List.mem_of_getElem? (i := 600) (by decide +kernel)) rfl, jv_in (List.mem_of_getElem? (i := 33) (by decide +kernel)) rfl, by decide, by decide, by decide, by decide +kernel⟩
theorem ok_U_property : jv_okm mt_U_property 1 := ⟨jv_in (List.mem_of_getElem? (i := 604) (by decide +kernel)) rfl, jv_in (List.mem_of_getElem? (i := 40) (by decide +kernel)) rfl, by decide, by decide, by decide, by decide +kernel⟩
theorem ok_R_cell : jv_okm mt_R_cell 1 := ⟨jv_in (List.mem_of_getElem? (i := 608) (by decide +kernel)) rfl, jv_in (List.mem_of_getElem? (i := 33) (by decide +kernel)) rfl, by decide, by decide, by decide, by decide +kernel⟩
theorem ok_R_order : jv_okm mt_R_order 2 := ⟨jv_in (List.mem_of_getElem? (i := 612) (by decide +kernel)) rfl, jv_in (List.mem_of_getElem? (i := 33) (by decide +kernel)) rfl, by decide, by decide, by decide, by decide +kernel⟩
theorem ok_O_property : jv_okm mt_O_property 1 := ⟨jv_in (List.mem_of_getElem? (i := 616) (by decide +kernel)) rfl, jv_in (List.mem_of_getElem? (i := 38) (by decide +kernel)) rfl, by decide, by decide, by decide, by decide +kernel⟩
theorem ok_R_tick : jv_okm mt_R_tick 1 := ⟨jv_in (List.mem_of_getElem? (i := 620) (by decide +kernel)) rfl, jv_in (List.mem_of_getElem? (i := 33) (by decide +kernel)) rfl, by decide, by decide, by decide, by decide +kernel⟩
theorem ok_A_push : jv_okm mt_A_push 1 := ⟨jv_in (List.mem_of_getElem? (i := 624) (by decide +kernel)) rfl, jv_in (List.mem_of_getElem? (i := 41) (by decide +kernel)) rfl, by decide, by decide, by decide, by decide +kernel⟩
theorem ok_S_pass : jv_okm mt_S_pass 2 := ⟨jv_in (List.mem_of_getElem? (i := 630) (by decide +kernel)) rfl, jv_in (List.mem_of_getElem? (i := 36) (by decide +kernel)) rfl, by decide, by decide, by decide, by decide +kernel⟩
theorem ok_S_haltedSet : jv_okm mt_S_haltedSet 0 := ⟨jv_in (List.mem_of_getElem? (i := 634) (by decide +kernel)) rfl, jv_in (List.mem_of_getElem? (i := 36) (by decide +kernel)) rfl, by decide, by decide, by decide, by decide +kernel⟩
theorem ok_S_moveOrders : jv_okm mt_S_moveOrders 0 := ⟨jv_in (List.mem_of_getElem? (i := 638) (by decide +kernel)) rfl, jv_in (List.mem_of_getElem? (i := 36) (by decide +kernel)) rfl, by decide, by decide, by decide, by decide +kernel⟩
theorem ok_S_reach : jv_okm mt_S_reach 1 := ⟨jv_in (List.mem_of_getElem? (i := 642) (by decide +kernel)) rfl, jv_in (List.mem_of_getElem? (i := 36) (by decide +kernel)) rfl, by decide, by decide, by decide, by decide +kernel⟩
theorem ok_O_isAbstract : jv_okm mt_O_isAbstract 0 := ⟨jv_in (List.mem_of_getElem? (i := 646) (by decide +kernel)) rfl, jv_in (List.mem_of_getElem? (i := 38) (by decide +kernel)) rfl, by decide, by decide, by decide, by decide +kernel⟩
theorem ok_H_halt : jv_okm mt_H_halt 1 := ⟨jv_in (List.mem_of_getElem? (i := 650) (by decide +kernel)) rfl, jv_in (List.mem_of_getElem? (i := 39) (by decide +kernel)) rfl, by decide, by decide, by decide, by decide +kernel⟩
theorem ok_H_resume : jv_okm mt_H_resume 0 := ⟨jv_in (List.mem_of_getElem? (i := 654) (by decide +kernel)) rfl, jv_in (List.mem_of_getElem? (i := 39) (by decide +kernel)) rfl, by decide, by decide, by decide, by decide +kernel⟩
theorem ok_S_restart : jv_okm mt_S_restart 1 := ⟨jv_in (List.mem_of_getElem? (i := 658) (by decide +kernel)) rfl, jv_in (List.mem_of_getElem? (i := 36) (by decide +kernel)) rfl, by decide, by decide, by decide, by decide +kernel⟩
theorem ok_S_runBuffer : jv_okm mt_S_runBuffer 1 := ⟨jv_in (List.mem_of_getElem? (i := 662) (by decide +kernel)) rfl, jv_in (List.mem_of_getElem? (i := 36) (by decide +kernel)) rfl, by decide, by decide, by decide, by decide +kernel⟩
theorem ok_S_calculate : jv_okm mt_S_calculate 4 := ⟨jv_in (List.mem_of_getElem? (i := 666) (by decide +kernel)) rfl, jv_in (List.mem_of_getElem? (i := 36) (by decide +kernel)) rfl, by decide, by decide, by decide, by decide +kernel⟩
theorem ok_D_finish : jv_okm mt_D_finish 1 := ⟨jv_in (List.mem_of_getElem? (i := 670) (by decide +kernel)) rfl, jv_in (List.mem_of_getElem? (i := 37) (by decide +kernel)) rfl, by decide, by decide, by decide, by decide +kernel⟩
theorem ok_D_moveForward : jv_okm mt_D_moveForward 2 := ⟨jv_in (List.mem_of_getElem? (i := 674) (by decide +kernel)) rfl, jv_in (List.mem_of_getElem? (i := 37) (by decide +kernel)) rfl, by decide, by decide, by decide, by decide +kernel⟩
theorem ok_S_step : jv_okm mt_S_step 2 := ⟨jv_in (List.mem_of_getElem? (i := 678) (by decide +kernel)) rfl, jv_in (List.mem_of_getElem? (i := 36) (by decide +kernel)) rfl, by decide, by decide, by decide, by decide +kernel⟩
theorem ok_S_isStopped : jv_okm mt_S_isStopped 1 := ⟨jv_in (List.mem_of_getElem? (i := 682) (by decide +kernel)) rfl, jv_in (List.mem_of_getElem? (i := 36) (by decide +kernel)) rfl, by decide, by decide, by decide, by decide +kernel⟩
theorem ok_U_matches : jv_okm mt_U_matches 1 := ⟨jv_in (List.mem_of_getElem? (i := 686) (by decide +kernel)) rfl, jv_in (List.mem_of_getElem? (i := 40) (by decide +kernel)) rfl, by decide, by decide, by decide, by decide +kernel⟩
theorem ok_S_isJoined : jv_okm mt_S_isJoined 1 := ⟨jv_in (List.mem_of_getElem? (i := 690) (by decide +kernel)) rfl, jv_in (List.mem_of_getElem? (i := 36) (by decide +kernel)) rfl, by decide, by decide, by decide, by decide +kernel⟩
theorem ok_U_countsDown : jv_okm mt_U_countsDown 0 := ⟨jv_in (List.mem_of_getElem? (i := 694) (by decide +kernel)) rfl, jv_in (List.mem_of_getElem? (i := 40) (by decide +kernel)) rfl, by decide, by decide, by decide, by decide +kernel⟩
theorem ok_H_sleep : jv_okm mt_H_sleep 0 := ⟨jv_in (List.mem_of_getElem? (i := 698) (by decide +kernel)) rfl, jv_in (List.mem_of_getElem? (i := 39) (by decide +kernel)) rfl, by decide, by decide, by decide, by decide +kernel⟩
theorem ok_S_spreadHalts : jv_okm mt_S_spreadHalts 1 := ⟨jv_in (List.mem_of_getElem? (i := 702) (by decide +kernel)) rfl, jv_in (List.mem_of_getElem? (i := 36) (by decide +kernel)) rfl, by decide, by decide, by decide, by decide +kernel⟩
theorem ok_S_wakeAll : jv_okm mt_S_wakeAll 0 := ⟨jv_in (List.mem_of_getElem? (i := 706) (by decide +kernel)) rfl, jv_in (List.mem_of_getElem? (i := 36) (by decide +kernel)) rfl, by decide, by decide, by decide, by decide +kernel⟩
theorem ok_H_wake : jv_okm mt_H_wake 0 := ⟨jv_in (List.mem_of_getElem? (i := 710) (by decide +kernel)) rfl, jv_in (List.mem_of_getElem? (i := 39) (by decide +kernel)) rfl, by decide, by decide, by decide, by decide +kernel⟩
theorem ok_S_haltedCount : jv_okm mt_S_haltedCount 0 := ⟨jv_in (List.mem_of_getElem? (i := 714) (by decide +kernel)) rfl, jv_in (List.mem_of_getElem? (i := 36) (by decide +kernel)) rfl, by decide, by decide, by decide, by decide +kernel⟩
theorem ok_JI_bitCount : jv_okm mt_JI_bitCount 1 := ⟨jv_in (List.mem_of_getElem? (i := 717) (by decide +kernel)) rfl, jv_in (List.mem_of_getElem? (i := 51) (by decide +kernel)) rfl, by decide, by decide, by decide, by decide +kernel⟩
theorem ok_R_send : jv_okm mt_R_send 4 := ⟨jv_in (List.mem_of_getElem? (i := 724) (by decide +kernel)) rfl, jv_in (List.mem_of_getElem? (i := 33) (by decide +kernel)) rfl, by decide, by decide, by decide, by decide +kernel⟩
theorem ok_D_accept : jv_okm mt_D_accept 4 := ⟨jv_in (List.mem_of_getElem? (i := 728) (by decide +kernel)) rfl, jv_in (List.mem_of_getElem? (i := 37) (by decide +kernel)) rfl, by decide, by decide, by decide, by decide +kernel⟩
theorem ok_D_hasAbstract : jv_okm mt_D_hasAbstract 0 := ⟨jv_in (List.mem_of_getElem? (i := 732) (by decide +kernel)) rfl, jv_in (List.mem_of_getElem? (i := 37) (by decide +kernel)) rfl, by decide, by decide, by decide, by decide +kernel⟩
theorem ok_D_append : jv_okm mt_D_append 4 := ⟨jv_in (List.mem_of_getElem? (i := 737) (by decide +kernel)) rfl, jv_in (List.mem_of_getElem? (i := 37) (by decide +kernel)) rfl, by decide, by decide, by decide, by decide +kernel⟩
theorem ok_R_set : jv_okm mt_R_set 6 := ⟨jv_in (List.mem_of_getElem? (i := 741) (by decide +kernel)) rfl, jv_in (List.mem_of_getElem? (i := 33) (by decide +kernel)) rfl, by decide, by decide, by decide, by decide +kernel⟩
theorem ok_R_buffer : jv_okm mt_R_buffer 2 := ⟨jv_in (List.mem_of_getElem? (i := 746) (by decide +kernel)) rfl, jv_in (List.mem_of_getElem? (i := 33) (by decide +kernel)) rfl, by decide, by decide, by decide, by decide +kernel⟩
theorem ok_R_isBuffered : jv_okm mt_R_isBuffered 1 := ⟨jv_in (List.mem_of_getElem? (i := 749) (by decide +kernel)) rfl, jv_in (List.mem_of_getElem? (i := 33) (by decide +kernel)) rfl, by decide, by decide, by decide, by decide +kernel⟩
theorem ok_R_clear : jv_okm mt_R_clear 0 := ⟨jv_in (List.mem_of_getElem? (i := 757) (by decide +kernel)) rfl, jv_in (List.mem_of_getElem? (i := 33) (by decide +kernel)) rfl, by decide, by decide, by decide, by decide +kernel⟩
theorem ok_R_poke : jv_okm mt_R_poke 2 := ⟨jv_in (List.mem_of_getElem? (i := 761) (by decide +kernel)) rfl, jv_in (List.mem_of_getElem? (i := 33) (by decide +kernel)) rfl, by decide, by decide, by decide, by decide +kernel⟩
theorem ok_R_undo : jv_okm mt_R_undo 0 := ⟨jv_in (List.mem_of_getElem? (i := 765) (by decide +kernel)) rfl, jv_in (List.mem_of_getElem? (i := 33) (by decide +kernel)) rfl, by decide, by decide, by decide, by decide +kernel⟩
theorem ok_A_popInto : jv_okm mt_A_popInto 1 := ⟨jv_in (List.mem_of_getElem? (i := 769) (by decide +kernel)) rfl, jv_in (List.mem_of_getElem? (i := 41) (by decide +kernel)) rfl, by decide, by decide, by decide, by decide +kernel⟩
theorem ok_R_ahead : jv_okm mt_R_ahead 3 := ⟨jv_in (List.mem_of_getElem? (i := 773) (by decide +kernel)) rfl, jv_in (List.mem_of_getElem? (i := 33) (by decide +kernel)) rfl, by decide, by decide, by decide, by decide +kernel⟩
theorem ok_R_halts : jv_okm mt_R_halts 1 := ⟨jv_in (List.mem_of_getElem? (i := 777) (by decide +kernel)) rfl, jv_in (List.mem_of_getElem? (i := 33) (by decide +kernel)) rfl, by decide, by decide, by decide, by decide +kernel⟩
theorem ok_R_ticksUntilHalted : jv_okm mt_R_ticksUntilHalted 2 := ⟨jv_in (List.mem_of_getElem? (i := 781) (by decide +kernel)) rfl, jv_in (List.mem_of_getElem? (i := 33) (by decide +kernel)) rfl, by decide, by decide, by decide, by decide +kernel⟩
theorem ok_R_soonest : jv_okm mt_R_soonest 1 := ⟨jv_in (List.mem_of_getElem? (i := 786) (by decide +kernel)) rfl, jv_in (List.mem_of_getElem? (i := 33) (by decide +kernel)) rfl, by decide, by decide, by decide, by decide +kernel⟩
theorem ok_R_all : jv_okm mt_R_all 1 := ⟨jv_in (List.mem_of_getElem? (i := 790) (by decide +kernel)) rfl, jv_in (List.mem_of_getElem? (i := 33) (by decide +kernel)) rfl, by decide, by decide, by decide, by decide +kernel⟩
theorem ok_S_everyHart : jv_okm mt_S_everyHart 0 := ⟨jv_in (List.mem_of_getElem? (i := 794) (by decide +kernel)) rfl, jv_in (List.mem_of_getElem? (i := 36) (by decide +kernel)) rfl, by decide, by decide, by decide, by decide +kernel⟩
theorem ok_R_ticksWithHalts : jv_okm mt_R_ticksWithHalts 2 := ⟨jv_in (List.mem_of_getElem? (i := 798) (by decide +kernel)) rfl, jv_in (List.mem_of_getElem? (i := 33) (by decide +kernel)) rfl, by decide, by decide, by decide, by decide +kernel⟩
theorem ok_R_crew : jv_okm mt_R_crew 0 := ⟨jv_in (List.mem_of_getElem? (i := 803) (by decide +kernel)) rfl, jv_in (List.mem_of_getElem? (i := 33) (by decide +kernel)) rfl, by decide, by decide, by decide, by decide +kernel⟩
theorem ok_R_judge : jv_okm mt_R_judge 2 := ⟨jv_in (List.mem_of_getElem? (i := 808) (by decide +kernel)) rfl, jv_in (List.mem_of_getElem? (i := 33) (by decide +kernel)) rfl, by decide, by decide, by decide, by decide +kernel⟩
theorem ok_R_power : jv_okm mt_R_power 2 := ⟨jv_in (List.mem_of_getElem? (i := 812) (by decide +kernel)) rfl, jv_in (List.mem_of_getElem? (i := 33) (by decide +kernel)) rfl, by decide, by decide, by decide, by decide +kernel⟩
theorem ok_R_holdsInTrial : jv_okm mt_R_holdsInTrial 1 := ⟨jv_in (List.mem_of_getElem? (i := 817) (by decide +kernel)) rfl, jv_in (List.mem_of_getElem? (i := 33) (by decide +kernel)) rfl, by decide, by decide, by decide, by decide +kernel⟩
theorem ok_R_isSentInTrial : jv_okm mt_R_isSentInTrial 2 := ⟨jv_in (List.mem_of_getElem? (i := 822) (by decide +kernel)) rfl, jv_in (List.mem_of_getElem? (i := 33) (by decide +kernel)) rfl, by decide, by decide, by decide, by decide +kernel⟩
theorem ok_R_see : jv_okm mt_R_see 3 := ⟨jv_in (List.mem_of_getElem? (i := 826) (by decide +kernel)) rfl, jv_in (List.mem_of_getElem? (i := 33) (by decide +kernel)) rfl, by decide, by decide, by decide, by decide +kernel⟩
theorem ok_G_range : jv_okm mt_G_range 1 := ⟨jv_in (List.mem_of_getElem? (i := 829) (by decide +kernel)) rfl, jv_in (List.mem_of_getElem? (i := 42) (by decide +kernel)) rfl, by decide, by decide, by decide, by decide +kernel⟩
theorem ok_G_append : jv_okm mt_G_append 3 := ⟨jv_in (List.mem_of_getElem? (i := 833) (by decide +kernel)) rfl, jv_in (List.mem_of_getElem? (i := 42) (by decide +kernel)) rfl, by decide, by decide, by decide, by decide +kernel⟩
theorem ok_R_unsee : jv_okm mt_R_unsee 0 := ⟨jv_in (List.mem_of_getElem? (i := 837) (by decide +kernel)) rfl, jv_in (List.mem_of_getElem? (i := 33) (by decide +kernel)) rfl, by decide, by decide, by decide, by decide +kernel⟩
theorem ok_R_which : jv_okm mt_R_which 0 := ⟨jv_in (List.mem_of_getElem? (i := 841) (by decide +kernel)) rfl, jv_in (List.mem_of_getElem? (i := 33) (by decide +kernel)) rfl, by decide, by decide, by decide, by decide +kernel⟩
theorem ok_G_allow : jv_okm mt_G_allow 2 := ⟨jv_in (List.mem_of_getElem? (i := 845) (by decide +kernel)) rfl, jv_in (List.mem_of_getElem? (i := 42) (by decide +kernel)) rfl, by decide, by decide, by decide, by decide +kernel⟩
theorem ok_G_seen : jv_okm mt_G_seen 2 := ⟨jv_in (List.mem_of_getElem? (i := 848) (by decide +kernel)) rfl, jv_in (List.mem_of_getElem? (i := 42) (by decide +kernel)) rfl, by decide, by decide, by decide, by decide +kernel⟩
theorem ok_R_share : jv_okm mt_R_share 2 := ⟨jv_in (List.mem_of_getElem? (i := 852) (by decide +kernel)) rfl, jv_in (List.mem_of_getElem? (i := 33) (by decide +kernel)) rfl, by decide, by decide, by decide, by decide +kernel⟩
theorem ok_R_worth : jv_okm mt_R_worth 1 := ⟨jv_in (List.mem_of_getElem? (i := 856) (by decide +kernel)) rfl, jv_in (List.mem_of_getElem? (i := 33) (by decide +kernel)) rfl, by decide, by decide, by decide, by decide +kernel⟩
theorem ok_R_part : jv_okm mt_R_part 3 := ⟨jv_in (List.mem_of_getElem? (i := 861) (by decide +kernel)) rfl, jv_in (List.mem_of_getElem? (i := 33) (by decide +kernel)) rfl, by decide, by decide, by decide, by decide +kernel⟩
theorem ok_JM_abs : jv_okm mt_JM_abs 1 := ⟨jv_in (List.mem_of_getElem? (i := 864) (by decide +kernel)) rfl, jv_in (List.mem_of_getElem? (i := 46) (by decide +kernel)) rfl, by decide, by decide, by decide, by decide +kernel⟩
theorem ok_R_lost : jv_okm mt_R_lost 2 := ⟨jv_in (List.mem_of_getElem? (i := 868) (by decide +kernel)) rfl, jv_in (List.mem_of_getElem? (i := 33) (by decide +kernel)) rfl, by decide, by decide, by decide, by decide +kernel⟩
theorem ok_R_endsHaltedWithout : jv_okm mt_R_endsHaltedWithout 1 := ⟨jv_in (List.mem_of_getElem? (i := 872) (by decide +kernel)) rfl, jv_in (List.mem_of_getElem? (i := 33) (by decide +kernel)) rfl, by decide, by decide, by decide, by decide +kernel⟩
theorem ok_D_lose : jv_okm mt_D_lose 1 := ⟨jv_in (List.mem_of_getElem? (i := 876) (by decide +kernel)) rfl, jv_in (List.mem_of_getElem? (i := 37) (by decide +kernel)) rfl, by decide, by decide, by decide, by decide +kernel⟩
theorem ok_R_seed : jv_okm mt_R_seed 1 := ⟨jv_in (List.mem_of_getElem? (i := 881) (by decide +kernel)) rfl, jv_in (List.mem_of_getElem? (i := 33) (by decide +kernel)) rfl, by decide, by decide, by decide, by decide +kernel⟩
theorem ok_R_drawn : jv_okm mt_R_drawn 1 := ⟨jv_in (List.mem_of_getElem? (i := 885) (by decide +kernel)) rfl, jv_in (List.mem_of_getElem? (i := 33) (by decide +kernel)) rfl, by decide, by decide, by decide, by decide +kernel⟩
theorem ok_R_keep : jv_okm mt_R_keep 1 := ⟨jv_in (List.mem_of_getElem? (i := 891) (by decide +kernel)) rfl, jv_in (List.mem_of_getElem? (i := 33) (by decide +kernel)) rfl, by decide, by decide, by decide, by decide +kernel⟩
theorem ok_R_again : jv_okm mt_R_again 1 := ⟨jv_in (List.mem_of_getElem? (i := 895) (by decide +kernel)) rfl, jv_in (List.mem_of_getElem? (i := 33) (by decide +kernel)) rfl, by decide, by decide, by decide, by decide +kernel⟩
theorem ok_R_count : jv_okm mt_R_count 1 := ⟨jv_in (List.mem_of_getElem? (i := 899) (by decide +kernel)) rfl, jv_in (List.mem_of_getElem? (i := 33) (by decide +kernel)) rfl, by decide, by decide, by decide, by decide +kernel⟩
theorem ok_M_init : jv_okm mt_M_init 0 := ⟨jv_in (List.mem_of_getElem? (i := 904) (by decide +kernel)) rfl, jv_in (List.mem_of_getElem? (i := 43) (by decide +kernel)) rfl, by decide, by decide, by decide, by decide +kernel⟩
theorem ok_M_write : jv_okm mt_M_write 1 := ⟨jv_in (List.mem_of_getElem? (i := 1012) (by decide +kernel)) rfl, jv_in (List.mem_of_getElem? (i := 43) (by decide +kernel)) rfl, by decide, by decide, by decide, by decide +kernel⟩
theorem ok_M_in : jv_okm mt_M_in 3 := ⟨jv_in (List.mem_of_getElem? (i := 1016) (by decide +kernel)) rfl, jv_in (List.mem_of_getElem? (i := 43) (by decide +kernel)) rfl, by decide, by decide, by decide, by decide +kernel⟩
theorem ok_M_wipe : jv_okm mt_M_wipe 0 := ⟨jv_in (List.mem_of_getElem? (i := 1020) (by decide +kernel)) rfl, jv_in (List.mem_of_getElem? (i := 43) (by decide +kernel)) rfl, by decide, by decide, by decide, by decide +kernel⟩
theorem ok_M_fault : jv_okm mt_M_fault 0 := ⟨jv_in (List.mem_of_getElem? (i := 1024) (by decide +kernel)) rfl, jv_in (List.mem_of_getElem? (i := 43) (by decide +kernel)) rfl, by decide, by decide, by decide, by decide +kernel⟩
theorem ok_M_readBoard : jv_okm mt_M_readBoard 0 := ⟨jv_in (List.mem_of_getElem? (i := 1028) (by decide +kernel)) rfl, jv_in (List.mem_of_getElem? (i := 43) (by decide +kernel)) rfl, by decide, by decide, by decide, by decide +kernel⟩
theorem ok_M_readPart : jv_okm mt_M_readPart 0 := ⟨jv_in (List.mem_of_getElem? (i := 1032) (by decide +kernel)) rfl, jv_in (List.mem_of_getElem? (i := 43) (by decide +kernel)) rfl, by decide, by decide, by decide, by decide +kernel⟩
theorem ok_M_readInstruction : jv_okm mt_M_readInstruction 0 := ⟨jv_in (List.mem_of_getElem? (i := 1036) (by decide +kernel)) rfl, jv_in (List.mem_of_getElem? (i := 43) (by decide +kernel)) rfl, by decide, by decide, by decide, by decide +kernel⟩
theorem ok_M_kindOf : jv_okm mt_M_kindOf 1 := ⟨jv_in (List.mem_of_getElem? (i := 1039) (by decide +kernel)) rfl, jv_in (List.mem_of_getElem? (i := 43) (by decide +kernel)) rfl, by decide, by decide, by decide, by decide +kernel⟩
theorem ok_M_isNext : jv_okm mt_M_isNext 3 := ⟨jv_in (List.mem_of_getElem? (i := 1043) (by decide +kernel)) rfl, jv_in (List.mem_of_getElem? (i := 43) (by decide +kernel)) rfl, by decide, by decide, by decide, by decide +kernel⟩
theorem ok_M_taken : jv_okm mt_M_taken 1 := ⟨jv_in (List.mem_of_getElem? (i := 1047) (by decide +kernel)) rfl, jv_in (List.mem_of_getElem? (i := 43) (by decide +kernel)) rfl, by decide, by decide, by decide, by decide +kernel⟩
theorem ok_M_readHart : jv_okm mt_M_readHart 0 := ⟨jv_in (List.mem_of_getElem? (i := 1051) (by decide +kernel)) rfl, jv_in (List.mem_of_getElem? (i := 43) (by decide +kernel)) rfl, by decide, by decide, by decide, by decide +kernel⟩
theorem ok_M_readTrigger : jv_okm mt_M_readTrigger 1 := ⟨jv_in (List.mem_of_getElem? (i := 1055) (by decide +kernel)) rfl, jv_in (List.mem_of_getElem? (i := 43) (by decide +kernel)) rfl, by decide, by decide, by decide, by decide +kernel⟩
theorem ok_M_board : jv_okm mt_M_board 0 := ⟨jv_in (List.mem_of_getElem? (i := 1059) (by decide +kernel)) rfl, jv_in (List.mem_of_getElem? (i := 43) (by decide +kernel)) rfl, by decide, by decide, by decide, by decide +kernel⟩
theorem ok_M_lay : jv_okm mt_M_lay 2 := ⟨jv_in (List.mem_of_getElem? (i := 1062) (by decide +kernel)) rfl, jv_in (List.mem_of_getElem? (i := 43) (by decide +kernel)) rfl, by decide, by decide, by decide, by decide +kernel⟩
theorem ok_M_hart : jv_okm mt_M_hart 2 := ⟨jv_in (List.mem_of_getElem? (i := 1066) (by decide +kernel)) rfl, jv_in (List.mem_of_getElem? (i := 43) (by decide +kernel)) rfl, by decide, by decide, by decide, by decide +kernel⟩
theorem ok_M_noHart : jv_okm mt_M_noHart 1 := ⟨jv_in (List.mem_of_getElem? (i := 1070) (by decide +kernel)) rfl, jv_in (List.mem_of_getElem? (i := 43) (by decide +kernel)) rfl, by decide, by decide, by decide, by decide +kernel⟩
theorem ok_M_tellHart : jv_okm mt_M_tellHart 3 := ⟨jv_in (List.mem_of_getElem? (i := 1075) (by decide +kernel)) rfl, jv_in (List.mem_of_getElem? (i := 43) (by decide +kernel)) rfl, by decide, by decide, by decide, by decide +kernel⟩
theorem ok_M_hartOf : jv_okm mt_M_hartOf 3 := ⟨jv_in (List.mem_of_getElem? (i := 1078) (by decide +kernel)) rfl, jv_in (List.mem_of_getElem? (i := 43) (by decide +kernel)) rfl, by decide, by decide, by decide, by decide +kernel⟩
theorem ok_M_trigger : jv_okm mt_M_trigger 2 := ⟨jv_in (List.mem_of_getElem? (i := 1082) (by decide +kernel)) rfl, jv_in (List.mem_of_getElem? (i := 43) (by decide +kernel)) rfl, by decide, by decide, by decide, by decide +kernel⟩
theorem ok_M_cell : jv_okm mt_M_cell 1 := ⟨jv_in (List.mem_of_getElem? (i := 1087) (by decide +kernel)) rfl, jv_in (List.mem_of_getElem? (i := 43) (by decide +kernel)) rfl, by decide, by decide, by decide, by decide +kernel⟩
theorem ok_M_order : jv_okm mt_M_order 2 := ⟨jv_in (List.mem_of_getElem? (i := 1092) (by decide +kernel)) rfl, jv_in (List.mem_of_getElem? (i := 43) (by decide +kernel)) rfl, by decide, by decide, by decide, by decide +kernel⟩
theorem ok_M_tick : jv_okm mt_M_tick 1 := ⟨jv_in (List.mem_of_getElem? (i := 1097) (by decide +kernel)) rfl, jv_in (List.mem_of_getElem? (i := 43) (by decide +kernel)) rfl, by decide, by decide, by decide, by decide +kernel⟩
theorem ok_M_note : jv_okm mt_M_note 0 := ⟨jv_in (List.mem_of_getElem? (i := 1102) (by decide +kernel)) rfl, jv_in (List.mem_of_getElem? (i := 43) (by decide +kernel)) rfl, by decide, by decide, by decide, by decide +kernel⟩
theorem ok_M_tickMany : jv_okm mt_M_tickMany 2 := ⟨jv_in (List.mem_of_getElem? (i := 1106) (by decide +kernel)) rfl, jv_in (List.mem_of_getElem? (i := 43) (by decide +kernel)) rfl, by decide, by decide, by decide, by decide +kernel⟩
theorem ok_M_tickOn : jv_okm mt_M_tickOn 1 := ⟨jv_in (List.mem_of_getElem? (i := 1110) (by decide +kernel)) rfl, jv_in (List.mem_of_getElem? (i := 43) (by decide +kernel)) rfl, by decide, by decide, by decide, by decide +kernel⟩
theorem ok_M_haltedOf : jv_okm mt_M_haltedOf 2 := ⟨jv_in (List.mem_of_getElem? (i := 1113) (by decide +kernel)) rfl, jv_in (List.mem_of_getElem? (i := 43) (by decide +kernel)) rfl, by decide, by decide, by decide, by decide +kernel⟩
theorem ok_M_goRound : jv_okm mt_M_goRound 1 := ⟨jv_in (List.mem_of_getElem? (i := 1117) (by decide +kernel)) rfl, jv_in (List.mem_of_getElem? (i := 43) (by decide +kernel)) rfl, by decide, by decide, by decide, by decide +kernel⟩
theorem ok_M_reach : jv_okm mt_M_reach 2 := ⟨jv_in (List.mem_of_getElem? (i := 1121) (by decide +kernel)) rfl, jv_in (List.mem_of_getElem? (i := 43) (by decide +kernel)) rfl, by decide, by decide, by decide, by decide +kernel⟩
theorem ok_M_halt : jv_okm mt_M_halt 3 := ⟨jv_in (List.mem_of_getElem? (i := 1124) (by decide +kernel)) rfl, jv_in (List.mem_of_getElem? (i := 43) (by decide +kernel)) rfl, by decide, by decide, by decide, by decide +kernel⟩
theorem ok_M_resume : jv_okm mt_M_resume 2 := ⟨jv_in (List.mem_of_getElem? (i := 1127) (by decide +kernel)) rfl, jv_in (List.mem_of_getElem? (i := 43) (by decide +kernel)) rfl, by decide, by decide, by decide, by decide +kernel⟩
theorem ok_M_reset : jv_okm mt_M_reset 2 := ⟨jv_in (List.mem_of_getElem? (i := 1131) (by decide +kernel)) rfl, jv_in (List.mem_of_getElem? (i := 43) (by decide +kernel)) rfl, by decide, by decide, by decide, by decide +kernel⟩
theorem ok_M_runBuffer : jv_okm mt_M_runBuffer 2 := ⟨jv_in (List.mem_of_getElem? (i := 1135) (by decide +kernel)) rfl, jv_in (List.mem_of_getElem? (i := 43) (by decide +kernel)) rfl, by decide, by decide, by decide, by decide +kernel⟩
theorem ok_M_plain : jv_okm mt_M_plain 1 := ⟨jv_in (List.mem_of_getElem? (i := 1138) (by decide +kernel)) rfl, jv_in (List.mem_of_getElem? (i := 43) (by decide +kernel)) rfl, by decide, by decide, by decide, by decide +kernel⟩
theorem ok_M_doPlain : jv_okm mt_M_doPlain 3 := ⟨jv_in (List.mem_of_getElem? (i := 1142) (by decide +kernel)) rfl, jv_in (List.mem_of_getElem? (i := 43) (by decide +kernel)) rfl, by decide, by decide, by decide, by decide +kernel⟩
theorem ok_M_dropOrder : jv_okm mt_M_dropOrder 2 := ⟨jv_in (List.mem_of_getElem? (i := 1145) (by decide +kernel)) rfl, jv_in (List.mem_of_getElem? (i := 43) (by decide +kernel)) rfl, by decide, by decide, by decide, by decide +kernel⟩
theorem ok_M_runHart : jv_okm mt_M_runHart 2 := ⟨jv_in (List.mem_of_getElem? (i := 1149) (by decide +kernel)) rfl, jv_in (List.mem_of_getElem? (i := 43) (by decide +kernel)) rfl, by decide, by decide, by decide, by decide +kernel⟩
theorem ok_M_isCaught : jv_okm mt_M_isCaught 2 := ⟨jv_in (List.mem_of_getElem? (i := 1153) (by decide +kernel)) rfl, jv_in (List.mem_of_getElem? (i := 43) (by decide +kernel)) rfl, by decide, by decide, by decide, by decide +kernel⟩
theorem ok_M_matches : jv_okm mt_M_matches 2 := ⟨jv_in (List.mem_of_getElem? (i := 1157) (by decide +kernel)) rfl, jv_in (List.mem_of_getElem? (i := 43) (by decide +kernel)) rfl, by decide, by decide, by decide, by decide +kernel⟩
theorem ok_M_has : jv_okm mt_M_has 2 := ⟨jv_in (List.mem_of_getElem? (i := 1160) (by decide +kernel)) rfl, jv_in (List.mem_of_getElem? (i := 43) (by decide +kernel)) rfl, by decide, by decide, by decide, by decide +kernel⟩
theorem ok_M_leads : jv_okm mt_M_leads 2 := ⟨jv_in (List.mem_of_getElem? (i := 1164) (by decide +kernel)) rfl, jv_in (List.mem_of_getElem? (i := 43) (by decide +kernel)) rfl, by decide, by decide, by decide, by decide +kernel⟩
theorem ok_M_ones : jv_okm mt_M_ones 1 := ⟨jv_in (List.mem_of_getElem? (i := 1167) (by decide +kernel)) rfl, jv_in (List.mem_of_getElem? (i := 43) (by decide +kernel)) rfl, by decide, by decide, by decide, by decide +kernel⟩
theorem ok_M_send : jv_okm mt_M_send 4 := ⟨jv_in (List.mem_of_getElem? (i := 1171) (by decide +kernel)) rfl, jv_in (List.mem_of_getElem? (i := 43) (by decide +kernel)) rfl, by decide, by decide, by decide, by decide +kernel⟩
theorem ok_M_sendOn : jv_okm mt_M_sendOn 5 := ⟨jv_in (List.mem_of_getElem? (i := 1176) (by decide +kernel)) rfl, jv_in (List.mem_of_getElem? (i := 43) (by decide +kernel)) rfl, by decide, by decide, by decide, by decide +kernel⟩
theorem ok_M_isAbstractOn : jv_okm mt_M_isAbstractOn 1 := ⟨jv_in (List.mem_of_getElem? (i := 1179) (by decide +kernel)) rfl, jv_in (List.mem_of_getElem? (i := 43) (by decide +kernel)) rfl, by decide, by decide, by decide, by decide +kernel⟩
theorem ok_M_set : jv_okm mt_M_set 6 := ⟨jv_in (List.mem_of_getElem? (i := 1183) (by decide +kernel)) rfl, jv_in (List.mem_of_getElem? (i := 43) (by decide +kernel)) rfl, by decide, by decide, by decide, by decide +kernel⟩
theorem ok_M_buffer : jv_okm mt_M_buffer 2 := ⟨jv_in (List.mem_of_getElem? (i := 1188) (by decide +kernel)) rfl, jv_in (List.mem_of_getElem? (i := 43) (by decide +kernel)) rfl, by decide, by decide, by decide, by decide +kernel⟩
theorem ok_M_isTold : jv_okm mt_M_isTold 1 := ⟨jv_in (List.mem_of_getElem? (i := 1191) (by decide +kernel)) rfl, jv_in (List.mem_of_getElem? (i := 43) (by decide +kernel)) rfl, by decide, by decide, by decide, by decide +kernel⟩
theorem ok_M_clear : jv_okm mt_M_clear 0 := ⟨jv_in (List.mem_of_getElem? (i := 1196) (by decide +kernel)) rfl, jv_in (List.mem_of_getElem? (i := 43) (by decide +kernel)) rfl, by decide, by decide, by decide, by decide +kernel⟩
theorem ok_M_poke : jv_okm mt_M_poke 2 := ⟨jv_in (List.mem_of_getElem? (i := 1200) (by decide +kernel)) rfl, jv_in (List.mem_of_getElem? (i := 43) (by decide +kernel)) rfl, by decide, by decide, by decide, by decide +kernel⟩
theorem ok_M_undo : jv_okm mt_M_undo 0 := ⟨jv_in (List.mem_of_getElem? (i := 1204) (by decide +kernel)) rfl, jv_in (List.mem_of_getElem? (i := 43) (by decide +kernel)) rfl, by decide, by decide, by decide, by decide +kernel⟩
theorem ok_M_ahead : jv_okm mt_M_ahead 3 := ⟨jv_in (List.mem_of_getElem? (i := 1208) (by decide +kernel)) rfl, jv_in (List.mem_of_getElem? (i := 43) (by decide +kernel)) rfl, by decide, by decide, by decide, by decide +kernel⟩
theorem ok_M_halts : jv_okm mt_M_halts 1 := ⟨jv_in (List.mem_of_getElem? (i := 1212) (by decide +kernel)) rfl, jv_in (List.mem_of_getElem? (i := 43) (by decide +kernel)) rfl, by decide, by decide, by decide, by decide +kernel⟩
theorem ok_M_haltsOn : jv_okm mt_M_haltsOn 2 := ⟨jv_in (List.mem_of_getElem? (i := 1216) (by decide +kernel)) rfl, jv_in (List.mem_of_getElem? (i := 43) (by decide +kernel)) rfl, by decide, by decide, by decide, by decide +kernel⟩
theorem ok_M_soonest : jv_okm mt_M_soonest 1 := ⟨jv_in (List.mem_of_getElem? (i := 1220) (by decide +kernel)) rfl, jv_in (List.mem_of_getElem? (i := 43) (by decide +kernel)) rfl, by decide, by decide, by decide, by decide +kernel⟩
theorem ok_M_all : jv_okm mt_M_all 1 := ⟨jv_in (List.mem_of_getElem? (i := 1224) (by decide +kernel)) rfl, jv_in (List.mem_of_getElem? (i := 43) (by decide +kernel)) rfl, by decide, by decide, by decide, by decide +kernel⟩
theorem ok_M_allBy : jv_okm mt_M_allBy 1 := ⟨jv_in (List.mem_of_getElem? (i := 1228) (by decide +kernel)) rfl, jv_in (List.mem_of_getElem? (i := 43) (by decide +kernel)) rfl, by decide, by decide, by decide, by decide +kernel⟩
theorem ok_M_crew : jv_okm mt_M_crew 0 := ⟨jv_in (List.mem_of_getElem? (i := 1232) (by decide +kernel)) rfl, jv_in (List.mem_of_getElem? (i := 43) (by decide +kernel)) rfl, by decide, by decide, by decide, by decide +kernel⟩
theorem ok_M_judge : jv_okm mt_M_judge 2 := ⟨jv_in (List.mem_of_getElem? (i := 1236) (by decide +kernel)) rfl, jv_in (List.mem_of_getElem? (i := 43) (by decide +kernel)) rfl, by decide, by decide, by decide, by decide +kernel⟩
theorem ok_M_longPower : jv_okm mt_M_longPower 2 := ⟨jv_in (List.mem_of_getElem? (i := 1240) (by decide +kernel)) rfl, jv_in (List.mem_of_getElem? (i := 43) (by decide +kernel)) rfl, by decide, by decide, by decide, by decide +kernel⟩
theorem ok_M_does : jv_okm mt_M_does 1 := ⟨jv_in (List.mem_of_getElem? (i := 1244) (by decide +kernel)) rfl, jv_in (List.mem_of_getElem? (i := 43) (by decide +kernel)) rfl, by decide, by decide, by decide, by decide +kernel⟩
theorem ok_M_see : jv_okm mt_M_see 3 := ⟨jv_in (List.mem_of_getElem? (i := 1249) (by decide +kernel)) rfl, jv_in (List.mem_of_getElem? (i := 43) (by decide +kernel)) rfl, by decide, by decide, by decide, by decide +kernel⟩
theorem ok_M_unsee : jv_okm mt_M_unsee 0 := ⟨jv_in (List.mem_of_getElem? (i := 1254) (by decide +kernel)) rfl, jv_in (List.mem_of_getElem? (i := 43) (by decide +kernel)) rfl, by decide, by decide, by decide, by decide +kernel⟩
theorem ok_M_which : jv_okm mt_M_which 0 := ⟨jv_in (List.mem_of_getElem? (i := 1258) (by decide +kernel)) rfl, jv_in (List.mem_of_getElem? (i := 43) (by decide +kernel)) rfl, by decide, by decide, by decide, by decide +kernel⟩
theorem ok_M_share : jv_okm mt_M_share 2 := ⟨jv_in (List.mem_of_getElem? (i := 1262) (by decide +kernel)) rfl, jv_in (List.mem_of_getElem? (i := 43) (by decide +kernel)) rfl, by decide, by decide, by decide, by decide +kernel⟩
theorem ok_M_factorial : jv_okm mt_M_factorial 1 := ⟨jv_in (List.mem_of_getElem? (i := 1265) (by decide +kernel)) rfl, jv_in (List.mem_of_getElem? (i := 43) (by decide +kernel)) rfl, by decide, by decide, by decide, by decide +kernel⟩
theorem ok_M_fraction : jv_okm mt_M_fraction 3 := ⟨jv_in (List.mem_of_getElem? (i := 1268) (by decide +kernel)) rfl, jv_in (List.mem_of_getElem? (i := 43) (by decide +kernel)) rfl, by decide, by decide, by decide, by decide +kernel⟩
theorem ok_M_divisor : jv_okm mt_M_divisor 2 := ⟨jv_in (List.mem_of_getElem? (i := 1271) (by decide +kernel)) rfl, jv_in (List.mem_of_getElem? (i := 43) (by decide +kernel)) rfl, by decide, by decide, by decide, by decide +kernel⟩
theorem ok_M_lost : jv_okm mt_M_lost 2 := ⟨jv_in (List.mem_of_getElem? (i := 1275) (by decide +kernel)) rfl, jv_in (List.mem_of_getElem? (i := 43) (by decide +kernel)) rfl, by decide, by decide, by decide, by decide +kernel⟩
theorem ok_M_power : jv_okm mt_M_power 2 := ⟨jv_in (List.mem_of_getElem? (i := 1279) (by decide +kernel)) rfl, jv_in (List.mem_of_getElem? (i := 43) (by decide +kernel)) rfl, by decide, by decide, by decide, by decide +kernel⟩
theorem ok_M_seed : jv_okm mt_M_seed 1 := ⟨jv_in (List.mem_of_getElem? (i := 1283) (by decide +kernel)) rfl, jv_in (List.mem_of_getElem? (i := 43) (by decide +kernel)) rfl, by decide, by decide, by decide, by decide +kernel⟩
theorem ok_M_drawn : jv_okm mt_M_drawn 1 := ⟨jv_in (List.mem_of_getElem? (i := 1287) (by decide +kernel)) rfl, jv_in (List.mem_of_getElem? (i := 43) (by decide +kernel)) rfl, by decide, by decide, by decide, by decide +kernel⟩
theorem ok_M_keep : jv_okm mt_M_keep 1 := ⟨jv_in (List.mem_of_getElem? (i := 1294) (by decide +kernel)) rfl, jv_in (List.mem_of_getElem? (i := 43) (by decide +kernel)) rfl, by decide, by decide, by decide, by decide +kernel⟩
theorem ok_M_again : jv_okm mt_M_again 1 := ⟨jv_in (List.mem_of_getElem? (i := 1298) (by decide +kernel)) rfl, jv_in (List.mem_of_getElem? (i := 43) (by decide +kernel)) rfl, by decide, by decide, by decide, by decide +kernel⟩
theorem ok_M_count : jv_okm mt_M_count 1 := ⟨jv_in (List.mem_of_getElem? (i := 1302) (by decide +kernel)) rfl, jv_in (List.mem_of_getElem? (i := 43) (by decide +kernel)) rfl, by decide, by decide, by decide, by decide +kernel⟩
theorem fl_P_9 : jv_FL "HaltRing$Program" 9 4 0 := ⟨_, rfl, by decide, jv_in (List.mem_of_getElem? (i := 72) (by decide +kernel)) rfl⟩
theorem fl_S_202 : jv_FL "HaltRing$State" 202 4 0 := ⟨_, rfl, by decide, jv_in (List.mem_of_getElem? (i := 73) (by decide +kernel)) rfl⟩
theorem fl_P_15 : jv_FL "HaltRing$Program" 15 4 1 := ⟨_, rfl, by decide, jv_in (List.mem_of_getElem? (i := 74) (by decide +kernel)) rfl⟩
theorem fl_S_196 : jv_FL "HaltRing$State" 196 4 1 := ⟨_, rfl, by decide, jv_in (List.mem_of_getElem? (i := 75) (by decide +kernel)) rfl⟩
theorem fl_P_18 : jv_FL "HaltRing$Program" 18 4 2 := ⟨_, rfl, by decide, jv_in (List.mem_of_getElem? (i := 76) (by decide +kernel)) rfl⟩
theorem fl_S_199 : jv_FL "HaltRing$State" 199 4 2 := ⟨_, rfl, by decide, jv_in (List.mem_of_getElem? (i := 77) (by decide +kernel)) rfl⟩
theorem fl_P_21 : jv_FL "HaltRing$Program" 21 4 3 := ⟨_, rfl, by decide, jv_in (List.mem_of_getElem? (i := 78) (by decide +kernel)) rfl⟩
theorem fl_T_40 : jv_FL "HaltRing$Text" 40 4 3 := ⟨_, rfl, by decide, jv_in (List.mem_of_getElem? (i := 79) (by decide +kernel)) rfl⟩
theorem fl_S_184 : jv_FL "HaltRing$State" 184 4 3 := ⟨_, rfl, by decide, jv_in (List.mem_of_getElem? (i := 80) (by decide +kernel)) rfl⟩
theorem fl_R_234 : jv_FL "HaltRing" 234 4 3 := ⟨_, rfl, by decide, jv_in (List.mem_of_getElem? (i := 81) (by decide +kernel)) rfl⟩
theorem fl_O_9 : jv_FL "HaltRing$Order" 9 2 0 := ⟨_, rfl, by decide, jv_in (List.mem_of_getElem? (i := 111) (by decide +kernel)) rfl⟩
theorem fl_D_53 : jv_FL "HaltRing$DebugModule" 53 2 0 := ⟨_, rfl, by decide, jv_in (List.mem_of_getElem? (i := 112) (by decide +kernel)) rfl⟩
theorem fl_S_144 : jv_FL "HaltRing$State" 144 2 0 := ⟨_, rfl, by decide, jv_in (List.mem_of_getElem? (i := 113) (by decide +kernel)) rfl⟩
theorem fl_O_15 : jv_FL "HaltRing$Order" 15 2 1 := ⟨_, rfl, by decide, jv_in (List.mem_of_getElem? (i := 114) (by decide +kernel)) rfl⟩
theorem fl_D_56 : jv_FL "HaltRing$DebugModule" 56 2 1 := ⟨_, rfl, by decide, jv_in (List.mem_of_getElem? (i := 115) (by decide +kernel)) rfl⟩
theorem fl_S_123 : jv_FL "HaltRing$State" 123 2 1 := ⟨_, rfl, by decide, jv_in (List.mem_of_getElem? (i := 116) (by decide +kernel)) rfl⟩
theorem fl_O_18 : jv_FL "HaltRing$Order" 18 2 2 := ⟨_, rfl, by decide, jv_in (List.mem_of_getElem? (i := 117) (by decide +kernel)) rfl⟩
theorem fl_D_59 : jv_FL "HaltRing$DebugModule" 59 2 2 := ⟨_, rfl, by decide, jv_in (List.mem_of_getElem? (i := 118) (by decide +kernel)) rfl⟩
theorem fl_S_158 : jv_FL "HaltRing$State" 158 2 2 := ⟨_, rfl, by decide, jv_in (List.mem_of_getElem? (i := 119) (by decide +kernel)) rfl⟩
theorem fl_O_21 : jv_FL "HaltRing$Order" 21 2 3 := ⟨_, rfl, by decide, jv_in (List.mem_of_getElem? (i := 120) (by decide +kernel)) rfl⟩
theorem fl_D_62 : jv_FL "HaltRing$DebugModule" 62 2 3 := ⟨_, rfl, by decide, jv_in (List.mem_of_getElem? (i := 121) (by decide +kernel)) rfl⟩
theorem fl_S_164 : jv_FL "HaltRing$State" 164 2 3 := ⟨_, rfl, by decide, jv_in (List.mem_of_getElem? (i := 122) (by decide +kernel)) rfl⟩
theorem fl_O_24 : jv_FL "HaltRing$Order" 24 2 4 := ⟨_, rfl, by decide, jv_in (List.mem_of_getElem? (i := 123) (by decide +kernel)) rfl⟩
theorem fl_D_65 : jv_FL "HaltRing$DebugModule" 65 2 4 := ⟨_, rfl, by decide, jv_in (List.mem_of_getElem? (i := 124) (by decide +kernel)) rfl⟩
theorem fl_S_118 : jv_FL "HaltRing$State" 118 2 4 := ⟨_, rfl, by decide, jv_in (List.mem_of_getElem? (i := 125) (by decide +kernel)) rfl⟩
theorem fl_O_27 : jv_FL "HaltRing$Order" 27 2 5 := ⟨_, rfl, by decide, jv_in (List.mem_of_getElem? (i := 126) (by decide +kernel)) rfl⟩
theorem fl_D_68 : jv_FL "HaltRing$DebugModule" 68 2 5 := ⟨_, rfl, by decide, jv_in (List.mem_of_getElem? (i := 127) (by decide +kernel)) rfl⟩
theorem fl_S_141 : jv_FL "HaltRing$State" 141 2 5 := ⟨_, rfl, by decide, jv_in (List.mem_of_getElem? (i := 128) (by decide +kernel)) rfl⟩
theorem fl_O_30 : jv_FL "HaltRing$Order" 30 2 6 := ⟨_, rfl, by decide, jv_in (List.mem_of_getElem? (i := 129) (by decide +kernel)) rfl⟩
theorem fl_D_71 : jv_FL "HaltRing$DebugModule" 71 2 6 := ⟨_, rfl, by decide, jv_in (List.mem_of_getElem? (i := 130) (by decide +kernel)) rfl⟩
theorem fl_S_161 : jv_FL "HaltRing$State" 161 2 6 := ⟨_, rfl, by decide, jv_in (List.mem_of_getElem? (i := 131) (by decide +kernel)) rfl⟩
theorem fl_D_11 : jv_FL "HaltRing$DebugModule" 11 0 0 := ⟨_, rfl, by decide, jv_in (List.mem_of_getElem? (i := 147) (by decide +kernel)) rfl⟩
theorem fl_S_114 : jv_FL "HaltRing$State" 114 0 0 := ⟨_, rfl, by decide, jv_in (List.mem_of_getElem? (i := 148) (by decide +kernel)) rfl⟩
theorem fl_R_127 : jv_FL "HaltRing" 127 0 0 := ⟨_, rfl, by decide, jv_in (List.mem_of_getElem? (i := 149) (by decide +kernel)) rfl⟩
theorem fl_D_17 : jv_FL "HaltRing$DebugModule" 17 0 1 := ⟨_, rfl, by decide, jv_in (List.mem_of_getElem? (i := 150) (by decide +kernel)) rfl⟩
theorem fl_S_177 : jv_FL "HaltRing$State" 177 0 1 := ⟨_, rfl, by decide, jv_in (List.mem_of_getElem? (i := 151) (by decide +kernel)) rfl⟩
theorem fl_R_161 : jv_FL "HaltRing" 161 0 1 := ⟨_, rfl, by decide, jv_in (List.mem_of_getElem? (i := 152) (by decide +kernel)) rfl⟩
theorem fl_D_22 : jv_FL "HaltRing$DebugModule" 22 0 2 := ⟨_, rfl, by decide, jv_in (List.mem_of_getElem? (i := 153) (by decide +kernel)) rfl⟩
theorem fl_S_111 : jv_FL "HaltRing$State" 111 0 2 := ⟨_, rfl, by decide, jv_in (List.mem_of_getElem? (i := 154) (by decide +kernel)) rfl⟩
theorem fl_R_122 : jv_FL "HaltRing" 122 0 2 := ⟨_, rfl, by decide, jv_in (List.mem_of_getElem? (i := 155) (by decide +kernel)) rfl⟩
theorem fl_D_36 : jv_FL "HaltRing$DebugModule" 36 0 3 := ⟨_, rfl, by decide, jv_in (List.mem_of_getElem? (i := 156) (by decide +kernel)) rfl⟩
theorem fl_R_148 : jv_FL "HaltRing" 148 0 3 := ⟨_, rfl, by decide, jv_in (List.mem_of_getElem? (i := 157) (by decide +kernel)) rfl⟩
theorem fl_D_39 : jv_FL "HaltRing$DebugModule" 39 0 4 := ⟨_, rfl, by decide, jv_in (List.mem_of_getElem? (i := 158) (by decide +kernel)) rfl⟩
theorem fl_R_238 : jv_FL "HaltRing" 238 0 4 := ⟨_, rfl, by decide, jv_in (List.mem_of_getElem? (i := 159) (by decide +kernel)) rfl⟩
theorem fl_H_9 : jv_FL "HaltRing$Hart" 9 1 0 := ⟨_, rfl, by decide, jv_in (List.mem_of_getElem? (i := 180) (by decide +kernel)) rfl⟩
theorem fl_U_39 : jv_FL "HaltRing$Trigger" 39 1 0 := ⟨_, rfl, by decide, jv_in (List.mem_of_getElem? (i := 181) (by decide +kernel)) rfl⟩
theorem fl_G_37 : jv_FL "HaltRing$Sights" 37 1 0 := ⟨_, rfl, by decide, jv_in (List.mem_of_getElem? (i := 182) (by decide +kernel)) rfl⟩
theorem fl_S_155 : jv_FL "HaltRing$State" 155 1 0 := ⟨_, rfl, by decide, jv_in (List.mem_of_getElem? (i := 183) (by decide +kernel)) rfl⟩
theorem fl_R_264 : jv_FL "HaltRing" 264 1 0 := ⟨_, rfl, by decide, jv_in (List.mem_of_getElem? (i := 184) (by decide +kernel)) rfl⟩
theorem fl_H_21 : jv_FL "HaltRing$Hart" 21 1 1 := ⟨_, rfl, by decide, jv_in (List.mem_of_getElem? (i := 185) (by decide +kernel)) rfl⟩
theorem fl_S_40 : jv_FL "HaltRing$State" 40 1 1 := ⟨_, rfl, by decide, jv_in (List.mem_of_getElem? (i := 186) (by decide +kernel)) rfl⟩
theorem fl_H_25 : jv_FL "HaltRing$Hart" 25 1 2 := ⟨_, rfl, by decide, jv_in (List.mem_of_getElem? (i := 187) (by decide +kernel)) rfl⟩
theorem fl_S_43 : jv_FL "HaltRing$State" 43 1 2 := ⟨_, rfl, by decide, jv_in (List.mem_of_getElem? (i := 188) (by decide +kernel)) rfl⟩
theorem fl_H_28 : jv_FL "HaltRing$Hart" 28 1 3 := ⟨_, rfl, by decide, jv_in (List.mem_of_getElem? (i := 189) (by decide +kernel)) rfl⟩
theorem fl_U_34 : jv_FL "HaltRing$Trigger" 34 1 3 := ⟨_, rfl, by decide, jv_in (List.mem_of_getElem? (i := 190) (by decide +kernel)) rfl⟩
theorem fl_G_29 : jv_FL "HaltRing$Sights" 29 1 3 := ⟨_, rfl, by decide, jv_in (List.mem_of_getElem? (i := 191) (by decide +kernel)) rfl⟩
theorem fl_S_189 : jv_FL "HaltRing$State" 189 1 3 := ⟨_, rfl, by decide, jv_in (List.mem_of_getElem? (i := 192) (by decide +kernel)) rfl⟩
theorem fl_R_267 : jv_FL "HaltRing" 267 1 3 := ⟨_, rfl, by decide, jv_in (List.mem_of_getElem? (i := 193) (by decide +kernel)) rfl⟩
theorem fl_H_31 : jv_FL "HaltRing$Hart" 31 1 4 := ⟨_, rfl, by decide, jv_in (List.mem_of_getElem? (i := 194) (by decide +kernel)) rfl⟩
theorem fl_G_34 : jv_FL "HaltRing$Sights" 34 1 4 := ⟨_, rfl, by decide, jv_in (List.mem_of_getElem? (i := 195) (by decide +kernel)) rfl⟩
theorem fl_S_80 : jv_FL "HaltRing$State" 80 1 4 := ⟨_, rfl, by decide, jv_in (List.mem_of_getElem? (i := 196) (by decide +kernel)) rfl⟩
theorem fl_R_261 : jv_FL "HaltRing" 261 1 4 := ⟨_, rfl, by decide, jv_in (List.mem_of_getElem? (i := 197) (by decide +kernel)) rfl⟩
theorem fl_H_34 : jv_FL "HaltRing$Hart" 34 1 5 := ⟨_, rfl, by decide, jv_in (List.mem_of_getElem? (i := 198) (by decide +kernel)) rfl⟩
theorem fl_H_37 : jv_FL "HaltRing$Hart" 37 1 6 := ⟨_, rfl, by decide, jv_in (List.mem_of_getElem? (i := 199) (by decide +kernel)) rfl⟩
theorem fl_U_9 : jv_FL "HaltRing$Trigger" 9 8 0 := ⟨_, rfl, by decide, jv_in (List.mem_of_getElem? (i := 220) (by decide +kernel)) rfl⟩
theorem fl_S_58 : jv_FL "HaltRing$State" 58 8 0 := ⟨_, rfl, by decide, jv_in (List.mem_of_getElem? (i := 221) (by decide +kernel)) rfl⟩
theorem fl_R_175 : jv_FL "HaltRing" 175 8 0 := ⟨_, rfl, by decide, jv_in (List.mem_of_getElem? (i := 222) (by decide +kernel)) rfl⟩
theorem fl_U_15 : jv_FL "HaltRing$Trigger" 15 8 1 := ⟨_, rfl, by decide, jv_in (List.mem_of_getElem? (i := 223) (by decide +kernel)) rfl⟩
theorem fl_R_151 : jv_FL "HaltRing" 151 8 1 := ⟨_, rfl, by decide, jv_in (List.mem_of_getElem? (i := 224) (by decide +kernel)) rfl⟩
theorem fl_U_18 : jv_FL "HaltRing$Trigger" 18 8 2 := ⟨_, rfl, by decide, jv_in (List.mem_of_getElem? (i := 225) (by decide +kernel)) rfl⟩
theorem fl_U_21 : jv_FL "HaltRing$Trigger" 21 8 3 := ⟨_, rfl, by decide, jv_in (List.mem_of_getElem? (i := 226) (by decide +kernel)) rfl⟩
theorem fl_U_24 : jv_FL "HaltRing$Trigger" 24 8 4 := ⟨_, rfl, by decide, jv_in (List.mem_of_getElem? (i := 227) (by decide +kernel)) rfl⟩
theorem fl_S_171 : jv_FL "HaltRing$State" 171 8 4 := ⟨_, rfl, by decide, jv_in (List.mem_of_getElem? (i := 228) (by decide +kernel)) rfl⟩
theorem fl_U_27 : jv_FL "HaltRing$Trigger" 27 8 5 := ⟨_, rfl, by decide, jv_in (List.mem_of_getElem? (i := 229) (by decide +kernel)) rfl⟩
theorem fl_S_174 : jv_FL "HaltRing$State" 174 8 5 := ⟨_, rfl, by decide, jv_in (List.mem_of_getElem? (i := 230) (by decide +kernel)) rfl⟩
theorem fl_U_30 : jv_FL "HaltRing$Trigger" 30 8 6 := ⟨_, rfl, by decide, jv_in (List.mem_of_getElem? (i := 231) (by decide +kernel)) rfl⟩
theorem fl_S_218 : jv_FL "HaltRing$State" 218 8 6 := ⟨_, rfl, by decide, jv_in (List.mem_of_getElem? (i := 232) (by decide +kernel)) rfl⟩
theorem fl_S_12 : jv_FL "HaltRing$State" 12 6 0 := ⟨_, rfl, by decide, jv_in (List.mem_of_getElem? (i := 248) (by decide +kernel)) rfl⟩
theorem fl_R_118 : jv_FL "HaltRing" 118 6 0 := ⟨_, rfl, by decide, jv_in (List.mem_of_getElem? (i := 249) (by decide +kernel)) rfl⟩
theorem fl_S_20 : jv_FL "HaltRing$State" 20 6 1 := ⟨_, rfl, by decide, jv_in (List.mem_of_getElem? (i := 250) (by decide +kernel)) rfl⟩
theorem fl_R_91 : jv_FL "HaltRing" 91 6 1 := ⟨_, rfl, by decide, jv_in (List.mem_of_getElem? (i := 251) (by decide +kernel)) rfl⟩
theorem fl_S_26 : jv_FL "HaltRing$State" 26 6 2 := ⟨_, rfl, by decide, jv_in (List.mem_of_getElem? (i := 252) (by decide +kernel)) rfl⟩
theorem fl_R_104 : jv_FL "HaltRing" 104 6 2 := ⟨_, rfl, by decide, jv_in (List.mem_of_getElem? (i := 253) (by decide +kernel)) rfl⟩
theorem fl_S_30 : jv_FL "HaltRing$State" 30 6 3 := ⟨_, rfl, by decide, jv_in (List.mem_of_getElem? (i := 254) (by decide +kernel)) rfl⟩
theorem fl_R_115 : jv_FL "HaltRing" 115 6 3 := ⟨_, rfl, by decide, jv_in (List.mem_of_getElem? (i := 255) (by decide +kernel)) rfl⟩
theorem fl_S_36 : jv_FL "HaltRing$State" 36 6 4 := ⟨_, rfl, by decide, jv_in (List.mem_of_getElem? (i := 256) (by decide +kernel)) rfl⟩
theorem fl_T_41 : jv_FL "HaltRing$Text" 41 6 4 := ⟨_, rfl, by decide, jv_in (List.mem_of_getElem? (i := 257) (by decide +kernel)) rfl⟩
theorem fl_R_85 : jv_FL "HaltRing" 85 6 4 := ⟨_, rfl, by decide, jv_in (List.mem_of_getElem? (i := 258) (by decide +kernel)) rfl⟩
theorem fl_S_49 : jv_FL "HaltRing$State" 49 6 5 := ⟨_, rfl, by decide, jv_in (List.mem_of_getElem? (i := 259) (by decide +kernel)) rfl⟩
theorem fl_T_44 : jv_FL "HaltRing$Text" 44 6 5 := ⟨_, rfl, by decide, jv_in (List.mem_of_getElem? (i := 260) (by decide +kernel)) rfl⟩
theorem fl_R_210 : jv_FL "HaltRing" 210 6 5 := ⟨_, rfl, by decide, jv_in (List.mem_of_getElem? (i := 261) (by decide +kernel)) rfl⟩
theorem fl_S_77 : jv_FL "HaltRing$State" 77 6 6 := ⟨_, rfl, by decide, jv_in (List.mem_of_getElem? (i := 262) (by decide +kernel)) rfl⟩
theorem fl_R_270 : jv_FL "HaltRing" 270 6 6 := ⟨_, rfl, by decide, jv_in (List.mem_of_getElem? (i := 263) (by decide +kernel)) rfl⟩
theorem fl_S_93 : jv_FL "HaltRing$State" 93 6 7 := ⟨_, rfl, by decide, jv_in (List.mem_of_getElem? (i := 264) (by decide +kernel)) rfl⟩
theorem fl_T_9 : jv_FL "HaltRing$Text" 9 7 0 := ⟨_, rfl, by decide, jv_in (List.mem_of_getElem? (i := 282) (by decide +kernel)) rfl⟩
theorem fl_T_29 : jv_FL "HaltRing$Text" 29 7 1 := ⟨_, rfl, by decide, jv_in (List.mem_of_getElem? (i := 283) (by decide +kernel)) rfl⟩
theorem fl_R_63 : jv_FL "HaltRing" 63 7 1 := ⟨_, rfl, by decide, jv_in (List.mem_of_getElem? (i := 284) (by decide +kernel)) rfl⟩
theorem fl_T_18 : jv_FL "HaltRing$Text" 18 7 2 := ⟨_, rfl, by decide, jv_in (List.mem_of_getElem? (i := 285) (by decide +kernel)) rfl⟩
theorem fl_R_71 : jv_FL "HaltRing" 71 7 2 := ⟨_, rfl, by decide, jv_in (List.mem_of_getElem? (i := 286) (by decide +kernel)) rfl⟩
theorem fl_T_25 : jv_FL "HaltRing$Text" 25 7 3 := ⟨_, rfl, by decide, jv_in (List.mem_of_getElem? (i := 287) (by decide +kernel)) rfl⟩
theorem fl_R_76 : jv_FL "HaltRing" 76 7 3 := ⟨_, rfl, by decide, jv_in (List.mem_of_getElem? (i := 288) (by decide +kernel)) rfl⟩
theorem fl_T_33 : jv_FL "HaltRing$Text" 33 7 4 := ⟨_, rfl, by decide, jv_in (List.mem_of_getElem? (i := 289) (by decide +kernel)) rfl⟩
theorem fl_T_36 : jv_FL "HaltRing$Text" 36 7 5 := ⟨_, rfl, by decide, jv_in (List.mem_of_getElem? (i := 290) (by decide +kernel)) rfl⟩
theorem fl_A_11 : jv_FL "HaltRing$Past" 11 3 0 := ⟨_, rfl, by decide, jv_in (List.mem_of_getElem? (i := 317) (by decide +kernel)) rfl⟩
theorem fl_A_22 : jv_FL "HaltRing$Past" 22 3 1 := ⟨_, rfl, by decide, jv_in (List.mem_of_getElem? (i := 318) (by decide +kernel)) rfl⟩
theorem fl_A_18 : jv_FL "HaltRing$Past" 18 3 2 := ⟨_, rfl, by decide, jv_in (List.mem_of_getElem? (i := 319) (by decide +kernel)) rfl⟩
theorem fl_R_168 : jv_FL "HaltRing" 168 3 2 := ⟨_, rfl, by decide, jv_in (List.mem_of_getElem? (i := 320) (by decide +kernel)) rfl⟩
theorem fl_G_9 : jv_FL "HaltRing$Sights" 9 5 0 := ⟨_, rfl, by decide, jv_in (List.mem_of_getElem? (i := 334) (by decide +kernel)) rfl⟩
theorem fl_G_15 : jv_FL "HaltRing$Sights" 15 5 1 := ⟨_, rfl, by decide, jv_in (List.mem_of_getElem? (i := 335) (by decide +kernel)) rfl⟩
theorem fl_G_18 : jv_FL "HaltRing$Sights" 18 5 2 := ⟨_, rfl, by decide, jv_in (List.mem_of_getElem? (i := 336) (by decide +kernel)) rfl⟩
theorem fl_G_21 : jv_FL "HaltRing$Sights" 21 5 3 := ⟨_, rfl, by decide, jv_in (List.mem_of_getElem? (i := 337) (by decide +kernel)) rfl⟩
theorem fl_R_205 : jv_FL "HaltRing" 205 5 3 := ⟨_, rfl, by decide, jv_in (List.mem_of_getElem? (i := 338) (by decide +kernel)) rfl⟩
theorem fl_R_10 : jv_FL "HaltRing" 10 9 0 := ⟨_, rfl, by decide, jv_in (List.mem_of_getElem? (i := 349) (by decide +kernel)) rfl⟩
theorem fl_R_19 : jv_FL "HaltRing" 19 9 1 := ⟨_, rfl, by decide, jv_in (List.mem_of_getElem? (i := 350) (by decide +kernel)) rfl⟩
theorem fl_R_26 : jv_FL "HaltRing" 26 9 2 := ⟨_, rfl, by decide, jv_in (List.mem_of_getElem? (i := 351) (by decide +kernel)) rfl⟩
theorem fl_R_30 : jv_FL "HaltRing" 30 9 3 := ⟨_, rfl, by decide, jv_in (List.mem_of_getElem? (i := 352) (by decide +kernel)) rfl⟩
theorem fl_R_36 : jv_FL "HaltRing" 36 9 4 := ⟨_, rfl, by decide, jv_in (List.mem_of_getElem? (i := 353) (by decide +kernel)) rfl⟩
theorem fl_R_40 : jv_FL "HaltRing" 40 9 5 := ⟨_, rfl, by decide, jv_in (List.mem_of_getElem? (i := 354) (by decide +kernel)) rfl⟩
theorem fl_R_44 : jv_FL "HaltRing" 44 9 6 := ⟨_, rfl, by decide, jv_in (List.mem_of_getElem? (i := 355) (by decide +kernel)) rfl⟩
theorem fl_R_51 : jv_FL "HaltRing" 51 9 7 := ⟨_, rfl, by decide, jv_in (List.mem_of_getElem? (i := 356) (by decide +kernel)) rfl⟩
theorem fl_R_55 : jv_FL "HaltRing" 55 9 8 := ⟨_, rfl, by decide, jv_in (List.mem_of_getElem? (i := 357) (by decide +kernel)) rfl⟩
theorem fl_R_226 : jv_FL "HaltRing" 226 9 9 := ⟨_, rfl, by decide, jv_in (List.mem_of_getElem? (i := 358) (by decide +kernel)) rfl⟩
theorem fl_M_75 : jv_FL "HaltRingModel" 75 10 0 := ⟨_, rfl, by decide, jv_in (List.mem_of_getElem? (i := 906) (by decide +kernel)) rfl⟩
theorem fl_M_7 : jv_FL "HaltRingModel" 7 10 1 := ⟨_, rfl, by decide, jv_in (List.mem_of_getElem? (i := 907) (by decide +kernel)) rfl⟩
theorem fl_M_87 : jv_FL "HaltRingModel" 87 10 2 := ⟨_, rfl, by decide, jv_in (List.mem_of_getElem? (i := 908) (by decide +kernel)) rfl⟩
theorem fl_M_90 : jv_FL "HaltRingModel" 90 10 3 := ⟨_, rfl, by decide, jv_in (List.mem_of_getElem? (i := 909) (by decide +kernel)) rfl⟩
theorem fl_M_135 : jv_FL "HaltRingModel" 135 10 4 := ⟨_, rfl, by decide, jv_in (List.mem_of_getElem? (i := 910) (by decide +kernel)) rfl⟩
theorem fl_M_13 : jv_FL "HaltRingModel" 13 10 5 := ⟨_, rfl, by decide, jv_in (List.mem_of_getElem? (i := 911) (by decide +kernel)) rfl⟩
theorem fl_M_78 : jv_FL "HaltRingModel" 78 10 6 := ⟨_, rfl, by decide, jv_in (List.mem_of_getElem? (i := 912) (by decide +kernel)) rfl⟩
theorem fl_M_16 : jv_FL "HaltRingModel" 16 10 7 := ⟨_, rfl, by decide, jv_in (List.mem_of_getElem? (i := 913) (by decide +kernel)) rfl⟩
theorem fl_M_19 : jv_FL "HaltRingModel" 19 10 8 := ⟨_, rfl, by decide, jv_in (List.mem_of_getElem? (i := 914) (by decide +kernel)) rfl⟩
theorem fl_M_138 : jv_FL "HaltRingModel" 138 10 9 := ⟨_, rfl, by decide, jv_in (List.mem_of_getElem? (i := 915) (by decide +kernel)) rfl⟩
theorem fl_M_22 : jv_FL "HaltRingModel" 22 10 10 := ⟨_, rfl, by decide, jv_in (List.mem_of_getElem? (i := 916) (by decide +kernel)) rfl⟩
theorem fl_M_93 : jv_FL "HaltRingModel" 93 10 11 := ⟨_, rfl, by decide, jv_in (List.mem_of_getElem? (i := 917) (by decide +kernel)) rfl⟩
theorem fl_M_25 : jv_FL "HaltRingModel" 25 10 12 := ⟨_, rfl, by decide, jv_in (List.mem_of_getElem? (i := 918) (by decide +kernel)) rfl⟩
theorem fl_M_107 : jv_FL "HaltRingModel" 107 10 13 := ⟨_, rfl, by decide, jv_in (List.mem_of_getElem? (i := 919) (by decide +kernel)) rfl⟩
theorem fl_M_28 : jv_FL "HaltRingModel" 28 10 14 := ⟨_, rfl, by decide, jv_in (List.mem_of_getElem? (i := 920) (by decide +kernel)) rfl⟩
theorem fl_M_31 : jv_FL "HaltRingModel" 31 10 15 := ⟨_, rfl, by decide, jv_in (List.mem_of_getElem? (i := 921) (by decide +kernel)) rfl⟩
theorem fl_M_110 : jv_FL "HaltRingModel" 110 10 16 := ⟨_, rfl, by decide, jv_in (List.mem_of_getElem? (i := 922) (by decide +kernel)) rfl⟩
theorem fl_M_34 : jv_FL "HaltRingModel" 34 10 17 := ⟨_, rfl, by decide, jv_in (List.mem_of_getElem? (i := 923) (by decide +kernel)) rfl⟩
theorem fl_M_37 : jv_FL "HaltRingModel" 37 10 18 := ⟨_, rfl, by decide, jv_in (List.mem_of_getElem? (i := 924) (by decide +kernel)) rfl⟩
theorem fl_M_40 : jv_FL "HaltRingModel" 40 10 19 := ⟨_, rfl, by decide, jv_in (List.mem_of_getElem? (i := 925) (by decide +kernel)) rfl⟩
theorem fl_M_43 : jv_FL "HaltRingModel" 43 10 20 := ⟨_, rfl, by decide, jv_in (List.mem_of_getElem? (i := 926) (by decide +kernel)) rfl⟩
theorem fl_M_46 : jv_FL "HaltRingModel" 46 10 21 := ⟨_, rfl, by decide, jv_in (List.mem_of_getElem? (i := 927) (by decide +kernel)) rfl⟩
theorem fl_M_49 : jv_FL "HaltRingModel" 49 10 22 := ⟨_, rfl, by decide, jv_in (List.mem_of_getElem? (i := 928) (by decide +kernel)) rfl⟩
theorem fl_M_141 : jv_FL "HaltRingModel" 141 10 23 := ⟨_, rfl, by decide, jv_in (List.mem_of_getElem? (i := 929) (by decide +kernel)) rfl⟩
theorem fl_M_52 : jv_FL "HaltRingModel" 52 10 24 := ⟨_, rfl, by decide, jv_in (List.mem_of_getElem? (i := 930) (by decide +kernel)) rfl⟩
theorem fl_M_55 : jv_FL "HaltRingModel" 55 10 25 := ⟨_, rfl, by decide, jv_in (List.mem_of_getElem? (i := 931) (by decide +kernel)) rfl⟩
theorem fl_M_269 : jv_FL "HaltRingModel" 269 10 26 := ⟨_, rfl, by decide, jv_in (List.mem_of_getElem? (i := 932) (by decide +kernel)) rfl⟩
theorem fl_M_59 : jv_FL "HaltRingModel" 59 10 27 := ⟨_, rfl, by decide, jv_in (List.mem_of_getElem? (i := 933) (by decide +kernel)) rfl⟩
theorem fl_M_62 : jv_FL "HaltRingModel" 62 10 28 := ⟨_, rfl, by decide, jv_in (List.mem_of_getElem? (i := 934) (by decide +kernel)) rfl⟩
theorem fl_M_65 : jv_FL "HaltRingModel" 65 10 29 := ⟨_, rfl, by decide, jv_in (List.mem_of_getElem? (i := 935) (by decide +kernel)) rfl⟩
theorem fl_M_288 : jv_FL "HaltRingModel" 288 10 30 := ⟨_, rfl, by decide, jv_in (List.mem_of_getElem? (i := 936) (by decide +kernel)) rfl⟩
theorem fl_M_144 : jv_FL "HaltRingModel" 144 10 31 := ⟨_, rfl, by decide, jv_in (List.mem_of_getElem? (i := 937) (by decide +kernel)) rfl⟩
theorem fl_M_68 : jv_FL "HaltRingModel" 68 10 32 := ⟨_, rfl, by decide, jv_in (List.mem_of_getElem? (i := 938) (by decide +kernel)) rfl⟩
theorem fl_M_72 : jv_FL "HaltRingModel" 72 10 33 := ⟨_, rfl, by decide, jv_in (List.mem_of_getElem? (i := 939) (by decide +kernel)) rfl⟩
theorem ml_L_9 : jv_MI "HaltRingLaw" 9 mt_R_init 0 := ⟨ok_R_init, jv_in (List.mem_of_getElem? (i := 54) (by decide +kernel)) rfl, jv_in (List.mem_of_getElem? (i := 55) (by decide +kernel)) rfl, rfl, rfl⟩
theorem ml_T_24 : jv_MI "HaltRing$Text" 24 mt_S_init 0 := ⟨ok_S_init, jv_in (List.mem_of_getElem? (i := 94) (by decide +kernel)) rfl, jv_in (List.mem_of_getElem? (i := 95) (by decide +kernel)) rfl, rfl, rfl⟩
theorem ml_S_11 : jv_MI "HaltRing$State" 11 mt_D_init 0 := ⟨ok_D_init, jv_in (List.mem_of_getElem? (i := 100) (by decide +kernel)) rfl, jv_in (List.mem_of_getElem? (i := 101) (by decide +kernel)) rfl, rfl, rfl⟩
theorem ml_R_25 : jv_MI "HaltRing" 25 mt_S_init 0 := ⟨ok_S_init, jv_in (List.mem_of_getElem? (i := 307) (by decide +kernel)) rfl, jv_in (List.mem_of_getElem? (i := 95) (by decide +kernel)) rfl, rfl, rfl⟩
theorem ml_R_35 : jv_MI "HaltRing" 35 mt_A_init 0 := ⟨ok_A_init, jv_in (List.mem_of_getElem? (i := 310) (by decide +kernel)) rfl, jv_in (List.mem_of_getElem? (i := 311) (by decide +kernel)) rfl, rfl, rfl⟩
theorem ml_A_17 : jv_MI "HaltRing$Past" 17 mt_S_init 0 := ⟨ok_S_init, jv_in (List.mem_of_getElem? (i := 316) (by decide +kernel)) rfl, jv_in (List.mem_of_getElem? (i := 95) (by decide +kernel)) rfl, rfl, rfl⟩
theorem ml_L_13 : jv_MV "HaltRingLaw" 13 9 mt_R_write 1 := ⟨ok_R_write, jv_in (List.mem_of_getElem? (i := 380) (by decide +kernel)) rfl, jv_in (List.mem_of_getElem? (i := 381) (by decide +kernel)) rfl, jv_in (List.mem_of_getElem? (i := 382) (by decide +kernel)) rfl, _, rfl, rfl⟩
theorem ml_R_59 : jv_MV "HaltRing" 59 7 mt_T_append 1 := ⟨ok_T_append, jv_in (List.mem_of_getElem? (i := 384) (by decide +kernel)) rfl, jv_in (List.mem_of_getElem? (i := 385) (by decide +kernel)) rfl, jv_in (List.mem_of_getElem? (i := 386) (by decide +kernel)) rfl, _, rfl, rfl⟩
theorem ml_L_18 : jv_MV "HaltRingLaw" 18 9 mt_R_wipe 0 := ⟨ok_R_wipe, jv_in (List.mem_of_getElem? (i := 388) (by decide +kernel)) rfl, jv_in (List.mem_of_getElem? (i := 389) (by decide +kernel)) rfl, jv_in (List.mem_of_getElem? (i := 390) (by decide +kernel)) rfl, _, rfl, rfl⟩
theorem ml_L_23 : jv_MV "HaltRingLaw" 23 9 mt_R_fault 0 := ⟨ok_R_fault, jv_in (List.mem_of_getElem? (i := 392) (by decide +kernel)) rfl, jv_in (List.mem_of_getElem? (i := 393) (by decide +kernel)) rfl, jv_in (List.mem_of_getElem? (i := 394) (by decide +kernel)) rfl, _, rfl, rfl⟩
theorem ml_R_67 : jv_MV "HaltRing" 67 7 mt_T_findFault 0 := ⟨ok_T_findFault, jv_in (List.mem_of_getElem? (i := 396) (by decide +kernel)) rfl, jv_in (List.mem_of_getElem? (i := 397) (by decide +kernel)) rfl, jv_in (List.mem_of_getElem? (i := 398) (by decide +kernel)) rfl, _, rfl, rfl⟩
theorem ml_T_47 : jv_MV "HaltRing$Text" 47 7 mt_T_take 2 := ⟨ok_T_take, jv_in (List.mem_of_getElem? (i := 400) (by decide +kernel)) rfl, jv_in (List.mem_of_getElem? (i := 401) (by decide +kernel)) rfl, jv_in (List.mem_of_getElem? (i := 402) (by decide +kernel)) rfl, _, rfl, rfl⟩
theorem ml_T_51 : jv_MV "HaltRing$Text" 51 7 mt_T_readPart 1 := ⟨ok_T_readPart, jv_in (List.mem_of_getElem? (i := 407) (by decide +kernel)) rfl, jv_in (List.mem_of_getElem? (i := 408) (by decide +kernel)) rfl, jv_in (List.mem_of_getElem? (i := 409) (by decide +kernel)) rfl, _, rfl, rfl⟩
theorem ml_T_55 : jv_MV "HaltRing$Text" 55 7 mt_T_readInstruction 0 := ⟨ok_T_readInstruction, jv_in (List.mem_of_getElem? (i := 411) (by decide +kernel)) rfl, jv_in (List.mem_of_getElem? (i := 412) (by decide +kernel)) rfl, jv_in (List.mem_of_getElem? (i := 413) (by decide +kernel)) rfl, _, rfl, rfl⟩
theorem ml_T_65 : jv_MV "HaltRing$Text" 65 7 mt_T_takeCode 0 := ⟨ok_T_takeCode, jv_in (List.mem_of_getElem? (i := 415) (by decide +kernel)) rfl, jv_in (List.mem_of_getElem? (i := 416) (by decide +kernel)) rfl, jv_in (List.mem_of_getElem? (i := 417) (by decide +kernel)) rfl, _, rfl, rfl⟩
theorem ml_T_96 : jv_MT "HaltRing$Text" 96 mt_JS_indexOf 1 := ⟨ok_JS_indexOf, jv_in (List.mem_of_getElem? (i := 420) (by decide +kernel)) rfl, jv_in (List.mem_of_getElem? (i := 421) (by decide +kernel)) rfl, jv_in (List.mem_of_getElem? (i := 422) (by decide +kernel)) rfl, rfl⟩
theorem ml_JS_633 : jv_MT "java/lang/String" 633 mt_JS_indexOf_5 2 := ⟨ok_JS_indexOf_5, jv_in (List.mem_of_getElem? (i := 424) (by decide +kernel)) rfl, jv_in (List.mem_of_getElem? (i := 425) (by decide +kernel)) rfl, jv_in (List.mem_of_getElem? (i := 426) (by decide +kernel)) rfl, rfl⟩
theorem ml_JS_492 : jv_MT "java/lang/String" 492 mt_JS_isLatin1 0 := ⟨ok_JS_isLatin1, jv_in (List.mem_of_getElem? (i := 428) (by decide +kernel)) rfl, jv_in (List.mem_of_getElem? (i := 429) (by decide +kernel)) rfl, jv_in (List.mem_of_getElem? (i := 430) (by decide +kernel)) rfl, rfl⟩
theorem ml_JS_505 : jv_MT "java/lang/String" 505 mt_JS_length 0 := ⟨ok_JS_length, jv_in (List.mem_of_getElem? (i := 434) (by decide +kernel)) rfl, jv_in (List.mem_of_getElem? (i := 435) (by decide +kernel)) rfl, jv_in (List.mem_of_getElem? (i := 436) (by decide +kernel)) rfl, rfl⟩
theorem ml_JS_335 : jv_MT "java/lang/String" 335 mt_JS_coder 0 := ⟨ok_JS_coder, jv_in (List.mem_of_getElem? (i := 438) (by decide +kernel)) rfl, jv_in (List.mem_of_getElem? (i := 439) (by decide +kernel)) rfl, jv_in (List.mem_of_getElem? (i := 440) (by decide +kernel)) rfl, rfl⟩
theorem ml_JS_637 : jv_MS "java/lang/String" 637 mt_JL_indexOf 4 := ⟨ok_JL_indexOf, jv_in (List.mem_of_getElem? (i := 442) (by decide +kernel)) rfl, jv_in (List.mem_of_getElem? (i := 443) (by decide +kernel)) rfl⟩
theorem ml_JL_88 : jv_MS "java/lang/StringLatin1" 88 mt_JL_canEncode 1 := ⟨ok_JL_canEncode, jv_in (List.mem_of_getElem? (i := 445) (by decide +kernel)) rfl, jv_in (List.mem_of_getElem? (i := 446) (by decide +kernel)) rfl⟩
theorem ml_JL_92 : jv_MS "java/lang/StringLatin1" 92 mt_JM_max 2 := ⟨ok_JM_max, jv_in (List.mem_of_getElem? (i := 448) (by decide +kernel)) rfl, jv_in (List.mem_of_getElem? (i := 449) (by decide +kernel)) rfl⟩
theorem ml_JL_38 : jv_MS "java/lang/StringLatin1" 38 mt_JM_min 2 := ⟨ok_JM_min, jv_in (List.mem_of_getElem? (i := 451) (by decide +kernel)) rfl, jv_in (List.mem_of_getElem? (i := 452) (by decide +kernel)) rfl⟩
theorem ml_JL_95 : jv_MS "java/lang/StringLatin1" 95 mt_JL_indexOfChar 4 := ⟨ok_JL_indexOfChar, jv_in (List.mem_of_getElem? (i := 454) (by decide +kernel)) rfl, jv_in (List.mem_of_getElem? (i := 455) (by decide +kernel)) rfl⟩
theorem ml_T_69 : jv_MS "HaltRing$Text" 69 mt_P_hasRegister 1 := ⟨ok_P_hasRegister, jv_in (List.mem_of_getElem? (i := 506) (by decide +kernel)) rfl, jv_in (List.mem_of_getElem? (i := 507) (by decide +kernel)) rfl⟩
theorem ml_T_76 : jv_MV "HaltRing$Text" 76 4 mt_P_append 3 := ⟨ok_P_append, jv_in (List.mem_of_getElem? (i := 511) (by decide +kernel)) rfl, jv_in (List.mem_of_getElem? (i := 512) (by decide +kernel)) rfl, jv_in (List.mem_of_getElem? (i := 513) (by decide +kernel)) rfl, _, rfl, rfl⟩
theorem ml_T_58 : jv_MV "HaltRing$Text" 58 7 mt_T_readHart 0 := ⟨ok_T_readHart, jv_in (List.mem_of_getElem? (i := 515) (by decide +kernel)) rfl, jv_in (List.mem_of_getElem? (i := 516) (by decide +kernel)) rfl, jv_in (List.mem_of_getElem? (i := 517) (by decide +kernel)) rfl, _, rfl, rfl⟩
theorem ml_T_80 : jv_MV "HaltRing$Text" 80 6 mt_S_addHart 2 := ⟨ok_S_addHart, jv_in (List.mem_of_getElem? (i := 519) (by decide +kernel)) rfl, jv_in (List.mem_of_getElem? (i := 520) (by decide +kernel)) rfl, jv_in (List.mem_of_getElem? (i := 521) (by decide +kernel)) rfl, _, rfl, rfl⟩
theorem ml_S_46 : jv_MV "HaltRing$State" 46 1 mt_H_restart 0 := ⟨ok_H_restart, jv_in (List.mem_of_getElem? (i := 523) (by decide +kernel)) rfl, jv_in (List.mem_of_getElem? (i := 524) (by decide +kernel)) rfl, jv_in (List.mem_of_getElem? (i := 525) (by decide +kernel)) rfl, _, rfl, rfl⟩
theorem ml_T_61 : jv_MV "HaltRing$Text" 61 7 mt_T_readTrigger 1 := ⟨ok_T_readTrigger, jv_in (List.mem_of_getElem? (i := 527) (by decide +kernel)) rfl, jv_in (List.mem_of_getElem? (i := 528) (by decide +kernel)) rfl, jv_in (List.mem_of_getElem? (i := 529) (by decide +kernel)) rfl, _, rfl, rfl⟩
theorem ml_T_84 : jv_MV "HaltRing$Text" 84 6 mt_S_addTrigger 1 := ⟨ok_S_addTrigger, jv_in (List.mem_of_getElem? (i := 531) (by decide +kernel)) rfl, jv_in (List.mem_of_getElem? (i := 532) (by decide +kernel)) rfl, jv_in (List.mem_of_getElem? (i := 533) (by decide +kernel)) rfl, _, rfl, rfl⟩
theorem ml_S_52 : jv_MS "HaltRing$State" 52 mt_JM_min 2 := ⟨ok_JM_min, jv_in (List.mem_of_getElem? (i := 535) (by decide +kernel)) rfl, jv_in (List.mem_of_getElem? (i := 452) (by decide +kernel)) rfl⟩
theorem ml_T_88 : jv_MV "HaltRing$Text" 88 8 mt_U_become 5 := ⟨ok_U_become, jv_in (List.mem_of_getElem? (i := 536) (by decide +kernel)) rfl, jv_in (List.mem_of_getElem? (i := 537) (by decide +kernel)) rfl, jv_in (List.mem_of_getElem? (i := 538) (by decide +kernel)) rfl, _, rfl, rfl⟩
theorem ml_L_27 : jv_MV "HaltRingLaw" 27 9 mt_R_board 0 := ⟨ok_R_board, jv_in (List.mem_of_getElem? (i := 541) (by decide +kernel)) rfl, jv_in (List.mem_of_getElem? (i := 542) (by decide +kernel)) rfl, jv_in (List.mem_of_getElem? (i := 543) (by decide +kernel)) rfl, _, rfl, rfl⟩
theorem ml_R_72 : jv_MV "HaltRing" 72 4 mt_P_copyFrom 1 := ⟨ok_P_copyFrom, jv_in (List.mem_of_getElem? (i := 545) (by decide +kernel)) rfl, jv_in (List.mem_of_getElem? (i := 546) (by decide +kernel)) rfl, jv_in (List.mem_of_getElem? (i := 547) (by decide +kernel)) rfl, _, rfl, rfl⟩
theorem ml_R_79 : jv_MV "HaltRing" 79 6 mt_S_copyFrom 1 := ⟨ok_S_copyFrom, jv_in (List.mem_of_getElem? (i := 552) (by decide +kernel)) rfl, jv_in (List.mem_of_getElem? (i := 553) (by decide +kernel)) rfl, jv_in (List.mem_of_getElem? (i := 554) (by decide +kernel)) rfl, _, rfl, rfl⟩
theorem ml_S_61 : jv_MV "HaltRing$State" 61 0 mt_D_copyFrom 1 := ⟨ok_D_copyFrom, jv_in (List.mem_of_getElem? (i := 556) (by decide +kernel)) rfl, jv_in (List.mem_of_getElem? (i := 557) (by decide +kernel)) rfl, jv_in (List.mem_of_getElem? (i := 558) (by decide +kernel)) rfl, _, rfl, rfl⟩
theorem ml_D_26 : jv_MV "HaltRing$DebugModule" 26 2 mt_O_copyFrom 1 := ⟨ok_O_copyFrom, jv_in (List.mem_of_getElem? (i := 560) (by decide +kernel)) rfl, jv_in (List.mem_of_getElem? (i := 561) (by decide +kernel)) rfl, jv_in (List.mem_of_getElem? (i := 562) (by decide +kernel)) rfl, _, rfl, rfl⟩
theorem ml_S_65 : jv_MV "HaltRing$State" 65 1 mt_H_copyFrom 1 := ⟨ok_H_copyFrom, jv_in (List.mem_of_getElem? (i := 565) (by decide +kernel)) rfl, jv_in (List.mem_of_getElem? (i := 566) (by decide +kernel)) rfl, jv_in (List.mem_of_getElem? (i := 567) (by decide +kernel)) rfl, _, rfl, rfl⟩
theorem ml_S_68 : jv_MV "HaltRing$State" 68 8 mt_U_copyFrom 1 := ⟨ok_U_copyFrom, jv_in (List.mem_of_getElem? (i := 570) (by decide +kernel)) rfl, jv_in (List.mem_of_getElem? (i := 571) (by decide +kernel)) rfl, jv_in (List.mem_of_getElem? (i := 572) (by decide +kernel)) rfl, _, rfl, rfl⟩
theorem ml_R_82 : jv_MV "HaltRing" 82 3 mt_A_forget 0 := ⟨ok_A_forget, jv_in (List.mem_of_getElem? (i := 575) (by decide +kernel)) rfl, jv_in (List.mem_of_getElem? (i := 576) (by decide +kernel)) rfl, jv_in (List.mem_of_getElem? (i := 577) (by decide +kernel)) rfl, _, rfl, rfl⟩
theorem ml_L_31 : jv_MV "HaltRingLaw" 31 9 mt_R_hart 2 := ⟨ok_R_hart, jv_in (List.mem_of_getElem? (i := 579) (by decide +kernel)) rfl, jv_in (List.mem_of_getElem? (i := 580) (by decide +kernel)) rfl, jv_in (List.mem_of_getElem? (i := 581) (by decide +kernel)) rfl, _, rfl, rfl⟩
theorem ml_R_88 : jv_MV "HaltRing" 88 9 mt_R_isHart 1 := ⟨ok_R_isHart, jv_in (List.mem_of_getElem? (i := 583) (by decide +kernel)) rfl, jv_in (List.mem_of_getElem? (i := 585) (by decide +kernel)) rfl, jv_in (List.mem_of_getElem? (i := 0) (by decide +kernel)) rfl, _, rfl, rfl⟩
theorem ml_R_111 : jv_MS "HaltRing" 111 mt_R_isBelow 2 := ⟨ok_R_isBelow, jv_in (List.mem_of_getElem? (i := 587) (by decide +kernel)) rfl, jv_in (List.mem_of_getElem? (i := 405) (by decide +kernel)) rfl⟩
theorem ml_R_95 : jv_MV "HaltRing" 95 1 mt_H_property 1 := ⟨ok_H_property, jv_in (List.mem_of_getElem? (i := 588) (by decide +kernel)) rfl, jv_in (List.mem_of_getElem? (i := 589) (by decide +kernel)) rfl, jv_in (List.mem_of_getElem? (i := 590) (by decide +kernel)) rfl, _, rfl, rfl⟩
theorem ml_L_36 : jv_MV "HaltRingLaw" 36 9 mt_R_trigger 2 := ⟨ok_R_trigger, jv_in (List.mem_of_getElem? (i := 593) (by decide +kernel)) rfl, jv_in (List.mem_of_getElem? (i := 594) (by decide +kernel)) rfl, jv_in (List.mem_of_getElem? (i := 595) (by decide +kernel)) rfl, _, rfl, rfl⟩
theorem ml_R_101 : jv_MV "HaltRing" 101 9 mt_R_isTrigger 1 := ⟨ok_R_isTrigger, jv_in (List.mem_of_getElem? (i := 597) (by decide +kernel)) rfl, jv_in (List.mem_of_getElem? (i := 599) (by decide +kernel)) rfl, jv_in (List.mem_of_getElem? (i := 1) (by decide +kernel)) rfl, _, rfl, rfl⟩
theorem ml_R_108 : jv_MV "HaltRing" 108 8 mt_U_property 1 := ⟨ok_U_property, jv_in (List.mem_of_getElem? (i := 601) (by decide +kernel)) rfl, jv_in (List.mem_of_getElem? (i := 602) (by decide +kernel)) rfl, jv_in (List.mem_of_getElem? (i := 603) (by decide +kernel)) rfl, _, rfl, rfl⟩
theorem ml_L_40 : jv_MV "HaltRingLaw" 40 9 mt_R_cell 1 := ⟨ok_R_cell, jv_in (List.mem_of_getElem? (i := 605) (by decide +kernel)) rfl, jv_in (List.mem_of_getElem? (i := 606) (by decide +kernel)) rfl, jv_in (List.mem_of_getElem? (i := 607) (by decide +kernel)) rfl, _, rfl, rfl⟩
theorem ml_L_44 : jv_MV "HaltRingLaw" 44 9 mt_R_order 2 := ⟨ok_R_order, jv_in (List.mem_of_getElem? (i := 609) (by decide +kernel)) rfl, jv_in (List.mem_of_getElem? (i := 610) (by decide +kernel)) rfl, jv_in (List.mem_of_getElem? (i := 611) (by decide +kernel)) rfl, _, rfl, rfl⟩
theorem ml_R_131 : jv_MV "HaltRing" 131 2 mt_O_property 1 := ⟨ok_O_property, jv_in (List.mem_of_getElem? (i := 613) (by decide +kernel)) rfl, jv_in (List.mem_of_getElem? (i := 614) (by decide +kernel)) rfl, jv_in (List.mem_of_getElem? (i := 615) (by decide +kernel)) rfl, _, rfl, rfl⟩
theorem ml_L_48 : jv_MV "HaltRingLaw" 48 9 mt_R_tick 1 := ⟨ok_R_tick, jv_in (List.mem_of_getElem? (i := 617) (by decide +kernel)) rfl, jv_in (List.mem_of_getElem? (i := 618) (by decide +kernel)) rfl, jv_in (List.mem_of_getElem? (i := 619) (by decide +kernel)) rfl, _, rfl, rfl⟩
theorem ml_R_134 : jv_MV "HaltRing" 134 3 mt_A_push 1 := ⟨ok_A_push, jv_in (List.mem_of_getElem? (i := 621) (by decide +kernel)) rfl, jv_in (List.mem_of_getElem? (i := 622) (by decide +kernel)) rfl, jv_in (List.mem_of_getElem? (i := 623) (by decide +kernel)) rfl, _, rfl, rfl⟩
theorem ml_A_25 : jv_MV "HaltRing$Past" 25 6 mt_S_copyFrom 1 := ⟨ok_S_copyFrom, jv_in (List.mem_of_getElem? (i := 625) (by decide +kernel)) rfl, jv_in (List.mem_of_getElem? (i := 553) (by decide +kernel)) rfl, jv_in (List.mem_of_getElem? (i := 554) (by decide +kernel)) rfl, _, rfl, rfl⟩
theorem ml_A_29 : jv_MS "HaltRing$Past" 29 mt_JM_min 2 := ⟨ok_JM_min, jv_in (List.mem_of_getElem? (i := 626) (by decide +kernel)) rfl, jv_in (List.mem_of_getElem? (i := 452) (by decide +kernel)) rfl⟩
theorem ml_R_137 : jv_MV "HaltRing" 137 6 mt_S_pass 2 := ⟨ok_S_pass, jv_in (List.mem_of_getElem? (i := 627) (by decide +kernel)) rfl, jv_in (List.mem_of_getElem? (i := 628) (by decide +kernel)) rfl, jv_in (List.mem_of_getElem? (i := 629) (by decide +kernel)) rfl, _, rfl, rfl⟩
theorem ml_S_83 : jv_MV "HaltRing$State" 83 6 mt_S_haltedSet 0 := ⟨ok_S_haltedSet, jv_in (List.mem_of_getElem? (i := 631) (by decide +kernel)) rfl, jv_in (List.mem_of_getElem? (i := 632) (by decide +kernel)) rfl, jv_in (List.mem_of_getElem? (i := 633) (by decide +kernel)) rfl, _, rfl, rfl⟩
theorem ml_S_97 : jv_MV "HaltRing$State" 97 6 mt_S_moveOrders 0 := ⟨ok_S_moveOrders, jv_in (List.mem_of_getElem? (i := 635) (by decide +kernel)) rfl, jv_in (List.mem_of_getElem? (i := 636) (by decide +kernel)) rfl, jv_in (List.mem_of_getElem? (i := 637) (by decide +kernel)) rfl, _, rfl, rfl⟩
theorem ml_S_126 : jv_MV "HaltRing$State" 126 6 mt_S_reach 1 := ⟨ok_S_reach, jv_in (List.mem_of_getElem? (i := 639) (by decide +kernel)) rfl, jv_in (List.mem_of_getElem? (i := 640) (by decide +kernel)) rfl, jv_in (List.mem_of_getElem? (i := 641) (by decide +kernel)) rfl, _, rfl, rfl⟩
theorem ml_S_137 : jv_MV "HaltRing$State" 137 2 mt_O_isAbstract 0 := ⟨ok_O_isAbstract, jv_in (List.mem_of_getElem? (i := 643) (by decide +kernel)) rfl, jv_in (List.mem_of_getElem? (i := 644) (by decide +kernel)) rfl, jv_in (List.mem_of_getElem? (i := 645) (by decide +kernel)) rfl, _, rfl, rfl⟩
theorem ml_S_147 : jv_MV "HaltRing$State" 147 1 mt_H_halt 1 := ⟨ok_H_halt, jv_in (List.mem_of_getElem? (i := 647) (by decide +kernel)) rfl, jv_in (List.mem_of_getElem? (i := 648) (by decide +kernel)) rfl, jv_in (List.mem_of_getElem? (i := 649) (by decide +kernel)) rfl, _, rfl, rfl⟩
theorem ml_S_150 : jv_MV "HaltRing$State" 150 1 mt_H_resume 0 := ⟨ok_H_resume, jv_in (List.mem_of_getElem? (i := 651) (by decide +kernel)) rfl, jv_in (List.mem_of_getElem? (i := 652) (by decide +kernel)) rfl, jv_in (List.mem_of_getElem? (i := 653) (by decide +kernel)) rfl, _, rfl, rfl⟩
theorem ml_S_153 : jv_MV "HaltRing$State" 153 6 mt_S_restart 1 := ⟨ok_S_restart, jv_in (List.mem_of_getElem? (i := 655) (by decide +kernel)) rfl, jv_in (List.mem_of_getElem? (i := 656) (by decide +kernel)) rfl, jv_in (List.mem_of_getElem? (i := 657) (by decide +kernel)) rfl, _, rfl, rfl⟩
theorem ml_S_167 : jv_MV "HaltRing$State" 167 6 mt_S_runBuffer 1 := ⟨ok_S_runBuffer, jv_in (List.mem_of_getElem? (i := 659) (by decide +kernel)) rfl, jv_in (List.mem_of_getElem? (i := 660) (by decide +kernel)) rfl, jv_in (List.mem_of_getElem? (i := 661) (by decide +kernel)) rfl, _, rfl, rfl⟩
theorem ml_S_180 : jv_MV "HaltRing$State" 180 6 mt_S_calculate 4 := ⟨ok_S_calculate, jv_in (List.mem_of_getElem? (i := 663) (by decide +kernel)) rfl, jv_in (List.mem_of_getElem? (i := 664) (by decide +kernel)) rfl, jv_in (List.mem_of_getElem? (i := 665) (by decide +kernel)) rfl, _, rfl, rfl⟩
theorem ml_S_130 : jv_MV "HaltRing$State" 130 0 mt_D_finish 1 := ⟨ok_D_finish, jv_in (List.mem_of_getElem? (i := 667) (by decide +kernel)) rfl, jv_in (List.mem_of_getElem? (i := 668) (by decide +kernel)) rfl, jv_in (List.mem_of_getElem? (i := 669) (by decide +kernel)) rfl, _, rfl, rfl⟩
theorem ml_S_133 : jv_MV "HaltRing$State" 133 0 mt_D_moveForward 2 := ⟨ok_D_moveForward, jv_in (List.mem_of_getElem? (i := 671) (by decide +kernel)) rfl, jv_in (List.mem_of_getElem? (i := 672) (by decide +kernel)) rfl, jv_in (List.mem_of_getElem? (i := 673) (by decide +kernel)) rfl, _, rfl, rfl⟩
theorem ml_S_100 : jv_MV "HaltRing$State" 100 6 mt_S_step 2 := ⟨ok_S_step, jv_in (List.mem_of_getElem? (i := 675) (by decide +kernel)) rfl, jv_in (List.mem_of_getElem? (i := 676) (by decide +kernel)) rfl, jv_in (List.mem_of_getElem? (i := 677) (by decide +kernel)) rfl, _, rfl, rfl⟩
theorem ml_S_192 : jv_MV "HaltRing$State" 192 6 mt_S_isStopped 1 := ⟨ok_S_isStopped, jv_in (List.mem_of_getElem? (i := 679) (by decide +kernel)) rfl, jv_in (List.mem_of_getElem? (i := 680) (by decide +kernel)) rfl, jv_in (List.mem_of_getElem? (i := 681) (by decide +kernel)) rfl, _, rfl, rfl⟩
theorem ml_S_208 : jv_MV "HaltRing$State" 208 8 mt_U_matches 1 := ⟨ok_U_matches, jv_in (List.mem_of_getElem? (i := 683) (by decide +kernel)) rfl, jv_in (List.mem_of_getElem? (i := 684) (by decide +kernel)) rfl, jv_in (List.mem_of_getElem? (i := 685) (by decide +kernel)) rfl, _, rfl, rfl⟩
theorem ml_S_212 : jv_MV "HaltRing$State" 212 6 mt_S_isJoined 1 := ⟨ok_S_isJoined, jv_in (List.mem_of_getElem? (i := 687) (by decide +kernel)) rfl, jv_in (List.mem_of_getElem? (i := 688) (by decide +kernel)) rfl, jv_in (List.mem_of_getElem? (i := 689) (by decide +kernel)) rfl, _, rfl, rfl⟩
theorem ml_S_215 : jv_MV "HaltRing$State" 215 8 mt_U_countsDown 0 := ⟨ok_U_countsDown, jv_in (List.mem_of_getElem? (i := 691) (by decide +kernel)) rfl, jv_in (List.mem_of_getElem? (i := 692) (by decide +kernel)) rfl, jv_in (List.mem_of_getElem? (i := 693) (by decide +kernel)) rfl, _, rfl, rfl⟩
theorem ml_S_205 : jv_MV "HaltRing$State" 205 1 mt_H_sleep 0 := ⟨ok_H_sleep, jv_in (List.mem_of_getElem? (i := 695) (by decide +kernel)) rfl, jv_in (List.mem_of_getElem? (i := 696) (by decide +kernel)) rfl, jv_in (List.mem_of_getElem? (i := 697) (by decide +kernel)) rfl, _, rfl, rfl⟩
theorem ml_S_104 : jv_MV "HaltRing$State" 104 6 mt_S_spreadHalts 1 := ⟨ok_S_spreadHalts, jv_in (List.mem_of_getElem? (i := 699) (by decide +kernel)) rfl, jv_in (List.mem_of_getElem? (i := 700) (by decide +kernel)) rfl, jv_in (List.mem_of_getElem? (i := 701) (by decide +kernel)) rfl, _, rfl, rfl⟩
theorem ml_S_108 : jv_MV "HaltRing$State" 108 6 mt_S_wakeAll 0 := ⟨ok_S_wakeAll, jv_in (List.mem_of_getElem? (i := 703) (by decide +kernel)) rfl, jv_in (List.mem_of_getElem? (i := 704) (by decide +kernel)) rfl, jv_in (List.mem_of_getElem? (i := 705) (by decide +kernel)) rfl, _, rfl, rfl⟩
theorem ml_S_221 : jv_MV "HaltRing$State" 221 1 mt_H_wake 0 := ⟨ok_H_wake, jv_in (List.mem_of_getElem? (i := 707) (by decide +kernel)) rfl, jv_in (List.mem_of_getElem? (i := 708) (by decide +kernel)) rfl, jv_in (List.mem_of_getElem? (i := 709) (by decide +kernel)) rfl, _, rfl, rfl⟩
theorem ml_R_141 : jv_MV "HaltRing" 141 6 mt_S_haltedCount 0 := ⟨ok_S_haltedCount, jv_in (List.mem_of_getElem? (i := 711) (by decide +kernel)) rfl, jv_in (List.mem_of_getElem? (i := 712) (by decide +kernel)) rfl, jv_in (List.mem_of_getElem? (i := 713) (by decide +kernel)) rfl, _, rfl, rfl⟩
theorem ml_S_87 : jv_MS "HaltRing$State" 87 mt_JI_bitCount 1 := ⟨ok_JI_bitCount, jv_in (List.mem_of_getElem? (i := 715) (by decide +kernel)) rfl, jv_in (List.mem_of_getElem? (i := 716) (by decide +kernel)) rfl⟩
theorem ml_L_52 : jv_MV "HaltRingLaw" 52 9 mt_R_send 4 := ⟨ok_R_send, jv_in (List.mem_of_getElem? (i := 721) (by decide +kernel)) rfl, jv_in (List.mem_of_getElem? (i := 722) (by decide +kernel)) rfl, jv_in (List.mem_of_getElem? (i := 723) (by decide +kernel)) rfl, _, rfl, rfl⟩
theorem ml_R_144 : jv_MV "HaltRing" 144 0 mt_D_accept 4 := ⟨ok_D_accept, jv_in (List.mem_of_getElem? (i := 725) (by decide +kernel)) rfl, jv_in (List.mem_of_getElem? (i := 726) (by decide +kernel)) rfl, jv_in (List.mem_of_getElem? (i := 727) (by decide +kernel)) rfl, _, rfl, rfl⟩
theorem ml_D_42 : jv_MV "HaltRing$DebugModule" 42 0 mt_D_hasAbstract 0 := ⟨ok_D_hasAbstract, jv_in (List.mem_of_getElem? (i := 729) (by decide +kernel)) rfl, jv_in (List.mem_of_getElem? (i := 730) (by decide +kernel)) rfl, jv_in (List.mem_of_getElem? (i := 731) (by decide +kernel)) rfl, _, rfl, rfl⟩
theorem ml_D_50 : jv_MV "HaltRing$DebugModule" 50 2 mt_O_isAbstract 0 := ⟨ok_O_isAbstract, jv_in (List.mem_of_getElem? (i := 733) (by decide +kernel)) rfl, jv_in (List.mem_of_getElem? (i := 644) (by decide +kernel)) rfl, jv_in (List.mem_of_getElem? (i := 645) (by decide +kernel)) rfl, _, rfl, rfl⟩
theorem ml_D_46 : jv_MV "HaltRing$DebugModule" 46 0 mt_D_append 4 := ⟨ok_D_append, jv_in (List.mem_of_getElem? (i := 734) (by decide +kernel)) rfl, jv_in (List.mem_of_getElem? (i := 735) (by decide +kernel)) rfl, jv_in (List.mem_of_getElem? (i := 736) (by decide +kernel)) rfl, _, rfl, rfl⟩
theorem ml_L_57 : jv_MV "HaltRingLaw" 57 9 mt_R_set 6 := ⟨ok_R_set, jv_in (List.mem_of_getElem? (i := 738) (by decide +kernel)) rfl, jv_in (List.mem_of_getElem? (i := 739) (by decide +kernel)) rfl, jv_in (List.mem_of_getElem? (i := 740) (by decide +kernel)) rfl, _, rfl, rfl⟩
theorem ml_R_154 : jv_MV "HaltRing" 154 8 mt_U_become 5 := ⟨ok_U_become, jv_in (List.mem_of_getElem? (i := 742) (by decide +kernel)) rfl, jv_in (List.mem_of_getElem? (i := 537) (by decide +kernel)) rfl, jv_in (List.mem_of_getElem? (i := 538) (by decide +kernel)) rfl, _, rfl, rfl⟩
theorem ml_L_62 : jv_MV "HaltRingLaw" 62 9 mt_R_buffer 2 := ⟨ok_R_buffer, jv_in (List.mem_of_getElem? (i := 743) (by decide +kernel)) rfl, jv_in (List.mem_of_getElem? (i := 744) (by decide +kernel)) rfl, jv_in (List.mem_of_getElem? (i := 745) (by decide +kernel)) rfl, _, rfl, rfl⟩
theorem ml_R_158 : jv_MS "HaltRing" 158 mt_R_isBuffered 1 := ⟨ok_R_isBuffered, jv_in (List.mem_of_getElem? (i := 747) (by decide +kernel)) rfl, jv_in (List.mem_of_getElem? (i := 748) (by decide +kernel)) rfl⟩
theorem ml_R_244 : jv_MS "HaltRing" 244 mt_JM_min 2 := ⟨ok_JM_min, jv_in (List.mem_of_getElem? (i := 751) (by decide +kernel)) rfl, jv_in (List.mem_of_getElem? (i := 452) (by decide +kernel)) rfl⟩
theorem ml_R_249 : jv_MS "HaltRing" 249 mt_JM_max 2 := ⟨ok_JM_max, jv_in (List.mem_of_getElem? (i := 752) (by decide +kernel)) rfl, jv_in (List.mem_of_getElem? (i := 449) (by decide +kernel)) rfl⟩
theorem ml_R_252 : jv_MS "HaltRing" 252 mt_P_hasRegister 1 := ⟨ok_P_hasRegister, jv_in (List.mem_of_getElem? (i := 753) (by decide +kernel)) rfl, jv_in (List.mem_of_getElem? (i := 507) (by decide +kernel)) rfl⟩
theorem ml_L_66 : jv_MV "HaltRingLaw" 66 9 mt_R_clear 0 := ⟨ok_R_clear, jv_in (List.mem_of_getElem? (i := 754) (by decide +kernel)) rfl, jv_in (List.mem_of_getElem? (i := 755) (by decide +kernel)) rfl, jv_in (List.mem_of_getElem? (i := 756) (by decide +kernel)) rfl, _, rfl, rfl⟩
theorem ml_L_70 : jv_MV "HaltRingLaw" 70 9 mt_R_poke 2 := ⟨ok_R_poke, jv_in (List.mem_of_getElem? (i := 758) (by decide +kernel)) rfl, jv_in (List.mem_of_getElem? (i := 759) (by decide +kernel)) rfl, jv_in (List.mem_of_getElem? (i := 760) (by decide +kernel)) rfl, _, rfl, rfl⟩
theorem ml_L_74 : jv_MV "HaltRingLaw" 74 9 mt_R_undo 0 := ⟨ok_R_undo, jv_in (List.mem_of_getElem? (i := 762) (by decide +kernel)) rfl, jv_in (List.mem_of_getElem? (i := 763) (by decide +kernel)) rfl, jv_in (List.mem_of_getElem? (i := 764) (by decide +kernel)) rfl, _, rfl, rfl⟩
theorem ml_R_164 : jv_MV "HaltRing" 164 3 mt_A_popInto 1 := ⟨ok_A_popInto, jv_in (List.mem_of_getElem? (i := 766) (by decide +kernel)) rfl, jv_in (List.mem_of_getElem? (i := 767) (by decide +kernel)) rfl, jv_in (List.mem_of_getElem? (i := 768) (by decide +kernel)) rfl, _, rfl, rfl⟩
theorem ml_L_78 : jv_MV "HaltRingLaw" 78 9 mt_R_ahead 3 := ⟨ok_R_ahead, jv_in (List.mem_of_getElem? (i := 770) (by decide +kernel)) rfl, jv_in (List.mem_of_getElem? (i := 771) (by decide +kernel)) rfl, jv_in (List.mem_of_getElem? (i := 772) (by decide +kernel)) rfl, _, rfl, rfl⟩
theorem ml_L_83 : jv_MV "HaltRingLaw" 83 9 mt_R_halts 1 := ⟨ok_R_halts, jv_in (List.mem_of_getElem? (i := 774) (by decide +kernel)) rfl, jv_in (List.mem_of_getElem? (i := 775) (by decide +kernel)) rfl, jv_in (List.mem_of_getElem? (i := 776) (by decide +kernel)) rfl, _, rfl, rfl⟩
theorem ml_R_171 : jv_MV "HaltRing" 171 9 mt_R_ticksUntilHalted 2 := ⟨ok_R_ticksUntilHalted, jv_in (List.mem_of_getElem? (i := 778) (by decide +kernel)) rfl, jv_in (List.mem_of_getElem? (i := 780) (by decide +kernel)) rfl, jv_in (List.mem_of_getElem? (i := 2) (by decide +kernel)) rfl, _, rfl, rfl⟩
theorem ml_R_235 : jv_MV "HaltRing" 235 6 mt_S_haltedSet 0 := ⟨ok_S_haltedSet, jv_in (List.mem_of_getElem? (i := 782) (by decide +kernel)) rfl, jv_in (List.mem_of_getElem? (i := 632) (by decide +kernel)) rfl, jv_in (List.mem_of_getElem? (i := 633) (by decide +kernel)) rfl, _, rfl, rfl⟩
theorem ml_L_87 : jv_MV "HaltRingLaw" 87 9 mt_R_soonest 1 := ⟨ok_R_soonest, jv_in (List.mem_of_getElem? (i := 783) (by decide +kernel)) rfl, jv_in (List.mem_of_getElem? (i := 784) (by decide +kernel)) rfl, jv_in (List.mem_of_getElem? (i := 785) (by decide +kernel)) rfl, _, rfl, rfl⟩
theorem ml_L_91 : jv_MV "HaltRingLaw" 91 9 mt_R_all 1 := ⟨ok_R_all, jv_in (List.mem_of_getElem? (i := 787) (by decide +kernel)) rfl, jv_in (List.mem_of_getElem? (i := 788) (by decide +kernel)) rfl, jv_in (List.mem_of_getElem? (i := 789) (by decide +kernel)) rfl, _, rfl, rfl⟩
theorem ml_R_178 : jv_MV "HaltRing" 178 6 mt_S_everyHart 0 := ⟨ok_S_everyHart, jv_in (List.mem_of_getElem? (i := 791) (by decide +kernel)) rfl, jv_in (List.mem_of_getElem? (i := 792) (by decide +kernel)) rfl, jv_in (List.mem_of_getElem? (i := 793) (by decide +kernel)) rfl, _, rfl, rfl⟩
theorem ml_R_181 : jv_MV "HaltRing" 181 9 mt_R_ticksWithHalts 2 := ⟨ok_R_ticksWithHalts, jv_in (List.mem_of_getElem? (i := 795) (by decide +kernel)) rfl, jv_in (List.mem_of_getElem? (i := 797) (by decide +kernel)) rfl, jv_in (List.mem_of_getElem? (i := 3) (by decide +kernel)) rfl, _, rfl, rfl⟩
theorem ml_R_255 : jv_MV "HaltRing" 255 0 mt_D_append 4 := ⟨ok_D_append, jv_in (List.mem_of_getElem? (i := 799) (by decide +kernel)) rfl, jv_in (List.mem_of_getElem? (i := 735) (by decide +kernel)) rfl, jv_in (List.mem_of_getElem? (i := 736) (by decide +kernel)) rfl, _, rfl, rfl⟩
theorem ml_L_95 : jv_MV "HaltRingLaw" 95 9 mt_R_crew 0 := ⟨ok_R_crew, jv_in (List.mem_of_getElem? (i := 800) (by decide +kernel)) rfl, jv_in (List.mem_of_getElem? (i := 801) (by decide +kernel)) rfl, jv_in (List.mem_of_getElem? (i := 802) (by decide +kernel)) rfl, _, rfl, rfl⟩
theorem ml_R_184 : jv_MS "HaltRing" 184 mt_JI_bitCount 1 := ⟨ok_JI_bitCount, jv_in (List.mem_of_getElem? (i := 804) (by decide +kernel)) rfl, jv_in (List.mem_of_getElem? (i := 716) (by decide +kernel)) rfl⟩
theorem ml_L_101 : jv_MV "HaltRingLaw" 101 9 mt_R_judge 2 := ⟨ok_R_judge, jv_in (List.mem_of_getElem? (i := 805) (by decide +kernel)) rfl, jv_in (List.mem_of_getElem? (i := 806) (by decide +kernel)) rfl, jv_in (List.mem_of_getElem? (i := 807) (by decide +kernel)) rfl, _, rfl, rfl⟩
theorem ml_R_190 : jv_MS "HaltRing" 190 mt_R_power 2 := ⟨ok_R_power, jv_in (List.mem_of_getElem? (i := 810) (by decide +kernel)) rfl, jv_in (List.mem_of_getElem? (i := 811) (by decide +kernel)) rfl⟩
theorem ml_R_196 : jv_MV "HaltRing" 196 9 mt_R_holdsInTrial 1 := ⟨ok_R_holdsInTrial, jv_in (List.mem_of_getElem? (i := 814) (by decide +kernel)) rfl, jv_in (List.mem_of_getElem? (i := 816) (by decide +kernel)) rfl, jv_in (List.mem_of_getElem? (i := 4) (by decide +kernel)) rfl, _, rfl, rfl⟩
theorem ml_R_258 : jv_MV "HaltRing" 258 9 mt_R_isSentInTrial 2 := ⟨ok_R_isSentInTrial, jv_in (List.mem_of_getElem? (i := 819) (by decide +kernel)) rfl, jv_in (List.mem_of_getElem? (i := 821) (by decide +kernel)) rfl, jv_in (List.mem_of_getElem? (i := 5) (by decide +kernel)) rfl, _, rfl, rfl⟩
theorem ml_L_106 : jv_MV "HaltRingLaw" 106 9 mt_R_see 3 := ⟨ok_R_see, jv_in (List.mem_of_getElem? (i := 823) (by decide +kernel)) rfl, jv_in (List.mem_of_getElem? (i := 824) (by decide +kernel)) rfl, jv_in (List.mem_of_getElem? (i := 825) (by decide +kernel)) rfl, _, rfl, rfl⟩
theorem ml_R_199 : jv_MS "HaltRing" 199 mt_G_range 1 := ⟨ok_G_range, jv_in (List.mem_of_getElem? (i := 827) (by decide +kernel)) rfl, jv_in (List.mem_of_getElem? (i := 828) (by decide +kernel)) rfl⟩
theorem ml_R_202 : jv_MV "HaltRing" 202 5 mt_G_append 3 := ⟨ok_G_append, jv_in (List.mem_of_getElem? (i := 830) (by decide +kernel)) rfl, jv_in (List.mem_of_getElem? (i := 831) (by decide +kernel)) rfl, jv_in (List.mem_of_getElem? (i := 832) (by decide +kernel)) rfl, _, rfl, rfl⟩
theorem ml_L_110 : jv_MV "HaltRingLaw" 110 9 mt_R_unsee 0 := ⟨ok_R_unsee, jv_in (List.mem_of_getElem? (i := 834) (by decide +kernel)) rfl, jv_in (List.mem_of_getElem? (i := 835) (by decide +kernel)) rfl, jv_in (List.mem_of_getElem? (i := 836) (by decide +kernel)) rfl, _, rfl, rfl⟩
theorem ml_L_114 : jv_MV "HaltRingLaw" 114 9 mt_R_which 0 := ⟨ok_R_which, jv_in (List.mem_of_getElem? (i := 838) (by decide +kernel)) rfl, jv_in (List.mem_of_getElem? (i := 839) (by decide +kernel)) rfl, jv_in (List.mem_of_getElem? (i := 840) (by decide +kernel)) rfl, _, rfl, rfl⟩
theorem ml_R_206 : jv_MV "HaltRing" 206 5 mt_G_allow 2 := ⟨ok_G_allow, jv_in (List.mem_of_getElem? (i := 842) (by decide +kernel)) rfl, jv_in (List.mem_of_getElem? (i := 843) (by decide +kernel)) rfl, jv_in (List.mem_of_getElem? (i := 844) (by decide +kernel)) rfl, _, rfl, rfl⟩
theorem ml_G_25 : jv_MS "HaltRing$Sights" 25 mt_G_seen 2 := ⟨ok_G_seen, jv_in (List.mem_of_getElem? (i := 846) (by decide +kernel)) rfl, jv_in (List.mem_of_getElem? (i := 847) (by decide +kernel)) rfl⟩
theorem ml_L_118 : jv_MV "HaltRingLaw" 118 9 mt_R_share 2 := ⟨ok_R_share, jv_in (List.mem_of_getElem? (i := 849) (by decide +kernel)) rfl, jv_in (List.mem_of_getElem? (i := 850) (by decide +kernel)) rfl, jv_in (List.mem_of_getElem? (i := 851) (by decide +kernel)) rfl, _, rfl, rfl⟩
theorem ml_R_213 : jv_MV "HaltRing" 213 9 mt_R_worth 1 := ⟨ok_R_worth, jv_in (List.mem_of_getElem? (i := 853) (by decide +kernel)) rfl, jv_in (List.mem_of_getElem? (i := 855) (by decide +kernel)) rfl, jv_in (List.mem_of_getElem? (i := 6) (by decide +kernel)) rfl, _, rfl, rfl⟩
theorem ml_R_219 : jv_MS "HaltRing" 219 mt_R_part 3 := ⟨ok_R_part, jv_in (List.mem_of_getElem? (i := 859) (by decide +kernel)) rfl, jv_in (List.mem_of_getElem? (i := 860) (by decide +kernel)) rfl⟩
theorem ml_R_277 : jv_MS "HaltRing" 277 mt_JM_abs 1 := ⟨ok_JM_abs, jv_in (List.mem_of_getElem? (i := 862) (by decide +kernel)) rfl, jv_in (List.mem_of_getElem? (i := 863) (by decide +kernel)) rfl⟩
theorem ml_L_123 : jv_MV "HaltRingLaw" 123 9 mt_R_lost 2 := ⟨ok_R_lost, jv_in (List.mem_of_getElem? (i := 865) (by decide +kernel)) rfl, jv_in (List.mem_of_getElem? (i := 866) (by decide +kernel)) rfl, jv_in (List.mem_of_getElem? (i := 867) (by decide +kernel)) rfl, _, rfl, rfl⟩
theorem ml_R_223 : jv_MV "HaltRing" 223 9 mt_R_endsHaltedWithout 1 := ⟨ok_R_endsHaltedWithout, jv_in (List.mem_of_getElem? (i := 869) (by decide +kernel)) rfl, jv_in (List.mem_of_getElem? (i := 871) (by decide +kernel)) rfl, jv_in (List.mem_of_getElem? (i := 7) (by decide +kernel)) rfl, _, rfl, rfl⟩
theorem ml_R_273 : jv_MV "HaltRing" 273 0 mt_D_lose 1 := ⟨ok_D_lose, jv_in (List.mem_of_getElem? (i := 873) (by decide +kernel)) rfl, jv_in (List.mem_of_getElem? (i := 874) (by decide +kernel)) rfl, jv_in (List.mem_of_getElem? (i := 875) (by decide +kernel)) rfl, _, rfl, rfl⟩
theorem ml_D_74 : jv_MV "HaltRing$DebugModule" 74 0 mt_D_moveForward 2 := ⟨ok_D_moveForward, jv_in (List.mem_of_getElem? (i := 877) (by decide +kernel)) rfl, jv_in (List.mem_of_getElem? (i := 672) (by decide +kernel)) rfl, jv_in (List.mem_of_getElem? (i := 673) (by decide +kernel)) rfl, _, rfl, rfl⟩
theorem ml_L_127 : jv_MV "HaltRingLaw" 127 9 mt_R_seed 1 := ⟨ok_R_seed, jv_in (List.mem_of_getElem? (i := 878) (by decide +kernel)) rfl, jv_in (List.mem_of_getElem? (i := 879) (by decide +kernel)) rfl, jv_in (List.mem_of_getElem? (i := 880) (by decide +kernel)) rfl, _, rfl, rfl⟩
theorem ml_L_132 : jv_MV "HaltRingLaw" 132 9 mt_R_drawn 1 := ⟨ok_R_drawn, jv_in (List.mem_of_getElem? (i := 882) (by decide +kernel)) rfl, jv_in (List.mem_of_getElem? (i := 883) (by decide +kernel)) rfl, jv_in (List.mem_of_getElem? (i := 884) (by decide +kernel)) rfl, _, rfl, rfl⟩
theorem ml_L_136 : jv_MV "HaltRingLaw" 136 9 mt_R_keep 1 := ⟨ok_R_keep, jv_in (List.mem_of_getElem? (i := 888) (by decide +kernel)) rfl, jv_in (List.mem_of_getElem? (i := 889) (by decide +kernel)) rfl, jv_in (List.mem_of_getElem? (i := 890) (by decide +kernel)) rfl, _, rfl, rfl⟩
theorem ml_L_140 : jv_MV "HaltRingLaw" 140 9 mt_R_again 1 := ⟨ok_R_again, jv_in (List.mem_of_getElem? (i := 892) (by decide +kernel)) rfl, jv_in (List.mem_of_getElem? (i := 893) (by decide +kernel)) rfl, jv_in (List.mem_of_getElem? (i := 894) (by decide +kernel)) rfl, _, rfl, rfl⟩
theorem ml_L_144 : jv_MV "HaltRingLaw" 144 9 mt_R_count 1 := ⟨ok_R_count, jv_in (List.mem_of_getElem? (i := 896) (by decide +kernel)) rfl, jv_in (List.mem_of_getElem? (i := 897) (by decide +kernel)) rfl, jv_in (List.mem_of_getElem? (i := 898) (by decide +kernel)) rfl, _, rfl, rfl⟩
theorem ml_L_12 : jv_MI "HaltRingLaw" 12 mt_M_init 0 := ⟨ok_M_init, jv_in (List.mem_of_getElem? (i := 902) (by decide +kernel)) rfl, jv_in (List.mem_of_getElem? (i := 903) (by decide +kernel)) rfl, rfl, rfl⟩
theorem ml_L_17 : jv_MV "HaltRingLaw" 17 10 mt_M_write 1 := ⟨ok_M_write, jv_in (List.mem_of_getElem? (i := 1009) (by decide +kernel)) rfl, jv_in (List.mem_of_getElem? (i := 1010) (by decide +kernel)) rfl, jv_in (List.mem_of_getElem? (i := 1011) (by decide +kernel)) rfl, _, rfl, rfl⟩
theorem ml_M_81 : jv_MS "HaltRingModel" 81 mt_M_in 3 := ⟨ok_M_in, jv_in (List.mem_of_getElem? (i := 1014) (by decide +kernel)) rfl, jv_in (List.mem_of_getElem? (i := 1015) (by decide +kernel)) rfl⟩
theorem ml_L_22 : jv_MV "HaltRingLaw" 22 10 mt_M_wipe 0 := ⟨ok_M_wipe, jv_in (List.mem_of_getElem? (i := 1017) (by decide +kernel)) rfl, jv_in (List.mem_of_getElem? (i := 1018) (by decide +kernel)) rfl, jv_in (List.mem_of_getElem? (i := 1019) (by decide +kernel)) rfl, _, rfl, rfl⟩
theorem ml_L_26 : jv_MV "HaltRingLaw" 26 10 mt_M_fault 0 := ⟨ok_M_fault, jv_in (List.mem_of_getElem? (i := 1021) (by decide +kernel)) rfl, jv_in (List.mem_of_getElem? (i := 1022) (by decide +kernel)) rfl, jv_in (List.mem_of_getElem? (i := 1023) (by decide +kernel)) rfl, _, rfl, rfl⟩
theorem ml_M_127 : jv_MV "HaltRingModel" 127 10 mt_M_readBoard 0 := ⟨ok_M_readBoard, jv_in (List.mem_of_getElem? (i := 1025) (by decide +kernel)) rfl, jv_in (List.mem_of_getElem? (i := 1027) (by decide +kernel)) rfl, jv_in (List.mem_of_getElem? (i := 8) (by decide +kernel)) rfl, _, rfl, rfl⟩
theorem ml_M_124 : jv_MV "HaltRingModel" 124 10 mt_M_readPart 0 := ⟨ok_M_readPart, jv_in (List.mem_of_getElem? (i := 1029) (by decide +kernel)) rfl, jv_in (List.mem_of_getElem? (i := 1031) (by decide +kernel)) rfl, jv_in (List.mem_of_getElem? (i := 9) (by decide +kernel)) rfl, _, rfl, rfl⟩
theorem ml_M_113 : jv_MV "HaltRingModel" 113 10 mt_M_readInstruction 0 := ⟨ok_M_readInstruction, jv_in (List.mem_of_getElem? (i := 1033) (by decide +kernel)) rfl, jv_in (List.mem_of_getElem? (i := 1035) (by decide +kernel)) rfl, jv_in (List.mem_of_getElem? (i := 10) (by decide +kernel)) rfl, _, rfl, rfl⟩
theorem ml_M_96 : jv_MS "HaltRingModel" 96 mt_M_kindOf 1 := ⟨ok_M_kindOf, jv_in (List.mem_of_getElem? (i := 1037) (by decide +kernel)) rfl, jv_in (List.mem_of_getElem? (i := 1038) (by decide +kernel)) rfl⟩
theorem ml_M_100 : jv_MV "HaltRingModel" 100 10 mt_M_isNext 3 := ⟨ok_M_isNext, jv_in (List.mem_of_getElem? (i := 1040) (by decide +kernel)) rfl, jv_in (List.mem_of_getElem? (i := 1042) (by decide +kernel)) rfl, jv_in (List.mem_of_getElem? (i := 11) (by decide +kernel)) rfl, _, rfl, rfl⟩
theorem ml_M_104 : jv_MV "HaltRingModel" 104 10 mt_M_taken 1 := ⟨ok_M_taken, jv_in (List.mem_of_getElem? (i := 1044) (by decide +kernel)) rfl, jv_in (List.mem_of_getElem? (i := 1046) (by decide +kernel)) rfl, jv_in (List.mem_of_getElem? (i := 12) (by decide +kernel)) rfl, _, rfl, rfl⟩
theorem ml_M_117 : jv_MV "HaltRingModel" 117 10 mt_M_readHart 0 := ⟨ok_M_readHart, jv_in (List.mem_of_getElem? (i := 1048) (by decide +kernel)) rfl, jv_in (List.mem_of_getElem? (i := 1050) (by decide +kernel)) rfl, jv_in (List.mem_of_getElem? (i := 13) (by decide +kernel)) rfl, _, rfl, rfl⟩
theorem ml_M_120 : jv_MV "HaltRingModel" 120 10 mt_M_readTrigger 1 := ⟨ok_M_readTrigger, jv_in (List.mem_of_getElem? (i := 1052) (by decide +kernel)) rfl, jv_in (List.mem_of_getElem? (i := 1054) (by decide +kernel)) rfl, jv_in (List.mem_of_getElem? (i := 14) (by decide +kernel)) rfl, _, rfl, rfl⟩
theorem ml_L_30 : jv_MV "HaltRingLaw" 30 10 mt_M_board 0 := ⟨ok_M_board, jv_in (List.mem_of_getElem? (i := 1056) (by decide +kernel)) rfl, jv_in (List.mem_of_getElem? (i := 1057) (by decide +kernel)) rfl, jv_in (List.mem_of_getElem? (i := 1058) (by decide +kernel)) rfl, _, rfl, rfl⟩
theorem ml_M_131 : jv_MS "HaltRingModel" 131 mt_M_lay 2 := ⟨ok_M_lay, jv_in (List.mem_of_getElem? (i := 1060) (by decide +kernel)) rfl, jv_in (List.mem_of_getElem? (i := 1061) (by decide +kernel)) rfl⟩
theorem ml_L_35 : jv_MV "HaltRingLaw" 35 10 mt_M_hart 2 := ⟨ok_M_hart, jv_in (List.mem_of_getElem? (i := 1063) (by decide +kernel)) rfl, jv_in (List.mem_of_getElem? (i := 1064) (by decide +kernel)) rfl, jv_in (List.mem_of_getElem? (i := 1065) (by decide +kernel)) rfl, _, rfl, rfl⟩
theorem ml_M_206 : jv_MV "HaltRingModel" 206 10 mt_M_noHart 1 := ⟨ok_M_noHart, jv_in (List.mem_of_getElem? (i := 1067) (by decide +kernel)) rfl, jv_in (List.mem_of_getElem? (i := 1069) (by decide +kernel)) rfl, jv_in (List.mem_of_getElem? (i := 15) (by decide +kernel)) rfl, _, rfl, rfl⟩
theorem ml_M_212 : jv_MV "HaltRingModel" 212 10 mt_M_tellHart 3 := ⟨ok_M_tellHart, jv_in (List.mem_of_getElem? (i := 1072) (by decide +kernel)) rfl, jv_in (List.mem_of_getElem? (i := 1074) (by decide +kernel)) rfl, jv_in (List.mem_of_getElem? (i := 16) (by decide +kernel)) rfl, _, rfl, rfl⟩
theorem ml_M_202 : jv_MS "HaltRingModel" 202 mt_M_hartOf 3 := ⟨ok_M_hartOf, jv_in (List.mem_of_getElem? (i := 1076) (by decide +kernel)) rfl, jv_in (List.mem_of_getElem? (i := 1077) (by decide +kernel)) rfl⟩
theorem ml_L_39 : jv_MV "HaltRingLaw" 39 10 mt_M_trigger 2 := ⟨ok_M_trigger, jv_in (List.mem_of_getElem? (i := 1079) (by decide +kernel)) rfl, jv_in (List.mem_of_getElem? (i := 1080) (by decide +kernel)) rfl, jv_in (List.mem_of_getElem? (i := 1081) (by decide +kernel)) rfl, _, rfl, rfl⟩
theorem ml_L_43 : jv_MV "HaltRingLaw" 43 10 mt_M_cell 1 := ⟨ok_M_cell, jv_in (List.mem_of_getElem? (i := 1084) (by decide +kernel)) rfl, jv_in (List.mem_of_getElem? (i := 1085) (by decide +kernel)) rfl, jv_in (List.mem_of_getElem? (i := 1086) (by decide +kernel)) rfl, _, rfl, rfl⟩
theorem ml_L_47 : jv_MV "HaltRingLaw" 47 10 mt_M_order 2 := ⟨ok_M_order, jv_in (List.mem_of_getElem? (i := 1089) (by decide +kernel)) rfl, jv_in (List.mem_of_getElem? (i := 1090) (by decide +kernel)) rfl, jv_in (List.mem_of_getElem? (i := 1091) (by decide +kernel)) rfl, _, rfl, rfl⟩
theorem ml_L_51 : jv_MV "HaltRingLaw" 51 10 mt_M_tick 1 := ⟨ok_M_tick, jv_in (List.mem_of_getElem? (i := 1094) (by decide +kernel)) rfl, jv_in (List.mem_of_getElem? (i := 1095) (by decide +kernel)) rfl, jv_in (List.mem_of_getElem? (i := 1096) (by decide +kernel)) rfl, _, rfl, rfl⟩
theorem ml_M_223 : jv_MV "HaltRingModel" 223 10 mt_M_note 0 := ⟨ok_M_note, jv_in (List.mem_of_getElem? (i := 1099) (by decide +kernel)) rfl, jv_in (List.mem_of_getElem? (i := 1101) (by decide +kernel)) rfl, jv_in (List.mem_of_getElem? (i := 17) (by decide +kernel)) rfl, _, rfl, rfl⟩
theorem ml_M_226 : jv_MV "HaltRingModel" 226 10 mt_M_tickMany 2 := ⟨ok_M_tickMany, jv_in (List.mem_of_getElem? (i := 1103) (by decide +kernel)) rfl, jv_in (List.mem_of_getElem? (i := 1105) (by decide +kernel)) rfl, jv_in (List.mem_of_getElem? (i := 18) (by decide +kernel)) rfl, _, rfl, rfl⟩
theorem ml_M_199 : jv_MV "HaltRingModel" 199 10 mt_M_tickOn 1 := ⟨ok_M_tickOn, jv_in (List.mem_of_getElem? (i := 1107) (by decide +kernel)) rfl, jv_in (List.mem_of_getElem? (i := 1109) (by decide +kernel)) rfl, jv_in (List.mem_of_getElem? (i := 19) (by decide +kernel)) rfl, _, rfl, rfl⟩
theorem ml_M_189 : jv_MS "HaltRingModel" 189 mt_M_haltedOf 2 := ⟨ok_M_haltedOf, jv_in (List.mem_of_getElem? (i := 1111) (by decide +kernel)) rfl, jv_in (List.mem_of_getElem? (i := 1112) (by decide +kernel)) rfl⟩
theorem ml_M_192 : jv_MV "HaltRingModel" 192 10 mt_M_goRound 1 := ⟨ok_M_goRound, jv_in (List.mem_of_getElem? (i := 1114) (by decide +kernel)) rfl, jv_in (List.mem_of_getElem? (i := 1116) (by decide +kernel)) rfl, jv_in (List.mem_of_getElem? (i := 20) (by decide +kernel)) rfl, _, rfl, rfl⟩
theorem ml_M_169 : jv_MV "HaltRingModel" 169 10 mt_M_reach 2 := ⟨ok_M_reach, jv_in (List.mem_of_getElem? (i := 1118) (by decide +kernel)) rfl, jv_in (List.mem_of_getElem? (i := 1120) (by decide +kernel)) rfl, jv_in (List.mem_of_getElem? (i := 21) (by decide +kernel)) rfl, _, rfl, rfl⟩
theorem ml_M_155 : jv_MS "HaltRingModel" 155 mt_M_halt 3 := ⟨ok_M_halt, jv_in (List.mem_of_getElem? (i := 1122) (by decide +kernel)) rfl, jv_in (List.mem_of_getElem? (i := 1123) (by decide +kernel)) rfl⟩
theorem ml_M_158 : jv_MS "HaltRingModel" 158 mt_M_resume 2 := ⟨ok_M_resume, jv_in (List.mem_of_getElem? (i := 1125) (by decide +kernel)) rfl, jv_in (List.mem_of_getElem? (i := 1126) (by decide +kernel)) rfl⟩
theorem ml_M_162 : jv_MV "HaltRingModel" 162 10 mt_M_reset 2 := ⟨ok_M_reset, jv_in (List.mem_of_getElem? (i := 1128) (by decide +kernel)) rfl, jv_in (List.mem_of_getElem? (i := 1130) (by decide +kernel)) rfl, jv_in (List.mem_of_getElem? (i := 22) (by decide +kernel)) rfl, _, rfl, rfl⟩
theorem ml_M_165 : jv_MV "HaltRingModel" 165 10 mt_M_runBuffer 2 := ⟨ok_M_runBuffer, jv_in (List.mem_of_getElem? (i := 1132) (by decide +kernel)) rfl, jv_in (List.mem_of_getElem? (i := 1134) (by decide +kernel)) rfl, jv_in (List.mem_of_getElem? (i := 23) (by decide +kernel)) rfl, _, rfl, rfl⟩
theorem ml_M_148 : jv_MS "HaltRingModel" 148 mt_M_plain 1 := ⟨ok_M_plain, jv_in (List.mem_of_getElem? (i := 1136) (by decide +kernel)) rfl, jv_in (List.mem_of_getElem? (i := 1137) (by decide +kernel)) rfl⟩
theorem ml_M_151 : jv_MV "HaltRingModel" 151 10 mt_M_doPlain 3 := ⟨ok_M_doPlain, jv_in (List.mem_of_getElem? (i := 1139) (by decide +kernel)) rfl, jv_in (List.mem_of_getElem? (i := 1141) (by decide +kernel)) rfl, jv_in (List.mem_of_getElem? (i := 24) (by decide +kernel)) rfl, _, rfl, rfl⟩
theorem ml_M_172 : jv_MS "HaltRingModel" 172 mt_M_dropOrder 2 := ⟨ok_M_dropOrder, jv_in (List.mem_of_getElem? (i := 1143) (by decide +kernel)) rfl, jv_in (List.mem_of_getElem? (i := 1144) (by decide +kernel)) rfl⟩
theorem ml_M_196 : jv_MV "HaltRingModel" 196 10 mt_M_runHart 2 := ⟨ok_M_runHart, jv_in (List.mem_of_getElem? (i := 1146) (by decide +kernel)) rfl, jv_in (List.mem_of_getElem? (i := 1148) (by decide +kernel)) rfl, jv_in (List.mem_of_getElem? (i := 25) (by decide +kernel)) rfl, _, rfl, rfl⟩
theorem ml_M_186 : jv_MV "HaltRingModel" 186 10 mt_M_isCaught 2 := ⟨ok_M_isCaught, jv_in (List.mem_of_getElem? (i := 1150) (by decide +kernel)) rfl, jv_in (List.mem_of_getElem? (i := 1152) (by decide +kernel)) rfl, jv_in (List.mem_of_getElem? (i := 26) (by decide +kernel)) rfl, _, rfl, rfl⟩
theorem ml_M_179 : jv_MV "HaltRingModel" 179 10 mt_M_matches 2 := ⟨ok_M_matches, jv_in (List.mem_of_getElem? (i := 1154) (by decide +kernel)) rfl, jv_in (List.mem_of_getElem? (i := 1156) (by decide +kernel)) rfl, jv_in (List.mem_of_getElem? (i := 27) (by decide +kernel)) rfl, _, rfl, rfl⟩
theorem ml_M_175 : jv_MS "HaltRingModel" 175 mt_M_has 2 := ⟨ok_M_has, jv_in (List.mem_of_getElem? (i := 1158) (by decide +kernel)) rfl, jv_in (List.mem_of_getElem? (i := 1159) (by decide +kernel)) rfl⟩
theorem ml_M_183 : jv_MV "HaltRingModel" 183 10 mt_M_leads 2 := ⟨ok_M_leads, jv_in (List.mem_of_getElem? (i := 1161) (by decide +kernel)) rfl, jv_in (List.mem_of_getElem? (i := 1163) (by decide +kernel)) rfl, jv_in (List.mem_of_getElem? (i := 28) (by decide +kernel)) rfl, _, rfl, rfl⟩
theorem ml_M_229 : jv_MS "HaltRingModel" 229 mt_M_ones 1 := ⟨ok_M_ones, jv_in (List.mem_of_getElem? (i := 1165) (by decide +kernel)) rfl, jv_in (List.mem_of_getElem? (i := 1166) (by decide +kernel)) rfl⟩
theorem ml_L_56 : jv_MV "HaltRingLaw" 56 10 mt_M_send 4 := ⟨ok_M_send, jv_in (List.mem_of_getElem? (i := 1168) (by decide +kernel)) rfl, jv_in (List.mem_of_getElem? (i := 1169) (by decide +kernel)) rfl, jv_in (List.mem_of_getElem? (i := 1170) (by decide +kernel)) rfl, _, rfl, rfl⟩
theorem ml_M_240 : jv_MS "HaltRingModel" 240 mt_M_sendOn 5 := ⟨ok_M_sendOn, jv_in (List.mem_of_getElem? (i := 1174) (by decide +kernel)) rfl, jv_in (List.mem_of_getElem? (i := 1175) (by decide +kernel)) rfl⟩
theorem ml_M_232 : jv_MS "HaltRingModel" 232 mt_M_isAbstractOn 1 := ⟨ok_M_isAbstractOn, jv_in (List.mem_of_getElem? (i := 1177) (by decide +kernel)) rfl, jv_in (List.mem_of_getElem? (i := 1178) (by decide +kernel)) rfl⟩
theorem ml_L_61 : jv_MV "HaltRingLaw" 61 10 mt_M_set 6 := ⟨ok_M_set, jv_in (List.mem_of_getElem? (i := 1180) (by decide +kernel)) rfl, jv_in (List.mem_of_getElem? (i := 1181) (by decide +kernel)) rfl, jv_in (List.mem_of_getElem? (i := 1182) (by decide +kernel)) rfl, _, rfl, rfl⟩
theorem ml_L_65 : jv_MV "HaltRingLaw" 65 10 mt_M_buffer 2 := ⟨ok_M_buffer, jv_in (List.mem_of_getElem? (i := 1185) (by decide +kernel)) rfl, jv_in (List.mem_of_getElem? (i := 1186) (by decide +kernel)) rfl, jv_in (List.mem_of_getElem? (i := 1187) (by decide +kernel)) rfl, _, rfl, rfl⟩
theorem ml_M_248 : jv_MS "HaltRingModel" 248 mt_M_isTold 1 := ⟨ok_M_isTold, jv_in (List.mem_of_getElem? (i := 1189) (by decide +kernel)) rfl, jv_in (List.mem_of_getElem? (i := 1190) (by decide +kernel)) rfl⟩
theorem ml_L_69 : jv_MV "HaltRingLaw" 69 10 mt_M_clear 0 := ⟨ok_M_clear, jv_in (List.mem_of_getElem? (i := 1193) (by decide +kernel)) rfl, jv_in (List.mem_of_getElem? (i := 1194) (by decide +kernel)) rfl, jv_in (List.mem_of_getElem? (i := 1195) (by decide +kernel)) rfl, _, rfl, rfl⟩
theorem ml_L_73 : jv_MV "HaltRingLaw" 73 10 mt_M_poke 2 := ⟨ok_M_poke, jv_in (List.mem_of_getElem? (i := 1197) (by decide +kernel)) rfl, jv_in (List.mem_of_getElem? (i := 1198) (by decide +kernel)) rfl, jv_in (List.mem_of_getElem? (i := 1199) (by decide +kernel)) rfl, _, rfl, rfl⟩
theorem ml_L_77 : jv_MV "HaltRingLaw" 77 10 mt_M_undo 0 := ⟨ok_M_undo, jv_in (List.mem_of_getElem? (i := 1201) (by decide +kernel)) rfl, jv_in (List.mem_of_getElem? (i := 1202) (by decide +kernel)) rfl, jv_in (List.mem_of_getElem? (i := 1203) (by decide +kernel)) rfl, _, rfl, rfl⟩
theorem ml_L_82 : jv_MV "HaltRingLaw" 82 10 mt_M_ahead 3 := ⟨ok_M_ahead, jv_in (List.mem_of_getElem? (i := 1205) (by decide +kernel)) rfl, jv_in (List.mem_of_getElem? (i := 1206) (by decide +kernel)) rfl, jv_in (List.mem_of_getElem? (i := 1207) (by decide +kernel)) rfl, _, rfl, rfl⟩
theorem ml_L_86 : jv_MV "HaltRingLaw" 86 10 mt_M_halts 1 := ⟨ok_M_halts, jv_in (List.mem_of_getElem? (i := 1209) (by decide +kernel)) rfl, jv_in (List.mem_of_getElem? (i := 1210) (by decide +kernel)) rfl, jv_in (List.mem_of_getElem? (i := 1211) (by decide +kernel)) rfl, _, rfl, rfl⟩
theorem ml_M_251 : jv_MV "HaltRingModel" 251 10 mt_M_haltsOn 2 := ⟨ok_M_haltsOn, jv_in (List.mem_of_getElem? (i := 1213) (by decide +kernel)) rfl, jv_in (List.mem_of_getElem? (i := 1215) (by decide +kernel)) rfl, jv_in (List.mem_of_getElem? (i := 29) (by decide +kernel)) rfl, _, rfl, rfl⟩
theorem ml_L_90 : jv_MV "HaltRingLaw" 90 10 mt_M_soonest 1 := ⟨ok_M_soonest, jv_in (List.mem_of_getElem? (i := 1217) (by decide +kernel)) rfl, jv_in (List.mem_of_getElem? (i := 1218) (by decide +kernel)) rfl, jv_in (List.mem_of_getElem? (i := 1219) (by decide +kernel)) rfl, _, rfl, rfl⟩
theorem ml_L_94 : jv_MV "HaltRingLaw" 94 10 mt_M_all 1 := ⟨ok_M_all, jv_in (List.mem_of_getElem? (i := 1221) (by decide +kernel)) rfl, jv_in (List.mem_of_getElem? (i := 1222) (by decide +kernel)) rfl, jv_in (List.mem_of_getElem? (i := 1223) (by decide +kernel)) rfl, _, rfl, rfl⟩
theorem ml_M_254 : jv_MV "HaltRingModel" 254 10 mt_M_allBy 1 := ⟨ok_M_allBy, jv_in (List.mem_of_getElem? (i := 1225) (by decide +kernel)) rfl, jv_in (List.mem_of_getElem? (i := 1227) (by decide +kernel)) rfl, jv_in (List.mem_of_getElem? (i := 30) (by decide +kernel)) rfl, _, rfl, rfl⟩
theorem ml_L_98 : jv_MV "HaltRingLaw" 98 10 mt_M_crew 0 := ⟨ok_M_crew, jv_in (List.mem_of_getElem? (i := 1229) (by decide +kernel)) rfl, jv_in (List.mem_of_getElem? (i := 1230) (by decide +kernel)) rfl, jv_in (List.mem_of_getElem? (i := 1231) (by decide +kernel)) rfl, _, rfl, rfl⟩
theorem ml_L_105 : jv_MV "HaltRingLaw" 105 10 mt_M_judge 2 := ⟨ok_M_judge, jv_in (List.mem_of_getElem? (i := 1233) (by decide +kernel)) rfl, jv_in (List.mem_of_getElem? (i := 1234) (by decide +kernel)) rfl, jv_in (List.mem_of_getElem? (i := 1235) (by decide +kernel)) rfl, _, rfl, rfl⟩
theorem ml_M_260 : jv_MS "HaltRingModel" 260 mt_M_longPower 2 := ⟨ok_M_longPower, jv_in (List.mem_of_getElem? (i := 1238) (by decide +kernel)) rfl, jv_in (List.mem_of_getElem? (i := 1239) (by decide +kernel)) rfl⟩
theorem ml_M_264 : jv_MV "HaltRingModel" 264 10 mt_M_does 1 := ⟨ok_M_does, jv_in (List.mem_of_getElem? (i := 1241) (by decide +kernel)) rfl, jv_in (List.mem_of_getElem? (i := 1243) (by decide +kernel)) rfl, jv_in (List.mem_of_getElem? (i := 31) (by decide +kernel)) rfl, _, rfl, rfl⟩
theorem ml_L_109 : jv_MV "HaltRingLaw" 109 10 mt_M_see 3 := ⟨ok_M_see, jv_in (List.mem_of_getElem? (i := 1246) (by decide +kernel)) rfl, jv_in (List.mem_of_getElem? (i := 1247) (by decide +kernel)) rfl, jv_in (List.mem_of_getElem? (i := 1248) (by decide +kernel)) rfl, _, rfl, rfl⟩
theorem ml_L_113 : jv_MV "HaltRingLaw" 113 10 mt_M_unsee 0 := ⟨ok_M_unsee, jv_in (List.mem_of_getElem? (i := 1251) (by decide +kernel)) rfl, jv_in (List.mem_of_getElem? (i := 1252) (by decide +kernel)) rfl, jv_in (List.mem_of_getElem? (i := 1253) (by decide +kernel)) rfl, _, rfl, rfl⟩
theorem ml_L_117 : jv_MV "HaltRingLaw" 117 10 mt_M_which 0 := ⟨ok_M_which, jv_in (List.mem_of_getElem? (i := 1255) (by decide +kernel)) rfl, jv_in (List.mem_of_getElem? (i := 1256) (by decide +kernel)) rfl, jv_in (List.mem_of_getElem? (i := 1257) (by decide +kernel)) rfl, _, rfl, rfl⟩
theorem ml_L_122 : jv_MV "HaltRingLaw" 122 10 mt_M_share 2 := ⟨ok_M_share, jv_in (List.mem_of_getElem? (i := 1259) (by decide +kernel)) rfl, jv_in (List.mem_of_getElem? (i := 1260) (by decide +kernel)) rfl, jv_in (List.mem_of_getElem? (i := 1261) (by decide +kernel)) rfl, _, rfl, rfl⟩
theorem ml_M_276 : jv_MS "HaltRingModel" 276 mt_M_factorial 1 := ⟨ok_M_factorial, jv_in (List.mem_of_getElem? (i := 1263) (by decide +kernel)) rfl, jv_in (List.mem_of_getElem? (i := 1264) (by decide +kernel)) rfl⟩
theorem ml_M_279 : jv_MS "HaltRingModel" 279 mt_M_fraction 3 := ⟨ok_M_fraction, jv_in (List.mem_of_getElem? (i := 1266) (by decide +kernel)) rfl, jv_in (List.mem_of_getElem? (i := 1267) (by decide +kernel)) rfl⟩
theorem ml_M_272 : jv_MS "HaltRingModel" 272 mt_M_divisor 2 := ⟨ok_M_divisor, jv_in (List.mem_of_getElem? (i := 1269) (by decide +kernel)) rfl, jv_in (List.mem_of_getElem? (i := 1270) (by decide +kernel)) rfl⟩
theorem ml_L_126 : jv_MV "HaltRingLaw" 126 10 mt_M_lost 2 := ⟨ok_M_lost, jv_in (List.mem_of_getElem? (i := 1272) (by decide +kernel)) rfl, jv_in (List.mem_of_getElem? (i := 1273) (by decide +kernel)) rfl, jv_in (List.mem_of_getElem? (i := 1274) (by decide +kernel)) rfl, _, rfl, rfl⟩
theorem ml_M_285 : jv_MS "HaltRingModel" 285 mt_M_power 2 := ⟨ok_M_power, jv_in (List.mem_of_getElem? (i := 1277) (by decide +kernel)) rfl, jv_in (List.mem_of_getElem? (i := 1278) (by decide +kernel)) rfl⟩
theorem ml_L_131 : jv_MV "HaltRingLaw" 131 10 mt_M_seed 1 := ⟨ok_M_seed, jv_in (List.mem_of_getElem? (i := 1280) (by decide +kernel)) rfl, jv_in (List.mem_of_getElem? (i := 1281) (by decide +kernel)) rfl, jv_in (List.mem_of_getElem? (i := 1282) (by decide +kernel)) rfl, _, rfl, rfl⟩
theorem ml_L_135 : jv_MV "HaltRingLaw" 135 10 mt_M_drawn 1 := ⟨ok_M_drawn, jv_in (List.mem_of_getElem? (i := 1284) (by decide +kernel)) rfl, jv_in (List.mem_of_getElem? (i := 1285) (by decide +kernel)) rfl, jv_in (List.mem_of_getElem? (i := 1286) (by decide +kernel)) rfl, _, rfl, rfl⟩
theorem ml_L_139 : jv_MV "HaltRingLaw" 139 10 mt_M_keep 1 := ⟨ok_M_keep, jv_in (List.mem_of_getElem? (i := 1291) (by decide +kernel)) rfl, jv_in (List.mem_of_getElem? (i := 1292) (by decide +kernel)) rfl, jv_in (List.mem_of_getElem? (i := 1293) (by decide +kernel)) rfl, _, rfl, rfl⟩
theorem ml_L_143 : jv_MV "HaltRingLaw" 143 10 mt_M_again 1 := ⟨ok_M_again, jv_in (List.mem_of_getElem? (i := 1295) (by decide +kernel)) rfl, jv_in (List.mem_of_getElem? (i := 1296) (by decide +kernel)) rfl, jv_in (List.mem_of_getElem? (i := 1297) (by decide +kernel)) rfl, _, rfl, rfl⟩
theorem ml_L_147 : jv_MV "HaltRingLaw" 147 10 mt_M_count 1 := ⟨ok_M_count, jv_in (List.mem_of_getElem? (i := 1299) (by decide +kernel)) rfl, jv_in (List.mem_of_getElem? (i := 1300) (by decide +kernel)) rfl, jv_in (List.mem_of_getElem? (i := 1301) (by decide +kernel)) rfl, _, rfl, rfl⟩
theorem ml_R_9 : jv_MIN "HaltRing" 9 mt_T_init 0 := ⟨ok_T_init, List.mem_filter.mpr ⟨List.mem_of_getElem? (i := 62) (by decide +kernel), rfl⟩, jv_in (List.mem_of_getElem? (i := 63) (by decide +kernel)) rfl, rfl, rfl⟩
theorem ml_T_17 : jv_MIN "HaltRing$Text" 17 mt_P_init 0 := ⟨ok_P_init, List.mem_filter.mpr ⟨List.mem_of_getElem? (i := 68) (by decide +kernel), rfl⟩, jv_in (List.mem_of_getElem? (i := 69) (by decide +kernel)) rfl, rfl, rfl⟩
theorem ml_D_21 : jv_MIN "HaltRing$DebugModule" 21 mt_O_init 0 := ⟨ok_O_init, List.mem_filter.mpr ⟨List.mem_of_getElem? (i := 107) (by decide +kernel), rfl⟩, jv_in (List.mem_of_getElem? (i := 108) (by decide +kernel)) rfl, rfl, rfl⟩
theorem ml_S_34 : jv_MIN "HaltRing$State" 34 mt_H_init 0 := ⟨ok_H_init, List.mem_filter.mpr ⟨List.mem_of_getElem? (i := 176) (by decide +kernel), rfl⟩, jv_in (List.mem_of_getElem? (i := 177) (by decide +kernel)) rfl, rfl, rfl⟩
theorem ml_S_35 : jv_MIN "HaltRing$State" 35 mt_U_init 0 := ⟨ok_U_init, List.mem_filter.mpr ⟨List.mem_of_getElem? (i := 216) (by decide +kernel), rfl⟩, jv_in (List.mem_of_getElem? (i := 217) (by decide +kernel)) rfl, rfl, rfl⟩
theorem ml_R_18 : jv_MIN "HaltRing" 18 mt_P_init 0 := ⟨ok_P_init, List.mem_filter.mpr ⟨List.mem_of_getElem? (i := 305) (by decide +kernel), rfl⟩, jv_in (List.mem_of_getElem? (i := 69) (by decide +kernel)) rfl, rfl, rfl⟩
theorem ml_R_50 : jv_MIN "HaltRing" 50 mt_G_init 0 := ⟨ok_G_init, List.mem_filter.mpr ⟨List.mem_of_getElem? (i := 330) (by decide +kernel), rfl⟩, jv_in (List.mem_of_getElem? (i := 331) (by decide +kernel)) rfl, rfl, rfl⟩
theorem ml_T_102 : jv_MSN "HaltRing$Text" 102 mt_R_isBelow 2 := ⟨ok_R_isBelow, List.mem_filter.mpr ⟨List.mem_of_getElem? (i := 404) (by decide +kernel), rfl⟩, jv_in (List.mem_of_getElem? (i := 405) (by decide +kernel)) rfl⟩
theorem ml_H_41 : jv_MSN "HaltRing$Hart" 41 mt_R_isBelow 2 := ⟨ok_R_isBelow, List.mem_filter.mpr ⟨List.mem_of_getElem? (i := 592) (by decide +kernel), rfl⟩, jv_in (List.mem_of_getElem? (i := 405) (by decide +kernel)) rfl⟩
theorem oi_R_1 : Cond.methodLink "HaltRing" 1 Lib.objectInit ∈ jv_tbl := jv_in (List.mem_of_getElem? (i := 57) (by decide +kernel)) rfl
theorem oi_T_3 : Cond.methodLink "HaltRing$Text" 3 Lib.objectInit ∈ jv_tbl := jv_in (List.mem_of_getElem? (i := 65) (by decide +kernel)) rfl
theorem oi_P_3 : Cond.methodLink "HaltRing$Program" 3 Lib.objectInit ∈ jv_tbl := jv_in (List.mem_of_getElem? (i := 71) (by decide +kernel)) rfl
theorem oi_S_3 : Cond.methodLink "HaltRing$State" 3 Lib.objectInit ∈ jv_tbl := jv_in (List.mem_of_getElem? (i := 97) (by decide +kernel)) rfl
theorem oi_D_3 : Cond.methodLink "HaltRing$DebugModule" 3 Lib.objectInit ∈ jv_tbl := jv_in (List.mem_of_getElem? (i := 103) (by decide +kernel)) rfl
theorem oi_O_3 : Cond.methodLink "HaltRing$Order" 3 Lib.objectInit ∈ jv_tbl := jv_in (List.mem_of_getElem? (i := 110) (by decide +kernel)) rfl
theorem oi_H_3 : Cond.methodLink "HaltRing$Hart" 3 Lib.objectInit ∈ jv_tbl := jv_in (List.mem_of_getElem? (i := 179) (by decide +kernel)) rfl
theorem oi_U_3 : Cond.methodLink "HaltRing$Trigger" 3 Lib.objectInit ∈ jv_tbl := jv_in (List.mem_of_getElem? (i := 219) (by decide +kernel)) rfl
theorem oi_A_3 : Cond.methodLink "HaltRing$Past" 3 Lib.objectInit ∈ jv_tbl := jv_in (List.mem_of_getElem? (i := 313) (by decide +kernel)) rfl
theorem oi_G_3 : Cond.methodLink "HaltRing$Sights" 3 Lib.objectInit ∈ jv_tbl := jv_in (List.mem_of_getElem? (i := 333) (by decide +kernel)) rfl
theorem ac_P_25 : Cond.methodLink "HaltRing$Program" 25 arraycopyName ∈ jv_tbl := jv_in (List.mem_of_getElem? (i := 549) (by decide +kernel)) rfl
theorem ac_D_30 : Cond.methodLink "HaltRing$DebugModule" 30 arraycopyName ∈ jv_tbl := jv_in (List.mem_of_getElem? (i := 564) (by decide +kernel)) rfl
theorem ac_H_15 : Cond.methodLink "HaltRing$Hart" 15 arraycopyName ∈ jv_tbl := jv_in (List.mem_of_getElem? (i := 569) (by decide +kernel)) rfl
theorem ac_S_71 : Cond.methodLink "HaltRing$State" 71 arraycopyName ∈ jv_tbl := jv_in (List.mem_of_getElem? (i := 574) (by decide +kernel)) rfl
theorem oi_M_1 : Cond.methodLink "HaltRingModel" 1 Lib.objectInit ∈ jv_tbl := jv_in (List.mem_of_getElem? (i := 905) (by decide +kernel)) rfl
theorem oi_w2 : Cond.instanceMethod Lib.objectInit ∈ jv_tbl := jv_in (List.mem_of_getElem? (i := 58) (by decide +kernel)) rfl
theorem oi_w3 : Cond.code Lib.objectInit ⟨#[0xb1]⟩ 1 none ∈ jv_tbl := jv_in (List.mem_of_getElem? (i := 59) (by decide +kernel)) rfl
theorem ac_w2 : Cond.native arraycopyName ∈ jv_tbl := jv_in (List.mem_of_getElem? (i := 551) (by decide +kernel)) rfl
theorem ac_w3 : Cond.static arraycopyName ∈ jv_tbl := jv_in (List.mem_of_getElem? (i := 550) (by decide +kernel)) rfl
theorem ac_w4 : Cond.initialized "java/lang/System" ∈ jv_tbl := jv_in (List.mem_of_getElem? (i := 50) (by decide +kernel)) rfl
theorem cl_L_7 : Cond.classLink "HaltRingLaw" 7 "HaltRing" ∈ jv_tbl := jv_in (List.mem_of_getElem? (i := 52) (by decide +kernel)) rfl
theorem cl_R_7 : Cond.classLink "HaltRing" 7 "HaltRing$Text" ∈ jv_tbl := jv_in (List.mem_of_getElem? (i := 60) (by decide +kernel)) rfl
theorem cl_T_15 : Cond.classLink "HaltRing$Text" 15 "HaltRing$Program" ∈ jv_tbl := jv_in (List.mem_of_getElem? (i := 66) (by decide +kernel)) rfl
theorem cl_T_22 : Cond.classLink "HaltRing$Text" 22 "HaltRing$State" ∈ jv_tbl := jv_in (List.mem_of_getElem? (i := 92) (by decide +kernel)) rfl
theorem cl_S_9 : Cond.classLink "HaltRing$State" 9 "HaltRing$DebugModule" ∈ jv_tbl := jv_in (List.mem_of_getElem? (i := 98) (by decide +kernel)) rfl
theorem cl_D_9 : Cond.classLink "HaltRing$DebugModule" 9 "HaltRing$Order" ∈ jv_tbl := jv_in (List.mem_of_getElem? (i := 104) (by decide +kernel)) rfl
theorem cl_S_18 : Cond.classLink "HaltRing$State" 18 "HaltRing$Hart" ∈ jv_tbl := jv_in (List.mem_of_getElem? (i := 171) (by decide +kernel)) rfl
theorem cl_S_24 : Cond.classLink "HaltRing$State" 24 "HaltRing$Trigger" ∈ jv_tbl := jv_in (List.mem_of_getElem? (i := 173) (by decide +kernel)) rfl
theorem cl_R_16 : Cond.classLink "HaltRing" 16 "HaltRing$Program" ∈ jv_tbl := jv_in (List.mem_of_getElem? (i := 304) (by decide +kernel)) rfl
theorem cl_R_23 : Cond.classLink "HaltRing" 23 "HaltRing$State" ∈ jv_tbl := jv_in (List.mem_of_getElem? (i := 306) (by decide +kernel)) rfl
theorem cl_R_33 : Cond.classLink "HaltRing" 33 "HaltRing$Past" ∈ jv_tbl := jv_in (List.mem_of_getElem? (i := 308) (by decide +kernel)) rfl
theorem cl_A_9 : Cond.classLink "HaltRing$Past" 9 "HaltRing$State" ∈ jv_tbl := jv_in (List.mem_of_getElem? (i := 314) (by decide +kernel)) rfl
theorem cl_R_48 : Cond.classLink "HaltRing" 48 "HaltRing$Sights" ∈ jv_tbl := jv_in (List.mem_of_getElem? (i := 328) (by decide +kernel)) rfl
theorem cl_L_10 : Cond.classLink "HaltRingLaw" 10 "HaltRingModel" ∈ jv_tbl := jv_in (List.mem_of_getElem? (i := 900) (by decide +kernel)) rfl
theorem ins_R : Cond.instantiable "HaltRing" 10 ∈ jv_tbl := jv_in (List.mem_of_getElem? (i := 53) (by decide +kernel)) rfl
theorem ini_R : Cond.initialized "HaltRing" ∈ jv_tbl := jv_in (List.mem_of_getElem? (i := 33) (by decide +kernel)) rfl
theorem ins_T : Cond.instantiable "HaltRing$Text" 6 ∈ jv_tbl := jv_in (List.mem_of_getElem? (i := 61) (by decide +kernel)) rfl
theorem ini_T : Cond.initialized "HaltRing$Text" ∈ jv_tbl := jv_in (List.mem_of_getElem? (i := 34) (by decide +kernel)) rfl
theorem ins_P : Cond.instantiable "HaltRing$Program" 4 ∈ jv_tbl := jv_in (List.mem_of_getElem? (i := 67) (by decide +kernel)) rfl
theorem ini_P : Cond.initialized "HaltRing$Program" ∈ jv_tbl := jv_in (List.mem_of_getElem? (i := 35) (by decide +kernel)) rfl
theorem ins_S : Cond.instantiable "HaltRing$State" 8 ∈ jv_tbl := jv_in (List.mem_of_getElem? (i := 93) (by decide +kernel)) rfl
theorem ini_S : Cond.initialized "HaltRing$State" ∈ jv_tbl := jv_in (List.mem_of_getElem? (i := 36) (by decide +kernel)) rfl
theorem ins_D : Cond.instantiable "HaltRing$DebugModule" 5 ∈ jv_tbl := jv_in (List.mem_of_getElem? (i := 99) (by decide +kernel)) rfl
theorem ini_D : Cond.initialized "HaltRing$DebugModule" ∈ jv_tbl := jv_in (List.mem_of_getElem? (i := 37) (by decide +kernel)) rfl
theorem ins_O : Cond.instantiable "HaltRing$Order" 7 ∈ jv_tbl := jv_in (List.mem_of_getElem? (i := 106) (by decide +kernel)) rfl
theorem ini_O : Cond.initialized "HaltRing$Order" ∈ jv_tbl := jv_in (List.mem_of_getElem? (i := 38) (by decide +kernel)) rfl
theorem ins_H : Cond.instantiable "HaltRing$Hart" 7 ∈ jv_tbl := jv_in (List.mem_of_getElem? (i := 175) (by decide +kernel)) rfl
theorem ini_H : Cond.initialized "HaltRing$Hart" ∈ jv_tbl := jv_in (List.mem_of_getElem? (i := 39) (by decide +kernel)) rfl
theorem ins_U : Cond.instantiable "HaltRing$Trigger" 7 ∈ jv_tbl := jv_in (List.mem_of_getElem? (i := 215) (by decide +kernel)) rfl
theorem ini_U : Cond.initialized "HaltRing$Trigger" ∈ jv_tbl := jv_in (List.mem_of_getElem? (i := 40) (by decide +kernel)) rfl
theorem ins_A : Cond.instantiable "HaltRing$Past" 3 ∈ jv_tbl := jv_in (List.mem_of_getElem? (i := 309) (by decide +kernel)) rfl
theorem ini_A : Cond.initialized "HaltRing$Past" ∈ jv_tbl := jv_in (List.mem_of_getElem? (i := 41) (by decide +kernel)) rfl
theorem ins_G : Cond.instantiable "HaltRing$Sights" 4 ∈ jv_tbl := jv_in (List.mem_of_getElem? (i := 329) (by decide +kernel)) rfl
theorem ini_G : Cond.initialized "HaltRing$Sights" ∈ jv_tbl := jv_in (List.mem_of_getElem? (i := 42) (by decide +kernel)) rfl
theorem ins_M : Cond.instantiable "HaltRingModel" 34 ∈ jv_tbl := jv_in (List.mem_of_getElem? (i := 901) (by decide +kernel)) rfl
theorem ini_M : Cond.initialized "HaltRingModel" ∈ jv_tbl := jv_in (List.mem_of_getElem? (i := 43) (by decide +kernel)) rfl
theorem co_JI_265 : Cond.constant "java/lang/Integer" 265 1431655765 ∈ jv_tbl := jv_in (List.mem_of_getElem? (i := 718) (by decide +kernel)) rfl
theorem co_JI_266 : Cond.constant "java/lang/Integer" 266 858993459 ∈ jv_tbl := jv_in (List.mem_of_getElem? (i := 719) (by decide +kernel)) rfl
theorem co_JI_267 : Cond.constant "java/lang/Integer" 267 252645135 ∈ jv_tbl := jv_in (List.mem_of_getElem? (i := 720) (by decide +kernel)) rfl
theorem co_R_189 : Cond.constant "HaltRing" 189 1000000 ∈ jv_tbl := jv_in (List.mem_of_getElem? (i := 809) (by decide +kernel)) rfl
theorem co_R_257 : Cond.constant "HaltRing" 257 100000 ∈ jv_tbl := jv_in (List.mem_of_getElem? (i := 818) (by decide +kernel)) rfl
theorem co_M_257 : Cond.constant "HaltRingModel" 257 100000 ∈ jv_tbl := jv_in (List.mem_of_getElem? (i := 1245) (by decide +kernel)) rfl
theorem co_R_194 : Cond.constantLong "HaltRing" 194 1000000 ∈ jv_tbl := jv_in (List.mem_of_getElem? (i := 813) (by decide +kernel)) rfl
theorem co_R_230 : Cond.constantLong "HaltRing" 230 6364136223846793005 ∈ jv_tbl := jv_in (List.mem_of_getElem? (i := 886) (by decide +kernel)) rfl
theorem co_R_232 : Cond.constantLong "HaltRing" 232 1442695040888963407 ∈ jv_tbl := jv_in (List.mem_of_getElem? (i := 887) (by decide +kernel)) rfl
theorem co_M_85 : Cond.constantLong "HaltRingModel" 85 255 ∈ jv_tbl := jv_in (List.mem_of_getElem? (i := 1013) (by decide +kernel)) rfl
theorem co_M_210 : Cond.constantLong "HaltRingModel" 210 9 ∈ jv_tbl := jv_in (List.mem_of_getElem? (i := 1071) (by decide +kernel)) rfl
theorem co_M_215 : Cond.constantLong "HaltRingModel" 215 6 ∈ jv_tbl := jv_in (List.mem_of_getElem? (i := 1083) (by decide +kernel)) rfl
theorem co_M_217 : Cond.constantLong "HaltRingModel" 217 7 ∈ jv_tbl := jv_in (List.mem_of_getElem? (i := 1088) (by decide +kernel)) rfl
theorem co_M_219 : Cond.constantLong "HaltRingModel" 219 3 ∈ jv_tbl := jv_in (List.mem_of_getElem? (i := 1093) (by decide +kernel)) rfl
theorem co_M_221 : Cond.constantLong "HaltRingModel" 221 99 ∈ jv_tbl := jv_in (List.mem_of_getElem? (i := 1098) (by decide +kernel)) rfl
theorem co_M_236 : Cond.constantLong "HaltRingModel" 236 5 ∈ jv_tbl := jv_in (List.mem_of_getElem? (i := 1172) (by decide +kernel)) rfl
theorem co_M_238 : Cond.constantLong "HaltRingModel" 238 999 ∈ jv_tbl := jv_in (List.mem_of_getElem? (i := 1173) (by decide +kernel)) rfl
theorem co_M_244 : Cond.constantLong "HaltRingModel" 244 15 ∈ jv_tbl := jv_in (List.mem_of_getElem? (i := 1184) (by decide +kernel)) rfl
theorem co_M_246 : Cond.constantLong "HaltRingModel" 246 899 ∈ jv_tbl := jv_in (List.mem_of_getElem? (i := 1192) (by decide +kernel)) rfl
theorem co_M_258 : Cond.constantLong "HaltRingModel" 258 1000000 ∈ jv_tbl := jv_in (List.mem_of_getElem? (i := 1237) (by decide +kernel)) rfl
theorem co_M_267 : Cond.constantLong "HaltRingModel" 267 2 ∈ jv_tbl := jv_in (List.mem_of_getElem? (i := 1250) (by decide +kernel)) rfl
theorem co_M_283 : Cond.constantLong "HaltRingModel" 283 10 ∈ jv_tbl := jv_in (List.mem_of_getElem? (i := 1276) (by decide +kernel)) rfl
theorem co_M_292 : Cond.constantLong "HaltRingModel" 292 20 ∈ jv_tbl := jv_in (List.mem_of_getElem? (i := 1288) (by decide +kernel)) rfl
theorem co_M_294 : Cond.constantLong "HaltRingModel" 294 6364136223846793005 ∈ jv_tbl := jv_in (List.mem_of_getElem? (i := 1289) (by decide +kernel)) rfl
theorem co_M_296 : Cond.constantLong "HaltRingModel" 296 1442695040888963407 ∈ jv_tbl := jv_in (List.mem_of_getElem? (i := 1290) (by decide +kernel)) rfl
theorem co_L_99 : Cond.constantLong "HaltRingLaw" 99 4294967295 ∈ jv_tbl := jv_in (List.mem_of_getElem? (i := 1303) (by decide +kernel)) rfl
theorem arr_int : Cond.arrayClass .int ∈ jv_tbl := jv_in (List.mem_of_getElem? (i := 91) (by decide +kernel)) rfl
theorem arr_boolean : Cond.arrayClass .boolean ∈ jv_tbl := jv_in (List.mem_of_getElem? (i := 348) (by decide +kernel)) rfl
theorem arr_byte : Cond.arrayClass .byte ∈ jv_tbl := jv_in (List.mem_of_getElem? (i := 540) (by decide +kernel)) rfl
theorem sf_JS_38 : Cond.fieldLink "java/lang/String" 38 "java/lang/String" "COMPACT_STRINGS" "Z" ∈ jv_tbl := jv_in (List.mem_of_getElem? (i := 432) (by decide +kernel)) rfl
theorem sf_R_241 : Cond.fieldLink "HaltRing" 241 "HaltRing" "SECOND" "[I" ∈ jv_tbl := jv_in (List.mem_of_getElem? (i := 750) (by decide +kernel)) rfl
theorem sf_R_216 : Cond.fieldLink "HaltRing" 216 "HaltRing" "FACTORIAL" "[I" ∈ jv_tbl := jv_in (List.mem_of_getElem? (i := 857) (by decide +kernel)) rfl
theorem sf_JS_15 : Cond.fieldLink "java/lang/String" 15 "java/lang/String" "coder" "B" ∈ jv_tbl := jv_in (List.mem_of_getElem? (i := 1304) (by decide +kernel)) rfl
theorem sf_JS_9 : Cond.fieldLink "java/lang/String" 9 "java/lang/String" "value" "[B" ∈ jv_tbl := jv_in (List.mem_of_getElem? (i := 1305) (by decide +kernel)) rfl
theorem sf_T_73 : Cond.fieldLinkNest "HaltRing$Text" 73 "HaltRing" "SECOND" "[I" "HaltRing" ∈ jv_nws := List.mem_filter.mpr ⟨List.mem_of_getElem? (i := 509) (by decide +kernel), rfl⟩
