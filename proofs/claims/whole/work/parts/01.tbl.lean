-- ===== PART A: goes FIRST, ahead of the names: the tables' words, and 'selects' of the private methods out of them =====
/-- a private method of a class that the tables say can be made, by its rows of tables_1 -/
def lw_okq (q : MethodName × Nat) : Prop := (q.1.cls ≠ "java/lang/invoke/MethodHandle" ∧ q.1.cls ≠ "java/lang/invoke/VarHandle") ∧ Cond.instantiable q.1.cls q.2 ∈ tables_1 ∧ Cond.privateMethod q.1 ∈ tables_1 ∧ Cond.instanceMethod q.1 ∈ tables_1
theorem lw_p0 : lw_okq (⟨"HaltRing", "isHart", "(I)Z"⟩, 10) := ⟨⟨by decide +kernel, by decide +kernel⟩, List.mem_of_getElem? (i := 21) (by decide +kernel), List.mem_of_getElem? (i := 552) (by decide +kernel), List.mem_of_getElem? (i := 553) (by decide +kernel)⟩
theorem lw_p1 : lw_okq (⟨"HaltRing", "isTrigger", "(I)Z"⟩, 10) := ⟨⟨by decide +kernel, by decide +kernel⟩, List.mem_of_getElem? (i := 21) (by decide +kernel), List.mem_of_getElem? (i := 566) (by decide +kernel), List.mem_of_getElem? (i := 567) (by decide +kernel)⟩
theorem lw_p2 : lw_okq (⟨"HaltRing", "ticksUntilHalted", "(II)I"⟩, 10) := ⟨⟨by decide +kernel, by decide +kernel⟩, List.mem_of_getElem? (i := 21) (by decide +kernel), List.mem_of_getElem? (i := 747) (by decide +kernel), List.mem_of_getElem? (i := 748) (by decide +kernel)⟩
theorem lw_p3 : lw_okq (⟨"HaltRing", "ticksWithHalts", "(II)I"⟩, 10) := ⟨⟨by decide +kernel, by decide +kernel⟩, List.mem_of_getElem? (i := 21) (by decide +kernel), List.mem_of_getElem? (i := 764) (by decide +kernel), List.mem_of_getElem? (i := 765) (by decide +kernel)⟩
theorem lw_p4 : lw_okq (⟨"HaltRing", "holdsInTrial", "(I)Z"⟩, 10) := ⟨⟨by decide +kernel, by decide +kernel⟩, List.mem_of_getElem? (i := 21) (by decide +kernel), List.mem_of_getElem? (i := 783) (by decide +kernel), List.mem_of_getElem? (i := 784) (by decide +kernel)⟩
theorem lw_p5 : lw_okq (⟨"HaltRing", "isSentInTrial", "(II)Z"⟩, 10) := ⟨⟨by decide +kernel, by decide +kernel⟩, List.mem_of_getElem? (i := 21) (by decide +kernel), List.mem_of_getElem? (i := 788) (by decide +kernel), List.mem_of_getElem? (i := 789) (by decide +kernel)⟩
theorem lw_p6 : lw_okq (⟨"HaltRing", "worth", "(I)I"⟩, 10) := ⟨⟨by decide +kernel, by decide +kernel⟩, List.mem_of_getElem? (i := 21) (by decide +kernel), List.mem_of_getElem? (i := 822) (by decide +kernel), List.mem_of_getElem? (i := 823) (by decide +kernel)⟩
theorem lw_p7 : lw_okq (⟨"HaltRing", "endsHaltedWithout", "(I)Z"⟩, 10) := ⟨⟨by decide +kernel, by decide +kernel⟩, List.mem_of_getElem? (i := 21) (by decide +kernel), List.mem_of_getElem? (i := 838) (by decide +kernel), List.mem_of_getElem? (i := 839) (by decide +kernel)⟩
theorem lw_p8 : lw_okq (⟨"HaltRingModel", "readBoard", "()I"⟩, 34) := ⟨⟨by decide +kernel, by decide +kernel⟩, List.mem_of_getElem? (i := 869) (by decide +kernel), List.mem_of_getElem? (i := 994) (by decide +kernel), List.mem_of_getElem? (i := 995) (by decide +kernel)⟩
theorem lw_p9 : lw_okq (⟨"HaltRingModel", "readPart", "()Z"⟩, 34) := ⟨⟨by decide +kernel, by decide +kernel⟩, List.mem_of_getElem? (i := 869) (by decide +kernel), List.mem_of_getElem? (i := 998) (by decide +kernel), List.mem_of_getElem? (i := 999) (by decide +kernel)⟩
theorem lw_p10 : lw_okq (⟨"HaltRingModel", "readInstruction", "()Z"⟩, 34) := ⟨⟨by decide +kernel, by decide +kernel⟩, List.mem_of_getElem? (i := 869) (by decide +kernel), List.mem_of_getElem? (i := 1002) (by decide +kernel), List.mem_of_getElem? (i := 1003) (by decide +kernel)⟩
theorem lw_p11 : lw_okq (⟨"HaltRingModel", "isNext", "(III)Z"⟩, 34) := ⟨⟨by decide +kernel, by decide +kernel⟩, List.mem_of_getElem? (i := 869) (by decide +kernel), List.mem_of_getElem? (i := 1009) (by decide +kernel), List.mem_of_getElem? (i := 1010) (by decide +kernel)⟩
theorem lw_p12 : lw_okq (⟨"HaltRingModel", "taken", "(I)I"⟩, 34) := ⟨⟨by decide +kernel, by decide +kernel⟩, List.mem_of_getElem? (i := 869) (by decide +kernel), List.mem_of_getElem? (i := 1013) (by decide +kernel), List.mem_of_getElem? (i := 1014) (by decide +kernel)⟩
theorem lw_p13 : lw_okq (⟨"HaltRingModel", "readHart", "()Z"⟩, 34) := ⟨⟨by decide +kernel, by decide +kernel⟩, List.mem_of_getElem? (i := 869) (by decide +kernel), List.mem_of_getElem? (i := 1017) (by decide +kernel), List.mem_of_getElem? (i := 1018) (by decide +kernel)⟩
theorem lw_p14 : lw_okq (⟨"HaltRingModel", "readTrigger", "(Z)Z"⟩, 34) := ⟨⟨by decide +kernel, by decide +kernel⟩, List.mem_of_getElem? (i := 869) (by decide +kernel), List.mem_of_getElem? (i := 1021) (by decide +kernel), List.mem_of_getElem? (i := 1022) (by decide +kernel)⟩
theorem lw_p15 : lw_okq (⟨"HaltRingModel", "noHart", "(I)Z"⟩, 34) := ⟨⟨by decide +kernel, by decide +kernel⟩, List.mem_of_getElem? (i := 869) (by decide +kernel), List.mem_of_getElem? (i := 1036) (by decide +kernel), List.mem_of_getElem? (i := 1037) (by decide +kernel)⟩
def lw_privs_1 : List (MethodName × Nat) := [(⟨"HaltRing", "isHart", "(I)Z"⟩, 10), (⟨"HaltRing", "isTrigger", "(I)Z"⟩, 10), (⟨"HaltRing", "ticksUntilHalted", "(II)I"⟩, 10), (⟨"HaltRing", "ticksWithHalts", "(II)I"⟩, 10), (⟨"HaltRing", "holdsInTrial", "(I)Z"⟩, 10), (⟨"HaltRing", "isSentInTrial", "(II)Z"⟩, 10), (⟨"HaltRing", "worth", "(I)I"⟩, 10), (⟨"HaltRing", "endsHaltedWithout", "(I)Z"⟩, 10), (⟨"HaltRingModel", "readBoard", "()I"⟩, 34), (⟨"HaltRingModel", "readPart", "()Z"⟩, 34), (⟨"HaltRingModel", "readInstruction", "()Z"⟩, 34), (⟨"HaltRingModel", "isNext", "(III)Z"⟩, 34), (⟨"HaltRingModel", "taken", "(I)I"⟩, 34), (⟨"HaltRingModel", "readHart", "()Z"⟩, 34), (⟨"HaltRingModel", "readTrigger", "(Z)Z"⟩, 34), (⟨"HaltRingModel", "noHart", "(I)Z"⟩, 34)]
theorem lw_r1 : ∀ q ∈ lw_privs_1, lw_okq q := List.forall_mem_cons.mpr ⟨lw_p0, List.forall_mem_cons.mpr ⟨lw_p1, List.forall_mem_cons.mpr ⟨lw_p2, List.forall_mem_cons.mpr ⟨lw_p3, List.forall_mem_cons.mpr ⟨lw_p4, List.forall_mem_cons.mpr ⟨lw_p5, List.forall_mem_cons.mpr ⟨lw_p6, List.forall_mem_cons.mpr ⟨lw_p7, List.forall_mem_cons.mpr ⟨lw_p8, List.forall_mem_cons.mpr ⟨lw_p9, List.forall_mem_cons.mpr ⟨lw_p10, List.forall_mem_cons.mpr ⟨lw_p11, List.forall_mem_cons.mpr ⟨lw_p12, List.forall_mem_cons.mpr ⟨lw_p13, List.forall_mem_cons.mpr ⟨lw_p14, List.forall_mem_cons.mpr ⟨lw_p15, fun _ h => absurd h List.not_mem_nil⟩⟩⟩⟩⟩⟩⟩⟩⟩⟩⟩⟩⟩⟩⟩⟩
theorem lw_p16 : lw_okq (⟨"HaltRingModel", "tellHart", "([III)I"⟩, 34) := ⟨⟨by decide +kernel, by decide +kernel⟩, List.mem_of_getElem? (i := 869) (by decide +kernel), List.mem_of_getElem? (i := 1041) (by decide +kernel), List.mem_of_getElem? (i := 1042) (by decide +kernel)⟩
theorem lw_p17 : lw_okq (⟨"HaltRingModel", "note", "()V"⟩, 34) := ⟨⟨by decide +kernel, by decide +kernel⟩, List.mem_of_getElem? (i := 869) (by decide +kernel), List.mem_of_getElem? (i := 1068) (by decide +kernel), List.mem_of_getElem? (i := 1069) (by decide +kernel)⟩
theorem lw_p18 : lw_okq (⟨"HaltRingModel", "tickMany", "([II)V"⟩, 34) := ⟨⟨by decide +kernel, by decide +kernel⟩, List.mem_of_getElem? (i := 869) (by decide +kernel), List.mem_of_getElem? (i := 1072) (by decide +kernel), List.mem_of_getElem? (i := 1073) (by decide +kernel)⟩
theorem lw_p19 : lw_okq (⟨"HaltRingModel", "tickOn", "([I)V"⟩, 34) := ⟨⟨by decide +kernel, by decide +kernel⟩, List.mem_of_getElem? (i := 869) (by decide +kernel), List.mem_of_getElem? (i := 1076) (by decide +kernel), List.mem_of_getElem? (i := 1077) (by decide +kernel)⟩
theorem lw_p20 : lw_okq (⟨"HaltRingModel", "goRound", "([I)V"⟩, 34) := ⟨⟨by decide +kernel, by decide +kernel⟩, List.mem_of_getElem? (i := 869) (by decide +kernel), List.mem_of_getElem? (i := 1083) (by decide +kernel), List.mem_of_getElem? (i := 1084) (by decide +kernel)⟩
theorem lw_p21 : lw_okq (⟨"HaltRingModel", "reach", "([II)V"⟩, 34) := ⟨⟨by decide +kernel, by decide +kernel⟩, List.mem_of_getElem? (i := 869) (by decide +kernel), List.mem_of_getElem? (i := 1087) (by decide +kernel), List.mem_of_getElem? (i := 1088) (by decide +kernel)⟩
theorem lw_p22 : lw_okq (⟨"HaltRingModel", "reset", "([II)V"⟩, 34) := ⟨⟨by decide +kernel, by decide +kernel⟩, List.mem_of_getElem? (i := 869) (by decide +kernel), List.mem_of_getElem? (i := 1097) (by decide +kernel), List.mem_of_getElem? (i := 1098) (by decide +kernel)⟩
theorem lw_p23 : lw_okq (⟨"HaltRingModel", "runBuffer", "([II)I"⟩, 34) := ⟨⟨by decide +kernel, by decide +kernel⟩, List.mem_of_getElem? (i := 869) (by decide +kernel), List.mem_of_getElem? (i := 1101) (by decide +kernel), List.mem_of_getElem? (i := 1102) (by decide +kernel)⟩
theorem lw_p24 : lw_okq (⟨"HaltRingModel", "doPlain", "([III)V"⟩, 34) := ⟨⟨by decide +kernel, by decide +kernel⟩, List.mem_of_getElem? (i := 869) (by decide +kernel), List.mem_of_getElem? (i := 1108) (by decide +kernel), List.mem_of_getElem? (i := 1109) (by decide +kernel)⟩
theorem lw_p25 : lw_okq (⟨"HaltRingModel", "runHart", "([II)V"⟩, 34) := ⟨⟨by decide +kernel, by decide +kernel⟩, List.mem_of_getElem? (i := 869) (by decide +kernel), List.mem_of_getElem? (i := 1115) (by decide +kernel), List.mem_of_getElem? (i := 1116) (by decide +kernel)⟩
theorem lw_p26 : lw_okq (⟨"HaltRingModel", "isCaught", "([II)Z"⟩, 34) := ⟨⟨by decide +kernel, by decide +kernel⟩, List.mem_of_getElem? (i := 869) (by decide +kernel), List.mem_of_getElem? (i := 1119) (by decide +kernel), List.mem_of_getElem? (i := 1120) (by decide +kernel)⟩
theorem lw_p27 : lw_okq (⟨"HaltRingModel", "matches", "([II)Z"⟩, 34) := ⟨⟨by decide +kernel, by decide +kernel⟩, List.mem_of_getElem? (i := 869) (by decide +kernel), List.mem_of_getElem? (i := 1123) (by decide +kernel), List.mem_of_getElem? (i := 1124) (by decide +kernel)⟩
theorem lw_p28 : lw_okq (⟨"HaltRingModel", "leads", "([II)Z"⟩, 34) := ⟨⟨by decide +kernel, by decide +kernel⟩, List.mem_of_getElem? (i := 869) (by decide +kernel), List.mem_of_getElem? (i := 1130) (by decide +kernel), List.mem_of_getElem? (i := 1131) (by decide +kernel)⟩
theorem lw_p29 : lw_okq (⟨"HaltRingModel", "haltsOn", "([II)I"⟩, 34) := ⟨⟨by decide +kernel, by decide +kernel⟩, List.mem_of_getElem? (i := 869) (by decide +kernel), List.mem_of_getElem? (i := 1182) (by decide +kernel), List.mem_of_getElem? (i := 1183) (by decide +kernel)⟩
theorem lw_p30 : lw_okq (⟨"HaltRingModel", "allBy", "(I)I"⟩, 34) := ⟨⟨by decide +kernel, by decide +kernel⟩, List.mem_of_getElem? (i := 869) (by decide +kernel), List.mem_of_getElem? (i := 1194) (by decide +kernel), List.mem_of_getElem? (i := 1195) (by decide +kernel)⟩
theorem lw_p31 : lw_okq (⟨"HaltRingModel", "does", "(I)Z"⟩, 34) := ⟨⟨by decide +kernel, by decide +kernel⟩, List.mem_of_getElem? (i := 869) (by decide +kernel), List.mem_of_getElem? (i := 1210) (by decide +kernel), List.mem_of_getElem? (i := 1211) (by decide +kernel)⟩
def lw_privs_2 : List (MethodName × Nat) := [(⟨"HaltRingModel", "tellHart", "([III)I"⟩, 34), (⟨"HaltRingModel", "note", "()V"⟩, 34), (⟨"HaltRingModel", "tickMany", "([II)V"⟩, 34), (⟨"HaltRingModel", "tickOn", "([I)V"⟩, 34), (⟨"HaltRingModel", "goRound", "([I)V"⟩, 34), (⟨"HaltRingModel", "reach", "([II)V"⟩, 34), (⟨"HaltRingModel", "reset", "([II)V"⟩, 34), (⟨"HaltRingModel", "runBuffer", "([II)I"⟩, 34), (⟨"HaltRingModel", "doPlain", "([III)V"⟩, 34), (⟨"HaltRingModel", "runHart", "([II)V"⟩, 34), (⟨"HaltRingModel", "isCaught", "([II)Z"⟩, 34), (⟨"HaltRingModel", "matches", "([II)Z"⟩, 34), (⟨"HaltRingModel", "leads", "([II)Z"⟩, 34), (⟨"HaltRingModel", "haltsOn", "([II)I"⟩, 34), (⟨"HaltRingModel", "allBy", "(I)I"⟩, 34), (⟨"HaltRingModel", "does", "(I)Z"⟩, 34)]
theorem lw_r2 : ∀ q ∈ lw_privs_2, lw_okq q := List.forall_mem_cons.mpr ⟨lw_p16, List.forall_mem_cons.mpr ⟨lw_p17, List.forall_mem_cons.mpr ⟨lw_p18, List.forall_mem_cons.mpr ⟨lw_p19, List.forall_mem_cons.mpr ⟨lw_p20, List.forall_mem_cons.mpr ⟨lw_p21, List.forall_mem_cons.mpr ⟨lw_p22, List.forall_mem_cons.mpr ⟨lw_p23, List.forall_mem_cons.mpr ⟨lw_p24, List.forall_mem_cons.mpr ⟨lw_p25, List.forall_mem_cons.mpr ⟨lw_p26, List.forall_mem_cons.mpr ⟨lw_p27, List.forall_mem_cons.mpr ⟨lw_p28, List.forall_mem_cons.mpr ⟨lw_p29, List.forall_mem_cons.mpr ⟨lw_p30, List.forall_mem_cons.mpr ⟨lw_p31, fun _ h => absurd h List.not_mem_nil⟩⟩⟩⟩⟩⟩⟩⟩⟩⟩⟩⟩⟩⟩⟩⟩
def lw_privs : List (MethodName × Nat) := lw_privs_1 ++ (lw_privs_2)
def lw_tbl : List Cond := k2_sels lw_privs ++ tables_1
theorem lw_privs_ok : ∀ q ∈ lw_privs, lw_okq q := by
  show ∀ q ∈ lw_privs_1 ++ (lw_privs_2), lw_okq q
  exact List.forall_mem_append.mpr ⟨lw_r1, lw_r2⟩

def jv_T0 : u_T := fun k => match k with
  | 0 => ("HaltRing$DebugModule", "orders", "[LHaltRing$Order;", true)
  | 1 => ("HaltRing$DebugModule", "buffer", "[I", true)
  | 2 => ("HaltRing$DebugModule", "orderCount", "I", false)
  | 3 => ("HaltRing$DebugModule", "error", "I", false)
  | _ => ("HaltRing$DebugModule", "data", "I", false)
def jv_ty0 : Nat → FieldType := fun k => match k with
  | 0 => (.array (.object "HaltRing$Order"))
  | 1 => (.array .int)
  | 2 => .int
  | 3 => .int
  | _ => .int
def jv_T1 : u_T := fun k => match k with
  | 0 => ("HaltRing$Hart", "registers", "[I", true)
  | 1 => ("HaltRing$Hart", "first", "I", false)
  | 2 => ("HaltRing$Hart", "group", "I", false)
  | 3 => ("HaltRing$Hart", "place", "I", false)
  | 4 => ("HaltRing$Hart", "mode", "I", false)
  | 5 => ("HaltRing$Hart", "cause", "I", false)
  | _ => ("HaltRing$Hart", "mark", "Z", false)
def jv_ty1 : Nat → FieldType := fun k => match k with
  | 0 => (.array .int)
  | 1 => .int
  | 2 => .int
  | 3 => .int
  | 4 => .int
  | 5 => .int
  | _ => .boolean
def jv_T2 : u_T := fun k => match k with
  | 0 => ("HaltRing$Order", "kind", "I", false)
  | 1 => ("HaltRing$Order", "target", "I", false)
  | 2 => ("HaltRing$Order", "register", "I", false)
  | 3 => ("HaltRing$Order", "value", "I", false)
  | 4 => ("HaltRing$Order", "age", "I", false)
  | 5 => ("HaltRing$Order", "code", "I", false)
  | _ => ("HaltRing$Order", "taken", "I", false)
def jv_ty2 : Nat → FieldType := fun k => match k with
  | 0 => .int
  | 1 => .int
  | 2 => .int
  | 3 => .int
  | 4 => .int
  | 5 => .int
  | _ => .int
def jv_T3 : u_T := fun k => match k with
  | 0 => ("HaltRing$Past", "states", "[LHaltRing$State;", true)
  | 1 => ("HaltRing$Past", "next", "I", false)
  | _ => ("HaltRing$Past", "size", "I", false)
def jv_ty3 : Nat → FieldType := fun k => match k with
  | 0 => (.array (.object "HaltRing$State"))
  | 1 => .int
  | _ => .int
def jv_T4 : u_T := fun k => match k with
  | 0 => ("HaltRing$Program", "codes", "[I", true)
  | 1 => ("HaltRing$Program", "firsts", "[I", true)
  | 2 => ("HaltRing$Program", "seconds", "[I", true)
  | _ => ("HaltRing$Program", "length", "I", false)
def jv_ty4 : Nat → FieldType := fun k => match k with
  | 0 => (.array .int)
  | 1 => (.array .int)
  | 2 => (.array .int)
  | _ => .int
def jv_T5 : u_T := fun k => match k with
  | 0 => ("HaltRing$Sights", "ticks", "[I", true)
  | 1 => ("HaltRing$Sights", "whats", "[I", true)
  | 2 => ("HaltRing$Sights", "values", "[I", true)
  | _ => ("HaltRing$Sights", "size", "I", false)
def jv_ty5 : Nat → FieldType := fun k => match k with
  | 0 => (.array .int)
  | 1 => (.array .int)
  | 2 => (.array .int)
  | _ => .int
def jv_T6 : u_T := fun k => match k with
  | 0 => ("HaltRing$State", "module", "LHaltRing$DebugModule;", true)
  | 1 => ("HaltRing$State", "harts", "[LHaltRing$Hart;", true)
  | 2 => ("HaltRing$State", "triggers", "[LHaltRing$Trigger;", true)
  | 3 => ("HaltRing$State", "cells", "[I", true)
  | 4 => ("HaltRing$State", "hartCount", "I", false)
  | 5 => ("HaltRing$State", "triggerCount", "I", false)
  | 6 => ("HaltRing$State", "absent", "I", false)
  | _ => ("HaltRing$State", "wakes", "Z", false)
def jv_ty6 : Nat → FieldType := fun k => match k with
  | 0 => (.object "HaltRing$DebugModule")
  | 1 => (.array (.object "HaltRing$Hart"))
  | 2 => (.array (.object "HaltRing$Trigger"))
  | 3 => (.array .int)
  | 4 => .int
  | 5 => .int
  | 6 => .int
  | _ => .boolean
def jv_T7 : u_T := fun k => match k with
  | 0 => ("HaltRing$Text", "letters", "[I", true)
  | 1 => ("HaltRing$Text", "length", "I", false)
  | 2 => ("HaltRing$Text", "program", "LHaltRing$Program;", true)
  | 3 => ("HaltRing$Text", "state", "LHaltRing$State;", true)
  | 4 => ("HaltRing$Text", "at", "I", false)
  | _ => ("HaltRing$Text", "faulty", "Z", false)
def jv_ty7 : Nat → FieldType := fun k => match k with
  | 0 => (.array .int)
  | 1 => .int
  | 2 => (.object "HaltRing$Program")
  | 3 => (.object "HaltRing$State")
  | 4 => .int
  | _ => .boolean
def jv_T8 : u_T := fun k => match k with
  | 0 => ("HaltRing$Trigger", "owner", "I", false)
  | 1 => ("HaltRing$Trigger", "kind", "I", false)
  | 2 => ("HaltRing$Trigger", "x", "I", false)
  | 3 => ("HaltRing$Trigger", "value", "I", false)
  | 4 => ("HaltRing$Trigger", "count", "I", false)
  | 5 => ("HaltRing$Trigger", "left", "I", false)
  | _ => ("HaltRing$Trigger", "chained", "Z", false)
def jv_ty8 : Nat → FieldType := fun k => match k with
  | 0 => .int
  | 1 => .int
  | 2 => .int
  | 3 => .int
  | 4 => .int
  | 5 => .int
  | _ => .boolean
def jv_T9 : u_T := fun k => match k with
  | 0 => ("HaltRing", "text", "LHaltRing$Text;", true)
  | 1 => ("HaltRing", "program", "LHaltRing$Program;", true)
  | 2 => ("HaltRing", "present", "LHaltRing$State;", true)
  | 3 => ("HaltRing", "trial", "LHaltRing$State;", true)
  | 4 => ("HaltRing", "past", "LHaltRing$Past;", true)
  | 5 => ("HaltRing", "slots", "[LHaltRing$State;", true)
  | 6 => ("HaltRing", "kept", "[Z", true)
  | 7 => ("HaltRing", "sights", "LHaltRing$Sights;", true)
  | 8 => ("HaltRing", "worths", "[I", true)
  | _ => ("HaltRing", "seed", "J", false)
def jv_ty9 : Nat → FieldType := fun k => match k with
  | 0 => (.object "HaltRing$Text")
  | 1 => (.object "HaltRing$Program")
  | 2 => (.object "HaltRing$State")
  | 3 => (.object "HaltRing$State")
  | 4 => (.object "HaltRing$Past")
  | 5 => (.array (.object "HaltRing$State"))
  | 6 => (.array .boolean)
  | 7 => (.object "HaltRing$Sights")
  | 8 => (.array .int)
  | _ => .long
def jv_T10 : u_T := fun k => match k with
  | 0 => ("HaltRingModel", "thrown", "I", false)
  | 1 => ("HaltRingModel", "text", "[I", true)
  | 2 => ("HaltRingModel", "textSize", "I", false)
  | 3 => ("HaltRingModel", "place", "I", false)
  | 4 => ("HaltRingModel", "codes", "I", false)
  | 5 => ("HaltRingModel", "code", "[I", true)
  | 6 => ("HaltRingModel", "harts", "I", false)
  | 7 => ("HaltRingModel", "first", "[I", true)
  | 8 => ("HaltRingModel", "group", "[I", true)
  | 9 => ("HaltRingModel", "triggers", "I", false)
  | 10 => ("HaltRingModel", "whose", "[I", true)
  | 11 => ("HaltRingModel", "readCodes", "I", false)
  | 12 => ("HaltRingModel", "readCode", "[I", true)
  | 13 => ("HaltRingModel", "readHarts", "I", false)
  | 14 => ("HaltRingModel", "readFirst", "[I", true)
  | 15 => ("HaltRingModel", "readGroup", "[I", true)
  | 16 => ("HaltRingModel", "readTriggers", "I", false)
  | 17 => ("HaltRingModel", "readWhose", "[I", true)
  | 18 => ("HaltRingModel", "readPage", "[I", true)
  | 19 => ("HaltRingModel", "page", "[I", true)
  | 20 => ("HaltRingModel", "trial", "[I", true)
  | 21 => ("HaltRingModel", "spare", "[I", true)
  | 22 => ("HaltRingModel", "book", "[I", true)
  | 23 => ("HaltRingModel", "doings", "I", false)
  | 24 => ("HaltRingModel", "kept", "[I", true)
  | 25 => ("HaltRingModel", "isKept", "[Z", true)
  | 26 => ("HaltRingModel", "seen", "I", false)
  | 27 => ("HaltRingModel", "seenBehind", "[I", true)
  | 28 => ("HaltRingModel", "seenWhat", "[I", true)
  | 29 => ("HaltRingModel", "seenV", "[I", true)
  | 30 => ("HaltRingModel", "seed", "J", false)
  | 31 => ("HaltRingModel", "isWritten", "Z", false)
  | 32 => ("HaltRingModel", "present", "I", false)
  | _ => ("HaltRingModel", "worth", "[I", true)
def jv_ty10 : Nat → FieldType := fun k => match k with
  | 0 => .int
  | 1 => (.array .int)
  | 2 => .int
  | 3 => .int
  | 4 => .int
  | 5 => (.array .int)
  | 6 => .int
  | 7 => (.array .int)
  | 8 => (.array .int)
  | 9 => .int
  | 10 => (.array .int)
  | 11 => .int
  | 12 => (.array .int)
  | 13 => .int
  | 14 => (.array .int)
  | 15 => (.array .int)
  | 16 => .int
  | 17 => (.array .int)
  | 18 => (.array .int)
  | 19 => (.array .int)
  | 20 => (.array .int)
  | 21 => (.array .int)
  | 22 => (.array .int)
  | 23 => .int
  | 24 => (.array .int)
  | 25 => (.array .boolean)
  | 26 => .int
  | 27 => (.array .int)
  | 28 => (.array .int)
  | 29 => (.array .int)
  | 30 => .long
  | 31 => .boolean
  | 32 => .int
  | _ => (.array .int)
def jv_cl : List vw_C := [("HaltRing$DebugModule", jv_T0, 5), ("HaltRing$Hart", jv_T1, 7), ("HaltRing$Order", jv_T2, 7), ("HaltRing$Past", jv_T3, 3), ("HaltRing$Program", jv_T4, 4), ("HaltRing$Sights", jv_T5, 4), ("HaltRing$State", jv_T6, 8), ("HaltRing$Text", jv_T7, 6), ("HaltRing$Trigger", jv_T8, 7), ("HaltRing", jv_T9, 10), ("HaltRingModel", jv_T10, 34)]
def jv_ty (t : Nat) : Nat → FieldType := match t with
  | 0 => jv_ty0
  | 1 => jv_ty1
  | 2 => jv_ty2
  | 3 => jv_ty3
  | 4 => jv_ty4
  | 5 => jv_ty5
  | 6 => jv_ty6
  | 7 => jv_ty7
  | 8 => jv_ty8
  | 9 => jv_ty9
  | _ => jv_ty10
/-- the words that keep -/
def jv_tbl : List Cond := lw_tbl.filter goodWord
theorem jv_tbl_good : ∀ w ∈ jv_tbl, goodWord w = true := fun w h => (List.mem_filter.mp h).2
theorem jv_in {w : Cond} (h : w ∈ lw_tbl) (hg : goodWord w = true) : w ∈ jv_tbl := List.mem_filter.mpr ⟨h, hg⟩
theorem jv_good {ws : List Cond} (h : ∀ w ∈ ws, w ∈ jv_tbl) : GoodIn jv_tbl ws := fun w hw => ⟨h w hw, good_of_word (jv_tbl_good w (h w hw))⟩

theorem jv_ok0 : (∀ w ∈ u_ws "HaltRing$DebugModule" jv_T0 5, w ∈ jv_tbl) ∧ (∀ k, k < 5 → parseFieldDescriptor (jv_T0 k).2.2.1 = some (jv_ty0 k)) ∧ (∀ a, a < 5 → ∀ b, b < 5 → a ≠ b → (jv_T0 a).2.1 ≠ (jv_T0 b).2.1) ∧ (∀ k, k < 5 → (jv_T0 k).1 = "HaltRing$DebugModule") := ⟨by decide +kernel, by decide +kernel, by decide +kernel, by decide +kernel⟩
theorem jv_ok1 : (∀ w ∈ u_ws "HaltRing$Hart" jv_T1 7, w ∈ jv_tbl) ∧ (∀ k, k < 7 → parseFieldDescriptor (jv_T1 k).2.2.1 = some (jv_ty1 k)) ∧ (∀ a, a < 7 → ∀ b, b < 7 → a ≠ b → (jv_T1 a).2.1 ≠ (jv_T1 b).2.1) ∧ (∀ k, k < 7 → (jv_T1 k).1 = "HaltRing$Hart") := ⟨by decide +kernel, by decide +kernel, by decide +kernel, by decide +kernel⟩
theorem jv_ok2 : (∀ w ∈ u_ws "HaltRing$Order" jv_T2 7, w ∈ jv_tbl) ∧ (∀ k, k < 7 → parseFieldDescriptor (jv_T2 k).2.2.1 = some (jv_ty2 k)) ∧ (∀ a, a < 7 → ∀ b, b < 7 → a ≠ b → (jv_T2 a).2.1 ≠ (jv_T2 b).2.1) ∧ (∀ k, k < 7 → (jv_T2 k).1 = "HaltRing$Order") := ⟨by decide +kernel, by decide +kernel, by decide +kernel, by decide +kernel⟩
theorem jv_ok3 : (∀ w ∈ u_ws "HaltRing$Past" jv_T3 3, w ∈ jv_tbl) ∧ (∀ k, k < 3 → parseFieldDescriptor (jv_T3 k).2.2.1 = some (jv_ty3 k)) ∧ (∀ a, a < 3 → ∀ b, b < 3 → a ≠ b → (jv_T3 a).2.1 ≠ (jv_T3 b).2.1) ∧ (∀ k, k < 3 → (jv_T3 k).1 = "HaltRing$Past") := ⟨by decide +kernel, by decide +kernel, by decide +kernel, by decide +kernel⟩
theorem jv_ok4 : (∀ w ∈ u_ws "HaltRing$Program" jv_T4 4, w ∈ jv_tbl) ∧ (∀ k, k < 4 → parseFieldDescriptor (jv_T4 k).2.2.1 = some (jv_ty4 k)) ∧ (∀ a, a < 4 → ∀ b, b < 4 → a ≠ b → (jv_T4 a).2.1 ≠ (jv_T4 b).2.1) ∧ (∀ k, k < 4 → (jv_T4 k).1 = "HaltRing$Program") := ⟨by decide +kernel, by decide +kernel, by decide +kernel, by decide +kernel⟩
theorem jv_ok5 : (∀ w ∈ u_ws "HaltRing$Sights" jv_T5 4, w ∈ jv_tbl) ∧ (∀ k, k < 4 → parseFieldDescriptor (jv_T5 k).2.2.1 = some (jv_ty5 k)) ∧ (∀ a, a < 4 → ∀ b, b < 4 → a ≠ b → (jv_T5 a).2.1 ≠ (jv_T5 b).2.1) ∧ (∀ k, k < 4 → (jv_T5 k).1 = "HaltRing$Sights") := ⟨by decide +kernel, by decide +kernel, by decide +kernel, by decide +kernel⟩
theorem jv_ok6 : (∀ w ∈ u_ws "HaltRing$State" jv_T6 8, w ∈ jv_tbl) ∧ (∀ k, k < 8 → parseFieldDescriptor (jv_T6 k).2.2.1 = some (jv_ty6 k)) ∧ (∀ a, a < 8 → ∀ b, b < 8 → a ≠ b → (jv_T6 a).2.1 ≠ (jv_T6 b).2.1) ∧ (∀ k, k < 8 → (jv_T6 k).1 = "HaltRing$State") := ⟨by decide +kernel, by decide +kernel, by decide +kernel, by decide +kernel⟩
theorem jv_ok7 : (∀ w ∈ u_ws "HaltRing$Text" jv_T7 6, w ∈ jv_tbl) ∧ (∀ k, k < 6 → parseFieldDescriptor (jv_T7 k).2.2.1 = some (jv_ty7 k)) ∧ (∀ a, a < 6 → ∀ b, b < 6 → a ≠ b → (jv_T7 a).2.1 ≠ (jv_T7 b).2.1) ∧ (∀ k, k < 6 → (jv_T7 k).1 = "HaltRing$Text") := ⟨by decide +kernel, by decide +kernel, by decide +kernel, by decide +kernel⟩
theorem jv_ok8 : (∀ w ∈ u_ws "HaltRing$Trigger" jv_T8 7, w ∈ jv_tbl) ∧ (∀ k, k < 7 → parseFieldDescriptor (jv_T8 k).2.2.1 = some (jv_ty8 k)) ∧ (∀ a, a < 7 → ∀ b, b < 7 → a ≠ b → (jv_T8 a).2.1 ≠ (jv_T8 b).2.1) ∧ (∀ k, k < 7 → (jv_T8 k).1 = "HaltRing$Trigger") := ⟨by decide +kernel, by decide +kernel, by decide +kernel, by decide +kernel⟩
theorem jv_ok9 : (∀ w ∈ u_ws "HaltRing" jv_T9 10, w ∈ jv_tbl) ∧ (∀ k, k < 10 → parseFieldDescriptor (jv_T9 k).2.2.1 = some (jv_ty9 k)) ∧ (∀ a, a < 10 → ∀ b, b < 10 → a ≠ b → (jv_T9 a).2.1 ≠ (jv_T9 b).2.1) ∧ (∀ k, k < 10 → (jv_T9 k).1 = "HaltRing") := ⟨by decide +kernel, by decide +kernel, by decide +kernel, by decide +kernel⟩
theorem jv_ok10 : (∀ w ∈ u_ws "HaltRingModel" jv_T10 34, w ∈ jv_tbl) ∧ (∀ k, k < 34 → parseFieldDescriptor (jv_T10 k).2.2.1 = some (jv_ty10 k)) ∧ (∀ a, a < 34 → ∀ b, b < 34 → a ≠ b → (jv_T10 a).2.1 ≠ (jv_T10 b).2.1) ∧ (∀ k, k < 34 → (jv_T10 k).1 = "HaltRingModel") := ⟨by decide +kernel, by decide +kernel, by decide +kernel, by decide +kernel⟩
def jv_okc (t : Nat) (r : vw_C) : Prop := (∀ w ∈ u_ws r.1 r.2.1 r.2.2, w ∈ jv_tbl) ∧ (∀ k, k < r.2.2 → parseFieldDescriptor (r.2.1 k).2.2.1 = some (jv_ty t k)) ∧ (∀ a, a < r.2.2 → ∀ b, b < r.2.2 → a ≠ b → (r.2.1 a).2.1 ≠ (r.2.1 b).2.1) ∧ (∀ k, k < r.2.2 → (r.2.1 k).1 = r.1)
theorem jv_ok : ∀ (t : Nat) (r : vw_C), jv_cl[t]? = some r → jv_okc t r := by
  intro t r h
  match t, h with
  | 0, h => cases h; exact jv_ok0
  | 1, h => cases h; exact jv_ok1
  | 2, h => cases h; exact jv_ok2
  | 3, h => cases h; exact jv_ok3
  | 4, h => cases h; exact jv_ok4
  | 5, h => cases h; exact jv_ok5
  | 6, h => cases h; exact jv_ok6
  | 7, h => cases h; exact jv_ok7
  | 8, h => cases h; exact jv_ok8
  | 9, h => cases h; exact jv_ok9
  | 10, h => cases h; exact jv_ok10
  | t + 11, h => simp [jv_cl] at h
def jv_sh_0 : List (Nat × Nat) := [(9, 10), (7, 6), (11, 150), (4, 4), (11, 16), (11, 16), (11, 16), (6, 8), (0, 5), (14, 12), (11, 2), (2, 7), (2, 7), (2, 7), (2, 7), (2, 7), (2, 7), (2, 7), (2, 7), (2, 7), (2, 7), (2, 7), (2, 7), (13, 4), (16, 6), (11, 8), (1, 7), (11, 4), (1, 7), (11, 4), (1, 7), (11, 4), (1, 7), (11, 4), (8, 7), (8, 7), (8, 7), (8, 7), (8, 7), (8, 7), (4, 4), (11, 16), (11, 16), (11, 16), (6, 8), (0, 5), (14, 12), (11, 2), (2, 7), (2, 7), (2, 7), (2, 7), (2, 7), (2, 7), (2, 7), (2, 7), (2, 7), (2, 7), (2, 7), (2, 7), (13, 4), (16, 6), (11, 8), (1, 7), (11, 4), (1, 7), (11, 4), (1, 7), (11, 4), (1, 7), (11, 4), (8, 7), (8, 7), (8, 7), (8, 7), (8, 7), (8, 7), (6, 8), (0, 5), (14, 12), (11, 2), (2, 7), (2, 7), (2, 7), (2, 7), (2, 7), (2, 7), (2, 7), (2, 7), (2, 7), (2, 7), (2, 7), (2, 7), (13, 4), (16, 6), (11, 8), (1, 7), (11, 4), (1, 7), (11, 4)]
def jv_sh_1 : List (Nat × Nat) := [(1, 7), (11, 4), (1, 7), (11, 4), (8, 7), (8, 7), (8, 7), (8, 7), (8, 7), (8, 7), (3, 3), (15, 14), (6, 8), (0, 5), (14, 12), (11, 2), (2, 7), (2, 7), (2, 7), (2, 7), (2, 7), (2, 7), (2, 7), (2, 7), (2, 7), (2, 7), (2, 7), (2, 7), (13, 4), (16, 6), (11, 8), (1, 7), (11, 4), (1, 7), (11, 4), (1, 7), (11, 4), (1, 7), (11, 4), (8, 7), (8, 7), (8, 7), (8, 7), (8, 7), (8, 7), (6, 8), (0, 5), (14, 12), (11, 2), (2, 7), (2, 7), (2, 7), (2, 7), (2, 7), (2, 7), (2, 7), (2, 7), (2, 7), (2, 7), (2, 7), (2, 7), (13, 4), (16, 6), (11, 8), (1, 7), (11, 4), (1, 7), (11, 4), (1, 7), (11, 4), (1, 7), (11, 4), (8, 7), (8, 7), (8, 7), (8, 7), (8, 7), (8, 7), (6, 8), (0, 5), (14, 12), (11, 2), (2, 7), (2, 7), (2, 7), (2, 7), (2, 7), (2, 7), (2, 7), (2, 7), (2, 7), (2, 7), (2, 7), (2, 7), (13, 4), (16, 6), (11, 8), (1, 7), (11, 4), (1, 7)]
def jv_sh_2 : List (Nat × Nat) := [(11, 4), (1, 7), (11, 4), (1, 7), (11, 4), (8, 7), (8, 7), (8, 7), (8, 7), (8, 7), (8, 7), (6, 8), (0, 5), (14, 12), (11, 2), (2, 7), (2, 7), (2, 7), (2, 7), (2, 7), (2, 7), (2, 7), (2, 7), (2, 7), (2, 7), (2, 7), (2, 7), (13, 4), (16, 6), (11, 8), (1, 7), (11, 4), (1, 7), (11, 4), (1, 7), (11, 4), (1, 7), (11, 4), (8, 7), (8, 7), (8, 7), (8, 7), (8, 7), (8, 7), (6, 8), (0, 5), (14, 12), (11, 2), (2, 7), (2, 7), (2, 7), (2, 7), (2, 7), (2, 7), (2, 7), (2, 7), (2, 7), (2, 7), (2, 7), (2, 7), (13, 4), (16, 6), (11, 8), (1, 7), (11, 4), (1, 7), (11, 4), (1, 7), (11, 4), (1, 7), (11, 4), (8, 7), (8, 7), (8, 7), (8, 7), (8, 7), (8, 7), (6, 8), (0, 5), (14, 12), (11, 2), (2, 7), (2, 7), (2, 7), (2, 7), (2, 7), (2, 7), (2, 7), (2, 7), (2, 7), (2, 7), (2, 7), (2, 7), (13, 4), (16, 6), (11, 8), (1, 7), (11, 4), (1, 7), (11, 4)]
def jv_sh_3 : List (Nat × Nat) := [(1, 7), (11, 4), (1, 7), (11, 4), (8, 7), (8, 7), (8, 7), (8, 7), (8, 7), (8, 7), (6, 8), (0, 5), (14, 12), (11, 2), (2, 7), (2, 7), (2, 7), (2, 7), (2, 7), (2, 7), (2, 7), (2, 7), (2, 7), (2, 7), (2, 7), (2, 7), (13, 4), (16, 6), (11, 8), (1, 7), (11, 4), (1, 7), (11, 4), (1, 7), (11, 4), (1, 7), (11, 4), (8, 7), (8, 7), (8, 7), (8, 7), (8, 7), (8, 7), (6, 8), (0, 5), (14, 12), (11, 2), (2, 7), (2, 7), (2, 7), (2, 7), (2, 7), (2, 7), (2, 7), (2, 7), (2, 7), (2, 7), (2, 7), (2, 7), (13, 4), (16, 6), (11, 8), (1, 7), (11, 4), (1, 7), (11, 4), (1, 7), (11, 4), (1, 7), (11, 4), (8, 7), (8, 7), (8, 7), (8, 7), (8, 7), (8, 7), (6, 8), (0, 5), (14, 12), (11, 2), (2, 7), (2, 7), (2, 7), (2, 7), (2, 7), (2, 7), (2, 7), (2, 7), (2, 7), (2, 7), (2, 7), (2, 7), (13, 4), (16, 6), (11, 8), (1, 7), (11, 4), (1, 7), (11, 4), (1, 7)]
def jv_sh_4 : List (Nat × Nat) := [(11, 4), (1, 7), (11, 4), (8, 7), (8, 7), (8, 7), (8, 7), (8, 7), (8, 7), (6, 8), (0, 5), (14, 12), (11, 2), (2, 7), (2, 7), (2, 7), (2, 7), (2, 7), (2, 7), (2, 7), (2, 7), (2, 7), (2, 7), (2, 7), (2, 7), (13, 4), (16, 6), (11, 8), (1, 7), (11, 4), (1, 7), (11, 4), (1, 7), (11, 4), (1, 7), (11, 4), (8, 7), (8, 7), (8, 7), (8, 7), (8, 7), (8, 7), (6, 8), (0, 5), (14, 12), (11, 2), (2, 7), (2, 7), (2, 7), (2, 7), (2, 7), (2, 7), (2, 7), (2, 7), (2, 7), (2, 7), (2, 7), (2, 7), (13, 4), (16, 6), (11, 8), (1, 7), (11, 4), (1, 7), (11, 4), (1, 7), (11, 4), (1, 7), (11, 4), (8, 7), (8, 7), (8, 7), (8, 7), (8, 7), (8, 7), (6, 8), (0, 5), (14, 12), (11, 2), (2, 7), (2, 7), (2, 7), (2, 7), (2, 7), (2, 7), (2, 7), (2, 7), (2, 7), (2, 7), (2, 7), (2, 7), (13, 4), (16, 6), (11, 8), (1, 7), (11, 4), (1, 7), (11, 4), (1, 7), (11, 4)]
def jv_sh_5 : List (Nat × Nat) := [(1, 7), (11, 4), (8, 7), (8, 7), (8, 7), (8, 7), (8, 7), (8, 7), (6, 8), (0, 5), (14, 12), (11, 2), (2, 7), (2, 7), (2, 7), (2, 7), (2, 7), (2, 7), (2, 7), (2, 7), (2, 7), (2, 7), (2, 7), (2, 7), (13, 4), (16, 6), (11, 8), (1, 7), (11, 4), (1, 7), (11, 4), (1, 7), (11, 4), (1, 7), (11, 4), (8, 7), (8, 7), (8, 7), (8, 7), (8, 7), (8, 7), (6, 8), (0, 5), (14, 12), (11, 2), (2, 7), (2, 7), (2, 7), (2, 7), (2, 7), (2, 7), (2, 7), (2, 7), (2, 7), (2, 7), (2, 7), (2, 7), (13, 4), (16, 6), (11, 8), (1, 7), (11, 4), (1, 7), (11, 4), (1, 7), (11, 4), (1, 7), (11, 4), (8, 7), (8, 7), (8, 7), (8, 7), (8, 7), (8, 7), (15, 2), (12, 2), (5, 4), (11, 6), (11, 6), (11, 6), (11, 64), (6, 8), (0, 5), (14, 12), (11, 2), (2, 7), (2, 7), (2, 7), (2, 7), (2, 7), (2, 7), (2, 7), (2, 7), (2, 7), (2, 7), (2, 7), (2, 7), (13, 4), (16, 6), (11, 8)]
def jv_sh_6 : List (Nat × Nat) := [(1, 7), (11, 4), (1, 7), (11, 4), (1, 7), (11, 4), (1, 7), (11, 4), (8, 7), (8, 7), (8, 7), (8, 7), (8, 7), (8, 7), (6, 8), (0, 5), (14, 12), (11, 2), (2, 7), (2, 7), (2, 7), (2, 7), (2, 7), (2, 7), (2, 7), (2, 7), (2, 7), (2, 7), (2, 7), (2, 7), (13, 4), (16, 6), (11, 8), (1, 7), (11, 4), (1, 7), (11, 4), (1, 7), (11, 4), (1, 7), (11, 4), (8, 7), (8, 7), (8, 7), (8, 7), (8, 7), (8, 7), (10, 34), (11, 150), (11, 16), (11, 4), (11, 4), (11, 6), (11, 16), (11, 4), (11, 4), (11, 6), (11, 165), (11, 165), (11, 165), (11, 165), (11, 2310), (11, 330), (12, 2), (11, 6), (11, 6), (11, 6), (11, 64)]
def jv_shl : List (Nat × Nat) := jv_sh_0 ++ jv_sh_1 ++ jv_sh_2 ++ jv_sh_3 ++ jv_sh_4 ++ jv_sh_5 ++ jv_sh_6
/-- the kind and the length of each cell, by its number -/
def jv_sh (a : Nat) : Nat × Nat := jv_shl.getD a (99, 0)
def jv_len (t : Nat) : Nat := match jv_cl[t]? with
  | some r => r.2.2
  | none => 0
theorem jv_shlen0 : ∀ q ∈ jv_shl, q.1 < 11 → jv_len q.1 = q.2 := by decide +kernel
theorem jv_shlen (a : Nat) (h : (jv_sh a).1 < 11) : ∃ r, jv_cl[(jv_sh a).1]? = some r ∧ (jv_sh a).2 = r.2.2 := by
  have h0 : jv_sh a ∈ jv_shl := by
    unfold jv_sh at h ⊢
    rw [List.getD_eq_getElem?_getD] at h ⊢
    cases hq : jv_shl[a]? with
    | none => rw [hq] at h; simp at h
    | some q => exact List.mem_of_getElem? hq
  have h1 := jv_shlen0 _ h0 h
  have h2 : (jv_sh a).1 < jv_cl.length := h
  refine ⟨jv_cl[(jv_sh a).1], List.getElem?_eq_getElem h2, ?_⟩
  rw [← h1]
  unfold jv_len
  rw [List.getElem?_eq_getElem h2]
/-- 1: a reference, 2: a long, 0: an int or a boolean -/
def jv_ft (t k : Nat) : Nat := match jv_ty t k with
  | .long => 2
  | .array _ => 1
  | .object _ => 1
  | _ => 0
