section
-- ===== PART A: goes FIRST, ahead of the names: the tables' words, and 'selects' of the private methods out of them =====
/-- a private method of a class that the tables say can be made, by its rows of tables_1 -/
def lw_okq (q : MethodName × Nat) : Prop := (q.1.cls ≠ "java/lang/invoke/MethodHandle" ∧ q.1.cls ≠ "java/lang/invoke/VarHandle") ∧ Cond.instantiable q.1.cls q.2 ∈ tables_1 ∧ Cond.privateMethod q.1 ∈ tables_1 ∧ Cond.instanceMethod q.1 ∈ tables_1
theorem lw_p0 : lw_okq (⟨"HaltRing", "isHart", "(I)Z"⟩, 10) := ⟨⟨by decide +kernel, by decide +kernel⟩, List.mem_of_getElem? (i := 21) (by decide +kernel), List.mem_of_getElem? (i := 552) (by decide +kernel), List.mem_of_getElem? (i := 553) (by decide +kernel)⟩
theorem lw_p1 : lw_okq (⟨"HaltRing", "isTrigger", "(I)Z"⟩, 10) := ⟨⟨by decide +kernel, by decide +kernel⟩, List.mem_of_getElem? (i := 21) (by decide +kernel), List.mem_of_getElem? (i := 566) (by decide +kernel), List.mem_of_getElem? (i := 567) (by decide +kernel)⟩
theorem lw_p2 : lw_okq (⟨"HaltRing", "ticksUntilHalted", "(II)I"⟩, 10) := ⟨⟨by decide +kernel, by decide +kernel⟩, List.mem_of_getElem? (i := 21) (by decide +kernel), List.mem_of_getElem? (i := 747) (by decide +kernel), List.mem_of_getElem? (i := 748) (by decide +kernel)⟩
theorem lw_p3 : lw_okq (⟨"HaltRing", "ticksWithHalts", "(II)I"⟩, 10) := ⟨⟨by decide +kernel, by decide +kernel⟩, List.mem_of_getElem? (i := 21) (by decide +kernel), List.mem_of_getElem? (i := 764) (by decide +kernel), List.mem_of_getElem? (i := 765) (by decide +kernel)⟩
theorem lw_p4 : lw_okq (⟨"HaltRing", "holdsInTrial", "(I)Z"⟩, 10) := ⟨⟨by decide +kernel, by decide +kernel⟩, List.mem_of_getElem? (i := 21) (by decide +kernel), List.mem_of_getElem? (i := 783) (by decide +kernel), List.mem_of_getElem? (i := 784) (by decide +kernel)⟩
theorem lw_p5 : lw_okq (⟨"HaltRing", "isSentInTrial", "(II)Z"⟩, 10) := ⟨⟨by decide +kernel, by decide +kernel⟩, List.mem_of_getElem? (i := 21) (by decide +kernel), List.mem_of_getElem? (i := 788) (by decide +kernel), List.mem_of_getElem? (i := 789) (by decide +kernel)⟩
theorem lw_p6 : lw_okq (⟨"HaltRing", "worth", "(I)I"⟩, 10) := ⟨⟨by decide +kernel, by decide +kernel⟩, List.mem_of_getElem? (i := 21) (by decide +kernel), List.mem_of_getElem? (i := 822) (by decide +kernel), List.mem_of_getElem? (i := 823) (by decide +kernel)⟩
theorem lw_p7 : lw_okq (⟨"HaltRing", "endsHaltedWithout", "(I)Z"⟩, 10) := ⟨⟨by decide +kernel, by decide +kernel⟩, List.mem_of_getElem? (i := 21) (by decide +kernel), List.mem_of_getElem? (i := 838) (by decide +kernel), List.mem_of_getElem? (i := 839) (by decide +kernel)⟩
theorem lw_p8 : lw_okq (⟨"HaltRingModel", "readBoard", "()I"⟩, 34) := ⟨⟨by decide +kernel, by decide +kernel⟩, List.mem_of_getElem? (i := 869) (by decide +kernel), List.mem_of_getElem? (i := 994) (by decide +kernel), List.mem_of_getElem? (i := 995) (by decide +kernel)⟩
theorem lw_p9 : lw_okq (⟨"HaltRingModel", "readPart", "()Z"⟩, 34) := ⟨⟨by decide +kernel, by decide +kernel⟩, List.mem_of_getElem? (i := 869) (by decide +kernel), List.mem_of_getElem? (i := 998) (by decide +kernel), List.mem_of_getElem? (i := 999) (by decide +kernel)⟩
theorem lw_p10 : lw_okq (⟨"HaltRingModel", "readInstruction", "()Z"⟩, 34) := ⟨⟨by decide +kernel, by decide +kernel⟩, List.mem_of_getElem? (i := 869) (by decide +kernel), List.mem_of_getElem? (i := 1002) (by decide +kernel), List.mem_of_getElem? (i := 1003) (by decide +kernel)⟩
theorem lw_p11 : lw_okq (⟨"HaltRingModel", "isNext", "(III)Z"⟩, 34) := ⟨⟨by decide +kernel, by decide +kernel⟩, List.mem_of_getElem? (i := 869) (by decide +kernel), List.mem_of_getElem? (i := 1009) (by decide +kernel), List.mem_of_getElem? (i := 1010) (by decide +kernel)⟩
theorem lw_p12 : lw_okq (⟨"HaltRingModel", "taken", "(I)I"⟩, 34) := ⟨⟨by decide +kernel, by decide +kernel⟩, List.mem_of_getElem? (i := 869) (by decide +kernel), List.mem_of_getElem? (i := 1013) (by decide +kernel), List.mem_of_getElem? (i := 1014) (by decide +kernel)⟩
theorem lw_p13 : lw_okq (⟨"HaltRingModel", "readHart", "()Z"⟩, 34) := ⟨⟨by decide +kernel, by decide +kernel⟩, List.mem_of_getElem? (i := 869) (by decide +kernel), List.mem_of_getElem? (i := 1017) (by decide +kernel), List.mem_of_getElem? (i := 1018) (by decide +kernel)⟩
theorem lw_p14 : lw_okq (⟨"HaltRingModel", "readTrigger", "(Z)Z"⟩, 34) := ⟨⟨by decide +kernel, by decide +kernel⟩, List.mem_of_getElem? (i := 869) (by decide +kernel), List.mem_of_getElem? (i := 1021) (by decide +kernel), List.mem_of_getElem? (i := 1022) (by decide +kernel)⟩
theorem lw_p15 : lw_okq (⟨"HaltRingModel", "noHart", "(I)Z"⟩, 34) := ⟨⟨by decide +kernel, by decide +kernel⟩, List.mem_of_getElem? (i := 869) (by decide +kernel), List.mem_of_getElem? (i := 1036) (by decide +kernel), List.mem_of_getElem? (i := 1037) (by decide +kernel)⟩
def lw_privs_1 : List (MethodName × Nat) := [(⟨"HaltRing", "isHart", "(I)Z"⟩, 10), (⟨"HaltRing", "isTrigger", "(I)Z"⟩, 10), (⟨"HaltRing", "ticksUntilHalted", "(II)I"⟩, 10), (⟨"HaltRing", "ticksWithHalts", "(II)I"⟩, 10), (⟨"HaltRing", "holdsInTrial", "(I)Z"⟩, 10), (⟨"HaltRing", "isSentInTrial", "(II)Z"⟩, 10), (⟨"HaltRing", "worth", "(I)I"⟩, 10), (⟨"HaltRing", "endsHaltedWithout", "(I)Z"⟩, 10), (⟨"HaltRingModel", "readBoard", "()I"⟩, 34), (⟨"HaltRingModel", "readPart", "()Z"⟩, 34), (⟨"HaltRingModel", "readInstruction", "()Z"⟩, 34), (⟨"HaltRingModel", "isNext", "(III)Z"⟩, 34), (⟨"HaltRingModel", "taken", "(I)I"⟩, 34), (⟨"HaltRingModel", "readHart", "()Z"⟩, 34), (⟨"HaltRingModel", "readTrigger", "(Z)Z"⟩, 34), (⟨"HaltRingModel", "noHart", "(I)Z"⟩, 34)]
theorem lw_r1 : ∀ q ∈ lw_privs_1, lw_okq q := List.forall_mem_cons.mpr ⟨lw_p0, List.forall_mem_cons.mpr ⟨lw_p1, List.forall_mem_cons.mpr ⟨lw_p2, List.forall_mem_cons.mpr ⟨lw_p3, List.forall_mem_cons.mpr ⟨lw_p4, List.forall_mem_cons.mpr ⟨lw_p5, List.forall_mem_cons.mpr ⟨lw_p6, List.forall_mem_cons.mpr ⟨lw_p7, List.forall_mem_cons.mpr ⟨lw_p8, List.forall_mem_cons.mpr ⟨lw_p9, List.forall_mem_cons.mpr ⟨lw_p10, List.forall_mem_cons.mpr ⟨lw_p11, List.forall_mem_cons.mpr ⟨lw_p12, List.forall_mem_cons.mpr ⟨lw_p13, List.forall_mem_cons.mpr ⟨lw_p14, List.forall_mem_cons.mpr ⟨lw_p15, fun _ h => absurd h List.not_mem_nil⟩⟩⟩⟩⟩⟩⟩⟩⟩⟩⟩⟩⟩⟩⟩⟩
theorem lw_p16 : lw_okq (⟨"HaltRingModel", "tellHart", "([III)I"⟩, 34) := ⟨⟨by decide +kernel, by decide +kernel⟩, List.mem_of_getElem? (i := 869) (by decide +kernel), List.mem_of_getElem? (i := 1041) (by decide +kernel), List.mem_of_getElem? (i := 1042) (by decide +kernel)⟩
theorem lw_p17 : lw_okq (⟨"HaltRingModel", "note", "()V"⟩, 34) := ⟨⟨by decide +kernel, by decide +kernel⟩, List.mem_of_getElem? (i := 869) (by decide +kernel), List.mem_of_getElem? (i := 1068) (by decide +kernel), List.mem_of_getElem? (i := 1069) (by decide +kernel)⟩
theorem lw_p18 : lw_okq (⟨"HaltRingModel", "tickMany", "([II)V"⟩, 34) := ⟨⟨by decide +kernel, by decide +kernel⟩, List.mem_of_getElem? (i := 869) (by decide +kernel), List.mem_of_getElem? (i := 1072) (by decide +kernel), List.mem_of_getElem? (i := 1073) (by decide +kernel)⟩
theorem lw_p19 : lw_okq (⟨"HaltRingModel", "tickOn", "([I)V"⟩, 34) := ⟨⟨by decide +kernel, by decide +kernel⟩, List.mem_of_getElem? (i := 869) (by decide +kernel), List.mem_of_getElem? (i := 1076) (by decide +kernel), List.mem_of_getElem? (i := 1077) (by decide +kernel)⟩
theorem lw_p20 : lw_okq (⟨"HaltRingModel", "goRound", "([I)V"⟩, 34) := ⟨⟨by decide +kernel, by decide +kernel⟩, List.mem_of_getElem? (i := 869) (by decide +kernel), List.mem_of_getElem? (i := 1083) (by decide +kernel), List.mem_of_getElem? (i := 1084) (by decide +kernel)⟩
theorem lw_p21 : lw_okq (⟨"HaltRingModel", "reach", "([II)V"⟩, 34) := ⟨⟨by decide +kernel, by decide +kernel⟩, List.mem_of_getElem? (i := 869) (by decide +kernel), List.mem_of_getElem? (i := 1087) (by decide +kernel), List.mem_of_getElem? (i := 1088) (by decide +kernel)⟩
theorem lw_p22 : lw_okq (⟨"HaltRingModel", "reset", "([II)V"⟩, 34) := ⟨⟨by decide +kernel, by decide +kernel⟩, List.mem_of_getElem? (i := 869) (by decide +kernel), List.mem_of_getElem? (i := 1097) (by decide +kernel), List.mem_of_getElem? (i := 1098) (by decide +kernel)⟩
theorem lw_p23 : lw_okq (⟨"HaltRingModel", "runBuffer", "([II)I"⟩, 34) := ⟨⟨by decide +kernel, by decide +kernel⟩, List.mem_of_getElem? (i := 869) (by decide +kernel), List.mem_of_getElem? (i := 1101) (by decide +kernel), List.mem_of_getElem? (i := 1102) (by decide +kernel)⟩
theorem lw_p24 : lw_okq (⟨"HaltRingModel", "doPlain", "([III)V"⟩, 34) := ⟨⟨by decide +kernel, by decide +kernel⟩, List.mem_of_getElem? (i := 869) (by decide +kernel), List.mem_of_getElem? (i := 1108) (by decide +kernel), List.mem_of_getElem? (i := 1109) (by decide +kernel)⟩
theorem lw_p25 : lw_okq (⟨"HaltRingModel", "runHart", "([II)V"⟩, 34) := ⟨⟨by decide +kernel, by decide +kernel⟩, List.mem_of_getElem? (i := 869) (by decide +kernel), List.mem_of_getElem? (i := 1115) (by decide +kernel), List.mem_of_getElem? (i := 1116) (by decide +kernel)⟩
theorem lw_p26 : lw_okq (⟨"HaltRingModel", "isCaught", "([II)Z"⟩, 34) := ⟨⟨by decide +kernel, by decide +kernel⟩, List.mem_of_getElem? (i := 869) (by decide +kernel), List.mem_of_getElem? (i := 1119) (by decide +kernel), List.mem_of_getElem? (i := 1120) (by decide +kernel)⟩
theorem lw_p27 : lw_okq (⟨"HaltRingModel", "matches", "([II)Z"⟩, 34) := ⟨⟨by decide +kernel, by decide +kernel⟩, List.mem_of_getElem? (i := 869) (by decide +kernel), List.mem_of_getElem? (i := 1123) (by decide +kernel), List.mem_of_getElem? (i := 1124) (by decide +kernel)⟩
theorem lw_p28 : lw_okq (⟨"HaltRingModel", "leads", "([II)Z"⟩, 34) := ⟨⟨by decide +kernel, by decide +kernel⟩, List.mem_of_getElem? (i := 869) (by decide +kernel), List.mem_of_getElem? (i := 1130) (by decide +kernel), List.mem_of_getElem? (i := 1131) (by decide +kernel)⟩
theorem lw_p29 : lw_okq (⟨"HaltRingModel", "haltsOn", "([II)I"⟩, 34) := ⟨⟨by decide +kernel, by decide +kernel⟩, List.mem_of_getElem? (i := 869) (by decide +kernel), List.mem_of_getElem? (i := 1182) (by decide +kernel), List.mem_of_getElem? (i := 1183) (by decide +kernel)⟩
theorem lw_p30 : lw_okq (⟨"HaltRingModel", "allBy", "(I)I"⟩, 34) := ⟨⟨by decide +kernel, by decide +kernel⟩, List.mem_of_getElem? (i := 869) (by decide +kernel), List.mem_of_getElem? (i := 1194) (by decide +kernel), List.mem_of_getElem? (i := 1195) (by decide +kernel)⟩
theorem lw_p31 : lw_okq (⟨"HaltRingModel", "does", "(I)Z"⟩, 34) := ⟨⟨by decide +kernel, by decide +kernel⟩, List.mem_of_getElem? (i := 869) (by decide +kernel), List.mem_of_getElem? (i := 1210) (by decide +kernel), List.mem_of_getElem? (i := 1211) (by decide +kernel)⟩
def lw_privs_2 : List (MethodName × Nat) := [(⟨"HaltRingModel", "tellHart", "([III)I"⟩, 34), (⟨"HaltRingModel", "note", "()V"⟩, 34), (⟨"HaltRingModel", "tickMany", "([II)V"⟩, 34), (⟨"HaltRingModel", "tickOn", "([I)V"⟩, 34), (⟨"HaltRingModel", "goRound", "([I)V"⟩, 34), (⟨"HaltRingModel", "reach", "([II)V"⟩, 34), (⟨"HaltRingModel", "reset", "([II)V"⟩, 34), (⟨"HaltRingModel", "runBuffer", "([II)I"⟩, 34), (⟨"HaltRingModel", "doPlain", "([III)V"⟩, 34), (⟨"HaltRingModel", "runHart", "([II)V"⟩, 34), (⟨"HaltRingModel", "isCaught", "([II)Z"⟩, 34), (⟨"HaltRingModel", "matches", "([II)Z"⟩, 34), (⟨"HaltRingModel", "leads", "([II)Z"⟩, 34), (⟨"HaltRingModel", "haltsOn", "([II)I"⟩, 34), (⟨"HaltRingModel", "allBy", "(I)I"⟩, 34), (⟨"HaltRingModel", "does", "(I)Z"⟩, 34)]
theorem lw_r2 : ∀ q ∈ lw_privs_2, lw_okq q := List.forall_mem_cons.mpr ⟨lw_p16, List.forall_mem_cons.mpr ⟨lw_p17, List.forall_mem_cons.mpr ⟨lw_p18, List.forall_mem_cons.mpr ⟨lw_p19, List.forall_mem_cons.mpr ⟨lw_p20, List.forall_mem_cons.mpr ⟨lw_p21, List.forall_mem_cons.mpr ⟨lw_p22, List.forall_mem_cons.mpr ⟨lw_p23, List.forall_mem_cons.mpr ⟨lw_p24, List.forall_mem_cons.mpr ⟨lw_p25, List.forall_mem_cons.mpr ⟨lw_p26, List.forall_mem_cons.mpr ⟨lw_p27, List.forall_mem_cons.mpr ⟨lw_p28, List.forall_mem_cons.mpr ⟨lw_p29, List.forall_mem_cons.mpr ⟨lw_p30, List.forall_mem_cons.mpr ⟨lw_p31, fun _ h => absurd h List.not_mem_nil⟩⟩⟩⟩⟩⟩⟩⟩⟩⟩⟩⟩⟩⟩⟩⟩
def lw_privs : List (MethodName × Nat) := lw_privs_1 ++ (lw_privs_2)
def lw_tbl : List Cond := k2_sels lw_privs ++ tables_1
theorem lw_privs_ok : ∀ q ∈ lw_privs, lw_okq q := by
  show ∀ q ∈ lw_privs_1 ++ (lw_privs_2), lw_okq q
  exact List.forall_mem_append.mpr ⟨lw_r1, lw_r2⟩

def jv_T0 : u_T := fun k => match k with
  | 0 => ("HaltRing$DebugModule", "orders", "[LHaltRing$Order;", true)
  | 1 => ("HaltRing$DebugModule", "buffer", "[I", true)
  | 2 => ("HaltRing$DebugModule", "orderCount", "I", false)
  | 3 => ("HaltRing$DebugModule", "error", "I", false)
  | _ => ("HaltRing$DebugModule", "data", "I", false)
def jv_ty0 : Nat → FieldType := fun k => match k with
  | 0 => (.array (.object "HaltRing$Order"))
  | 1 => (.array .int)
  | 2 => .int
  | 3 => .int
  | _ => .int
def jv_T1 : u_T := fun k => match k with
  | 0 => ("HaltRing$Hart", "registers", "[I", true)
  | 1 => ("HaltRing$Hart", "first", "I", false)
  | 2 => ("HaltRing$Hart", "group", "I", false)
  | 3 => ("HaltRing$Hart", "place", "I", false)
  | 4 => ("HaltRing$Hart", "mode", "I", false)
  | 5 => ("HaltRing$Hart", "cause", "I", false)
  | _ => ("HaltRing$Hart", "mark", "Z", false)
def jv_ty1 : Nat → FieldType := fun k => match k with
  | 0 => (.array .int)
  | 1 => .int
  | 2 => .int
  | 3 => .int
  | 4 => .int
  | 5 => .int
  | _ => .boolean
def jv_T2 : u_T := fun k => match k with
  | 0 => ("HaltRing$Order", "kind", "I", false)
  | 1 => ("HaltRing$Order", "target", "I", false)
  | 2 => ("HaltRing$Order", "register", "I", false)
  | 3 => ("HaltRing$Order", "value", "I", false)
  | 4 => ("HaltRing$Order", "age", "I", false)
  | 5 => ("HaltRing$Order", "code", "I", false)
  | _ => ("HaltRing$Order", "taken", "I", false)
def jv_ty2 : Nat → FieldType := fun k => match k with
  | 0 => .int
  | 1 => .int
  | 2 => .int
  | 3 => .int
  | 4 => .int
  | 5 => .int
  | _ => .int
def jv_T3 : u_T := fun k => match k with
  | 0 => ("HaltRing$Past", "states", "[LHaltRing$State;", true)
  | 1 => ("HaltRing$Past", "next", "I", false)
  | _ => ("HaltRing$Past", "size", "I", false)
def jv_ty3 : Nat → FieldType := fun k => match k with
  | 0 => (.array (.object "HaltRing$State"))
  | 1 => .int
  | _ => .int
def jv_T4 : u_T := fun k => match k with
  | 0 => ("HaltRing$Program", "codes", "[I", true)
  | 1 => ("HaltRing$Program", "firsts", "[I", true)
  | 2 => ("HaltRing$Program", "seconds", "[I", true)
  | _ => ("HaltRing$Program", "length", "I", false)
def jv_ty4 : Nat → FieldType := fun k => match k with
  | 0 => (.array .int)
  | 1 => (.array .int)
  | 2 => (.array .int)
  | _ => .int
def jv_T5 : u_T := fun k => match k with
  | 0 => ("HaltRing$Sights", "ticks", "[I", true)
  | 1 => ("HaltRing$Sights", "whats", "[I", true)
  | 2 => ("HaltRing$Sights", "values", "[I", true)
  | _ => ("HaltRing$Sights", "size", "I", false)
def jv_ty5 : Nat → FieldType := fun k => match k with
  | 0 => (.array .int)
  | 1 => (.array .int)
  | 2 => (.array .int)
  | _ => .int
def jv_T6 : u_T := fun k => match k with
  | 0 => ("HaltRing$State", "module", "LHaltRing$DebugModule;", true)
  | 1 => ("HaltRing$State", "harts", "[LHaltRing$Hart;", true)
  | 2 => ("HaltRing$State", "triggers", "[LHaltRing$Trigger;", true)
  | 3 => ("HaltRing$State", "cells", "[I", true)
  | 4 => ("HaltRing$State", "hartCount", "I", false)
  | 5 => ("HaltRing$State", "triggerCount", "I", false)
  | 6 => ("HaltRing$State", "absent", "I", false)
  | _ => ("HaltRing$State", "wakes", "Z", false)
def jv_ty6 : Nat → FieldType := fun k => match k with
  | 0 => (.object "HaltRing$DebugModule")
  | 1 => (.array (.object "HaltRing$Hart"))
  | 2 => (.array (.object "HaltRing$Trigger"))
  | 3 => (.array .int)
  | 4 => .int
  | 5 => .int
  | 6 => .int
  | _ => .boolean
def jv_T7 : u_T := fun k => match k with
  | 0 => ("HaltRing$Text", "letters", "[I", true)
  | 1 => ("HaltRing$Text", "length", "I", false)
  | 2 => ("HaltRing$Text", "program", "LHaltRing$Program;", true)
  | 3 => ("HaltRing$Text", "state", "LHaltRing$State;", true)
  | 4 => ("HaltRing$Text", "at", "I", false)
  | _ => ("HaltRing$Text", "faulty", "Z", false)
def jv_ty7 : Nat → FieldType := fun k => match k with
  | 0 => (.array .int)
  | 1 => .int
  | 2 => (.object "HaltRing$Program")
  | 3 => (.object "HaltRing$State")
  | 4 => .int
  | _ => .boolean
def jv_T8 : u_T := fun k => match k with
  | 0 => ("HaltRing$Trigger", "owner", "I", false)
  | 1 => ("HaltRing$Trigger", "kind", "I", false)
  | 2 => ("HaltRing$Trigger", "x", "I", false)
  | 3 => ("HaltRing$Trigger", "value", "I", false)
  | 4 => ("HaltRing$Trigger", "count", "I", false)
  | 5 => ("HaltRing$Trigger", "left", "I", false)
  | _ => ("HaltRing$Trigger", "chained", "Z", false)
def jv_ty8 : Nat → FieldType := fun k => match k with
  | 0 => .int
  | 1 => .int
  | 2 => .int
  | 3 => .int
  | 4 => .int
  | 5 => .int
  | _ => .boolean
def jv_T9 : u_T := fun k => match k with
  | 0 => ("HaltRing", "text", "LHaltRing$Text;", true)
  | 1 => ("HaltRing", "program", "LHaltRing$Program;", true)
  | 2 => ("HaltRing", "present", "LHaltRing$State;", true)
  | 3 => ("HaltRing", "trial", "LHaltRing$State;", true)
  | 4 => ("HaltRing", "past", "LHaltRing$Past;", true)
  | 5 => ("HaltRing", "slots", "[LHaltRing$State;", true)
  | 6 => ("HaltRing", "kept", "[Z", true)
  | 7 => ("HaltRing", "sights", "LHaltRing$Sights;", true)
  | 8 => ("HaltRing", "worths", "[I", true)
  | _ => ("HaltRing", "seed", "J", false)
def jv_ty9 : Nat → FieldType := fun k => match k with
  | 0 => (.object "HaltRing$Text")
  | 1 => (.object "HaltRing$Program")
  | 2 => (.object "HaltRing$State")
  | 3 => (.object "HaltRing$State")
  | 4 => (.object "HaltRing$Past")
  | 5 => (.array (.object "HaltRing$State"))
  | 6 => (.array .boolean)
  | 7 => (.object "HaltRing$Sights")
  | 8 => (.array .int)
  | _ => .long
def jv_T10 : u_T := fun k => match k with
  | 0 => ("HaltRingModel", "thrown", "I", false)
  | 1 => ("HaltRingModel", "text", "[I", true)
  | 2 => ("HaltRingModel", "textSize", "I", false)
  | 3 => ("HaltRingModel", "place", "I", false)
  | 4 => ("HaltRingModel", "codes", "I", false)
  | 5 => ("HaltRingModel", "code", "[I", true)
  | 6 => ("HaltRingModel", "harts", "I", false)
  | 7 => ("HaltRingModel", "first", "[I", true)
  | 8 => ("HaltRingModel", "group", "[I", true)
  | 9 => ("HaltRingModel", "triggers", "I", false)
  | 10 => ("HaltRingModel", "whose", "[I", true)
  | 11 => ("HaltRingModel", "readCodes", "I", false)
  | 12 => ("HaltRingModel", "readCode", "[I", true)
  | 13 => ("HaltRingModel", "readHarts", "I", false)
  | 14 => ("HaltRingModel", "readFirst", "[I", true)
  | 15 => ("HaltRingModel", "readGroup", "[I", true)
  | 16 => ("HaltRingModel", "readTriggers", "I", false)
  | 17 => ("HaltRingModel", "readWhose", "[I", true)
  | 18 => ("HaltRingModel", "readPage", "[I", true)
  | 19 => ("HaltRingModel", "page", "[I", true)
  | 20 => ("HaltRingModel", "trial", "[I", true)
  | 21 => ("HaltRingModel", "spare", "[I", true)
  | 22 => ("HaltRingModel", "book", "[I", true)
  | 23 => ("HaltRingModel", "doings", "I", false)
  | 24 => ("HaltRingModel", "kept", "[I", true)
  | 25 => ("HaltRingModel", "isKept", "[Z", true)
  | 26 => ("HaltRingModel", "seen", "I", false)
  | 27 => ("HaltRingModel", "seenBehind", "[I", true)
  | 28 => ("HaltRingModel", "seenWhat", "[I", true)
  | 29 => ("HaltRingModel", "seenV", "[I", true)
  | 30 => ("HaltRingModel", "seed", "J", false)
  | 31 => ("HaltRingModel", "isWritten", "Z", false)
  | 32 => ("HaltRingModel", "present", "I", false)
  | _ => ("HaltRingModel", "worth", "[I", true)
def jv_ty10 : Nat → FieldType := fun k => match k with
  | 0 => .int
  | 1 => (.array .int)
  | 2 => .int
  | 3 => .int
  | 4 => .int
  | 5 => (.array .int)
  | 6 => .int
  | 7 => (.array .int)
  | 8 => (.array .int)
  | 9 => .int
  | 10 => (.array .int)
  | 11 => .int
  | 12 => (.array .int)
  | 13 => .int
  | 14 => (.array .int)
  | 15 => (.array .int)
  | 16 => .int
  | 17 => (.array .int)
  | 18 => (.array .int)
  | 19 => (.array .int)
  | 20 => (.array .int)
  | 21 => (.array .int)
  | 22 => (.array .int)
  | 23 => .int
  | 24 => (.array .int)
  | 25 => (.array .boolean)
  | 26 => .int
  | 27 => (.array .int)
  | 28 => (.array .int)
  | 29 => (.array .int)
  | 30 => .long
  | 31 => .boolean
  | 32 => .int
  | _ => (.array .int)
def jv_cl : List vw_C := [("HaltRing$DebugModule", jv_T0, 5), ("HaltRing$Hart", jv_T1, 7), ("HaltRing$Order", jv_T2, 7), ("HaltRing$Past", jv_T3, 3), ("HaltRing$Program", jv_T4, 4), ("HaltRing$Sights", jv_T5, 4), ("HaltRing$State", jv_T6, 8), ("HaltRing$Text", jv_T7, 6), ("HaltRing$Trigger", jv_T8, 7), ("HaltRing", jv_T9, 10), ("HaltRingModel", jv_T10, 34)]
def jv_ty (t : Nat) : Nat → FieldType := match t with
  | 0 => jv_ty0
  | 1 => jv_ty1
  | 2 => jv_ty2
  | 3 => jv_ty3
  | 4 => jv_ty4
  | 5 => jv_ty5
  | 6 => jv_ty6
  | 7 => jv_ty7
  | 8 => jv_ty8
  | 9 => jv_ty9
  | _ => jv_ty10
/-- the words that keep -/
def jv_tbl : List Cond := lw_tbl.filter goodWord
theorem jv_tbl_good : ∀ w ∈ jv_tbl, goodWord w = true := fun w h => (List.mem_filter.mp h).2
theorem jv_in {w : Cond} (h : w ∈ lw_tbl) (hg : goodWord w = true) : w ∈ jv_tbl := List.mem_filter.mpr ⟨h, hg⟩
theorem jv_good {ws : List Cond} (h : ∀ w ∈ ws, w ∈ jv_tbl) : GoodIn jv_tbl ws := fun w hw => ⟨h w hw, good_of_word (jv_tbl_good w (h w hw))⟩

theorem jv_ok0 : (∀ w ∈ u_ws "HaltRing$DebugModule" jv_T0 5, w ∈ jv_tbl) ∧ (∀ k, k < 5 → parseFieldDescriptor (jv_T0 k).2.2.1 = some (jv_ty0 k)) ∧ (∀ a, a < 5 → ∀ b, b < 5 → a ≠ b → (jv_T0 a).2.1 ≠ (jv_T0 b).2.1) ∧ (∀ k, k < 5 → (jv_T0 k).1 = "HaltRing$DebugModule") := ⟨by decide +kernel, by decide +kernel, by decide +kernel, by decide +kernel⟩
theorem jv_ok1 : (∀ w ∈ u_ws "HaltRing$Hart" jv_T1 7, w ∈ jv_tbl) ∧ (∀ k, k < 7 → parseFieldDescriptor (jv_T1 k).2.2.1 = some (jv_ty1 k)) ∧ (∀ a, a < 7 → ∀ b, b < 7 → a ≠ b → (jv_T1 a).2.1 ≠ (jv_T1 b).2.1) ∧ (∀ k, k < 7 → (jv_T1 k).1 = "HaltRing$Hart") := ⟨by decide +kernel, by decide +kernel, by decide +kernel, by decide +kernel⟩
theorem jv_ok2 : (∀ w ∈ u_ws "HaltRing$Order" jv_T2 7, w ∈ jv_tbl) ∧ (∀ k, k < 7 → parseFieldDescriptor (jv_T2 k).2.2.1 = some (jv_ty2 k)) ∧ (∀ a, a < 7 → ∀ b, b < 7 → a ≠ b → (jv_T2 a).2.1 ≠ (jv_T2 b).2.1) ∧ (∀ k, k < 7 → (jv_T2 k).1 = "HaltRing$Order") := ⟨by decide +kernel, by decide +kernel, by decide +kernel, by decide +kernel⟩
theorem jv_ok3 : (∀ w ∈ u_ws "HaltRing$Past" jv_T3 3, w ∈ jv_tbl) ∧ (∀ k, k < 3 → parseFieldDescriptor (jv_T3 k).2.2.1 = some (jv_ty3 k)) ∧ (∀ a, a < 3 → ∀ b, b < 3 → a ≠ b → (jv_T3 a).2.1 ≠ (jv_T3 b).2.1) ∧ (∀ k, k < 3 → (jv_T3 k).1 = "HaltRing$Past") := ⟨by decide +kernel, by decide +kernel, by decide +kernel, by decide +kernel⟩
theorem jv_ok4 : (∀ w ∈ u_ws "HaltRing$Program" jv_T4 4, w ∈ jv_tbl) ∧ (∀ k, k < 4 → parseFieldDescriptor (jv_T4 k).2.2.1 = some (jv_ty4 k)) ∧ (∀ a, a < 4 → ∀ b, b < 4 → a ≠ b → (jv_T4 a).2.1 ≠ (jv_T4 b).2.1) ∧ (∀ k, k < 4 → (jv_T4 k).1 = "HaltRing$Program") := ⟨by decide +kernel, by decide +kernel, by decide +kernel, by decide +kernel⟩
theorem jv_ok5 : (∀ w ∈ u_ws "HaltRing$Sights" jv_T5 4, w ∈ jv_tbl) ∧ (∀ k, k < 4 → parseFieldDescriptor (jv_T5 k).2.2.1 = some (jv_ty5 k)) ∧ (∀ a, a < 4 → ∀ b, b < 4 → a ≠ b → (jv_T5 a).2.1 ≠ (jv_T5 b).2.1) ∧ (∀ k, k < 4 → (jv_T5 k).1 = "HaltRing$Sights") := ⟨by decide +kernel, by decide +kernel, by decide +kernel, by decide +kernel⟩
theorem jv_ok6 : (∀ w ∈ u_ws "HaltRing$State" jv_T6 8, w ∈ jv_tbl) ∧ (∀ k, k < 8 → parseFieldDescriptor (jv_T6 k).2.2.1 = some (jv_ty6 k)) ∧ (∀ a, a < 8 → ∀ b, b < 8 → a ≠ b → (jv_T6 a).2.1 ≠ (jv_T6 b).2.1) ∧ (∀ k, k < 8 → (jv_T6 k).1 = "HaltRing$State") := ⟨by decide +kernel, by decide +kernel, by decide +kernel, by decide +kernel⟩
theorem jv_ok7 : (∀ w ∈ u_ws "HaltRing$Text" jv_T7 6, w ∈ jv_tbl) ∧ (∀ k, k < 6 → parseFieldDescriptor (jv_T7 k).2.2.1 = some (jv_ty7 k)) ∧ (∀ a, a < 6 → ∀ b, b < 6 → a ≠ b → (jv_T7 a).2.1 ≠ (jv_T7 b).2.1) ∧ (∀ k, k < 6 → (jv_T7 k).1 = "HaltRing$Text") := ⟨by decide +kernel, by decide +kernel, by decide +kernel, by decide +kernel⟩
theorem jv_ok8 : (∀ w ∈ u_ws "HaltRing$Trigger" jv_T8 7, w ∈ jv_tbl) ∧ (∀ k, k < 7 → parseFieldDescriptor (jv_T8 k).2.2.1 = some (jv_ty8 k)) ∧ (∀ a, a < 7 → ∀ b, b < 7 → a ≠ b → (jv_T8 a).2.1 ≠ (jv_T8 b).2.1) ∧ (∀ k, k < 7 → (jv_T8 k).1 = "HaltRing$Trigger") := ⟨by decide +kernel, by decide +kernel, by decide +kernel, by decide +kernel⟩
theorem jv_ok9 : (∀ w ∈ u_ws "HaltRing" jv_T9 10, w ∈ jv_tbl) ∧ (∀ k, k < 10 → parseFieldDescriptor (jv_T9 k).2.2.1 = some (jv_ty9 k)) ∧ (∀ a, a < 10 → ∀ b, b < 10 → a ≠ b → (jv_T9 a).2.1 ≠ (jv_T9 b).2.1) ∧ (∀ k, k < 10 → (jv_T9 k).1 = "HaltRing") := ⟨by decide +kernel, by decide +kernel, by decide +kernel, by decide +kernel⟩
theorem jv_ok10 : (∀ w ∈ u_ws "HaltRingModel" jv_T10 34, w ∈ jv_tbl) ∧ (∀ k, k < 34 → parseFieldDescriptor (jv_T10 k).2.2.1 = some (jv_ty10 k)) ∧ (∀ a, a < 34 → ∀ b, b < 34 → a ≠ b → (jv_T10 a).2.1 ≠ (jv_T10 b).2.1) ∧ (∀ k, k < 34 → (jv_T10 k).1 = "HaltRingModel") := ⟨by decide +kernel, by decide +kernel, by decide +kernel, by decide +kernel⟩
def jv_okc (t : Nat) (r : vw_C) : Prop := (∀ w ∈ u_ws r.1 r.2.1 r.2.2, w ∈ jv_tbl) ∧ (∀ k, k < r.2.2 → parseFieldDescriptor (r.2.1 k).2.2.1 = some (jv_ty t k)) ∧ (∀ a, a < r.2.2 → ∀ b, b < r.2.2 → a ≠ b → (r.2.1 a).2.1 ≠ (r.2.1 b).2.1) ∧ (∀ k, k < r.2.2 → (r.2.1 k).1 = r.1)
theorem jv_ok : ∀ (t : Nat) (r : vw_C), jv_cl[t]? = some r → jv_okc t r := by
  intro t r h
  match t, h with
  | 0, h => cases h; exact jv_ok0
  | 1, h => cases h; exact jv_ok1
  | 2, h => cases h; exact jv_ok2
  | 3, h => cases h; exact jv_ok3
  | 4, h => cases h; exact jv_ok4
  | 5, h => cases h; exact jv_ok5
  | 6, h => cases h; exact jv_ok6
  | 7, h => cases h; exact jv_ok7
  | 8, h => cases h; exact jv_ok8
  | 9, h => cases h; exact jv_ok9
  | 10, h => cases h; exact jv_ok10
  | t + 11, h => simp [jv_cl] at h
def jv_sh_0 : List (Nat × Nat) := [(9, 10), (7, 6), (11, 150), (4, 4), (11, 16), (11, 16), (11, 16), (6, 8), (0, 5), (14, 12), (11, 2), (2, 7), (2, 7), (2, 7), (2, 7), (2, 7), (2, 7), (2, 7), (2, 7), (2, 7), (2, 7), (2, 7), (2, 7), (13, 4), (16, 6), (11, 8), (1, 7), (11, 4), (1, 7), (11, 4), (1, 7), (11, 4), (1, 7), (11, 4), (8, 7), (8, 7), (8, 7), (8, 7), (8, 7), (8, 7), (4, 4), (11, 16), (11, 16), (11, 16), (6, 8), (0, 5), (14, 12), (11, 2), (2, 7), (2, 7), (2, 7), (2, 7), (2, 7), (2, 7), (2, 7), (2, 7), (2, 7), (2, 7), (2, 7), (2, 7), (13, 4), (16, 6), (11, 8), (1, 7), (11, 4), (1, 7), (11, 4), (1, 7), (11, 4), (1, 7), (11, 4), (8, 7), (8, 7), (8, 7), (8, 7), (8, 7), (8, 7), (6, 8), (0, 5), (14, 12), (11, 2), (2, 7), (2, 7), (2, 7), (2, 7), (2, 7), (2, 7), (2, 7), (2, 7), (2, 7), (2, 7), (2, 7), (2, 7), (13, 4), (16, 6), (11, 8), (1, 7), (11, 4), (1, 7), (11, 4)]
def jv_sh_1 : List (Nat × Nat) := [(1, 7), (11, 4), (1, 7), (11, 4), (8, 7), (8, 7), (8, 7), (8, 7), (8, 7), (8, 7), (3, 3), (15, 14), (6, 8), (0, 5), (14, 12), (11, 2), (2, 7), (2, 7), (2, 7), (2, 7), (2, 7), (2, 7), (2, 7), (2, 7), (2, 7), (2, 7), (2, 7), (2, 7), (13, 4), (16, 6), (11, 8), (1, 7), (11, 4), (1, 7), (11, 4), (1, 7), (11, 4), (1, 7), (11, 4), (8, 7), (8, 7), (8, 7), (8, 7), (8, 7), (8, 7), (6, 8), (0, 5), (14, 12), (11, 2), (2, 7), (2, 7), (2, 7), (2, 7), (2, 7), (2, 7), (2, 7), (2, 7), (2, 7), (2, 7), (2, 7), (2, 7), (13, 4), (16, 6), (11, 8), (1, 7), (11, 4), (1, 7), (11, 4), (1, 7), (11, 4), (1, 7), (11, 4), (8, 7), (8, 7), (8, 7), (8, 7), (8, 7), (8, 7), (6, 8), (0, 5), (14, 12), (11, 2), (2, 7), (2, 7), (2, 7), (2, 7), (2, 7), (2, 7), (2, 7), (2, 7), (2, 7), (2, 7), (2, 7), (2, 7), (13, 4), (16, 6), (11, 8), (1, 7), (11, 4), (1, 7)]
def jv_sh_2 : List (Nat × Nat) := [(11, 4), (1, 7), (11, 4), (1, 7), (11, 4), (8, 7), (8, 7), (8, 7), (8, 7), (8, 7), (8, 7), (6, 8), (0, 5), (14, 12), (11, 2), (2, 7), (2, 7), (2, 7), (2, 7), (2, 7), (2, 7), (2, 7), (2, 7), (2, 7), (2, 7), (2, 7), (2, 7), (13, 4), (16, 6), (11, 8), (1, 7), (11, 4), (1, 7), (11, 4), (1, 7), (11, 4), (1, 7), (11, 4), (8, 7), (8, 7), (8, 7), (8, 7), (8, 7), (8, 7), (6, 8), (0, 5), (14, 12), (11, 2), (2, 7), (2, 7), (2, 7), (2, 7), (2, 7), (2, 7), (2, 7), (2, 7), (2, 7), (2, 7), (2, 7), (2, 7), (13, 4), (16, 6), (11, 8), (1, 7), (11, 4), (1, 7), (11, 4), (1, 7), (11, 4), (1, 7), (11, 4), (8, 7), (8, 7), (8, 7), (8, 7), (8, 7), (8, 7), (6, 8), (0, 5), (14, 12), (11, 2), (2, 7), (2, 7), (2, 7), (2, 7), (2, 7), (2, 7), (2, 7), (2, 7), (2, 7), (2, 7), (2, 7), (2, 7), (13, 4), (16, 6), (11, 8), (1, 7), (11, 4), (1, 7), (11, 4)]
def jv_sh_3 : List (Nat × Nat) := [(1, 7), (11, 4), (1, 7), (11, 4), (8, 7), (8, 7), (8, 7), (8, 7), (8, 7), (8, 7), (6, 8), (0, 5), (14, 12), (11, 2), (2, 7), (2, 7), (2, 7), (2, 7), (2, 7), (2, 7), (2, 7), (2, 7), (2, 7), (2, 7), (2, 7), (2, 7), (13, 4), (16, 6), (11, 8), (1, 7), (11, 4), (1, 7), (11, 4), (1, 7), (11, 4), (1, 7), (11, 4), (8, 7), (8, 7), (8, 7), (8, 7), (8, 7), (8, 7), (6, 8), (0, 5), (14, 12), (11, 2), (2, 7), (2, 7), (2, 7), (2, 7), (2, 7), (2, 7), (2, 7), (2, 7), (2, 7), (2, 7), (2, 7), (2, 7), (13, 4), (16, 6), (11, 8), (1, 7), (11, 4), (1, 7), (11, 4), (1, 7), (11, 4), (1, 7), (11, 4), (8, 7), (8, 7), (8, 7), (8, 7), (8, 7), (8, 7), (6, 8), (0, 5), (14, 12), (11, 2), (2, 7), (2, 7), (2, 7), (2, 7), (2, 7), (2, 7), (2, 7), (2, 7), (2, 7), (2, 7), (2, 7), (2, 7), (13, 4), (16, 6), (11, 8), (1, 7), (11, 4), (1, 7), (11, 4), (1, 7)]
def jv_sh_4 : List (Nat × Nat) := [(11, 4), (1, 7), (11, 4), (8, 7), (8, 7), (8, 7), (8, 7), (8, 7), (8, 7), (6, 8), (0, 5), (14, 12), (11, 2), (2, 7), (2, 7), (2, 7), (2, 7), (2, 7), (2, 7), (2, 7), (2, 7), (2, 7), (2, 7), (2, 7), (2, 7), (13, 4), (16, 6), (11, 8), (1, 7), (11, 4), (1, 7), (11, 4), (1, 7), (11, 4), (1, 7), (11, 4), (8, 7), (8, 7), (8, 7), (8, 7), (8, 7), (8, 7), (6, 8), (0, 5), (14, 12), (11, 2), (2, 7), (2, 7), (2, 7), (2, 7), (2, 7), (2, 7), (2, 7), (2, 7), (2, 7), (2, 7), (2, 7), (2, 7), (13, 4), (16, 6), (11, 8), (1, 7), (11, 4), (1, 7), (11, 4), (1, 7), (11, 4), (1, 7), (11, 4), (8, 7), (8, 7), (8, 7), (8, 7), (8, 7), (8, 7), (6, 8), (0, 5), (14, 12), (11, 2), (2, 7), (2, 7), (2, 7), (2, 7), (2, 7), (2, 7), (2, 7), (2, 7), (2, 7), (2, 7), (2, 7), (2, 7), (13, 4), (16, 6), (11, 8), (1, 7), (11, 4), (1, 7), (11, 4), (1, 7), (11, 4)]
def jv_sh_5 : List (Nat × Nat) := [(1, 7), (11, 4), (8, 7), (8, 7), (8, 7), (8, 7), (8, 7), (8, 7), (6, 8), (0, 5), (14, 12), (11, 2), (2, 7), (2, 7), (2, 7), (2, 7), (2, 7), (2, 7), (2, 7), (2, 7), (2, 7), (2, 7), (2, 7), (2, 7), (13, 4), (16, 6), (11, 8), (1, 7), (11, 4), (1, 7), (11, 4), (1, 7), (11, 4), (1, 7), (11, 4), (8, 7), (8, 7), (8, 7), (8, 7), (8, 7), (8, 7), (6, 8), (0, 5), (14, 12), (11, 2), (2, 7), (2, 7), (2, 7), (2, 7), (2, 7), (2, 7), (2, 7), (2, 7), (2, 7), (2, 7), (2, 7), (2, 7), (13, 4), (16, 6), (11, 8), (1, 7), (11, 4), (1, 7), (11, 4), (1, 7), (11, 4), (1, 7), (11, 4), (8, 7), (8, 7), (8, 7), (8, 7), (8, 7), (8, 7), (15, 2), (12, 2), (5, 4), (11, 6), (11, 6), (11, 6), (11, 64), (6, 8), (0, 5), (14, 12), (11, 2), (2, 7), (2, 7), (2, 7), (2, 7), (2, 7), (2, 7), (2, 7), (2, 7), (2, 7), (2, 7), (2, 7), (2, 7), (13, 4), (16, 6), (11, 8)]
def jv_sh_6 : List (Nat × Nat) := [(1, 7), (11, 4), (1, 7), (11, 4), (1, 7), (11, 4), (1, 7), (11, 4), (8, 7), (8, 7), (8, 7), (8, 7), (8, 7), (8, 7), (6, 8), (0, 5), (14, 12), (11, 2), (2, 7), (2, 7), (2, 7), (2, 7), (2, 7), (2, 7), (2, 7), (2, 7), (2, 7), (2, 7), (2, 7), (2, 7), (13, 4), (16, 6), (11, 8), (1, 7), (11, 4), (1, 7), (11, 4), (1, 7), (11, 4), (1, 7), (11, 4), (8, 7), (8, 7), (8, 7), (8, 7), (8, 7), (8, 7), (10, 34), (11, 150), (11, 16), (11, 4), (11, 4), (11, 6), (11, 16), (11, 4), (11, 4), (11, 6), (11, 165), (11, 165), (11, 165), (11, 165), (11, 2310), (11, 330), (12, 2), (11, 6), (11, 6), (11, 6), (11, 64)]
def jv_shl : List (Nat × Nat) := jv_sh_0 ++ jv_sh_1 ++ jv_sh_2 ++ jv_sh_3 ++ jv_sh_4 ++ jv_sh_5 ++ jv_sh_6
/-- the kind and the length of each cell, by its number -/
def jv_sh (a : Nat) : Nat × Nat := jv_shl.getD a (99, 0)
def jv_len (t : Nat) : Nat := match jv_cl[t]? with
  | some r => r.2.2
  | none => 0
theorem jv_shlen0 : ∀ q ∈ jv_shl, q.1 < 11 → jv_len q.1 = q.2 := by decide +kernel
theorem jv_shlen (a : Nat) (h : (jv_sh a).1 < 11) : ∃ r, jv_cl[(jv_sh a).1]? = some r ∧ (jv_sh a).2 = r.2.2 := by
  have h0 : jv_sh a ∈ jv_shl := by
    unfold jv_sh at h ⊢
    rw [List.getD_eq_getElem?_getD] at h ⊢
    cases hq : jv_shl[a]? with
    | none => rw [hq] at h; simp at h
    | some q => exact List.mem_of_getElem? hq
  have h1 := jv_shlen0 _ h0 h
  have h2 : (jv_sh a).1 < jv_cl.length := h
  refine ⟨jv_cl[(jv_sh a).1], List.getElem?_eq_getElem h2, ?_⟩
  rw [← h1]
  unfold jv_len
  rw [List.getElem?_eq_getElem h2]
/-- 1: a reference, 2: a long, 0: an int or a boolean -/
def jv_ft (t k : Nat) : Nat := match jv_ty t k with
  | .long => 2
  | .array _ => 1
  | .object _ => 1
  | _ => 0
end
section
/-! ===== the pure picture: cells by their numbers (number a is the machine's cell base + a), and the judgement jv_J over it ===== -/
/-- a method: its name, its bytes, its locals, what it returns -/
abbrev jv_Mt : Type := MethodName × ByteArray × Nat × Option FieldType
/-- ints by cell and place, references by cell and place, the long of a cell -/
abbrev jv_Mem : Type := (Nat → Nat → Int32) × (Nat → Nat → Option Nat) × (Nat → Int64)
/-- launch, base, the cells that are only read, classes and slots, array classes, the script's length and ints -/
abbrev jv_G : Type := Launch × Nat × (Nat → Nat) × va_G × (Nat → ClassId) × Nat × (Nat → Int32)
def jv_l (g : jv_G) : Launch := g.1
def jv_base (g : jv_G) : Nat := g.2.1
def jv_ro (g : jv_G) : Nat → Nat := g.2.2.1
def jv_D (g : jv_G) : va_G := g.2.2.2.1
def jv_cA (g : jv_G) : Nat → ClassId := g.2.2.2.2.1
def jv_L (g : jv_G) : Nat := g.2.2.2.2.2.1
def jv_xs (g : jv_G) : Nat → Int32 := g.2.2.2.2.2.2
def jv_A (g : jv_G) : Nat → Prop := fun q => jv_base g ≤ q
/-- a pure value as the machine has it: .ref a is a cell of the pool, .retAddr i one of those that are only read -/
def jv_mv (g : jv_G) (v : Value) : Value := match v with
  | .ref a => .ref (jv_base g + a)
  | .retAddr i => .ref (jv_ro g i)
  | .int x => .int x
  | .long x => .long x
  | .float x => .float x
  | .double x => .double x
  | .null => .null
def jv_rf (b : Nat) (r : Option Nat) : Value := match r with
  | none => .null
  | some q => .ref (b + q)
def jv_fv (b : Nat) (M : jv_Mem) (t a k : Nat) : Value := if jv_ft t k = 1 then jv_rf b (M.2.1 a k) else if jv_ft t k = 2 then .long (M.2.2 a) else .int (M.1 a k)
def jv_Fo (b : Nat) (M : jv_Mem) (t n a : Nat) : List Value := (List.range n).map (jv_fv b M t a)
def jv_F (g : jv_G) (M : jv_Mem) (a : Nat) : va_E :=
  if (jv_sh a).1 < 11 then .inr ((jv_sh a).1, jv_Fo (jv_base g) M (jv_sh a).1 (jv_sh a).2 a)
  else if (jv_sh a).1 < 13 then .inl (jv_cA g (jv_sh a).1, (jv_sh a).2, .inl (M.1 a))
  else .inl (jv_cA g (jv_sh a).1, (jv_sh a).2, .inr (.inr (.inr (.inr (fun i => (M.2.1 a i).map (jv_base g + ·))))))
def jv_Rep (g : jv_G) (M : jv_Mem) (N : Nat) (H : Heap) : Prop := H.size = jv_base g + N ∧ ∀ a : Nat, a < N → va_at (jv_D g) jv_cl (jv_base g + a, jv_F g M a) H
def jv_tys (g : jv_G) : List (ClassId × FieldType) := [(jv_cA g 11, .int), (jv_cA g 12, .boolean), (jv_cA g 13, .object "HaltRing$Hart"), (jv_cA g 14, .object "HaltRing$Order"), (jv_cA g 15, .object "HaltRing$State"), (jv_cA g 16, .object "HaltRing$Trigger")]
def jv_isN (w : Cond) : Bool := match w with
  | .methodLinkNest _ _ _ _ => true
  | .fieldLinkNest _ _ _ _ _ _ => true
  | _ => false
def jv_nws : List Cond := lw_tbl.filter jv_isN
def jv_second : Nat → Int32 := fun i => [0, 10, 0, 4, 8, 8, 16, 0, 0].getD i 0
def jv_fact : Nat → Int32 := fun i => [1, 1, 2, 6, 24, 120, 720].getD i 0
/-- what is only read: the script, two static rows, a text -/
def jv_RO (g : jv_G) (U : State) (H : Heap) : Prop :=
  (∀ i : Nat, jv_ro g i < jv_base g) ∧ va_X (jv_ro g 0) (jv_L g) (jv_xs g) U H ∧ va_T .int (jv_ro g 1) 9 (fun j => .int (jv_second j)) (jv_A g) U H ∧ va_T .int (jv_ro g 2) 7 (fun j => .int (jv_fact j)) (jv_A g) U H ∧
  va_Z "HaltRing" "SECOND" "[I" (.ref (jv_ro g 1)) (jv_A g) U H ∧ va_Z "HaltRing" "FACTORIAL" "[I" (.ref (jv_ro g 2)) (jv_A g) U H ∧ va_Z "java/lang/String" "COMPACT_STRINGS" "Z" (.int 1) (jv_A g) U H ∧
  vk_S 1 [8] [[97, 100, 99, 108, 119, 106, 122, 98]] (fun _ => jv_ro g 3) (fun _ => jv_ro g 4) (jv_A g) U H ∧ vk_R "HaltRing$Text" 94 "adclwjzb" (jv_ro g 3) U
/-- what the tables say, and what is only read -/
def jv_CU (g : jv_G) (U : State) (H : Heap) : Prop := va_K (jv_D g) jv_cl (jv_tys g) U ∧ (∀ w ∈ jv_nws, va_Nw w U) ∧ (va_AO "HaltRing$Hart" U ∧ va_AO "HaltRing$Order" U ∧ va_AO "HaltRing$State" U ∧ va_AO "HaltRing$Trigger" U) ∧ jv_RO g U H
theorem jv_nw_warm {w : Cond} (hw : jv_isN w = true) {s U : State} (hW : s.WarmedH U.vm) (h : va_Nw w s) : va_Nw w U := by
  unfold jv_isN at hw
  split at hw
  · exact va_Nw.warmM hW h
  · exact va_Nw.warmF hW h
  · cases hw
theorem jv_RO.warm {g : jv_G} {s U : State} {H : Heap} (hW : s.WarmedH U.vm) (h : jv_RO g s H) : jv_RO g U H := by
  obtain ⟨h0, h1, h2, h3, h4, h5, h6, h7, h8⟩ := h
  have hv := hW.alike
  exact ⟨h0, h1.moved hv, h2.moved hv, h3.moved hv, h4.moved hv, h5.moved hv, h6.moved hv, h7.moved hv, h8.warm hW⟩
theorem jv_RO.kept {g : jv_G} {U : State} {H H1 : Heap} (hb : jv_base g ≤ H.size) (hq : ∀ a : Nat, a < H.size → ¬ jv_A g a → H1[a]? = H[a]?) (h : jv_RO g U H) : jv_RO g U H1 := by
  obtain ⟨h0, h1, h2, h3, h4, h5, h6, h7, h8⟩ := h
  have hr : ∀ i, H1[jv_ro g i]? = H[jv_ro g i]? := fun i => hq _ (Nat.lt_of_lt_of_le (h0 i) hb) (fun z => Nat.not_le.mpr (h0 i) z)
  exact ⟨h0, h1.kept (hr 0), h2.kept hq, h3.kept hq, h4.kept hq, h5.kept hq, h6.kept hq, h7.kept hq, h8⟩
theorem jv_CU.warm {g : jv_G} {s U : State} {H : Heap} (hW : s.WarmedH U.vm) (h : jv_CU g s H) : jv_CU g U H :=
  ⟨h.1.moved hW.alike, fun w hw => jv_nw_warm (List.mem_filter.mp hw).2 hW (h.2.1 w hw), ⟨h.2.2.1.1.moved hW.alike, h.2.2.1.2.1.moved hW.alike, h.2.2.1.2.2.1.moved hW.alike, h.2.2.1.2.2.2.moved hW.alike⟩, h.2.2.2.warm hW⟩
theorem jv_nw_tab {w : Cond} (hw : jv_isN w = true) : w.onTables = true := by
  unfold jv_isN at hw
  split at hw
  · rfl
  · rfl
  · cases hw
theorem jv_CU.same {g : jv_G} {s U : State} {H : Heap} (hv : U.vm = s.vm) (h : jv_CU g s H) : jv_CU g U H := by
  have ha : s.vm.Alike U.vm := by rw [hv]; exact Vm.Alike.refl _
  obtain ⟨q1, q2, q3, h0, h1, h2, h3, h4, h5, h6, h7, h8⟩ := h
  exact ⟨q1.moved ha, fun w hw => va_Nw.same (jv_nw_tab (List.mem_filter.mp hw).2) hv.symm (q2 w hw), ⟨q3.1.moved ha, q3.2.1.moved ha, q3.2.2.1.moved ha, q3.2.2.2.moved ha⟩, h0, h1.moved ha, h2.moved ha, h3.moved ha, h4.moved ha, h5.moved ha, h6.moved ha, h7.moved ha, h8.same hv⟩
/-- a method's frame stands: the machine, its code, the words, the room for d frames, what is only read -/
def jv_Cx (g : jv_G) (d : Nat) (κ : jv_Mt) (p : Program) (R : Room) (s : State) (m : MethodId) (args : Array Value) (meth : Method) (c : Code) : Prop :=
  p.tables.exec = Jvm.exec ∧ c.code = κ.2.1 ∧ c.maxLocals = κ.2.2.1 ∧ meth.sig.returnType = κ.2.2.2 ∧ meth.locks = false ∧ s.vm.findClass κ.1.cls = some m.cls ∧ (∀ w ∈ jv_tbl, w.before args s = true) ∧ meth.name = κ.1.name ∧ (d ≤ R.frames ∧ 36 * d ≤ R.locals) ∧ jv_base g ≤ s.heap.size ∧ jv_CU g s s.heap
def jv_Ls (g : jv_G) (n : Nat) (L : List (Option Value)) (ls : Array Slot) : Prop := ls.size = n ∧ lv_wf ls ∧ ∀ (i : Nat) (v : Value), L[i]? = some (some v) → ls[i]? = some (.val (jv_mv g v))
/-- a return instruction that fits -/
def jv_rt (κ : jv_Mt) (pc : Nat) (v : Option Value) : Prop :=
  (decode κ.2.1 pc = .ok (.return_, 1) ∧ v = none ∧ κ.2.2.2 = none) ∨
  (∃ (x : Int32) (ty : FieldType), decode κ.2.1 pc = .ok (.ireturn, 1) ∧ v = some (.int x) ∧ κ.2.2.2 = some ty ∧ narrow ty (.int x) = .int x) ∨
  (∃ x : Int64, decode κ.2.1 pc = .ok (.lreturn, 1) ∧ v = some (.long x) ∧ κ.2.2.2 = some .long) ∨
  (∃ (x : Nat) (n : String), decode κ.2.1 pc = .ok (.areturn, 1) ∧ v = some (.ref x) ∧ κ.2.2.2 = some (.object n))
def jv_Ex (g : jv_G) (κ : jv_Mt) (p : Program) (e : Env) (R : Room) (s : State) (m : MethodId) (args : Array Value) (below : List Frame) (meth : Method) (c : Code) (cm sm : Nat) (Z : Option Value → jv_Mem → Nat → Prop) (Q : State → Prop) : Prop :=
  ∀ (H : Heap) (locs : List Loc) (cells slots pc : Nat) (ls : Array Slot) (v : Option Value) (M : jv_Mem) (N : Nat), Z v M N → jv_Rep g M N H → va_S (jv_A g) s.heap H locs → cells ≤ cm → slots ≤ sm → jv_rt κ pc v →
    W p (jv_l g) e R s m args below meth c H locs cells slots Q (F0 m pc ls (v.toList.map (jv_mv g)))
/-- THE JUDGEMENT: method κ at pc, with locals L, stack st, memory M of N cells, with d frames and room for cr cells of sr slots, comes to its end with Z -/
def jv_J (g : jv_G) (d : Nat) (κ : jv_Mt) (pc : Nat) (L : List (Option Value)) (st : List Value) (M : jv_Mem) (N cr sr : Nat) (Z : Option Value → jv_Mem → Nat → Prop) : Prop :=
  ∀ (p : Program) (e : Env) (R : Room) (s : State) (m : MethodId) (args : Array Value) (below : List Frame) (meth : Method) (c : Code) (H : Heap) (ls : Array Slot) (locs : List Loc) (cells slots cm sm : Nat) (Q : State → Prop),
    jv_Cx g d κ p R s m args meth c → jv_Rep g M N H → va_S (jv_A g) s.heap H locs → jv_Ls g κ.2.2.1 L ls → cells + cr ≤ cm → slots + sr ≤ sm → cm ≤ R.cells → sm ≤ R.slots → jv_Ex g κ p e R s m args below meth c cm sm Z Q →
    W p (jv_l g) e R s m args below meth c H locs cells slots Q (F0 m pc ls (st.map (jv_mv g)))
/-- the contract of a call -/
def jv_ws (κ : jv_Mt) : List Cond := Cond.code κ.1 κ.2.1 κ.2.2.1 κ.2.2.2 :: jv_tbl
def jv_rm (d c s : Nat) : Room := { frames := d, cells := c, slots := s, locals := 36 * d }
def jv_Pc (g : jv_G) (as : List Value) (M : jv_Mem) (N : Nat) : Array Value → State → Prop := va_Pc (as.map (jv_mv g)) (fun U => jv_CU g U U.heap ∧ jv_Rep g M N U.heap)
def jv_Qc (g : jv_G) (Z : Option Value → jv_Mem → Nat → Prop) : Array Value → State → Outcome → State → Prop := fun _ st oc t => (∃ (v : Option Value) (M : jv_Mem) (N : Nat), oc = .returned (v.map (jv_mv g)) ∧ Z v M N ∧ jv_Rep g M N t.heap) ∧ va_F (jv_A g) st t
def jv_Ct (g : jv_G) (d : Nat) (κ : jv_Mt) (as : List Value) (M : jv_Mem) (N cr sr : Nat) (Z : Option Value → jv_Mem → Nat → Prop) : Prop :=
  Met (jv_l g) κ.1 (jv_ws κ) (jv_rm d cr sr) (jv_Pc g as M N) (jv_Qc g Z) cr sr (jv_A g)
/-- the locals at a method's entry -/
def jv_ent : List Value → Nat → List (Option Value)
  | [], n => List.replicate n none
  | v :: vs, n => if v.category = 2 then some v :: none :: jv_ent vs (n - 2) else some v :: jv_ent vs (n - 1)
theorem jv_mv_cat (g : jv_G) (v : Value) (h : ∀ n, v ≠ .retAddr n) : (jv_mv g v).category = v.category := by cases v <;> rfl
theorem jv_mv_cat' (g : jv_G) (v : Value) : (jv_mv g v).category = v.category := by cases v <;> rfl
theorem jv_ent_at (g : jv_G) : ∀ (vs : List Value) (n b i : Nat) (v : Value), (jv_ent vs n)[i]? = some (some v) → (b + i, jv_mv g v) ∈ lv_args b (vs.map (jv_mv g))
  | [], n, b, i, v, h => by
    simp only [jv_ent, List.getElem?_replicate] at h
    split at h <;> simp at h
  | w :: vs, n, b, i, v, h => by
    simp only [List.map_cons, lv_args, jv_mv_cat', List.mem_cons]
    unfold jv_ent at h
    by_cases hc : w.category = 2
    · rw [if_pos hc] at h ⊢
      match i, h with
      | 0, h => simp at h; exact Or.inl (by rw [h]; rfl)
      | 1, h => simp at h
      | i + 2, h =>
        rw [List.getElem?_cons_succ, List.getElem?_cons_succ] at h
        have := jv_ent_at g vs (n - 2) (b + 2) i v h
        exact Or.inr (by rwa [show b + 2 + i = b + (i + 2) by omega] at this)
    · rw [if_neg hc] at h ⊢
      match i, h with
      | 0, h => simp at h; exact Or.inl (by rw [h]; rfl)
      | i + 1, h =>
        rw [List.getElem?_cons_succ] at h
        have := jv_ent_at g vs (n - 1) (b + 1) i v h
        exact Or.inr (by rwa [show b + 1 + i = b + (i + 1) by omega] at this)
def jv_words (vs : List Value) : Nat := (vs.map Value.category).sum
theorem jv_words_sl (g : jv_G) : ∀ vs : List Value, (lg_sl (vs.map (jv_mv g))).length = jv_words vs
  | [] => rfl
  | v :: vs => by
    have ih := jv_words_sl g vs
    unfold lg_sl at ih ⊢
    simp only [List.map_cons, List.flatMap_cons, List.length_append, ih, jv_words, List.sum_cons, jv_mv_cat']
    rcases lv_cat v with h | h <;> simp [h]
/-- a contract out of the walk of the body -/
theorem jv_ct {g : jv_G} {d : Nat} {κ : jv_Mt} {as : List Value} {M : jv_Mem} {N cr sr : Nat} {Z : Option Value → jv_Mem → Nat → Prop} (hp : plainName κ.1.cls = true) (hw : jv_words as ≤ κ.2.2.1)
    (h : jv_J g d κ 0 (jv_ent as κ.2.2.1) [] M N cr sr Z) : jv_Ct g d κ as M N cr sr Z := by
  refine Met.ofW (cc := κ.2.1) (maxL := κ.2.2.1) (ret := κ.2.2.2) hp rfl ?_
  intro p e s m args below meth c s₁ B hml hv
  obtain ⟨rfl, hCU, hRep⟩ := hv
  have hts := atoms_spec (ws := jv_ws κ) B.pre
  have hown : s.vm.findClass κ.1.cls = some m.cls := findClass_of_methodNamed B.named
  have hin : meth.name = κ.1.name := (name_of_methodNamed B.named B.method).1
  rw [lg_entry_eq]
  have hl := lv_entry (as.map (jv_mv g)) (n := κ.2.2.1) (by rw [jv_words_sl]; exact hw)
  refine h p e (headSpec (jv_ws κ) (jv_rm d cr sr)).room s m _ below meth c s.heap _ [] 0 0 cr sr _ ⟨B.exec, B.bytes, hml, B.returns, B.notSynchronized, hown, fun w hw => hts w (List.mem_cons_of_mem _ hw), hin, ⟨Nat.le_refl _, Nat.le_refl _⟩, by rw [hRep.1]; exact Nat.le_add_right _ _, hCU⟩ hRep va_S.rf ⟨hl.1, hl.2.1, fun i v hi => ?_⟩ (by omega) (by omega) (Nat.le_refl _) (Nat.le_refl _) ?_
  · have := jv_ent_at g as κ.2.2.1 0 i v hi
    rw [Nat.zero_add] at this
    exact hl.2.2 _ this
  · intro H locs cells slots pc ls v M' N' hZ hR hS h1 h2 hrt
    refine W.widen (k := cr) (n := sr) h1 h2 ?_
    have hq : ∀ (v' : Option Value) (t : State), t.heap = H → v'= v.map (jv_mv g) → jv_Qc g Z (as.map (jv_mv g)).toArray s (.returned v') t := fun v' t ht hv' => ⟨⟨v, M', N', by rw [hv'], hZ, by rw [ht]; exact hR⟩, by rw [ht]; exact hS.1, fun q h1 h2 => by rw [ht]; exact hS.2.1 q h1 h2⟩
    have hlocks : meth.locks = false := B.notSynchronized
    rcases hrt with ⟨h1, rfl, h3⟩ | ⟨x, ty, h1, rfl, h3, h4⟩ | ⟨x, h1, rfl, h3⟩ | ⟨x, n, h1, rfl, h3⟩
    · exact W.vret B.exec B.bytes (B.returns.trans h3) (fun t ht _ => hq _ t ht rfl) (fun q hq' => hS.2.2 q hq') h1
    · exact W.zret (ty := ty) B.exec B.bytes (B.returns.trans h3) h4 (fun t ht _ => hq _ t ht rfl) (fun q hq' => hS.2.2 q hq') h1
    · exact W.lret B.exec B.bytes (B.returns.trans h3) (fun t ht _ => hq _ t ht rfl) (fun q hq' => hS.2.2 q hq') h1
    · exact W.aret (rt := .object n) B.exec B.bytes (B.returns.trans h3) (Or.inl ⟨n, rfl⟩) (Or.inr ⟨_, rfl⟩) (fun t ht _ => hq _ t ht rfl) (fun q hq' => hS.2.2 q hq') h1
end
section
section JR
variable {g : jv_G} {d : Nat} {κ : jv_Mt} {pc : Nat} {L : List (Option Value)} {st : List Value} {M : jv_Mem} {N cr sr : Nat} {Z : Option Value → jv_Mem → Nat → Prop}
/-! locals -/
def jv_cl2 (o : Option Value) : Option Value := match o with
  | some (.long _) => none
  | some (.double _) => none
  | o => o
def jv_st1 : List (Option Value) → Nat → Value → List (Option Value)
  | [], _, _ => []
  | _ :: L, 0, v => some v :: L
  | o :: L, 1, v => jv_cl2 o :: jv_st1 L 0 v
  | o :: L, i + 2, v => o :: jv_st1 L (i + 1) v
def jv_st2 : List (Option Value) → Nat → Value → List (Option Value)
  | [], _, _ => []
  | [_], 0, v => [some v]
  | _ :: _ :: L, 0, v => some v :: none :: L
  | o :: L, 1, v => jv_cl2 o :: jv_st2 L 0 v
  | o :: L, i + 2, v => o :: jv_st2 L (i + 1) v
theorem jv_cl2_some {o : Option Value} {w : Value} (h : jv_cl2 o = some w) : o = some w ∧ ¬ w.category = 2 := by
  unfold jv_cl2 at h
  split at h
  · cases h
  · cases h
  · refine ⟨h, ?_⟩
    subst h
    cases w <;> simp_all [Value.category]
theorem jv_st1_at : ∀ (L : List (Option Value)) (i : Nat) (v : Value) (j : Nat) (w : Value), (jv_st1 L i v)[j]? = some (some w) → (j = i ∧ w = v) ∨ (j ≠ i ∧ L[j]? = some (some w) ∧ ¬ (j + 1 = i ∧ w.category = 2))
  | [], i, v, j, w, h => by simp [jv_st1] at h
  | o :: L, 0, v, j, w, h => by
    simp only [jv_st1] at h
    match j, h with
    | 0, h => simp at h; exact Or.inl ⟨rfl, h.symm⟩
    | j + 1, h => exact Or.inr ⟨by omega, by simpa using h, by omega⟩
  | o :: L, 1, v, j, w, h => by
    simp only [jv_st1] at h
    match j, h with
    | 0, h =>
      simp only [List.getElem?_cons_zero, Option.some.injEq] at h
      obtain ⟨h1, h2⟩ := jv_cl2_some h
      exact Or.inr ⟨by omega, by simp [h1], fun q => h2 q.2⟩
    | j + 1, h =>
      rw [List.getElem?_cons_succ] at h
      rcases jv_st1_at L 0 v j w h with ⟨q1, q2⟩ | ⟨q1, q2, q3⟩
      · exact Or.inl ⟨by omega, q2⟩
      · exact Or.inr ⟨by omega, by simpa using q2, by omega⟩
  | o :: L, i + 2, v, j, w, h => by
    simp only [jv_st1] at h
    match j, h with
    | 0, h => exact Or.inr ⟨by omega, by simpa using h, by omega⟩
    | j + 1, h =>
      rw [List.getElem?_cons_succ] at h
      rcases jv_st1_at L (i + 1) v j w h with ⟨q1, q2⟩ | ⟨q1, q2, q3⟩
      · exact Or.inl ⟨by omega, q2⟩
      · exact Or.inr ⟨by omega, by simpa using q2, fun q => q3 ⟨by omega, q.2⟩⟩
theorem jv_st2_at : ∀ (L : List (Option Value)) (i : Nat) (v : Value) (j : Nat) (w : Value), (jv_st2 L i v)[j]? = some (some w) → (j = i ∧ w = v) ∨ (j ≠ i ∧ j ≠ i + 1 ∧ L[j]? = some (some w) ∧ ¬ (j + 1 = i ∧ w.category = 2))
  | [], i, v, j, w, h => by simp [jv_st2] at h
  | [o], 0, v, j, w, h => by
    simp only [jv_st2] at h
    match j, h with
    | 0, h => simp at h; exact Or.inl ⟨rfl, h.symm⟩
    | j + 1, h => simp at h
  | o :: o2 :: L, 0, v, j, w, h => by
    simp only [jv_st2] at h
    match j, h with
    | 0, h => simp at h; exact Or.inl ⟨rfl, h.symm⟩
    | 1, h => simp at h
    | j + 2, h => exact Or.inr ⟨by omega, by omega, by simpa using h, by omega⟩
  | o :: L, 1, v, j, w, h => by
    have h' : (jv_cl2 o :: jv_st2 L 0 v)[j]? = some (some w) := by
      cases L <;> simpa only [jv_st2] using h
    match j, h' with
    | 0, h =>
      simp only [List.getElem?_cons_zero, Option.some.injEq] at h
      obtain ⟨h1, h2⟩ := jv_cl2_some h
      exact Or.inr ⟨by omega, by omega, by simp [h1], fun q => h2 q.2⟩
    | j + 1, h =>
      rw [List.getElem?_cons_succ] at h
      rcases jv_st2_at L 0 v j w h with ⟨q1, q2⟩ | ⟨q1, q2, q3, q4⟩
      · exact Or.inl ⟨by omega, q2⟩
      · exact Or.inr ⟨by omega, by omega, by simpa using q3, by omega⟩
  | o :: L, i + 2, v, j, w, h => by
    have h' : (o :: jv_st2 L (i + 1) v)[j]? = some (some w) := by
      cases L <;> simpa only [jv_st2] using h
    match j, h' with
    | 0, h => exact Or.inr ⟨by omega, by omega, by simpa using h, by omega⟩
    | j + 1, h =>
      rw [List.getElem?_cons_succ] at h
      rcases jv_st2_at L (i + 1) v j w h with ⟨q1, q2⟩ | ⟨q1, q2, q3, q4⟩
      · exact Or.inl ⟨by omega, q2⟩
      · exact Or.inr ⟨by omega, by omega, by simpa using q3, fun q => q4 ⟨by omega, q.2⟩⟩
def jv_lp (g : jv_G) (L : List (Option Value)) : List (Nat × Value) := (List.range L.length).filterMap (fun i => (L.getD i none).map (fun v => (i, jv_mv g v)))
theorem jv_lp_mem {g : jv_G} {L : List (Option Value)} {i : Nat} {v : Value} (h : L[i]? = some (some v)) : (i, jv_mv g v) ∈ jv_lp g L := by
  refine List.mem_filterMap.mpr ⟨i, List.mem_range.mpr (List.getElem?_eq_some_iff.mp h).1, ?_⟩
  rw [List.getD_eq_getElem?_getD, h]
  rfl
theorem jv_lp_of {g : jv_G} {L : List (Option Value)} {q : Nat × Value} (h : q ∈ jv_lp g L) : ∃ v, L[q.1]? = some (some v) ∧ q.2 = jv_mv g v := by
  obtain ⟨i, hi, hq⟩ := List.mem_filterMap.mp h
  have hl := List.mem_range.mp hi
  rw [List.getD_eq_getElem?_getD, List.getElem?_eq_getElem hl] at hq
  cases ho : L[i] with
  | none => rw [ho] at hq; cases hq
  | some v =>
    rw [ho] at hq
    have hq : (i, jv_mv g v) = q := by simpa using hq
    subst hq
    exact ⟨v, by rw [List.getElem?_eq_getElem hl, ho], rfl⟩
theorem jv_Ls.has {g : jv_G} {n : Nat} {L : List (Option Value)} {ls : Array Slot} (h : jv_Ls g n L ls) : lv_has ls n (jv_lp g L) := by
  refine ⟨h.1, h.2.1, fun q hq => ?_⟩
  obtain ⟨v, h1, h2⟩ := jv_lp_of hq
  rw [h2]
  exact h.2.2 _ _ h1
theorem jv_Ls.st1 {g : jv_G} {n i : Nat} {L : List (Option Value)} {ls : Array Slot} {v : Value} (h : lv_has ls n ((i, jv_mv g v) :: (jv_lp g L).filter (fun q => !(q.1 == i) && !(q.1 + 1 == i && q.2.category == 2)))) : jv_Ls g n (jv_st1 L i v) ls := by
  refine ⟨h.1, h.2.1, fun j w hj => ?_⟩
  rcases jv_st1_at L i v j w hj with ⟨rfl, rfl⟩ | ⟨q1, q2, q3⟩
  · exact h.2.2 _ List.mem_cons_self
  · refine h.2.2 (j, jv_mv g w) (List.mem_cons_of_mem _ (List.mem_filter.mpr ⟨jv_lp_mem q2, ?_⟩))
    simp only [jv_mv_cat', Bool.and_eq_true, Bool.not_eq_true', beq_eq_false_iff_ne, ne_eq, Bool.and_eq_false_imp, beq_iff_eq]
    exact ⟨q1, fun a b => q3 ⟨a, b⟩⟩
theorem jv_Ls.st2 {g : jv_G} {n i : Nat} {L : List (Option Value)} {ls : Array Slot} {v : Value} (h : lv_has ls n ((i, jv_mv g v) :: (jv_lp g L).filter (fun q => !(q.1 == i) && (!(q.1 == i + 1) && !(q.1 + 1 == i && q.2.category == 2))))) : jv_Ls g n (jv_st2 L i v) ls := by
  refine ⟨h.1, h.2.1, fun j w hj => ?_⟩
  rcases jv_st2_at L i v j w hj with ⟨rfl, rfl⟩ | ⟨q1, q2, q3, q4⟩
  · exact h.2.2 _ List.mem_cons_self
  · refine h.2.2 (j, jv_mv g w) (List.mem_cons_of_mem _ (List.mem_filter.mpr ⟨jv_lp_mem q3, ?_⟩))
    simp only [jv_mv_cat', Bool.and_eq_true, Bool.not_eq_true', beq_eq_false_iff_ne, ne_eq, Bool.and_eq_false_imp, beq_iff_eq]
    exact ⟨q1, q2, fun a b => q4 ⟨a, b⟩⟩

theorem jv_iconst {n : Int} {v : Int32} (hd : decode κ.2.1 pc = .ok (.iconst n, 1)) (hv : Int32.ofInt n = v) (k : jv_J g d κ (pc + 1) L (.int v :: st) M N cr sr Z) : jv_J g d κ pc L st M N cr sr Z := by
  intro p e R s m args below meth c H ls locs cells slots cm sm Q X hR hS hL h1 h2 h3 h4 hE
  exact lv_iconst X.1 X.2.1 hd hv (k p e R s m args below meth c H ls locs cells slots cm sm Q X hR hS hL h1 h2 h3 h4 hE)
theorem jv_bipush {n : Int} {v : Int32} (hd : decode κ.2.1 pc = .ok (.bipush n, 2)) (hv : (Int8.ofInt n).toInt32 = v) (k : jv_J g d κ (pc + 2) L (.int v :: st) M N cr sr Z) : jv_J g d κ pc L st M N cr sr Z := by
  intro p e R s m args below meth c H ls locs cells slots cm sm Q X hR hS hL h1 h2 h3 h4 hE
  exact lv_bipush X.1 X.2.1 hd hv (k p e R s m args below meth c H ls locs cells slots cm sm Q X hR hS hL h1 h2 h3 h4 hE)
theorem jv_sipush {n : Int} {v : Int32} (hd : decode κ.2.1 pc = .ok (.sipush n, 3)) (hv : (Int16.ofInt n).toInt32 = v) (k : jv_J g d κ (pc + 3) L (.int v :: st) M N cr sr Z) : jv_J g d κ pc L st M N cr sr Z := by
  intro p e R s m args below meth c H ls locs cells slots cm sm Q X hR hS hL h1 h2 h3 h4 hE
  exact lv_sipush X.1 X.2.1 hd hv (k p e R s m args below meth c H ls locs cells slots cm sm Q X hR hS hL h1 h2 h3 h4 hE)
theorem jv_lconst {n : Fin 2} {v : Int64} (hd : decode κ.2.1 pc = .ok (.lconst n, 1)) (hv : Int64.ofNat (n : Nat) = v) (k : jv_J g d κ (pc + 1) L (.long v :: st) M N cr sr Z) : jv_J g d κ pc L st M N cr sr Z := by
  intro p e R s m args below meth c H ls locs cells slots cm sm Q X hR hS hL h1 h2 h3 h4 hE
  exact lv_lconst X.1 X.2.1 hd hv (k p e R s m args below meth c H ls locs cells slots cm sm Q X hR hS hL h1 h2 h3 h4 hE)
theorem jv_iload_n {q : Fin 4} {i : Nat} {x : Int32} (hd : decode κ.2.1 pc = .ok (.iload_n q, 1)) (hi : (q : Nat) = i) (hl : L[i]? = some (some (.int x))) (k : jv_J g d κ (pc + 1) L (.int x :: st) M N cr sr Z) : jv_J g d κ pc L st M N cr sr Z := by
  intro p e R s m args below meth c H ls locs cells slots cm sm Q X hR hS hL h1 h2 h3 h4 hE
  exact lv_iload_n X.1 X.2.1 hd hi (hL.2.2 i _ hl) (k p e R s m args below meth c H ls locs cells slots cm sm Q X hR hS hL h1 h2 h3 h4 hE)
theorem jv_iload {i : Nat} {x : Int32} (hd : decode κ.2.1 pc = .ok (.iload i, 2)) (hl : L[i]? = some (some (.int x))) (k : jv_J g d κ (pc + 2) L (.int x :: st) M N cr sr Z) : jv_J g d κ pc L st M N cr sr Z := by
  intro p e R s m args below meth c H ls locs cells slots cm sm Q X hR hS hL h1 h2 h3 h4 hE
  exact lv_iload X.1 X.2.1 hd (hL.2.2 i _ hl) (k p e R s m args below meth c H ls locs cells slots cm sm Q X hR hS hL h1 h2 h3 h4 hE)
theorem jv_lload_n {q : Fin 4} {i : Nat} {x : Int64} (hd : decode κ.2.1 pc = .ok (.lload_n q, 1)) (hi : (q : Nat) = i) (hl : L[i]? = some (some (.long x))) (k : jv_J g d κ (pc + 1) L (.long x :: st) M N cr sr Z) : jv_J g d κ pc L st M N cr sr Z := by
  intro p e R s m args below meth c H ls locs cells slots cm sm Q X hR hS hL h1 h2 h3 h4 hE
  exact lv_lload_n X.1 X.2.1 hd hi (hL.2.2 i _ hl) (k p e R s m args below meth c H ls locs cells slots cm sm Q X hR hS hL h1 h2 h3 h4 hE)
theorem jv_lload {i : Nat} {x : Int64} (hd : decode κ.2.1 pc = .ok (.lload i, 2)) (hl : L[i]? = some (some (.long x))) (k : jv_J g d κ (pc + 2) L (.long x :: st) M N cr sr Z) : jv_J g d κ pc L st M N cr sr Z := by
  intro p e R s m args below meth c H ls locs cells slots cm sm Q X hR hS hL h1 h2 h3 h4 hE
  exact lv_lload X.1 X.2.1 hd (hL.2.2 i _ hl) (k p e R s m args below meth c H ls locs cells slots cm sm Q X hR hS hL h1 h2 h3 h4 hE)
theorem jv_aload_n {q : Fin 4} {i x : Nat} (hd : decode κ.2.1 pc = .ok (.aload_n q, 1)) (hi : (q : Nat) = i) (hl : L[i]? = some (some (.ref x))) (k : jv_J g d κ (pc + 1) L (.ref x :: st) M N cr sr Z) : jv_J g d κ pc L st M N cr sr Z := by
  intro p e R s m args below meth c H ls locs cells slots cm sm Q X hR hS hL h1 h2 h3 h4 hE
  exact lv_aload_n X.1 X.2.1 hd hi (hL.2.2 i _ hl) (k p e R s m args below meth c H ls locs cells slots cm sm Q X hR hS hL h1 h2 h3 h4 hE)
theorem jv_aload {i x : Nat} (hd : decode κ.2.1 pc = .ok (.aload i, 2)) (hl : L[i]? = some (some (.ref x))) (k : jv_J g d κ (pc + 2) L (.ref x :: st) M N cr sr Z) : jv_J g d κ pc L st M N cr sr Z := by
  intro p e R s m args below meth c H ls locs cells slots cm sm Q X hR hS hL h1 h2 h3 h4 hE
  exact lv_aload X.1 X.2.1 hd (hL.2.2 i _ hl) (k p e R s m args below meth c H ls locs cells slots cm sm Q X hR hS hL h1 h2 h3 h4 hE)
theorem jv_aload_nR {q : Fin 4} {i x : Nat} (hd : decode κ.2.1 pc = .ok (.aload_n q, 1)) (hi : (q : Nat) = i) (hl : L[i]? = some (some (.retAddr x))) (k : jv_J g d κ (pc + 1) L (.retAddr x :: st) M N cr sr Z) : jv_J g d κ pc L st M N cr sr Z := by
  intro p e R s m args below meth c H ls locs cells slots cm sm Q X hR hS hL h1 h2 h3 h4 hE
  exact lv_aload_n X.1 X.2.1 hd hi (hL.2.2 i _ hl) (k p e R s m args below meth c H ls locs cells slots cm sm Q X hR hS hL h1 h2 h3 h4 hE)
theorem jv_aloadR {i x : Nat} (hd : decode κ.2.1 pc = .ok (.aload i, 2)) (hl : L[i]? = some (some (.retAddr x))) (k : jv_J g d κ (pc + 2) L (.retAddr x :: st) M N cr sr Z) : jv_J g d κ pc L st M N cr sr Z := by
  intro p e R s m args below meth c H ls locs cells slots cm sm Q X hR hS hL h1 h2 h3 h4 hE
  exact lv_aload X.1 X.2.1 hd (hL.2.2 i _ hl) (k p e R s m args below meth c H ls locs cells slots cm sm Q X hR hS hL h1 h2 h3 h4 hE)
theorem jv_istore_n {q : Fin 4} {i : Nat} {x : Int32} {L' : List (Option Value)} (hd : decode κ.2.1 pc = .ok (.istore_n q, 1)) (hi : (q : Nat) = i) (hn : i < κ.2.2.1) (hl : jv_st1 L i (.int x) = L') (k : jv_J g d κ (pc + 1) L' st M N cr sr Z) : jv_J g d κ pc L (.int x :: st) M N cr sr Z := by
  intro p e R s m args below meth c H ls locs cells slots cm sm Q X hR hS hL h1 h2 h3 h4 hE
  exact lv_istore_n X.1 X.2.1 hd hi hL.has hn rfl (fun ls2 hl2 => k p e R s m args below meth c H ls2 locs cells slots cm sm Q X hR hS (by rw [← hl]; exact jv_Ls.st1 hl2) h1 h2 h3 h4 hE)
theorem jv_istore {i : Nat} {x : Int32} {L' : List (Option Value)} (hd : decode κ.2.1 pc = .ok (.istore i, 2)) (hn : i < κ.2.2.1) (hl : jv_st1 L i (.int x) = L') (k : jv_J g d κ (pc + 2) L' st M N cr sr Z) : jv_J g d κ pc L (.int x :: st) M N cr sr Z := by
  intro p e R s m args below meth c H ls locs cells slots cm sm Q X hR hS hL h1 h2 h3 h4 hE
  exact lv_istore X.1 X.2.1 hd hL.has hn rfl (fun ls2 hl2 => k p e R s m args below meth c H ls2 locs cells slots cm sm Q X hR hS (by rw [← hl]; exact jv_Ls.st1 hl2) h1 h2 h3 h4 hE)
theorem jv_lstore_n {q : Fin 4} {i : Nat} {x : Int64} {L' : List (Option Value)} (hd : decode κ.2.1 pc = .ok (.lstore_n q, 1)) (hi : (q : Nat) = i) (hn : i + 1 < κ.2.2.1) (hl : jv_st2 L i (.long x) = L') (k : jv_J g d κ (pc + 1) L' st M N cr sr Z) : jv_J g d κ pc L (.long x :: st) M N cr sr Z := by
  intro p e R s m args below meth c H ls locs cells slots cm sm Q X hR hS hL h1 h2 h3 h4 hE
  exact lv_lstore_n X.1 X.2.1 hd hi hL.has hn rfl (fun ls2 hl2 => k p e R s m args below meth c H ls2 locs cells slots cm sm Q X hR hS (by rw [← hl]; exact jv_Ls.st2 hl2) h1 h2 h3 h4 hE)
theorem jv_lstore {i : Nat} {x : Int64} {L' : List (Option Value)} (hd : decode κ.2.1 pc = .ok (.lstore i, 2)) (hn : i + 1 < κ.2.2.1) (hl : jv_st2 L i (.long x) = L') (k : jv_J g d κ (pc + 2) L' st M N cr sr Z) : jv_J g d κ pc L (.long x :: st) M N cr sr Z := by
  intro p e R s m args below meth c H ls locs cells slots cm sm Q X hR hS hL h1 h2 h3 h4 hE
  exact lv_lstore X.1 X.2.1 hd hL.has hn rfl (fun ls2 hl2 => k p e R s m args below meth c H ls2 locs cells slots cm sm Q X hR hS (by rw [← hl]; exact jv_Ls.st2 hl2) h1 h2 h3 h4 hE)
theorem jv_astore_n {q : Fin 4} {i : Nat} {x : Nat} {L' : List (Option Value)} (hd : decode κ.2.1 pc = .ok (.astore_n q, 1)) (hi : (q : Nat) = i) (hn : i < κ.2.2.1) (hl : jv_st1 L i (.ref x) = L') (k : jv_J g d κ (pc + 1) L' st M N cr sr Z) : jv_J g d κ pc L (.ref x :: st) M N cr sr Z := by
  intro p e R s m args below meth c H ls locs cells slots cm sm Q X hR hS hL h1 h2 h3 h4 hE
  exact lv_astore_n X.1 X.2.1 hd hi hL.has hn rfl (fun ls2 hl2 => k p e R s m args below meth c H ls2 locs cells slots cm sm Q X hR hS (by rw [← hl]; exact jv_Ls.st1 hl2) h1 h2 h3 h4 hE)
theorem jv_astore {i : Nat} {x : Nat} {L' : List (Option Value)} (hd : decode κ.2.1 pc = .ok (.astore i, 2)) (hn : i < κ.2.2.1) (hl : jv_st1 L i (.ref x) = L') (k : jv_J g d κ (pc + 2) L' st M N cr sr Z) : jv_J g d κ pc L (.ref x :: st) M N cr sr Z := by
  intro p e R s m args below meth c H ls locs cells slots cm sm Q X hR hS hL h1 h2 h3 h4 hE
  exact lv_astore X.1 X.2.1 hd hL.has hn rfl (fun ls2 hl2 => k p e R s m args below meth c H ls2 locs cells slots cm sm Q X hR hS (by rw [← hl]; exact jv_Ls.st1 hl2) h1 h2 h3 h4 hE)
theorem jv_iinc {i : Nat} {n : Int} {x v : Int32} {L' : List (Option Value)} (hd : decode κ.2.1 pc = .ok (.iinc i n, 3)) (hx : L[i]? = some (some (.int x))) (hv : x + Int32.ofInt n = v) (hn : i < κ.2.2.1) (hl : jv_st1 L i (.int v) = L') (k : jv_J g d κ (pc + 3) L' st M N cr sr Z) : jv_J g d κ pc L st M N cr sr Z := by
  intro p e R s m args below meth c H ls locs cells slots cm sm Q X hR hS hL h1 h2 h3 h4 hE
  obtain ⟨q, hq⟩ := List.getElem?_of_mem (jv_lp_mem (g := g) hx)
  exact lv_iinc X.1 X.2.1 hd hL.has hq hv hn rfl (fun ls2 hl2 => k p e R s m args below meth c H ls2 locs cells slots cm sm Q X hR hS (by rw [← hl]; exact jv_Ls.st1 hl2) h1 h2 h3 h4 hE)
theorem jv_iadd {x y : Int32} (hd : decode κ.2.1 pc = .ok (.iadd, 1)) (k : jv_J g d κ (pc + 1) L (.int (x + y) :: st) M N cr sr Z) : jv_J g d κ pc L (.int y :: .int x :: st) M N cr sr Z := by
  intro p e R s m args below meth c H ls locs cells slots cm sm Q X hR hS hL h1 h2 h3 h4 hE
  exact lv_iadd X.1 X.2.1 hd (k p e R s m args below meth c H ls locs cells slots cm sm Q X hR hS hL h1 h2 h3 h4 hE)
theorem jv_isub {x y : Int32} (hd : decode κ.2.1 pc = .ok (.isub, 1)) (k : jv_J g d κ (pc + 1) L (.int (x - y) :: st) M N cr sr Z) : jv_J g d κ pc L (.int y :: .int x :: st) M N cr sr Z := by
  intro p e R s m args below meth c H ls locs cells slots cm sm Q X hR hS hL h1 h2 h3 h4 hE
  exact lv_isub X.1 X.2.1 hd (k p e R s m args below meth c H ls locs cells slots cm sm Q X hR hS hL h1 h2 h3 h4 hE)
theorem jv_imul {x y : Int32} (hd : decode κ.2.1 pc = .ok (.imul, 1)) (k : jv_J g d κ (pc + 1) L (.int (x * y) :: st) M N cr sr Z) : jv_J g d κ pc L (.int y :: .int x :: st) M N cr sr Z := by
  intro p e R s m args below meth c H ls locs cells slots cm sm Q X hR hS hL h1 h2 h3 h4 hE
  exact lv_imul X.1 X.2.1 hd (k p e R s m args below meth c H ls locs cells slots cm sm Q X hR hS hL h1 h2 h3 h4 hE)
theorem jv_iand {x y : Int32} (hd : decode κ.2.1 pc = .ok (.iand, 1)) (k : jv_J g d κ (pc + 1) L (.int (x &&& y) :: st) M N cr sr Z) : jv_J g d κ pc L (.int y :: .int x :: st) M N cr sr Z := by
  intro p e R s m args below meth c H ls locs cells slots cm sm Q X hR hS hL h1 h2 h3 h4 hE
  exact lv_iand X.1 X.2.1 hd (k p e R s m args below meth c H ls locs cells slots cm sm Q X hR hS hL h1 h2 h3 h4 hE)
theorem jv_ior {x y : Int32} (hd : decode κ.2.1 pc = .ok (.ior, 1)) (k : jv_J g d κ (pc + 1) L (.int (x ||| y) :: st) M N cr sr Z) : jv_J g d κ pc L (.int y :: .int x :: st) M N cr sr Z := by
  intro p e R s m args below meth c H ls locs cells slots cm sm Q X hR hS hL h1 h2 h3 h4 hE
  exact lv_ior X.1 X.2.1 hd (k p e R s m args below meth c H ls locs cells slots cm sm Q X hR hS hL h1 h2 h3 h4 hE)
theorem jv_ixor {x y : Int32} (hd : decode κ.2.1 pc = .ok (.ixor, 1)) (k : jv_J g d κ (pc + 1) L (.int (x ^^^ y) :: st) M N cr sr Z) : jv_J g d κ pc L (.int y :: .int x :: st) M N cr sr Z := by
  intro p e R s m args below meth c H ls locs cells slots cm sm Q X hR hS hL h1 h2 h3 h4 hE
  exact lv_ixor X.1 X.2.1 hd (k p e R s m args below meth c H ls locs cells slots cm sm Q X hR hS hL h1 h2 h3 h4 hE)
theorem jv_ishl {x y : Int32} (hd : decode κ.2.1 pc = .ok (.ishl, 1)) (k : jv_J g d κ (pc + 1) L (.int (x <<< (y &&& 31)) :: st) M N cr sr Z) : jv_J g d κ pc L (.int y :: .int x :: st) M N cr sr Z := by
  intro p e R s m args below meth c H ls locs cells slots cm sm Q X hR hS hL h1 h2 h3 h4 hE
  exact lv_ishl X.1 X.2.1 hd (k p e R s m args below meth c H ls locs cells slots cm sm Q X hR hS hL h1 h2 h3 h4 hE)
theorem jv_ishr {x y : Int32} (hd : decode κ.2.1 pc = .ok (.ishr, 1)) (k : jv_J g d κ (pc + 1) L (.int (x >>> (y &&& 31)) :: st) M N cr sr Z) : jv_J g d κ pc L (.int y :: .int x :: st) M N cr sr Z := by
  intro p e R s m args below meth c H ls locs cells slots cm sm Q X hR hS hL h1 h2 h3 h4 hE
  exact lv_ishr X.1 X.2.1 hd (k p e R s m args below meth c H ls locs cells slots cm sm Q X hR hS hL h1 h2 h3 h4 hE)
theorem jv_idiv {x y : Int32} (hd : decode κ.2.1 pc = .ok (.idiv, 1)) (hne : ¬ y = 0) (k : jv_J g d κ (pc + 1) L (.int (x / y) :: st) M N cr sr Z) : jv_J g d κ pc L (.int y :: .int x :: st) M N cr sr Z := by
  intro p e R s m args below meth c H ls locs cells slots cm sm Q X hR hS hL h1 h2 h3 h4 hE
  exact lv_idiv X.1 X.2.1 hd hne (k p e R s m args below meth c H ls locs cells slots cm sm Q X hR hS hL h1 h2 h3 h4 hE)
theorem jv_irem {x y : Int32} (hd : decode κ.2.1 pc = .ok (.irem, 1)) (hne : ¬ y = 0) (k : jv_J g d κ (pc + 1) L (.int (x - x / y * y) :: st) M N cr sr Z) : jv_J g d κ pc L (.int y :: .int x :: st) M N cr sr Z := by
  intro p e R s m args below meth c H ls locs cells slots cm sm Q X hR hS hL h1 h2 h3 h4 hE
  exact lv_irem X.1 X.2.1 hd hne (k p e R s m args below meth c H ls locs cells slots cm sm Q X hR hS hL h1 h2 h3 h4 hE)
theorem jv_iushr {x y : Int32} (hd : decode κ.2.1 pc = .ok (.iushr, 1)) (k : jv_J g d κ (pc + 1) L (.int (x.toUInt32 >>> (y.toUInt32 &&& Int32.toUInt32 31)).toInt32 :: st) M N cr sr Z) : jv_J g d κ pc L (.int y :: .int x :: st) M N cr sr Z := by
  intro p e R s m args below meth c H ls locs cells slots cm sm Q X hR hS hL h1 h2 h3 h4 hE
  exact lv_iushr X.1 X.2.1 hd rfl (k p e R s m args below meth c H ls locs cells slots cm sm Q X hR hS hL h1 h2 h3 h4 hE)
theorem jv_ineg {x : Int32} (hd : decode κ.2.1 pc = .ok (.ineg, 1)) (k : jv_J g d κ (pc + 1) L (.int (-x) :: st) M N cr sr Z) : jv_J g d κ pc L (.int x :: st) M N cr sr Z := by
  intro p e R s m args below meth c H ls locs cells slots cm sm Q X hR hS hL h1 h2 h3 h4 hE
  exact lv_ineg X.1 X.2.1 hd (k p e R s m args below meth c H ls locs cells slots cm sm Q X hR hS hL h1 h2 h3 h4 hE)
theorem jv_ladd {x y : Int64} (hd : decode κ.2.1 pc = .ok (.ladd, 1)) (k : jv_J g d κ (pc + 1) L (.long (x + y) :: st) M N cr sr Z) : jv_J g d κ pc L (.long y :: .long x :: st) M N cr sr Z := by
  intro p e R s m args below meth c H ls locs cells slots cm sm Q X hR hS hL h1 h2 h3 h4 hE
  exact lv_ladd X.1 X.2.1 hd (k p e R s m args below meth c H ls locs cells slots cm sm Q X hR hS hL h1 h2 h3 h4 hE)
theorem jv_lsub {x y : Int64} (hd : decode κ.2.1 pc = .ok (.lsub, 1)) (k : jv_J g d κ (pc + 1) L (.long (x - y) :: st) M N cr sr Z) : jv_J g d κ pc L (.long y :: .long x :: st) M N cr sr Z := by
  intro p e R s m args below meth c H ls locs cells slots cm sm Q X hR hS hL h1 h2 h3 h4 hE
  exact lv_lsub X.1 X.2.1 hd (k p e R s m args below meth c H ls locs cells slots cm sm Q X hR hS hL h1 h2 h3 h4 hE)
theorem jv_lmul {x y : Int64} (hd : decode κ.2.1 pc = .ok (.lmul, 1)) (k : jv_J g d κ (pc + 1) L (.long (x * y) :: st) M N cr sr Z) : jv_J g d κ pc L (.long y :: .long x :: st) M N cr sr Z := by
  intro p e R s m args below meth c H ls locs cells slots cm sm Q X hR hS hL h1 h2 h3 h4 hE
  exact lv_lmul X.1 X.2.1 hd (k p e R s m args below meth c H ls locs cells slots cm sm Q X hR hS hL h1 h2 h3 h4 hE)
theorem jv_land {x y : Int64} (hd : decode κ.2.1 pc = .ok (.land, 1)) (k : jv_J g d κ (pc + 1) L (.long (x &&& y) :: st) M N cr sr Z) : jv_J g d κ pc L (.long y :: .long x :: st) M N cr sr Z := by
  intro p e R s m args below meth c H ls locs cells slots cm sm Q X hR hS hL h1 h2 h3 h4 hE
  exact lv_land X.1 X.2.1 hd (k p e R s m args below meth c H ls locs cells slots cm sm Q X hR hS hL h1 h2 h3 h4 hE)
theorem jv_lor {x y : Int64} (hd : decode κ.2.1 pc = .ok (.lor, 1)) (k : jv_J g d κ (pc + 1) L (.long (x ||| y) :: st) M N cr sr Z) : jv_J g d κ pc L (.long y :: .long x :: st) M N cr sr Z := by
  intro p e R s m args below meth c H ls locs cells slots cm sm Q X hR hS hL h1 h2 h3 h4 hE
  exact lv_lor X.1 X.2.1 hd (k p e R s m args below meth c H ls locs cells slots cm sm Q X hR hS hL h1 h2 h3 h4 hE)
theorem jv_ldiv {x y : Int64} (hd : decode κ.2.1 pc = .ok (.ldiv, 1)) (hne : ¬ y = 0) (k : jv_J g d κ (pc + 1) L (.long (x / y) :: st) M N cr sr Z) : jv_J g d κ pc L (.long y :: .long x :: st) M N cr sr Z := by
  intro p e R s m args below meth c H ls locs cells slots cm sm Q X hR hS hL h1 h2 h3 h4 hE
  exact lv_ldiv X.1 X.2.1 hd hne (k p e R s m args below meth c H ls locs cells slots cm sm Q X hR hS hL h1 h2 h3 h4 hE)
theorem jv_lrem {x y : Int64} (hd : decode κ.2.1 pc = .ok (.lrem, 1)) (hne : ¬ y = 0) (k : jv_J g d κ (pc + 1) L (.long (x - x / y * y) :: st) M N cr sr Z) : jv_J g d κ pc L (.long y :: .long x :: st) M N cr sr Z := by
  intro p e R s m args below meth c H ls locs cells slots cm sm Q X hR hS hL h1 h2 h3 h4 hE
  exact lv_lrem X.1 X.2.1 hd hne (k p e R s m args below meth c H ls locs cells slots cm sm Q X hR hS hL h1 h2 h3 h4 hE)
theorem jv_lneg {x : Int64} (hd : decode κ.2.1 pc = .ok (.lneg, 1)) (k : jv_J g d κ (pc + 1) L (.long (-x) :: st) M N cr sr Z) : jv_J g d κ pc L (.long x :: st) M N cr sr Z := by
  intro p e R s m args below meth c H ls locs cells slots cm sm Q X hR hS hL h1 h2 h3 h4 hE
  exact lv_lneg X.1 X.2.1 hd (k p e R s m args below meth c H ls locs cells slots cm sm Q X hR hS hL h1 h2 h3 h4 hE)
theorem jv_lshl {x : Int64} {y : Int32} (hd : decode κ.2.1 pc = .ok (.lshl, 1)) (k : jv_J g d κ (pc + 1) L (.long (x <<< (y.toInt64 &&& 63)) :: st) M N cr sr Z) : jv_J g d κ pc L (.int y :: .long x :: st) M N cr sr Z := by
  intro p e R s m args below meth c H ls locs cells slots cm sm Q X hR hS hL h1 h2 h3 h4 hE
  exact lv_lshl X.1 X.2.1 hd rfl (k p e R s m args below meth c H ls locs cells slots cm sm Q X hR hS hL h1 h2 h3 h4 hE)
theorem jv_lushr {x : Int64} {y : Int32} (hd : decode κ.2.1 pc = .ok (.lushr, 1)) (k : jv_J g d κ (pc + 1) L (.long (x.toUInt64 >>> (y.toInt64.toUInt64 &&& Int64.toUInt64 63)).toInt64 :: st) M N cr sr Z) : jv_J g d κ pc L (.int y :: .long x :: st) M N cr sr Z := by
  intro p e R s m args below meth c H ls locs cells slots cm sm Q X hR hS hL h1 h2 h3 h4 hE
  exact lv_lushr X.1 X.2.1 hd rfl (k p e R s m args below meth c H ls locs cells slots cm sm Q X hR hS hL h1 h2 h3 h4 hE)
theorem jv_i2l {x : Int32} (hd : decode κ.2.1 pc = .ok (.i2l, 1)) (k : jv_J g d κ (pc + 1) L (.long x.toInt64 :: st) M N cr sr Z) : jv_J g d κ pc L (.int x :: st) M N cr sr Z := by
  intro p e R s m args below meth c H ls locs cells slots cm sm Q X hR hS hL h1 h2 h3 h4 hE
  exact lv_i2l X.1 X.2.1 hd rfl (k p e R s m args below meth c H ls locs cells slots cm sm Q X hR hS hL h1 h2 h3 h4 hE)
theorem jv_l2i {x : Int64} (hd : decode κ.2.1 pc = .ok (.l2i, 1)) (k : jv_J g d κ (pc + 1) L (.int x.toInt32 :: st) M N cr sr Z) : jv_J g d κ pc L (.long x :: st) M N cr sr Z := by
  intro p e R s m args below meth c H ls locs cells slots cm sm Q X hR hS hL h1 h2 h3 h4 hE
  exact lv_l2i X.1 X.2.1 hd rfl (k p e R s m args below meth c H ls locs cells slots cm sm Q X hR hS hL h1 h2 h3 h4 hE)
theorem jv_i2c {x : Int32} (hd : decode κ.2.1 pc = .ok (.i2c, 1)) (k : jv_J g d κ (pc + 1) L (.int (x.toUInt32 % 65536).toInt32 :: st) M N cr sr Z) : jv_J g d κ pc L (.int x :: st) M N cr sr Z := by
  intro p e R s m args below meth c H ls locs cells slots cm sm Q X hR hS hL h1 h2 h3 h4 hE
  exact lv_i2c X.1 X.2.1 hd rfl (k p e R s m args below meth c H ls locs cells slots cm sm Q X hR hS hL h1 h2 h3 h4 hE)
theorem jv_i2b {x : Int32} (hd : decode κ.2.1 pc = .ok (.i2b, 1)) (k : jv_J g d κ (pc + 1) L (.int x.toInt8.toInt32 :: st) M N cr sr Z) : jv_J g d κ pc L (.int x :: st) M N cr sr Z := by
  intro p e R s m args below meth c H ls locs cells slots cm sm Q X hR hS hL h1 h2 h3 h4 hE
  exact lv_i2b X.1 X.2.1 hd rfl (k p e R s m args below meth c H ls locs cells slots cm sm Q X hR hS hL h1 h2 h3 h4 hE)
theorem jv_lcmp {x y : Int64} (hd : decode κ.2.1 pc = .ok (.lcmp, 1)) (k : jv_J g d κ (pc + 1) L (.int (lg_cmp x y) :: st) M N cr sr Z) : jv_J g d κ pc L (.long y :: .long x :: st) M N cr sr Z := by
  intro p e R s m args below meth c H ls locs cells slots cm sm Q X hR hS hL h1 h2 h3 h4 hE
  exact W.lcmp X.1 X.2.1 hd (k p e R s m args below meth c H ls locs cells slots cm sm Q X hR hS hL h1 h2 h3 h4 hE)
theorem jv_dup {v : Value} (hd : decode κ.2.1 pc = .ok (.dup, 1)) (hc : v.category = 1) (k : jv_J g d κ (pc + 1) L (v :: v :: st) M N cr sr Z) : jv_J g d κ pc L (v :: st) M N cr sr Z := by
  intro p e R s m args below meth c H ls locs cells slots cm sm Q X hR hS hL h1 h2 h3 h4 hE
  exact lv_dup X.1 X.2.1 hd ((jv_mv_cat' g v).trans hc) (k p e R s m args below meth c H ls locs cells slots cm sm Q X hR hS hL h1 h2 h3 h4 hE)
theorem jv_dup2 {v w : Value} (hd : decode κ.2.1 pc = .ok (.dup2, 1)) (hc : v.category = 1) (hc2 : w.category = 1) (k : jv_J g d κ (pc + 1) L (v :: w :: v :: w :: st) M N cr sr Z) : jv_J g d κ pc L (v :: w :: st) M N cr sr Z := by
  intro p e R s m args below meth c H ls locs cells slots cm sm Q X hR hS hL h1 h2 h3 h4 hE
  exact lv_dup2_11 X.1 X.2.1 hd ((jv_mv_cat' g v).trans hc) ((jv_mv_cat' g w).trans hc2) (k p e R s m args below meth c H ls locs cells slots cm sm Q X hR hS hL h1 h2 h3 h4 hE)
theorem jv_pop {v : Value} (hd : decode κ.2.1 pc = .ok (.pop, 1)) (hc : v.category = 1) (k : jv_J g d κ (pc + 1) L st M N cr sr Z) : jv_J g d κ pc L (v :: st) M N cr sr Z := by
  intro p e R s m args below meth c H ls locs cells slots cm sm Q X hR hS hL h1 h2 h3 h4 hE
  exact lv_pop X.1 X.2.1 hd ((jv_mv_cat' g v).trans hc) (k p e R s m args below meth c H ls locs cells slots cm sm Q X hR hS hL h1 h2 h3 h4 hE)
theorem jv_goto {off : Int} {tgt : Nat} (hd : decode κ.2.1 pc = .ok (.goto off, 3)) (ht : (pc : Int) + off = (tgt : Int)) (k : jv_J g d κ tgt L st M N cr sr Z) : jv_J g d κ pc L st M N cr sr Z := by
  intro p e R s m args below meth c H ls locs cells slots cm sm Q X hR hS hL h1 h2 h3 h4 hE
  exact lv_goto X.1 X.2.1 hd ht (k p e R s m args below meth c H ls locs cells slots cm sm Q X hR hS hL h1 h2 h3 h4 hE)
theorem jv_if_eq {x : Int32} {off : Int} {tgt : Nat} (hd : decode κ.2.1 pc = .ok (.ifCond .eq off, 3)) (ht : (pc : Int) + off = (tgt : Int)) (k : (x = 0 → jv_J g d κ tgt L st M N cr sr Z) ∧ (¬ (x = 0) → jv_J g d κ (pc + 3) L st M N cr sr Z)) : jv_J g d κ pc L (.int x :: st) M N cr sr Z := by
  intro p e R s m args below meth c H ls locs cells slots cm sm Q X hR hS hL h1 h2 h3 h4 hE
  exact lv_if_eq X.1 X.2.1 hd ht (fun q => k.1 q p e R s m args below meth c H ls locs cells slots cm sm Q X hR hS hL h1 h2 h3 h4 hE) (fun q => k.2 q p e R s m args below meth c H ls locs cells slots cm sm Q X hR hS hL h1 h2 h3 h4 hE)
theorem jv_icmp_eq {x y : Int32} {off : Int} {tgt : Nat} (hd : decode κ.2.1 pc = .ok (.if_icmp .eq off, 3)) (ht : (pc : Int) + off = (tgt : Int)) (k : (x = y → jv_J g d κ tgt L st M N cr sr Z) ∧ (¬ (x = y) → jv_J g d κ (pc + 3) L st M N cr sr Z)) : jv_J g d κ pc L (.int y :: .int x :: st) M N cr sr Z := by
  intro p e R s m args below meth c H ls locs cells slots cm sm Q X hR hS hL h1 h2 h3 h4 hE
  exact lv_icmp_eq X.1 X.2.1 hd ht (fun q => k.1 q p e R s m args below meth c H ls locs cells slots cm sm Q X hR hS hL h1 h2 h3 h4 hE) (fun q => k.2 q p e R s m args below meth c H ls locs cells slots cm sm Q X hR hS hL h1 h2 h3 h4 hE)
theorem jv_if_ne {x : Int32} {off : Int} {tgt : Nat} (hd : decode κ.2.1 pc = .ok (.ifCond .ne off, 3)) (ht : (pc : Int) + off = (tgt : Int)) (k : (x ≠ 0 → jv_J g d κ tgt L st M N cr sr Z) ∧ (x = 0 → jv_J g d κ (pc + 3) L st M N cr sr Z)) : jv_J g d κ pc L (.int x :: st) M N cr sr Z := by
  intro p e R s m args below meth c H ls locs cells slots cm sm Q X hR hS hL h1 h2 h3 h4 hE
  exact lv_if_ne X.1 X.2.1 hd ht (fun q => k.1 q p e R s m args below meth c H ls locs cells slots cm sm Q X hR hS hL h1 h2 h3 h4 hE) (fun q => k.2 q p e R s m args below meth c H ls locs cells slots cm sm Q X hR hS hL h1 h2 h3 h4 hE)
theorem jv_icmp_ne {x y : Int32} {off : Int} {tgt : Nat} (hd : decode κ.2.1 pc = .ok (.if_icmp .ne off, 3)) (ht : (pc : Int) + off = (tgt : Int)) (k : (x ≠ y → jv_J g d κ tgt L st M N cr sr Z) ∧ (x = y → jv_J g d κ (pc + 3) L st M N cr sr Z)) : jv_J g d κ pc L (.int y :: .int x :: st) M N cr sr Z := by
  intro p e R s m args below meth c H ls locs cells slots cm sm Q X hR hS hL h1 h2 h3 h4 hE
  exact lv_icmp_ne X.1 X.2.1 hd ht (fun q => k.1 q p e R s m args below meth c H ls locs cells slots cm sm Q X hR hS hL h1 h2 h3 h4 hE) (fun q => k.2 q p e R s m args below meth c H ls locs cells slots cm sm Q X hR hS hL h1 h2 h3 h4 hE)
theorem jv_if_lt {x : Int32} {off : Int} {tgt : Nat} (hd : decode κ.2.1 pc = .ok (.ifCond .lt off, 3)) (ht : (pc : Int) + off = (tgt : Int)) (k : (x < 0 → jv_J g d κ tgt L st M N cr sr Z) ∧ (¬ (x < 0) → jv_J g d κ (pc + 3) L st M N cr sr Z)) : jv_J g d κ pc L (.int x :: st) M N cr sr Z := by
  intro p e R s m args below meth c H ls locs cells slots cm sm Q X hR hS hL h1 h2 h3 h4 hE
  exact lv_if_lt X.1 X.2.1 hd ht (fun q => k.1 q p e R s m args below meth c H ls locs cells slots cm sm Q X hR hS hL h1 h2 h3 h4 hE) (fun q => k.2 q p e R s m args below meth c H ls locs cells slots cm sm Q X hR hS hL h1 h2 h3 h4 hE)
theorem jv_icmp_lt {x y : Int32} {off : Int} {tgt : Nat} (hd : decode κ.2.1 pc = .ok (.if_icmp .lt off, 3)) (ht : (pc : Int) + off = (tgt : Int)) (k : (x < y → jv_J g d κ tgt L st M N cr sr Z) ∧ (¬ (x < y) → jv_J g d κ (pc + 3) L st M N cr sr Z)) : jv_J g d κ pc L (.int y :: .int x :: st) M N cr sr Z := by
  intro p e R s m args below meth c H ls locs cells slots cm sm Q X hR hS hL h1 h2 h3 h4 hE
  exact lv_icmp_lt X.1 X.2.1 hd ht (fun q => k.1 q p e R s m args below meth c H ls locs cells slots cm sm Q X hR hS hL h1 h2 h3 h4 hE) (fun q => k.2 q p e R s m args below meth c H ls locs cells slots cm sm Q X hR hS hL h1 h2 h3 h4 hE)
theorem jv_if_ge {x : Int32} {off : Int} {tgt : Nat} (hd : decode κ.2.1 pc = .ok (.ifCond .ge off, 3)) (ht : (pc : Int) + off = (tgt : Int)) (k : (0 ≤ x → jv_J g d κ tgt L st M N cr sr Z) ∧ (¬ (0 ≤ x) → jv_J g d κ (pc + 3) L st M N cr sr Z)) : jv_J g d κ pc L (.int x :: st) M N cr sr Z := by
  intro p e R s m args below meth c H ls locs cells slots cm sm Q X hR hS hL h1 h2 h3 h4 hE
  exact lv_if_ge X.1 X.2.1 hd ht (fun q => k.1 q p e R s m args below meth c H ls locs cells slots cm sm Q X hR hS hL h1 h2 h3 h4 hE) (fun q => k.2 q p e R s m args below meth c H ls locs cells slots cm sm Q X hR hS hL h1 h2 h3 h4 hE)
theorem jv_icmp_ge {x y : Int32} {off : Int} {tgt : Nat} (hd : decode κ.2.1 pc = .ok (.if_icmp .ge off, 3)) (ht : (pc : Int) + off = (tgt : Int)) (k : (y ≤ x → jv_J g d κ tgt L st M N cr sr Z) ∧ (¬ (y ≤ x) → jv_J g d κ (pc + 3) L st M N cr sr Z)) : jv_J g d κ pc L (.int y :: .int x :: st) M N cr sr Z := by
  intro p e R s m args below meth c H ls locs cells slots cm sm Q X hR hS hL h1 h2 h3 h4 hE
  exact lv_icmp_ge X.1 X.2.1 hd ht (fun q => k.1 q p e R s m args below meth c H ls locs cells slots cm sm Q X hR hS hL h1 h2 h3 h4 hE) (fun q => k.2 q p e R s m args below meth c H ls locs cells slots cm sm Q X hR hS hL h1 h2 h3 h4 hE)
theorem jv_if_gt {x : Int32} {off : Int} {tgt : Nat} (hd : decode κ.2.1 pc = .ok (.ifCond .gt off, 3)) (ht : (pc : Int) + off = (tgt : Int)) (k : (0 < x → jv_J g d κ tgt L st M N cr sr Z) ∧ (¬ (0 < x) → jv_J g d κ (pc + 3) L st M N cr sr Z)) : jv_J g d κ pc L (.int x :: st) M N cr sr Z := by
  intro p e R s m args below meth c H ls locs cells slots cm sm Q X hR hS hL h1 h2 h3 h4 hE
  exact lv_if_gt X.1 X.2.1 hd ht (fun q => k.1 q p e R s m args below meth c H ls locs cells slots cm sm Q X hR hS hL h1 h2 h3 h4 hE) (fun q => k.2 q p e R s m args below meth c H ls locs cells slots cm sm Q X hR hS hL h1 h2 h3 h4 hE)
theorem jv_icmp_gt {x y : Int32} {off : Int} {tgt : Nat} (hd : decode κ.2.1 pc = .ok (.if_icmp .gt off, 3)) (ht : (pc : Int) + off = (tgt : Int)) (k : (y < x → jv_J g d κ tgt L st M N cr sr Z) ∧ (¬ (y < x) → jv_J g d κ (pc + 3) L st M N cr sr Z)) : jv_J g d κ pc L (.int y :: .int x :: st) M N cr sr Z := by
  intro p e R s m args below meth c H ls locs cells slots cm sm Q X hR hS hL h1 h2 h3 h4 hE
  exact lv_icmp_gt X.1 X.2.1 hd ht (fun q => k.1 q p e R s m args below meth c H ls locs cells slots cm sm Q X hR hS hL h1 h2 h3 h4 hE) (fun q => k.2 q p e R s m args below meth c H ls locs cells slots cm sm Q X hR hS hL h1 h2 h3 h4 hE)
theorem jv_if_le {x : Int32} {off : Int} {tgt : Nat} (hd : decode κ.2.1 pc = .ok (.ifCond .le off, 3)) (ht : (pc : Int) + off = (tgt : Int)) (k : (x ≤ 0 → jv_J g d κ tgt L st M N cr sr Z) ∧ (¬ (x ≤ 0) → jv_J g d κ (pc + 3) L st M N cr sr Z)) : jv_J g d κ pc L (.int x :: st) M N cr sr Z := by
  intro p e R s m args below meth c H ls locs cells slots cm sm Q X hR hS hL h1 h2 h3 h4 hE
  exact lv_if_le X.1 X.2.1 hd ht (fun q => k.1 q p e R s m args below meth c H ls locs cells slots cm sm Q X hR hS hL h1 h2 h3 h4 hE) (fun q => k.2 q p e R s m args below meth c H ls locs cells slots cm sm Q X hR hS hL h1 h2 h3 h4 hE)
theorem jv_icmp_le {x y : Int32} {off : Int} {tgt : Nat} (hd : decode κ.2.1 pc = .ok (.if_icmp .le off, 3)) (ht : (pc : Int) + off = (tgt : Int)) (k : (x ≤ y → jv_J g d κ tgt L st M N cr sr Z) ∧ (¬ (x ≤ y) → jv_J g d κ (pc + 3) L st M N cr sr Z)) : jv_J g d κ pc L (.int y :: .int x :: st) M N cr sr Z := by
  intro p e R s m args below meth c H ls locs cells slots cm sm Q X hR hS hL h1 h2 h3 h4 hE
  exact lv_icmp_le X.1 X.2.1 hd ht (fun q => k.1 q p e R s m args below meth c H ls locs cells slots cm sm Q X hR hS hL h1 h2 h3 h4 hE) (fun q => k.2 q p e R s m args below meth c H ls locs cells slots cm sm Q X hR hS hL h1 h2 h3 h4 hE)
theorem jv_ldc {i : Nat} {v : Int32} (hd : decode κ.2.1 pc = .ok (.ldc i, 2)) (hw : Cond.constant κ.1.cls i v ∈ jv_tbl) (k : jv_J g d κ (pc + 2) L (.int v :: st) M N cr sr Z) : jv_J g d κ pc L st M N cr sr Z := by
  intro p e R s m args below meth c H ls locs cells slots cm sm Q X hR hS hL h1 h2 h3 h4 hE
  exact lv_ldc X.1 X.2.1 X.2.2.2.2.2.1 (X.2.2.2.2.2.2.1 _ hw) hd (k p e R s m args below meth c H ls locs cells slots cm sm Q X hR hS hL h1 h2 h3 h4 hE)
theorem jv_ldcw {i : Nat} {v : Int32} (hd : decode κ.2.1 pc = .ok (.ldc_w i, 3)) (hw : Cond.constant κ.1.cls i v ∈ jv_tbl) (k : jv_J g d κ (pc + 3) L (.int v :: st) M N cr sr Z) : jv_J g d κ pc L st M N cr sr Z := by
  intro p e R s m args below meth c H ls locs cells slots cm sm Q X hR hS hL h1 h2 h3 h4 hE
  exact lv_ldcw X.1 X.2.1 X.2.2.2.2.2.1 (X.2.2.2.2.2.2.1 _ hw) hd (k p e R s m args below meth c H ls locs cells slots cm sm Q X hR hS hL h1 h2 h3 h4 hE)
theorem jv_ldc2 {i : Nat} {v : Int64} (hd : decode κ.2.1 pc = .ok (.ldc2_w i, 3)) (hw : Cond.constantLong κ.1.cls i v ∈ jv_tbl) (k : jv_J g d κ (pc + 3) L (.long v :: st) M N cr sr Z) : jv_J g d κ pc L st M N cr sr Z := by
  intro p e R s m args below meth c H ls locs cells slots cm sm Q X hR hS hL h1 h2 h3 h4 hE
  exact lv_ldc2 X.1 X.2.1 X.2.2.2.2.2.1 (X.2.2.2.2.2.2.1 _ hw) hd (k p e R s m args below meth c H ls locs cells slots cm sm Q X hR hS hL h1 h2 h3 h4 hE)
/-- a switch by a table: its keys and targets -/
def jv_tk (pc : Nat) (lo : Int) (offs : Array Int) (ks : List (Int32 × Nat)) : Bool := ks.length == offs.size && (List.range ks.length).all (fun i => match ks[i]?, offs[i]? with | some q, some o => decide (q.1.toInt = lo + i) && decide ((pc : Int) + o = (q.2 : Int)) | _, _ => false)
theorem jv_tsw {dflt lo hi : Int} {offs : Array Int} {len dt : Nat} {x : Int32} (ks : List (Int32 × Nat)) (hd : decode κ.2.1 pc = .ok (.tableswitch dflt lo hi offs, len)) (hs : (offs.size : Int) = hi - lo + 1) (hk : jv_tk pc lo offs ks = true) (ht : (pc : Int) + dflt = (dt : Int))
    (k1 : ∀ q ∈ ks, x = q.1 → jv_J g d κ q.2 L st M N cr sr Z) (k2 : (∀ q ∈ ks, x ≠ q.1) → jv_J g d κ dt L st M N cr sr Z) : jv_J g d κ pc L (.int x :: st) M N cr sr Z := by
  intro p e R s m args below meth c H ls locs cells slots cm sm Q X hR hS hL h1 h2 h3 h4 hE
  unfold jv_tk at hk
  simp only [Bool.and_eq_true, beq_iff_eq, List.all_eq_true, List.mem_range] at hk
  obtain ⟨hl, hk⟩ := hk
  by_cases hin : ¬ x.toInt < lo ∧ ¬ hi < x.toInt
  · have hi1 : (x.toInt - lo).toNat < ks.length := by omega
    have hq := hk _ hi1
    rw [List.getElem?_eq_getElem hi1, Array.getElem?_eq_getElem (by omega)] at hq
    simp only [Bool.and_eq_true, decide_eq_true_eq] at hq
    have hx : x = (ks[(x.toInt - lo).toNat]).1 := Int32.toInt_inj.mp (by omega)
    exact lv_tableIn X.1 X.2.1 hd hin.1 hin.2 (Array.getElem?_eq_getElem (by omega)) hq.2 (k1 _ (List.getElem_mem hi1) hx p e R s m args below meth c H ls locs cells slots cm sm Q X hR hS hL h1 h2 h3 h4 hE)
  · refine lv_tableOut X.1 X.2.1 hd (by omega) ht (k2 (fun q hq e => hin ?_) p e R s m args below meth c H ls locs cells slots cm sm Q X hR hS hL h1 h2 h3 h4 hE)
    obtain ⟨i, hi1, rfl⟩ := List.getElem_of_mem hq
    have hq := hk _ hi1
    rw [List.getElem?_eq_getElem hi1, Array.getElem?_eq_getElem (by omega)] at hq
    simp only [Bool.and_eq_true, decide_eq_true_eq] at hq
    rw [e]
    omega
def jv_lk (pc : Nat) (ps : List (Int × Int)) (ks : List (Int32 × Nat)) : Bool := match ps, ks with
  | [], [] => true
  | p :: ps, k :: ks => decide (k.1.toInt = p.1) && decide ((pc : Int) + p.2 = (k.2 : Int)) && jv_lk pc ps ks
  | _, _ => false
theorem jv_lk_at {pc : Nat} {dflt : Int} {dt : Nat} {x : Int32} : ∀ (ps : List (Int × Int)) (ks : List (Int32 × Nat)), jv_lk pc ps ks = true → (pc : Int) + dflt = (dt : Int) →
    ∃ tgt : Nat, (pc : Int) + Op.lookupswitch.offset ps dflt x.toInt = (tgt : Int) ∧ ((∃ q ∈ ks, x = q.1 ∧ tgt = q.2) ∨ ((∀ q ∈ ks, x ≠ q.1) ∧ tgt = dt))
  | [], [], _, ht => ⟨dt, by simpa [Op.lookupswitch.offset] using ht, Or.inr ⟨by simp, rfl⟩⟩
  | [], _ :: _, h, _ => by simp [jv_lk] at h
  | _ :: _, [], h, _ => by simp [jv_lk] at h
  | (a, o) :: ps, (k, t) :: ks, h, ht => by
    simp only [jv_lk, Bool.and_eq_true, decide_eq_true_eq] at h
    obtain ⟨⟨h1, h2⟩, h3⟩ := h
    by_cases hx : x = k
    · subst hx
      refine ⟨t, ?_, Or.inl ⟨_, List.mem_cons_self, rfl, rfl⟩⟩
      rw [← h2]
      congr 1
      simp [Op.lookupswitch.offset, h1]
    · rw [lv_osw hx h1]
      obtain ⟨tgt, e, hh⟩ := jv_lk_at ps ks h3 ht
      refine ⟨tgt, e, ?_⟩
      rcases hh with ⟨q, hq, q1, q2⟩ | ⟨hq, q2⟩
      · exact Or.inl ⟨q, List.mem_cons_of_mem _ hq, q1, q2⟩
      · refine Or.inr ⟨fun q hm => ?_, q2⟩
        rcases List.mem_cons.mp hm with rfl | hm
        · exact hx
        · exact hq q hm
theorem jv_lsw {dflt : Int} {ps : Array (Int × Int)} {len dt : Nat} {x : Int32} (ks : List (Int32 × Nat)) (hd : decode κ.2.1 pc = .ok (.lookupswitch dflt ps, len)) (hp : (ps.toList.zip (ps.toList.drop 1)).all (fun (a, next) => a.1 < next.1) = true) (hk : jv_lk pc ps.toList ks = true) (ht : (pc : Int) + dflt = (dt : Int))
    (k1 : ∀ q ∈ ks, x = q.1 → jv_J g d κ q.2 L st M N cr sr Z) (k2 : (∀ q ∈ ks, x ≠ q.1) → jv_J g d κ dt L st M N cr sr Z) : jv_J g d κ pc L (.int x :: st) M N cr sr Z := by
  intro p e R s m args below meth c H ls locs cells slots cm sm Q X hR hS hL h1 h2 h3 h4 hE
  obtain ⟨tgt, h5, h6⟩ := jv_lk_at (x := x) ps.toList ks hk ht
  refine lv_lookup X.1 X.2.1 hd hp rfl h5 ?_
  rcases h6 with ⟨q, hq, q1, rfl⟩ | ⟨hq, rfl⟩
  · exact k1 q hq q1 p e R s m args below meth c H ls locs cells slots cm sm Q X hR hS hL h1 h2 h3 h4 hE
  · exact k2 hq p e R s m args below meth c H ls locs cells slots cm sm Q X hR hS hL h1 h2 h3 h4 hE
theorem jv_ret (hd : decode κ.2.1 pc = .ok (.return_, 1)) (hr : κ.2.2.2 = none) (hz : Z none M N) : jv_J g d κ pc L [] M N cr sr Z := by
  intro p e R s m args below meth c H ls locs cells slots cm sm Q X hR hS hL h1 h2 h3 h4 hE
  exact hE H locs cells slots pc ls none M N hz hR hS (by omega) (by omega) (Or.inl ⟨hd, rfl, hr⟩)
theorem jv_iret {x : Int32} {ty : FieldType} (hd : decode κ.2.1 pc = .ok (.ireturn, 1)) (hr : κ.2.2.2 = some ty) (hn : narrow ty (.int x) = .int x) (hz : Z (some (.int x)) M N) : jv_J g d κ pc L [.int x] M N cr sr Z := by
  intro p e R s m args below meth c H ls locs cells slots cm sm Q X hR hS hL h1 h2 h3 h4 hE
  exact hE H locs cells slots pc ls (some (.int x)) M N hz hR hS (by omega) (by omega) (Or.inr (Or.inl ⟨x, ty, hd, rfl, hr, hn⟩))
theorem jv_lret {x : Int64} (hd : decode κ.2.1 pc = .ok (.lreturn, 1)) (hr : κ.2.2.2 = some .long) (hz : Z (some (.long x)) M N) : jv_J g d κ pc L [.long x] M N cr sr Z := by
  intro p e R s m args below meth c H ls locs cells slots cm sm Q X hR hS hL h1 h2 h3 h4 hE
  exact hE H locs cells slots pc ls (some (.long x)) M N hz hR hS (by omega) (by omega) (Or.inr (Or.inr (Or.inl ⟨x, hd, rfl, hr⟩)))
theorem jv_aret {x : Nat} {n : String} (hd : decode κ.2.1 pc = .ok (.areturn, 1)) (hr : κ.2.2.2 = some (.object n)) (hz : Z (some (.ref x)) M N) : jv_J g d κ pc L [.ref x] M N cr sr Z := by
  intro p e R s m args below meth c H ls locs cells slots cm sm Q X hR hS hL h1 h2 h3 h4 hE
  exact hE H locs cells slots pc ls (some (.ref x)) M N hz hR hS (by omega) (by omega) (Or.inr (Or.inr (Or.inr ⟨x, n, hd, rfl, hr⟩)))
end JR
end
section
/-! ===== the rules that touch cells ===== -/
def jv_si (M : jv_Mem) (a k : Nat) (x : Int32) : jv_Mem := (fun b j => if b = a ∧ j = k then x else M.1 b j, M.2.1, M.2.2)
def jv_sr (M : jv_Mem) (a k : Nat) (r : Option Nat) : jv_Mem := (M.1, fun b j => if b = a ∧ j = k then r else M.2.1 b j, M.2.2)
def jv_sl (M : jv_Mem) (a : Nat) (x : Int64) : jv_Mem := (M.1, M.2.1, fun b => if b = a then x else M.2.2 b)
/-- cell a, of kind t, is there -/
def jv_Tg (t a N : Nat) : Prop := (jv_sh a).1 = t ∧ a < N
theorem jv_F_congr {g : jv_G} {M M' : jv_Mem} {a : Nat} (h1 : ∀ k, M'.1 a k = M.1 a k) (h2 : ∀ k, M'.2.1 a k = M.2.1 a k) (h3 : M'.2.2 a = M.2.2 a) : jv_F g M' a = jv_F g M a := by
  have e1 : M'.1 a = M.1 a := funext h1
  have e2 : M'.2.1 a = M.2.1 a := funext h2
  have e3 : jv_fv (jv_base g) M' (jv_sh a).1 a = jv_fv (jv_base g) M (jv_sh a).1 a := by
    funext k
    unfold jv_fv
    rw [h1, h2, h3]
  unfold jv_F jv_Fo
  rw [e1, e2, e3]
theorem jv_Rep.upd {g : jv_G} {M M' : jv_Mem} {N a : Nat} {H H1 : Heap} (h : jv_Rep g M N H) (hz : H1.size = H.size) (oq : ∀ q : Nat, q ≠ jv_base g + a → H1[q]? = H[q]?) (he : va_at (jv_D g) jv_cl (jv_base g + a, jv_F g M' a) H1)
    (ho : ∀ b, b ≠ a → (∀ k, M'.1 b k = M.1 b k) ∧ (∀ k, M'.2.1 b k = M.2.1 b k) ∧ M'.2.2 b = M.2.2 b) : jv_Rep g M' N H1 := by
  refine ⟨hz.trans h.1, fun b hb => ?_⟩
  by_cases hba : b = a
  · subst hba; exact he
  · obtain ⟨o1, o2, o3⟩ := ho b hba
    rw [jv_F_congr o1 o2 o3]
    exact (h.2 b hb).kept (oq _ (by omega))
theorem jv_F_obj {g : jv_G} {M : jv_Mem} {a t : Nat} (h : (jv_sh a).1 = t) (ht : t < 11) : jv_F g M a = .inr (t, jv_Fo (jv_base g) M t (jv_sh a).2 a) := by
  unfold jv_F
  rw [if_pos (by omega), h]
theorem jv_F_int {g : jv_G} {M : jv_Mem} {a t : Nat} (h : (jv_sh a).1 = t) (h1 : ¬ t < 11) (h2 : t < 13) : jv_F g M a = .inl (jv_cA g t, (jv_sh a).2, .inl (M.1 a)) := by
  unfold jv_F
  rw [if_neg (by omega), if_pos (by omega), h]
theorem jv_F_ref {g : jv_G} {M : jv_Mem} {a t : Nat} (h : (jv_sh a).1 = t) (h2 : ¬ t < 13) : jv_F g M a = .inl (jv_cA g t, (jv_sh a).2, .inr (.inr (.inr (.inr (fun i => (M.2.1 a i).map (jv_base g + ·)))))) := by
  unfold jv_F
  rw [if_neg (by omega), if_neg (by omega), h]
theorem jv_Fo_at {b : Nat} {M : jv_Mem} {t n a k : Nat} (hk : k < n) : (jv_Fo b M t n a)[k]? = some (jv_fv b M t a k) := by
  simp [jv_Fo, List.getElem?_range hk]
theorem jv_Fo_len {b : Nat} {M : jv_Mem} {t n a : Nat} : (jv_Fo b M t n a).length = n := by simp [jv_Fo]
theorem jv_Fo_set {b : Nat} {M M' : jv_Mem} {t n a k : Nat} {v : Value} (h : ∀ j, j < n → jv_fv b M' t a j = if j = k then v else jv_fv b M t a j) : jv_Fo b M' t n a = (jv_Fo b M t n a).set k v := by
  refine List.ext_getElem? (fun j => ?_)
  by_cases hj : j < n
  · rw [jv_Fo_at hj, List.getElem?_set, jv_Fo_len, jv_Fo_at hj, h j hj]
    by_cases hk : k = j
    · subst hk; simp [hj]
    · simp [hk, Ne.symm hk]
  · rw [List.getElem?_eq_none (by rw [jv_Fo_len]; omega), List.getElem?_eq_none (by rw [List.length_set, jv_Fo_len]; omega)]
/-- field number k of the classes' number t, by the pool's entry i of a class -/
def jv_FL (own : String) (i t k : Nat) : Prop := ∃ r : vw_C, jv_cl[t]? = some r ∧ k < r.2.2 ∧ Cond.fieldLink own i r.1 (r.2.1 k).2.1 (r.2.1 k).2.2.1 ∈ jv_tbl
section JM
variable {g : jv_G} {d : Nat} {κ : jv_Mt} {pc : Nat} {L : List (Option Value)} {st : List Value} {M : jv_Mem} {N cr sr : Nat} {Z : Option Value → jv_Mem → Nat → Prop}
theorem jv_get0 {t k i a : Nat} {v : Value} (hd : decode κ.2.1 pc = .ok (.getfield i, 3)) (hF : jv_FL κ.1.cls i t k) (hT : jv_Tg t a N) (hv : jv_fv (jv_base g) M t a k = jv_mv g v) (h : jv_J g d κ (pc + 3) L (v :: st) M N cr sr Z) : jv_J g d κ pc L (.ref a :: st) M N cr sr Z := by
  intro p e R s m args below meth c H ls locs cells slots cm sm Q X hR hS hL h1 h2 h3 h4 hE
  obtain ⟨r, hc, hk, hw⟩ := hF
  have hok := jv_ok t r hc
  have ht : t < 11 := (List.getElem?_eq_some_iff.mp hc).1
  obtain ⟨hT1, hT2⟩ := hT
  have hlen : (jv_sh a).2 = r.2.2 := by
    obtain ⟨r', q1, q2⟩ := jv_shlen a (by omega)
    rw [hT1, hc] at q1
    cases q1
    exact q2
  have hat := hR.2 a hT2
  rw [jv_F_obj hT1 ht] at hat
  have hP : va_P (jv_D g) jv_cl [(jv_base g + a, .inr (t, jv_Fo (jv_base g) M t (jv_sh a).2 a))] H := by
    intro q x hx
    match q, hx with
    | 0, hx => cases hx; exact hat
    | q + 1, hx => simp at hx
  refine va_get (C := r.1) (T := r.2.1) (N := r.2.2) (ci := t) (v := jv_mv g v) X.1 X.2.1 X.2.2.2.2.2.2.1 hok.1 X.2.2.2.2.2.1 X.2.2.2.2.2.2.2.2.2.2.1 hP 0 rfl hc k hk (X.2.2.2.2.2.2.1 _ hw) (fun x hx => by rw [hok.2.2.2 k hk] at hx; exact hx) (by rw [jv_Fo_at (by omega), hv]) hd ?_
  exact h p e R s m args below meth c H ls locs cells slots cm sm Q X hR hS hL h1 h2 h3 h4 hE
theorem jv_getI {t k i a : Nat} (hd : decode κ.2.1 pc = .ok (.getfield i, 3)) (hF : jv_FL κ.1.cls i t k) (hf : jv_ft t k = 0) (hT : jv_Tg t a N) (h : jv_J g d κ (pc + 3) L (.int (M.1 a k) :: st) M N cr sr Z) : jv_J g d κ pc L (.ref a :: st) M N cr sr Z :=
  jv_get0 hd hF hT (by simp [jv_fv, hf, jv_mv]) h
theorem jv_getL {t k i a : Nat} (hd : decode κ.2.1 pc = .ok (.getfield i, 3)) (hF : jv_FL κ.1.cls i t k) (hf : jv_ft t k = 2) (hT : jv_Tg t a N) (h : jv_J g d κ (pc + 3) L (.long (M.2.2 a) :: st) M N cr sr Z) : jv_J g d κ pc L (.ref a :: st) M N cr sr Z :=
  jv_get0 hd hF hT (by simp [jv_fv, hf, jv_mv]) h
theorem jv_getR {t k i a b : Nat} (hd : decode κ.2.1 pc = .ok (.getfield i, 3)) (hF : jv_FL κ.1.cls i t k) (hf : jv_ft t k = 1) (hT : jv_Tg t a N) (hb : M.2.1 a k = some b) (h : jv_J g d κ (pc + 3) L (.ref b :: st) M N cr sr Z) : jv_J g d κ pc L (.ref a :: st) M N cr sr Z :=
  jv_get0 hd hF hT (by simp [jv_fv, hf, jv_mv, hb, jv_rf]) h
/-- a store into a field, at the heap: the cell behind it, its size, the others -/
theorem jv_put0 {t k i a : Nat} {v : Value} {M' : jv_Mem} (hd : decode κ.2.1 pc = .ok (.putfield i, 3)) (hF : jv_FL κ.1.cls i t k) (hT : jv_Tg t a N)
    (hfin : ∀ r, jv_cl[t]? = some r → (r.2.1 k).2.2.2 = false ∨ ((r.2.1 k).2.2.2 = true ∧ κ.1.name = "<init>" ∧ r.1 = κ.1.cls))
    (hn : narrow (jv_ty t k) (jv_mv g v) = jv_mv g v) (hfit : fits (jv_ty t k) (jv_mv g v) = true)
    (hM : ∀ j, jv_fv (jv_base g) M' t a j = if j = k then jv_mv g v else jv_fv (jv_base g) M t a j)
    (ho : ∀ b, b ≠ a → (∀ k, M'.1 b k = M.1 b k) ∧ (∀ k, M'.2.1 b k = M.2.1 b k) ∧ M'.2.2 b = M.2.2 b)
    (h : jv_J g d κ (pc + 3) L st M' N cr sr Z) : jv_J g d κ pc L (v :: .ref a :: st) M N cr sr Z := by
  intro p e R s m args below meth c H ls locs cells slots cm sm Q X hR hS hL h1 h2 h3 h4 hE
  obtain ⟨r, hc, hk, hw⟩ := hF
  have hok := jv_ok t r hc
  have ht : t < 11 := (List.getElem?_eq_some_iff.mp hc).1
  obtain ⟨hT1, hT2⟩ := hT
  have hlen : (jv_sh a).2 = r.2.2 := by
    obtain ⟨r', q1, q2⟩ := jv_shlen a (by omega)
    rw [hT1, hc] at q1
    cases q1
    exact q2
  have hat := hR.2 a hT2
  rw [jv_F_obj hT1 ht] at hat
  have hts := X.2.2.2.2.2.2.1
  have hown := X.2.2.2.2.2.1
  have hK := X.2.2.2.2.2.2.2.2.2.2.1
  have hap := va_apart (own := κ.1.cls) (C := r.1) (T := r.2.1) (N := r.2.2) hts hok.1 (jv_ty t) hok.2.1 hok.2.2.1 hK hc
  obtain ⟨r', h1', cell, q1, q2, q3, q4⟩ := hat
  have hr : r' = r := Option.some.inj (h1'.symm.trans hc)
  subst hr
  obtain ⟨hSl, hfc, kC, hkC, hkind⟩ := hK.1 t _ hc
  obtain ⟨cf, kf, fi, f, hi, hsl⟩ := hSl k hk
  have hst := (u_facts hfc hkC (u_lays hts hok.1 hk) hi).1
  have hlink := hts _ hw
  have hi' : s.fieldFound? r'.1 (r'.2.1 k).2.1 (r'.2.1 k).2.2.1 = some (cf, kf, fi, f) := by
    rw [hok.2.2.2 k hk] at hi
    exact hi
  have fin : ∀ (H' : Heap) (locs1 : List Loc), H'[jv_base g + a]? = some (cell.setSlot f.slot (jv_mv g v)) → H'.size = H.size → (∀ q, q ≠ jv_base g + a → H'[q]? = H[q]?) → locs1 = locs ++ [⟨jv_base g + a, f.slot⟩] →
      W p (jv_l g) e R s m args below meth c H' locs1 cells slots Q (F0 m (pc + 3) ls (st.map (jv_mv g))) := by
    intro H' locs1 e1 e2 e3 e4
    rw [hsl] at e1
    refine h p e R s m args below meth c H' ls locs1 cells slots cm sm Q X (hR.upd e2 e3 ?_ ho) (by rw [e4]; exact hS.put e2 e3 (Nat.le_add_right _ _)) hL h1 h2 h3 h4 hE
    rw [jv_F_obj hT1 ht]
    refine ⟨_, hc, t_OB.to (V := updV (vp_V (jv_Fo (jv_base g) M t (jv_sh a).2 a)) k (jv_mv g v)) ⟨_, e1, q2, q3, t_set q4 hap hk _⟩ (fun j _ => ?_)⟩
    rw [jv_Fo_set (fun j _ => hM j)]
    exact vp_updV_set (by rw [jv_Fo_len]; omega) _ j
  rcases hfin r' hc with hf | ⟨hf, hin2, hown2⟩
  · have hlay := hts _ (hok.1 _ (u_in_lay hk))
    unfold u_lay at hlay
    rw [if_neg (by rw [hf]; decide)] at hlay
    have h6 := u_store hfc hkC hkind hlay hi (hok.2.1 k hk) hn hfit
    exact W.putK X.1 X.2.1 (f := f) ⟨hown, hlink, ⟨_, _, _, hi'⟩, hst⟩ (by rw [q2]; exact h6) q1 q3 (by rw [hsl]; exact k2_hasslot (q4 k hk)) rfl rfl hd fun H' e1 e2 e3 => fin H' _ e1 e2 e3 rfl
  · have hlay := hts _ (hok.1 _ (u_in_lay hk))
    unfold u_lay at hlay
    rw [if_pos hf] at hlay
    have hcf : m.cls = cf := by
      obtain ⟨_, _, c', _, _, _, -, -, hf', -, -, -, hown3, -⟩ := Cond.laysFinal_spec hlay
      have e1 : c' = cf := by have := hi.symm.trans hf'; simp at this; exact this.1.symm
      rw [hok.2.2.2 k hk, hown2] at hown3
      rw [← e1]; exact Option.some.inj (hown.symm.trans hown3)
    have h6 := u_fits hfc hkC hkind (Or.inr hlay) hi (hok.2.1 k hk) hn hfit
    exact W.putFinK X.1 X.2.1 hown hlink hi' hst hcf (X.2.2.2.2.2.2.2.1.trans hin2) (by rw [q2]; exact h6) q1 q3 (by rw [hsl]; exact k2_hasslot (q4 k hk)) rfl rfl hd fun H' e1 e2 e3 => fin H' _ e1 e2 e3 rfl
/-- a field that is no final one -/
def jv_nf (t k : Nat) : Prop := ∀ r, jv_cl[t]? = some r → (r.2.1 k).2.2.2 = false
theorem jv_putI {t k i a : Nat} {x : Int32} (hd : decode κ.2.1 pc = .ok (.putfield i, 3)) (hF : jv_FL κ.1.cls i t k) (hf : jv_nf t k) (hty : jv_ty t k = .int) (hT : jv_Tg t a N) (h : jv_J g d κ (pc + 3) L st (jv_si M a k x) N cr sr Z) : jv_J g d κ pc L (.int x :: .ref a :: st) M N cr sr Z := by
  have hft : jv_ft t k = 0 := by simp [jv_ft, hty]
  refine jv_put0 hd hF hT (fun r hr => Or.inl (hf r hr)) (by rw [hty]; rfl) (by rw [hty]; rfl) (fun j => ?_) (fun b hb => ?_) h
  · unfold jv_fv jv_si
    by_cases hj : j = k
    · subst hj; simp [hft, jv_mv]
    · simp [hj]
  · simp [jv_si, hb]
theorem jv_putZ {t k i a : Nat} {x : Int32} (hd : decode κ.2.1 pc = .ok (.putfield i, 3)) (hF : jv_FL κ.1.cls i t k) (hf : jv_nf t k) (hty : jv_ty t k = .boolean) (hT : jv_Tg t a N) (hx : x = 0 ∨ x = 1) (h : jv_J g d κ (pc + 3) L st (jv_si M a k x) N cr sr Z) : jv_J g d κ pc L (.int x :: .ref a :: st) M N cr sr Z := by
  have hft : jv_ft t k = 0 := by simp [jv_ft, hty]
  refine jv_put0 hd hF hT (fun r hr => Or.inl (hf r hr)) (by rw [hty]; rcases hx with rfl | rfl <;> rfl) (by rw [hty]; rcases hx with rfl | rfl <;> rfl) (fun j => ?_) (fun b hb => ?_) h
  · unfold jv_fv jv_si
    by_cases hj : j = k
    · subst hj; simp [hft, jv_mv]
    · simp [hj]
  · simp [jv_si, hb]
theorem jv_putL {t k i a : Nat} {x : Int64} (hd : decode κ.2.1 pc = .ok (.putfield i, 3)) (hF : jv_FL κ.1.cls i t k) (hf : jv_nf t k) (hty : jv_ty t k = .long) (hone : ∀ j, jv_ft t j = 2 → j = k) (hT : jv_Tg t a N) (h : jv_J g d κ (pc + 3) L st (jv_sl M a x) N cr sr Z) : jv_J g d κ pc L (.long x :: .ref a :: st) M N cr sr Z := by
  have hft : jv_ft t k = 2 := by simp [jv_ft, hty]
  refine jv_put0 hd hF hT (fun r hr => Or.inl (hf r hr)) (by rw [hty]; rfl) (by rw [hty]; rfl) (fun j => ?_) (fun b hb => ?_) h
  · unfold jv_fv jv_sl
    by_cases hj : j = k
    · subst hj; simp [hft, jv_mv]
    · have : jv_ft t j ≠ 2 := fun q => hj (hone j q)
      simp [hj, this]
  · simp [jv_sl, hb]
/-- the constructors' stores of references -/
theorem jv_putR {t k i a b : Nat} (hd : decode κ.2.1 pc = .ok (.putfield i, 3)) (hF : jv_FL κ.1.cls i t k) (hft : jv_ft t k = 1) (hfin : ∀ r, jv_cl[t]? = some r → (r.2.1 k).2.2.2 = false ∨ ((r.2.1 k).2.2.2 = true ∧ κ.1.name = "<init>" ∧ r.1 = κ.1.cls)) (hT : jv_Tg t a N) (h : jv_J g d κ (pc + 3) L st (jv_sr M a k (some b)) N cr sr Z) : jv_J g d κ pc L (.ref b :: .ref a :: st) M N cr sr Z := by
  have hty : (∃ q, jv_ty t k = .array q) ∨ (∃ q, jv_ty t k = .object q) := by
    unfold jv_ft at hft
    split at hft
    · cases hft
    · rename_i q hq; exact Or.inl ⟨q, hq⟩
    · rename_i q hq; exact Or.inr ⟨q, hq⟩
    · cases hft
  refine jv_put0 hd hF hT hfin (by rcases hty with ⟨q, hq⟩ | ⟨q, hq⟩ <;> rw [hq] <;> rfl) (by rcases hty with ⟨q, hq⟩ | ⟨q, hq⟩ <;> rw [hq] <;> rfl) (fun j => ?_) (fun b' hb => ?_) h
  · unfold jv_fv jv_sr
    by_cases hj : j = k
    · subst hj; simp [hft, jv_mv, jv_rf]
    · simp [hj]
  · simp [jv_sr, hb]
end JM
end
section
/-! ===== arrays, new cells, what is only read ===== -/
theorem jv_one {g : jv_G} {a : Nat} {x : va_E} {H : Heap} (h : va_at (jv_D g) jv_cl (a, x) H) : va_P (jv_D g) jv_cl [(a, x)] H := by
  intro q y hy
  match q, hy with
  | 0, hy => cases hy; exact h
  | q + 1, hy => simp at hy
def jv_zero (M : jv_Mem) (a : Nat) : jv_Mem := (fun b j => if b = a then 0 else M.1 b j, fun b j => if b = a then none else M.2.1 b j, fun b => if b = a then 0 else M.2.2 b)
theorem jv_Rep.push {g : jv_G} {M : jv_Mem} {N : Nat} {H H1 : Heap} (h : jv_Rep g M N H) (hz : H1.size = H.size + 1) (oq : ∀ q : Nat, q < H.size → H1[q]? = H[q]?) (he : va_at (jv_D g) jv_cl (jv_base g + N, jv_F g (jv_zero M N) N) H1) : jv_Rep g (jv_zero M N) (N + 1) H1 := by
  refine ⟨by rw [hz, h.1]; omega, fun b hb => ?_⟩
  by_cases hba : b = N
  · subst hba; exact he
  · rw [jv_F_congr (M := M) (by simp [jv_zero, hba]) (by simp [jv_zero, hba]) (by simp [jv_zero, hba])]
    exact (h.2 b (by omega)).kept (oq _ (by rw [h.1]; omega))
theorem jv_dflt : ∀ t, t < 11 → ∀ j, j < jv_len t → defaultValue (jv_ty t j) = (if jv_ft t j = 1 then .null else if jv_ft t j = 2 then .long 0 else .int 0) := by decide +kernel
section JA
variable {g : jv_G} {d : Nat} {κ : jv_Mt} {pc : Nat} {L : List (Option Value)} {st : List Value} {M : jv_Mem} {N cr sr : Nat} {Z : Option Value → jv_Mem → Nat → Prop}
theorem jv_iald {a : Nat} {i : Int32} (hd : decode κ.2.1 pc = .ok (.iaload, 1)) (hT : jv_Tg 11 a N) (hin : vp_in i (jv_sh a).2) (k : jv_J g d κ (pc + 1) L (.int (M.1 a i.toNatClampNeg) :: st) M N cr sr Z) : jv_J g d κ pc L (.int i :: .ref a :: st) M N cr sr Z := by
  intro p e R s m args below meth c H ls locs cells slots cm sm Q X hR hS hL h1 h2 h3 h4 hE
  have hat := hR.2 a hT.2
  rw [jv_F_int hT.1 (by omega) (by omega)] at hat
  exact va_iald X.1 X.2.1 X.2.2.2.2.2.2.2.2.2.2.1 (jv_one hat) 0 0 rfl rfl hin hd (k p e R s m args below meth c H ls locs cells slots cm sm Q X hR hS hL h1 h2 h3 h4 hE)
theorem jv_zald {a : Nat} {i : Int32} (hd : decode κ.2.1 pc = .ok (.baload, 1)) (hT : jv_Tg 12 a N) (hin : vp_in i (jv_sh a).2) (k : jv_J g d κ (pc + 1) L (.int (M.1 a i.toNatClampNeg) :: st) M N cr sr Z) : jv_J g d κ pc L (.int i :: .ref a :: st) M N cr sr Z := by
  intro p e R s m args below meth c H ls locs cells slots cm sm Q X hR hS hL h1 h2 h3 h4 hE
  have hat := hR.2 a hT.2
  rw [jv_F_int hT.1 (by omega) (by omega)] at hat
  exact va_zald X.1 X.2.1 X.2.2.2.2.2.2.2.2.2.2.1 (jv_one hat) 0 1 rfl rfl hin hd (k p e R s m args below meth c H ls locs cells slots cm sm Q X hR hS hL h1 h2 h3 h4 hE)
theorem jv_si_row (M : jv_Mem) (a k : Nat) (x : Int32) : (jv_si M a k x).1 a = upd (M.1 a) k x := by
  funext j
  simp [jv_si, upd]
theorem jv_iast {a : Nat} {i x : Int32} (hd : decode κ.2.1 pc = .ok (.iastore, 1)) (hT : jv_Tg 11 a N) (hin : vp_in i (jv_sh a).2) (k : jv_J g d κ (pc + 1) L st (jv_si M a i.toNatClampNeg x) N cr sr Z) : jv_J g d κ pc L (.int x :: .int i :: .ref a :: st) M N cr sr Z := by
  intro p e R s m args below meth c H ls locs cells slots cm sm Q X hR hS hL h1 h2 h3 h4 hE
  have hat := hR.2 a hT.2
  rw [jv_F_int hT.1 (by omega) (by omega)] at hat
  have hK := X.2.2.2.2.2.2.2.2.2.2.1
  refine W.iast X.1 X.2.1 hat ((hK.2 0 _ rfl).1 _ (fun j => .int (M.1 a j))) (fun q => by cases q) (by show ¬ (i < 0 ∨ (arrV _ _ _).slots.size ≤ _); rw [arrV_size]; exact hin) rfl rfl hd fun H1 e1 z oq => ?_
  refine k p e R s m args below meth c H1 ls _ cells slots cm sm Q X (hR.upd z oq ?_ (fun b hb => by simp [jv_si, hb])) (hS.put z oq (Nat.le_add_right _ _)) hL h1 h2 h3 h4 hE
  rw [jv_F_int hT.1 (by omega) (by omega)]
  show H1[jv_base g + a]? = some (vp_cell _ _)
  rw [e1]
  rw [vp_cell_i, vp_cell_i, arrV_store, jv_si_row]
  congr 2
  funext q
  by_cases hq : q = i.toNatClampNeg
  · subst hq
    simp [updV, upd]
  · simp [updV, upd, hq]
theorem jv_zast {a : Nat} {i x : Int32} (hd : decode κ.2.1 pc = .ok (.bastore, 1)) (hT : jv_Tg 12 a N) (hin : vp_in i (jv_sh a).2) (hx : x = 0 ∨ x = 1) (k : jv_J g d κ (pc + 1) L st (jv_si M a i.toNatClampNeg x) N cr sr Z) : jv_J g d κ pc L (.int x :: .int i :: .ref a :: st) M N cr sr Z := by
  intro p e R s m args below meth c H ls locs cells slots cm sm Q X hR hS hL h1 h2 h3 h4 hE
  have hat := hR.2 a hT.2
  rw [jv_F_int hT.1 (by omega) (by omega)] at hat
  have hK := X.2.2.2.2.2.2.2.2.2.2.1
  have hnar : narrow .boolean (.int x) = .int x := by rcases hx with rfl | rfl <;> rfl
  refine W.zast X.1 X.2.1 hat ((hK.2 1 _ rfl).1 _ (fun j => .int (M.1 a j))) (fun q => by cases q) (by show ¬ (i < 0 ∨ (arrV _ _ _).slots.size ≤ _); rw [arrV_size]; exact hin) rfl rfl hd fun H1 e1 z oq => ?_
  refine k p e R s m args below meth c H1 ls _ cells slots cm sm Q X (hR.upd z oq ?_ (fun b hb => by simp [jv_si, hb])) (hS.put z oq (Nat.le_add_right _ _)) hL h1 h2 h3 h4 hE
  rw [jv_F_int hT.1 (by omega) (by omega)]
  show H1[jv_base g + a]? = some (vp_cell _ _)
  rw [e1, hnar]
  rw [vp_cell_i, vp_cell_i, arrV_store, jv_si_row]
  congr 2
  funext q
  by_cases hq : q = i.toNatClampNeg
  · subst hq
    simp [updV, upd]
  · simp [updV, upd, hq]
/-- the class of an array's references -/
def jv_el (t : Nat) : Nat := match t with
  | 13 => 1
  | 14 => 2
  | 15 => 6
  | _ => 8
theorem jv_tys_at {g : jv_G} {t : Nat} (h1 : 13 ≤ t) (h2 : t ≤ 16) : ∃ r : vw_C, jv_cl[jv_el t]? = some r ∧ (jv_tys g)[t - 11]? = some (jv_cA g t, .object r.1) := by
  rcases (by omega : t = 13 ∨ t = 14 ∨ t = 15 ∨ t = 16) with rfl | rfl | rfl | rfl
  · exact ⟨_, rfl, rfl⟩
  · exact ⟨_, rfl, rfl⟩
  · exact ⟨_, rfl, rfl⟩
  · exact ⟨_, rfl, rfl⟩
theorem jv_aald {t a b : Nat} {i : Int32} (hd : decode κ.2.1 pc = .ok (.aaload, 1)) (ht : 13 ≤ t ∧ t ≤ 16) (hT : jv_Tg t a N) (hin : vp_in i (jv_sh a).2) (hb : M.2.1 a i.toNatClampNeg = some b) (k : jv_J g d κ (pc + 1) L (.ref b :: st) M N cr sr Z) : jv_J g d κ pc L (.int i :: .ref a :: st) M N cr sr Z := by
  intro p e R s m args below meth c H ls locs cells slots cm sm Q X hR hS hL h1 h2 h3 h4 hE
  have hat := hR.2 a hT.2
  rw [jv_F_ref hT.1 (by omega)] at hat
  obtain ⟨r, -, q2⟩ := jv_tys_at (g := g) ht.1 ht.2
  refine va_aldq X.1 X.2.1 X.2.2.2.2.2.2.2.2.2.2.1 (jv_one hat) 0 (t - 11) rfl q2 hin hd ?_
  rw [hb]
  exact k p e R s m args below meth c H ls locs cells slots cm sm Q X hR hS hL h1 h2 h3 h4 hE
theorem jv_aast {t a b : Nat} {i : Int32} (hd : decode κ.2.1 pc = .ok (.aastore, 1)) (ht : 13 ≤ t ∧ t ≤ 16) (hT : jv_Tg t a N) (hin : vp_in i (jv_sh a).2) (hb : jv_Tg (jv_el t) b N) (k : jv_J g d κ (pc + 1) L st (jv_sr M a i.toNatClampNeg (some b)) N cr sr Z) : jv_J g d κ pc L (.ref b :: .int i :: .ref a :: st) M N cr sr Z := by
  intro p e R s m args below meth c H ls locs cells slots cm sm Q X hR hS hL h1 h2 h3 h4 hE
  have hat := hR.2 a hT.2
  rw [jv_F_ref hT.1 (by omega)] at hat
  have hK := X.2.2.2.2.2.2.2.2.2.2.1
  obtain ⟨r, q1, q2⟩ := jv_tys_at (g := g) ht.1 ht.2
  have hlt : i.toNatClampNeg < (jv_sh a).2 := Nat.not_le.mp fun q => hin (Or.inr q)
  have h0 : ¬ i < 0 := fun q => hin (Or.inl q)
  have hel : jv_el t < 11 := (List.getElem?_eq_some_iff.mp q1).1
  have hbt := hR.2 b hb.2
  rw [jv_F_obj hb.1 hel] at hbt
  obtain ⟨r', hr', cellV, g1, g2, g3, -⟩ := hbt
  have hcls := (hK.1 _ r q1).2
  obtain ⟨kA, comp, k1, k2, k3, -⟩ := (hK.2 _ _ q2).2
  have hcomp : comp = (jv_D g).1 (jv_el t) := Option.some.inj (k3.symm.trans hcls.1)
  subst hcomp
  obtain ⟨kC, hkC, -⟩ := hcls.2
  refine W.aast X.1 X.2.1 hat (fun q h => by cases h) (fun h => by cases h) k1 k2 rfl hkC ⟨h0, by show _ < (arrV _ _ _).slots.size; rw [arrV_size]; exact hlt⟩ g1 (fun q h => by rw [g3] at h; cases h) (by rw [g2]; exact hkC) (by rw [g2]; exact va_assign hcls) rfl rfl hd fun H1 e1 z oq => ?_
  refine k p e R s m args below meth c H1 ls _ cells slots cm sm Q X (hR.upd z oq ?_ (fun b' hb' => by simp [jv_sr, hb'])) (hS.put z oq (Nat.le_add_right _ _)) hL h1 h2 h3 h4 hE
  rw [jv_F_ref hT.1 (by omega)]
  show H1[jv_base g + a]? = some (vp_cell _ _)
  rw [e1]
  rw [vp_cell_q, vp_cell_q, arrV_store]
  congr 2
  funext q
  by_cases hq : q = i.toNatClampNeg
  · subst hq
    simp [updV, va_rf, jv_sr]
  · simp [updV, jv_sr, hq]
theorem jv_alen {t a : Nat} (hd : decode κ.2.1 pc = .ok (.arraylength, 1)) (ht : 11 ≤ t ∧ t ≤ 16) (hT : jv_Tg t a N) (k : jv_J g d κ (pc + 1) L (.int (Int32.ofNat (jv_sh a).2) :: st) M N cr sr Z) : jv_J g d κ pc L (.ref a :: st) M N cr sr Z := by
  intro p e R s m args below meth c H ls locs cells slots cm sm Q X hR hS hL h1 h2 h3 h4 hE
  have hat := hR.2 a hT.2
  have hK := X.2.2.2.2.2.2.2.2.2.2.1
  by_cases h13 : t < 13
  · rw [jv_F_int hT.1 (by omega) h13] at hat
    rcases (by omega : t = 11 ∨ t = 12) with rfl | rfl
    · exact va_alen X.1 X.2.1 hK (jv_one hat) 0 0 rfl rfl rfl hd (k p e R s m args below meth c H ls locs cells slots cm sm Q X hR hS hL h1 h2 h3 h4 hE)
    · exact va_alen X.1 X.2.1 hK (jv_one hat) 0 1 rfl rfl rfl hd (k p e R s m args below meth c H ls locs cells slots cm sm Q X hR hS hL h1 h2 h3 h4 hE)
  · rw [jv_F_ref hT.1 h13] at hat
    obtain ⟨r, -, q2⟩ := jv_tys_at (g := g) (by omega : 13 ≤ t) ht.2
    exact va_alen X.1 X.2.1 hK (jv_one hat) 0 (t - 11) rfl q2 rfl hd (k p e R s m args below meth c H ls locs cells slots cm sm Q X hR hS hL h1 h2 h3 h4 hE)
/-- a row that is only read -/
def jv_rox (g : jv_G) (q n : Nat) (f : Nat → Int32) : Prop := (q = 0 ∧ n = jv_L g ∧ f = jv_xs g) ∨ (q = 1 ∧ n = 9 ∧ f = jv_second) ∨ (q = 2 ∧ n = 7 ∧ f = jv_fact)
theorem jv_roald {q n : Nat} {f : Nat → Int32} {i : Int32} (hd : decode κ.2.1 pc = .ok (.iaload, 1)) (hq : jv_rox g q n f) (hin : vp_in i n) (k : jv_J g d κ (pc + 1) L (.int (f i.toNatClampNeg) :: st) M N cr sr Z) : jv_J g d κ pc L (.int i :: .retAddr q :: st) M N cr sr Z := by
  intro p e R s m args below meth c H ls locs cells slots cm sm Q X hR hS hL h1 h2 h3 h4 hE
  obtain ⟨h0, r0, r1, r2, -⟩ := X.2.2.2.2.2.2.2.2.2.2.2.2.2
  have kk := k p e R s m args below meth c H ls locs cells slots cm sm Q X hR hS hL h1 h2 h3 h4 hE
  rcases hq with ⟨rfl, rfl, rfl⟩ | ⟨rfl, rfl, rfl⟩ | ⟨rfl, rfl, rfl⟩
  · exact va_sld X.1 X.2.1 r0 (Nat.lt_of_lt_of_le (h0 0) X.2.2.2.2.2.2.2.2.2.1) (fun z => Nat.not_le.mpr (h0 0) z) hS hin hd kk
  · exact va_ti X.1 X.2.1 r1 hS hin rfl hd kk
  · exact va_ti X.1 X.2.1 r2 hS hin rfl hd kk
theorem jv_slen (hd : decode κ.2.1 pc = .ok (.arraylength, 1)) (k : jv_J g d κ (pc + 1) L (.int (Int32.ofNat (jv_L g)) :: st) M N cr sr Z) : jv_J g d κ pc L (.retAddr 0 :: st) M N cr sr Z := by
  intro p e R s m args below meth c H ls locs cells slots cm sm Q X hR hS hL h1 h2 h3 h4 hE
  have hro := X.2.2.2.2.2.2.2.2.2.2.2.2.2
  exact va_slen X.1 X.2.1 hro.2.1 (Nat.lt_of_lt_of_le (hro.1 0) X.2.2.2.2.2.2.2.2.2.1) (fun z => Nat.not_le.mpr (hro.1 0) z) hS hd (k p e R s m args below meth c H ls locs cells slots cm sm Q X hR hS hL h1 h2 h3 h4 hE)
theorem jv_gSecN {i : Nat} (hd : decode κ.2.1 pc = .ok (.getstatic i, 3)) (hw : Cond.fieldLinkNest κ.1.cls i "HaltRing" "SECOND" "[I" "HaltRing" ∈ jv_nws) (k : jv_J g d κ (pc + 3) L (.retAddr 1 :: st) M N cr sr Z) : jv_J g d κ pc L st M N cr sr Z := by
  intro p e R s m args below meth c H ls locs cells slots cm sm Q X hR hS hL h1 h2 h3 h4 hE
  have hro := X.2.2.2.2.2.2.2.2.2.2.2.2.2
  exact va_getsN X.1 X.2.1 hro.2.2.2.2.1 hS X.2.2.2.2.2.1 (va_Nw.use rfl (X.2.2.2.2.2.2.2.2.2.2.2.1 _ hw)) (fun x hx => hx) hd (k p e R s m args below meth c H ls locs cells slots cm sm Q X hR hS hL h1 h2 h3 h4 hE)
theorem jv_gSec {i : Nat} (hd : decode κ.2.1 pc = .ok (.getstatic i, 3)) (hw : Cond.fieldLink κ.1.cls i "HaltRing" "SECOND" "[I" ∈ jv_tbl) (k : jv_J g d κ (pc + 3) L (.retAddr 1 :: st) M N cr sr Z) : jv_J g d κ pc L st M N cr sr Z := by
  intro p e R s m args below meth c H ls locs cells slots cm sm Q X hR hS hL h1 h2 h3 h4 hE
  have hro := X.2.2.2.2.2.2.2.2.2.2.2.2.2
  exact va_gets X.1 X.2.1 hro.2.2.2.2.1 hS X.2.2.2.2.2.1 (X.2.2.2.2.2.2.1 _ hw) (fun x hx => hx) hd (k p e R s m args below meth c H ls locs cells slots cm sm Q X hR hS hL h1 h2 h3 h4 hE)
theorem jv_gFac {i : Nat} (hd : decode κ.2.1 pc = .ok (.getstatic i, 3)) (hw : Cond.fieldLink κ.1.cls i "HaltRing" "FACTORIAL" "[I" ∈ jv_tbl) (k : jv_J g d κ (pc + 3) L (.retAddr 2 :: st) M N cr sr Z) : jv_J g d κ pc L st M N cr sr Z := by
  intro p e R s m args below meth c H ls locs cells slots cm sm Q X hR hS hL h1 h2 h3 h4 hE
  have hro := X.2.2.2.2.2.2.2.2.2.2.2.2.2
  exact va_gets X.1 X.2.1 hro.2.2.2.2.2.1 hS X.2.2.2.2.2.1 (X.2.2.2.2.2.2.1 _ hw) (fun x hx => hx) hd (k p e R s m args below meth c H ls locs cells slots cm sm Q X hR hS hL h1 h2 h3 h4 hE)
theorem jv_gCom {i : Nat} (hd : decode κ.2.1 pc = .ok (.getstatic i, 3)) (hw : Cond.fieldLink κ.1.cls i "java/lang/String" "COMPACT_STRINGS" "Z" ∈ jv_tbl) (k : jv_J g d κ (pc + 3) L (.int 1 :: st) M N cr sr Z) : jv_J g d κ pc L st M N cr sr Z := by
  intro p e R s m args below meth c H ls locs cells slots cm sm Q X hR hS hL h1 h2 h3 h4 hE
  have hro := X.2.2.2.2.2.2.2.2.2.2.2.2.2
  exact va_gets X.1 X.2.1 hro.2.2.2.2.2.2.1 hS X.2.2.2.2.2.1 (X.2.2.2.2.2.2.1 _ hw) (fun x hx => hx) hd (k p e R s m args below meth c H ls locs cells slots cm sm Q X hR hS hL h1 h2 h3 h4 hE)
/-- new -/
theorem jv_new {t n i cr' sr' : Nat} (r : vw_C) (hd : decode κ.2.1 pc = .ok (.new i, 3)) (hc : jv_cl[t]? = some r) (hn : r.2.2 = n) (hw1 : Cond.classLink κ.1.cls i r.1 ∈ jv_tbl) (hw2 : Cond.instantiable r.1 n ∈ jv_tbl) (hw3 : Cond.initialized r.1 ∈ jv_tbl) (hsh : jv_sh N = (t, n)) (hcr : cr' + 1 = cr) (hsr : sr' + n = sr)
    (k : jv_J g d κ (pc + 3) L (.ref N :: st) (jv_zero M N) (N + 1) cr' sr' Z) : jv_J g d κ pc L st M N cr sr Z := by
  intro p e R s m args below meth c H ls locs cells slots cm sm Q X hR hS hL h1 h2 h3 h4 hE
  have hK := X.2.2.2.2.2.2.2.2.2.2.1
  have hts := X.2.2.2.2.2.2.1
  have hok := jv_ok t r hc
  have ht : t < 11 := (List.getElem?_eq_some_iff.mp hc).1
  have hKn := hK.1 t _ hc
  refine W.newcK X.1 X.2.1 X.2.2.2.2.2.1 (hts _ hw1) (hts _ hw2) (hts _ hw3) rfl hd (by omega) (by omega) hKn.2.1 hR.1 fun H1 kC hkC e1 z1 o1 => ?_
  refine k p e R s m args below meth c H1 ls locs (cells + 1) (slots + n) cm sm Q X (hR.push (by rw [z1, hR.1]) (fun q hq => o1 q (by rw [← hR.1]; exact hq)) ?_) ⟨Nat.le_trans hS.1 (by rw [z1, hR.1]; omega), fun x q1 q2 => (o1 x (by rw [← hR.1]; exact Nat.lt_of_lt_of_le q1 hS.1)).trans (hS.2.1 x q1 q2), hS.2.2⟩ hL (by omega) (by omega) h3 h4 hE
  rw [jv_F_obj (t := t) (by rw [hsh]) ht, hsh]
  refine ⟨_, hc, (u_born (jv_ty t) hts hok.1 hKn hkC e1 hok.2.1).to (fun j hj => ?_)⟩
  rw [vp_V, List.getD_eq_getElem?_getD, jv_Fo_at (by omega)]
  have hlt : j < jv_len t := by
    unfold jv_len
    rw [hc]
    exact hj
  rw [jv_dflt t ht j hlt]
  simp only [jv_fv, jv_zero, if_true, Option.getD_some, jv_rf]
theorem jv_newI {n cr' sr' : Nat} {x : Int32} (hd : decode κ.2.1 pc = .ok (.newarray .int, 2)) (hw : Cond.arrayClass .int ∈ jv_tbl) (hx0 : ¬ x < 0) (hx : x.toNatClampNeg = n) (hb : n * 4 ≤ 536870912) (hsh : jv_sh N = (11, n)) (hcr : cr' + 1 = cr) (hsr : sr' + n = sr)
    (k : jv_J g d κ (pc + 2) L (.ref N :: st) (jv_zero M N) (N + 1) cr' sr' Z) : jv_J g d κ pc L (.int x :: st) M N cr sr Z := by
  intro p e R s m args below meth c H ls locs cells slots cm sm Q X hR hS hL h1 h2 h3 h4 hE
  have hK := X.2.2.2.2.2.2.2.2.2.2.1
  have hts := X.2.2.2.2.2.2.1
  refine va_newaK (atype := .int) X.1 X.2.1 (hts _ hw) rfl hd rfl hx0 hx hb (by omega) (by omega) hR.1 fun H1 cA e1 z1 o1 hA hN => ?_
  have hcA : cA = jv_cA g 11 := Option.some.inj (hN.symm.trans (hK.2 0 _ rfl).2)
  subst hcA
  refine k p e R s m args below meth c H1 ls locs (cells + 1) (slots + n) cm sm Q X (hR.push (by rw [z1, hR.1]) (fun q hq => o1 q (by rw [← hR.1]; exact hq)) ?_) ⟨Nat.le_trans hS.1 (by rw [z1, hR.1]; omega), fun x q1 q2 => (o1 x (by rw [← hR.1]; exact Nat.lt_of_lt_of_le q1 hS.1)).trans (hS.2.1 x q1 q2), hS.2.2⟩ hL (by omega) (by omega) h3 h4 hE
  rw [jv_F_int (t := 11) (by rw [hsh]) (by omega) (by omega), hsh]
  show H1[jv_base g + N]? = some (vp_cell _ _)
  rw [e1, vp_cell_i]
  congr 2
  funext q
  simp [jv_zero, defaultValue, newarray.typeOf]
theorem jv_newZ {n cr' sr' : Nat} {x : Int32} (hd : decode κ.2.1 pc = .ok (.newarray .boolean, 2)) (hw : Cond.arrayClass .boolean ∈ jv_tbl) (hx0 : ¬ x < 0) (hx : x.toNatClampNeg = n) (hb : n * 1 ≤ 536870912) (hsh : jv_sh N = (12, n)) (hcr : cr' + 1 = cr) (hsr : sr' + n = sr)
    (k : jv_J g d κ (pc + 2) L (.ref N :: st) (jv_zero M N) (N + 1) cr' sr' Z) : jv_J g d κ pc L (.int x :: st) M N cr sr Z := by
  intro p e R s m args below meth c H ls locs cells slots cm sm Q X hR hS hL h1 h2 h3 h4 hE
  have hK := X.2.2.2.2.2.2.2.2.2.2.1
  have hts := X.2.2.2.2.2.2.1
  refine va_newaK (atype := .boolean) X.1 X.2.1 (hts _ hw) rfl hd rfl hx0 hx hb (by omega) (by omega) hR.1 fun H1 cA e1 z1 o1 hA hN => ?_
  have hcA : cA = jv_cA g 12 := Option.some.inj (hN.symm.trans (hK.2 1 _ rfl).2)
  subst hcA
  refine k p e R s m args below meth c H1 ls locs (cells + 1) (slots + n) cm sm Q X (hR.push (by rw [z1, hR.1]) (fun q hq => o1 q (by rw [← hR.1]; exact hq)) ?_) ⟨Nat.le_trans hS.1 (by rw [z1, hR.1]; omega), fun x q1 q2 => (o1 x (by rw [← hR.1]; exact Nat.lt_of_lt_of_le q1 hS.1)).trans (hS.2.1 x q1 q2), hS.2.2⟩ hL (by omega) (by omega) h3 h4 hE
  rw [jv_F_int (t := 12) (by rw [hsh]) (by omega) (by omega), hsh]
  show H1[jv_base g + N]? = some (vp_cell _ _)
  rw [e1, vp_cell_i]
  congr 2
  funext q
  simp [jv_zero, defaultValue, newarray.typeOf]
theorem jv_AO_at {g : jv_G} {U : State} {H : Heap} (h : jv_CU g U H) {t : Nat} (h1 : 13 ≤ t) (h2 : t ≤ 16) {r : vw_C} (hr : jv_cl[jv_el t]? = some r) : va_AO r.1 U := by
  obtain ⟨-, -, ⟨q1, q2, q3, q4⟩, -⟩ := h
  rcases (by omega : t = 13 ∨ t = 14 ∨ t = 15 ∨ t = 16) with rfl | rfl | rfl | rfl <;> cases hr <;> assumption
theorem jv_newR {t n i cr' sr' : Nat} {x : Int32} (r : vw_C) (hd : decode κ.2.1 pc = .ok (.anewarray i, 3)) (ht : 13 ≤ t ∧ t ≤ 16) (hr : jv_cl[jv_el t]? = some r) (hw : Cond.classLink κ.1.cls i r.1 ∈ jv_tbl) (hx0 : ¬ x < 0) (hx : x.toNatClampNeg = n) (hb : n * 4 ≤ 536870912) (hsh : jv_sh N = (t, n)) (hcr : cr' + 1 = cr) (hsr : sr' + n = sr)
    (k : jv_J g d κ (pc + 3) L (.ref N :: st) (jv_zero M N) (N + 1) cr' sr' Z) : jv_J g d κ pc L (.int x :: st) M N cr sr Z := by
  intro p e R s m args below meth c H ls locs cells slots cm sm Q X hR hS hL h1 h2 h3 h4 hE
  have hCU := X.2.2.2.2.2.2.2.2.2.2
  have hK := hCU.1
  have hts := X.2.2.2.2.2.2.1
  have hAO := jv_AO_at hCU ht.1 ht.2 hr
  obtain ⟨r', q1, q2⟩ := jv_tys_at (g := g) ht.1 ht.2
  have hrr : r' = r := Option.some.inj (q1.symm.trans hr)
  subst hrr
  subst hx
  refine W.anew X.1 X.2.1 X.2.2.2.2.2.1 (hts _ hw) (va_AO.use hAO) rfl hd rfl hx0 hb (by omega) (by omega) fun cA kA comp f1 f2 f3 f4 => ?_
  obtain ⟨kA', comp', -, -, -, k4⟩ := (hK.2 _ _ q2).2
  have hcA : cA = jv_cA g t := Option.some.inj (f1.symm.trans k4)
  subst hcA
  generalize hH1 : H.push ({ cls := jv_cA g t, slots := Array.replicate x.toNatClampNeg .null, vm := .none } : Cell) = H1
  have z1 : H1.size = H.size + 1 := by rw [← hH1, Array.size_push]
  have e1 : H1[H.size]? = some (arrV (jv_cA g t) x.toNatClampNeg (fun _ => .null)) := by rw [← hH1, Array.getElem?_push_size, ← arrV_new]
  have o1 : ∀ q, q < H.size → H1[q]? = H[q]? := fun q hq => by rw [← hH1, Array.getElem?_push, if_neg (Nat.ne_of_lt hq)]
  have hst : (.ref H.size :: st.map (jv_mv g)) = ((Value.ref N :: st).map (jv_mv g)) := by rw [hR.1]; rfl
  rw [hst]
  refine k p e R s m args below meth c H1 ls locs (cells + 1) (slots + x.toNatClampNeg) cm sm Q X (hR.push z1 o1 ?_) ⟨Nat.le_trans hS.1 (by omega), fun y q1 q2 => (o1 y (Nat.lt_of_lt_of_le q1 hS.1)).trans (hS.2.1 y q1 q2), hS.2.2⟩ hL (by omega) (by omega) h3 h4 hE
  rw [jv_F_ref (t := t) (by rw [hsh]) (by omega), hsh]
  show H1[jv_base g + N]? = some (vp_cell _ _)
  rw [← hR.1, e1, vp_cell_q]
  congr 2
  funext q
  simp [jv_zero, va_rf]
end JA
end
section
/-! ===== calls ===== -/
/-- a method whose code is among the words; n of its words are arguments -/
def jv_okm (κ : jv_Mt) (n : Nat) : Prop := Cond.code κ.1 κ.2.1 κ.2.2.1 κ.2.2.2 ∈ jv_tbl ∧ Cond.initialized κ.1.cls ∈ jv_tbl ∧ κ.2.2.1 ≤ 17 ∧ κ.1.cls ≠ "java/lang/invoke/MethodHandle" ∧ κ.1.cls ≠ "java/lang/invoke/VarHandle" ∧ (parseMethodDescriptor κ.1.desc).map (fun d => d.parameters.length) = some n
theorem jv_ws_in {κ : jv_Mt} {n : Nat} (h : jv_okm κ n) : GoodIn jv_tbl (jv_ws κ) := jv_good (fun w hw => (List.mem_cons.mp hw).elim (fun e => by rw [e]; exact h.1) id)
theorem jv_blind {g : jv_G} {as : List Value} {M : jv_Mem} {N : Nat} : FrameBlind (jv_Pc g as M N) := fun a U f mk q => ⟨q.1, jv_CU.same (s := U) rfl q.2.1, q.2.2⟩
theorem jv_words_map (g : jv_G) (vs : List Value) : ((vs.map (jv_mv g)).map fun v => v.category).sum = jv_words vs := by
  unfold jv_words
  rw [List.map_map]
  congr 1
  refine List.map_congr_left (fun v _ => jv_mv_cat' g v)
section JC
variable {g : jv_G} {d : Nat} {κ : jv_Mt} {pc : Nat} {L : List (Option Value)} {st : List Value} {M : jv_Mem} {N cr sr : Nat} {Z : Option Value → jv_Mem → Nat → Prop}
theorem jv_goes {p : Program} {e : Env} {R : Room} {s : State} {m : MethodId} {args : Array Value} {below : List Frame} {meth : Method} {c : Code} {H : Heap} {ls : Array Slot} {locs : List Loc} {cells slots cm sm c1 s1 c2 s2 : Nat} {Q : State → Prop} {st0 : List Value} {rest : List Value} {a : Array Value}
    (X : jv_Cx g d κ p R s m args meth c) (hS : va_S (jv_A g) s.heap H locs) (hL : jv_Ls g κ.2.2.1 L ls) (h1 : cells + (c1 + c2) ≤ cm) (h2 : slots + (s1 + s2) ≤ sm) (h3 : cm ≤ R.cells) (h4 : sm ≤ R.slots) (hE : jv_Ex g κ p e R s m args below meth c cm sm Z Q)
    (hr : va_Run p (jv_l g) e R s m args below meth c H locs cells slots c1 s1 (F0 m pc ls st0) (rest.map (jv_mv g)) (jv_Qc g (fun v M' N' => jv_J g d κ (pc + 3) L (v.toList ++ rest) M' N' c2 s2 Z) a) (jv_A g)) :
    W p (jv_l g) e R s m args below meth c H locs cells slots Q (F0 m pc ls st0) := by
  intro T hT XS
  obtain ⟨v, st₀, t, T', L', h0, X', hL', e1, e2, ⟨⟨v2, M', N', hv, hJ, hR'⟩, hz, hk⟩, st⟩ := hr T hT XS
  have hv : v = v2.map (jv_mv g) := by injection hv
  subst hv
  rw [h0] at hz hk
  have hst : (v2.map (jv_mv g)).toList ++ rest.map (jv_mv g) = (v2.toList ++ rest).map (jv_mv g) := by cases v2 <;> rfl
  obtain ⟨t2, a1, b1⟩ := hJ p e R s m args below meth c T'.heap ls (locs ++ L') (cells + c1) (slots + s1) cm sm Q X (by rw [e1]; exact hR') ⟨Nat.le_trans hS.1 (by rw [e1]; exact hz), fun q q1 q2 => by rw [e1, hk q (Nat.lt_of_lt_of_le q1 hS.1) q2]; exact hS.2.1 q q1 q2, fun q hq => by
      rcases List.mem_append.mp hq with h | h
      · exact hS.2.2 q h
      · exact hL' q h⟩ hL (by omega) (by omega) h3 h4 hE T' rfl X'
  rw [← hst] at a1
  exact ⟨t2, st t2 a1, b1⟩
/-- what a call of an instance method links -/
def jv_MV (own : String) (i t : Nat) (κ' : jv_Mt) (n : Nat) : Prop := jv_okm κ' n ∧ Cond.methodLink own i κ'.1 ∈ jv_tbl ∧ Cond.instanceMethod κ'.1 ∈ jv_tbl ∧ Cond.selects κ'.1.cls κ'.1 κ'.1 ∈ jv_tbl ∧ ∃ r : vw_C, jv_cl[t]? = some r ∧ r.1 = κ'.1.cls
theorem jv_invV {κ' : jv_Mt} {i t b c1 c2 s1 s2 : Nat} (as rest : List Value) (hd : decode κ.2.1 pc = .ok (.invokevirtual i, 3)) (hV : jv_MV κ.1.cls i t κ' as.length) (hT : jv_Tg t b N) (hst : st = as.reverse ++ .ref b :: rest) (hw : jv_words rest ≤ 8) (hcr : c1 + c2 = cr) (hsr : s1 + s2 = sr)
    (hC : jv_Ct g d κ' (.ref b :: as) M N c1 s1 (fun v M' N' => jv_J g (d + 1) κ (pc + 3) L (v.toList ++ rest) M' N' c2 s2 Z)) : jv_J g (d + 1) κ pc L st M N cr sr Z := by
  intro p e R s m args below meth c H ls locs cells slots cm sm Q X hR hS hL h1 h2 h3 h4 hE
  subst hcr; subst hsr
  obtain ⟨hok, w1, w2, w3, r, hc, hr⟩ := hV
  have hts := X.2.2.2.2.2.2.1
  have ht : t < 11 := (List.getElem?_eq_some_iff.mp hc).1
  have hat := hR.2 b hT.2
  rw [jv_F_obj hT.1 ht] at hat
  have hfr := X.2.2.2.2.2.2.2.2.1
  have hmx := hok.2.2.1
  refine jv_goes X hS hL h1 h2 h3 h4 hE (va_runV (Ts := jv_tbl) (own := κ.1.cls) (C := κ'.1.cls) (b := jv_base g + b) (n := as.length) (As := as.map (jv_mv g)) (rest := rest.map (jv_mv g)) ⟨X.1, X.2.1, X.2.2.1, X.2.2.2.2.2.1, hts⟩ hC
    ⟨callB_of (rm := jv_rm d c1 s1) as.length hts (jv_ws_in hok) rfl rfl rfl (hts _ hok.2.1) (hts _ w1) hok.2.2.2 ⟨hfr.1, by show 8 + (κ'.2.2.1 + 11) + 36 * d ≤ R.locals; omega⟩, hts _ w2, hts _ w3⟩
    ⟨jv_blind, by rw [← hr]; exact va_recv X.2.2.2.2.2.2.2.2.2.2.1 (jv_one hat) hc (q0 := 0) rfl, fun U hU hW => ⟨rfl, ?_, by rw [hU]; exact hR⟩⟩ rfl (by simp) hL.1 ?_ (lv_room (by rw [jv_words_map]; exact hw)) hd ⟨by omega, by omega⟩)
  · refine jv_CU.warm hW ⟨X.2.2.2.2.2.2.2.2.2.2.1, X.2.2.2.2.2.2.2.2.2.2.2.1, X.2.2.2.2.2.2.2.2.2.2.2.2.1, ?_⟩
    rw [hU]
    exact X.2.2.2.2.2.2.2.2.2.2.2.2.2.kept X.2.2.2.2.2.2.2.2.2.1 hS.2.1
  · rw [hst]
    show List.map _ _ = _
    simp [jv_mv]
/-- a static call -/
def jv_MS (own : String) (i : Nat) (κ' : jv_Mt) (n : Nat) : Prop := jv_okm κ' n ∧ Cond.methodLink own i κ'.1 ∈ jv_tbl ∧ Cond.static κ'.1 ∈ jv_tbl
theorem jv_CU_now {p : Program} {R : Room} {s U : State} {m : MethodId} {args : Array Value} {meth : Method} {c : Code} {H : Heap} {locs : List Loc} (X : jv_Cx g d κ p R s m args meth c) (hS : va_S (jv_A g) s.heap H locs) (hU : U.heap = H) (hW : s.WarmedH U.vm) : jv_CU g U U.heap := by
  refine jv_CU.warm hW ⟨X.2.2.2.2.2.2.2.2.2.2.1, X.2.2.2.2.2.2.2.2.2.2.2.1, X.2.2.2.2.2.2.2.2.2.2.2.2.1, ?_⟩
  rw [hU]
  exact X.2.2.2.2.2.2.2.2.2.2.2.2.2.kept X.2.2.2.2.2.2.2.2.2.1 hS.2.1
theorem jv_invS {κ' : jv_Mt} {i c1 c2 s1 s2 : Nat} (as rest : List Value) (hd : decode κ.2.1 pc = .ok (.invokestatic i, 3)) (hV : jv_MS κ.1.cls i κ' as.length) (hst : st = as.reverse ++ rest) (hw : jv_words rest ≤ 8) (hcr : c1 + c2 = cr) (hsr : s1 + s2 = sr)
    (hC : jv_Ct g d κ' as M N c1 s1 (fun v M' N' => jv_J g (d + 1) κ (pc + 3) L (v.toList ++ rest) M' N' c2 s2 Z)) : jv_J g (d + 1) κ pc L st M N cr sr Z := by
  intro p e R s m args below meth c H ls locs cells slots cm sm Q X hR hS hL h1 h2 h3 h4 hE
  subst hcr; subst hsr
  obtain ⟨hok, w1, w2⟩ := hV
  have hts := X.2.2.2.2.2.2.1
  have hfr := X.2.2.2.2.2.2.2.2.1
  have hmx := hok.2.2.1
  refine jv_goes X hS hL h1 h2 h3 h4 hE (va_runS (Ts := jv_tbl) (own := κ.1.cls) (n := as.length) (As := as.map (jv_mv g)) (rest := rest.map (jv_mv g)) ⟨X.1, X.2.1, X.2.2.1, X.2.2.2.2.2.1, hts⟩ hC
    ⟨callB_of (rm := jv_rm d c1 s1) as.length hts (jv_ws_in hok) rfl rfl rfl (hts _ hok.2.1) (hts _ w1) hok.2.2.2 ⟨hfr.1, by show 8 + (κ'.2.2.1 + 11) + 36 * d ≤ R.locals; omega⟩, hts _ w2⟩
    ⟨jv_blind, fun U hU hW => ⟨rfl, jv_CU_now X hS hU hW, by rw [hU]; exact hR⟩⟩ rfl (by simp) hL.1 ?_ (lv_room (by rw [jv_words_map]; exact hw)) hd ⟨by omega, by omega⟩)
  rw [hst]
  show List.map _ _ = _
  simp
/-- a nest mate's private static method -/
def jv_MSN (own : String) (i : Nat) (κ' : jv_Mt) (n : Nat) : Prop := jv_okm κ' n ∧ Cond.methodLinkNest own i κ'.1 "HaltRing" ∈ jv_nws ∧ Cond.static κ'.1 ∈ jv_tbl
theorem jv_invSN {κ' : jv_Mt} {i c1 c2 s1 s2 : Nat} (as rest : List Value) (hd : decode κ.2.1 pc = .ok (.invokestatic i, 3)) (hV : jv_MSN κ.1.cls i κ' as.length) (hst : st = as.reverse ++ rest) (hw : jv_words rest ≤ 8) (hcr : c1 + c2 = cr) (hsr : s1 + s2 = sr)
    (hC : jv_Ct g d κ' as M N c1 s1 (fun v M' N' => jv_J g (d + 1) κ (pc + 3) L (v.toList ++ rest) M' N' c2 s2 Z)) : jv_J g (d + 1) κ pc L st M N cr sr Z := by
  intro p e R s m args below meth c H ls locs cells slots cm sm Q X hR hS hL h1 h2 h3 h4 hE
  subst hcr; subst hsr
  obtain ⟨hok, w1, w2⟩ := hV
  have hts := X.2.2.2.2.2.2.1
  have hfr := X.2.2.2.2.2.2.2.2.1
  have hmx := hok.2.2.1
  refine jv_goes X hS hL h1 h2 h3 h4 hE (va_runSN (Ts := jv_tbl) (own := κ.1.cls) (host := "HaltRing") (n := as.length) (As := as.map (jv_mv g)) (rest := rest.map (jv_mv g)) ⟨X.1, X.2.1, X.2.2.1, X.2.2.2.2.2.1, hts⟩ hC
    ⟨va_cnB (rm := jv_rm d c1 s1) as.length hts (jv_ws_in hok) rfl rfl rfl (X.2.2.2.2.2.2.2.2.2.2.2.1 _ w1) (hts _ hok.2.1) hok.2.2.2 ⟨hfr.1, by show 8 + (κ'.2.2.1 + 11) + 36 * d ≤ R.locals; omega⟩, hts _ w2, trivial⟩
    ⟨jv_blind, fun U hU hW => ⟨rfl, jv_CU_now X hS hU hW, by rw [hU]; exact hR⟩⟩ rfl (by simp) hL.1 ?_ (lv_room (by rw [jv_words_map]; exact hw)) hd ⟨by omega, by omega⟩)
  rw [hst]
  show List.map _ _ = _
  simp
/-- a constructor -/
def jv_MI (own : String) (i : Nat) (κ' : jv_Mt) (n : Nat) : Prop := jv_okm κ' n ∧ Cond.methodLink own i κ'.1 ∈ jv_tbl ∧ Cond.instanceMethod κ'.1 ∈ jv_tbl ∧ κ'.1.name = "<init>" ∧ κ'.2.2.2 = none
theorem jv_invI {κ' : jv_Mt} {i b c1 c2 s1 s2 : Nat} (as rest : List Value) (hd : decode κ.2.1 pc = .ok (.invokespecial i, 3)) (hV : jv_MI κ.1.cls i κ' as.length) (hst : st = as.reverse ++ .ref b :: rest) (hw : jv_words rest ≤ 8) (hcr : c1 + c2 = cr) (hsr : s1 + s2 = sr)
    (hC : jv_Ct g d κ' (.ref b :: as) M N c1 s1 (fun v M' N' => jv_J g (d + 1) κ (pc + 3) L (v.toList ++ rest) M' N' c2 s2 Z)) : jv_J g (d + 1) κ pc L st M N cr sr Z := by
  intro p e R s m args below meth c H ls locs cells slots cm sm Q X hR hS hL h1 h2 h3 h4 hE
  subst hcr; subst hsr
  obtain ⟨hok, w1, w2, hy1, hr⟩ := hV
  have hts := X.2.2.2.2.2.2.1
  have hfr := X.2.2.2.2.2.2.2.2.1
  have hmx := hok.2.2.1
  refine jv_goes X hS hL h1 h2 h3 h4 hE (va_runI (Ts := jv_tbl) (own := κ.1.cls) (b := jv_base g + b) (n := as.length) (As := as.map (jv_mv g)) (rest := rest.map (jv_mv g)) ⟨X.1, X.2.1, X.2.2.1, X.2.2.2.2.2.1, hts⟩ hC
    ⟨callB_of (rm := jv_rm d c1 s1) as.length hts (jv_ws_in hok) (by unfold jv_ws; rw [hr]) rfl rfl (hts _ hok.2.1) (hts _ w1) hok.2.2.2 ⟨hfr.1, by show 8 + (κ'.2.2.1 + 11) + 36 * d ≤ R.locals; omega⟩, hy1, hts _ w2⟩
    ⟨jv_blind, fun U hU hW => ⟨rfl, jv_CU_now X hS hU hW, by rw [hU]; exact hR⟩⟩ rfl (by simp) hL.1 ?_ (lv_room (by rw [jv_words_map]; exact hw)) hd ⟨by omega, by omega⟩)
  rw [hst]
  show List.map _ _ = _
  simp [jv_mv]
def jv_MIN (own : String) (i : Nat) (κ' : jv_Mt) (n : Nat) : Prop := jv_okm κ' n ∧ Cond.methodLinkNest own i κ'.1 "HaltRing" ∈ jv_nws ∧ Cond.instanceMethod κ'.1 ∈ jv_tbl ∧ κ'.1.name = "<init>" ∧ κ'.2.2.2 = none
theorem jv_invIN {κ' : jv_Mt} {i b c1 c2 s1 s2 : Nat} (as rest : List Value) (hd : decode κ.2.1 pc = .ok (.invokespecial i, 3)) (hV : jv_MIN κ.1.cls i κ' as.length) (hst : st = as.reverse ++ .ref b :: rest) (hw : jv_words rest ≤ 8) (hcr : c1 + c2 = cr) (hsr : s1 + s2 = sr)
    (hC : jv_Ct g d κ' (.ref b :: as) M N c1 s1 (fun v M' N' => jv_J g (d + 1) κ (pc + 3) L (v.toList ++ rest) M' N' c2 s2 Z)) : jv_J g (d + 1) κ pc L st M N cr sr Z := by
  intro p e R s m args below meth c H ls locs cells slots cm sm Q X hR hS hL h1 h2 h3 h4 hE
  subst hcr; subst hsr
  obtain ⟨hok, w1, w2, hy1, hr⟩ := hV
  have hts := X.2.2.2.2.2.2.1
  have hfr := X.2.2.2.2.2.2.2.2.1
  have hmx := hok.2.2.1
  refine jv_goes X hS hL h1 h2 h3 h4 hE (va_runIN (Ts := jv_tbl) (own := κ.1.cls) (host := "HaltRing") (b := jv_base g + b) (n := as.length) (As := as.map (jv_mv g)) (rest := rest.map (jv_mv g)) ⟨X.1, X.2.1, X.2.2.1, X.2.2.2.2.2.1, hts⟩ hC
    ⟨va_cnB (rm := jv_rm d c1 s1) as.length hts (jv_ws_in hok) (by unfold jv_ws; rw [hr]) rfl rfl (X.2.2.2.2.2.2.2.2.2.2.2.1 _ w1) (hts _ hok.2.1) hok.2.2.2 ⟨hfr.1, by show 8 + (κ'.2.2.1 + 11) + 36 * d ≤ R.locals; omega⟩, hy1, hts _ w2⟩
    ⟨jv_blind, fun U hU hW => ⟨rfl, jv_CU_now X hS hU hW, by rw [hU]; exact hR⟩⟩ rfl (by simp) hL.1 ?_ (lv_room (by rw [jv_words_map]; exact hw)) hd ⟨by omega, by omega⟩)
  rw [hst]
  show List.map _ _ = _
  simp [jv_mv]
theorem jv_objI {i b : Nat} (hd : decode κ.2.1 pc = .ok (.invokespecial i, 3)) (w1 : Cond.methodLink κ.1.cls i Lib.objectInit ∈ jv_tbl) (w2 : Cond.instanceMethod Lib.objectInit ∈ jv_tbl) (w3 : Cond.code Lib.objectInit ⟨#[0xb1]⟩ 1 none ∈ jv_tbl) (hw : jv_words st ≤ 8)
    (k : jv_J g (d + 1) κ (pc + 3) L st M N cr sr Z) : jv_J g (d + 1) κ pc L (.ref b :: st) M N cr sr Z := by
  intro p e R s m args below meth c H ls locs cells slots cm sm Q X hR hS hL h1 h2 h3 h4 hE
  have hts := X.2.2.2.2.2.2.1
  have hfr := X.2.2.2.2.2.2.2.2.1
  refine W.objInit X.1 X.2.1 X.2.2.2.2.2.1 (hts _ w1) (hts _ w2) (hts _ w3) rfl (hL.1.trans X.2.2.1.symm) rfl hd (by omega) ?_ (k p e R s m args below meth c H ls locs cells slots cm sm Q X hR hS hL h1 h2 h3 h4 hE)
  have := lv_room (m := m) (pc := pc) (ls := ls) (rest := (Value.ref b :: st).map (jv_mv g)) (st := st.map (jv_mv g)) (by rw [jv_words_map]; exact hw)
  omega
end JC
end
section
/-! ===== arraycopy, and the one text ===== -/
def jv_cp (M : jv_Mem) (a0 a sp dp n : Nat) : jv_Mem := (fun b j => if b = a then va_cpy (M.1 a0) (M.1 a) sp dp n j else M.1 b j, M.2.1, M.2.2)
section JD
variable {g : jv_G} {d : Nat} {κ : jv_Mt} {pc : Nat} {L : List (Option Value)} {st : List Value} {M : jv_Mem} {N cr sr : Nat} {Z : Option Value → jv_Mem → Nat → Prop}
theorem jv_copy {i a0 a : Nat} {sp dp n : Int32} (hd : decode κ.2.1 pc = .ok (.invokestatic i, 3)) (w1 : Cond.methodLink κ.1.cls i arraycopyName ∈ jv_tbl) (w2 : Cond.native arraycopyName ∈ jv_tbl) (w3 : Cond.static arraycopyName ∈ jv_tbl) (w4 : Cond.initialized "java/lang/System" ∈ jv_tbl)
    (hT0 : jv_Tg 11 a0 N) (hT : jv_Tg 11 a N) (h1 : ¬ sp < 0) (h2 : ¬ dp < 0) (h3 : ¬ n < 0) (h4 : sp.toNatClampNeg + n.toNatClampNeg ≤ (jv_sh a0).2) (h5 : dp.toNatClampNeg + n.toNatClampNeg ≤ (jv_sh a).2) (hw : jv_words st ≤ 8)
    (k : jv_J g (d + 1) κ (pc + 3) L st (jv_cp M a0 a sp.toNatClampNeg dp.toNatClampNeg n.toNatClampNeg) N cr sr Z) : jv_J g (d + 1) κ pc L (.int n :: .int dp :: .ref a :: .int sp :: .ref a0 :: st) M N cr sr Z := by
  intro p e R s m args below meth c H ls locs cells slots cm sm Q X hR hS hL g1 g2 g3 g4 hE
  have hts := X.2.2.2.2.2.2.1
  have hfr := X.2.2.2.2.2.2.2.2.1
  have hK := X.2.2.2.2.2.2.2.2.2.2.1
  have hc0 := hR.2 a0 hT0.2
  rw [jv_F_int hT0.1 (by omega) (by omega)] at hc0
  have hc1 := hR.2 a hT.2
  rw [jv_F_int hT.1 (by omega) (by omega)] at hc1
  have nn : ∀ z : Int32, ¬ z < 0 → z.toInt = (z.toNatClampNeg : Int) := by
    intro z hz
    have hz0 : (0 : Int) ≤ z.toInt := by
      have := Int32.not_lt.mp hz
      simpa using Int32.le_iff_toInt_le.mp this
    show z.toInt = ((z.toInt.toNat : Nat) : Int)
    omega
  intro T hT' XS
  obtain ⟨-, k0, hk0, cm0, hkk0⟩ := (hK.2 0 _ rfl).1 (jv_sh a0).2 (fun j => .int (M.1 a0 j))
  obtain ⟨-, k1, hk1, cm1, hkk1⟩ := (hK.2 0 _ rfl).1 (jv_sh a).2 (fun j => .int (M.1 a j))
  obtain ⟨vm', X', step⟩ := XS.arraycopy X.1 X.2.2.2.2.2.1 (hts _ w1) (hts _ w2) (hts _ w3) (hts _ w4) (src := jv_base g + a0) (dst := jv_base g + a) (cs := vp_cell (jv_cA g 11) ((jv_sh a0).2, .inl (M.1 a0))) (cd := vp_cell (jv_cA g 11) ((jv_sh a).2, .inl (M.1 a))) (srcPos := sp) (destPos := dp) (n := n) (by rw [hT']; exact hc0) (by rw [hT']; exact hc1)
    (fun _ h => by cases h) (fun _ h => by cases h) (fun h => by cases h) (fun h => by cases h) hk0 hk1 hkk0 hkk1 (by simp [refKind]) h1 h2 h3
    (by rw [nn sp h1, nn n h3]; show ¬ _ > ((arrV (jv_cA g 11) (jv_sh a0).2 (fun j => .int (M.1 a0 j))).slots.size : Int); rw [arrV_size]; omega)
    (by rw [nn dp h2, nn n h3]; show ¬ _ > ((arrV (jv_cA g 11) (jv_sh a).2 (fun j => .int (M.1 a j))).slots.size : Int); rw [arrV_size]; omega)
    (fun vm₁ _ i hi => by
      have e : (vp_cell (jv_cA g 11) ((jv_sh a0).2, .inl (M.1 a0))).slots.getD (sp.toNatClampNeg + i) .null = .int (M.1 a0 (sp.toNatClampNeg + i)) := by
        show (arrV (jv_cA g 11) (jv_sh a0).2 (fun j => .int (M.1 a0 j))).slots.getD _ _ = _
        rw [Array.getD_eq_getD_getElem?, arrV_read _ _ (by omega)]
        rfl
      refine ⟨?_, ?_⟩
      · rw [e]
        rfl
      · rw [e]
        exact trivial)
    (g := F0 m pc ls ((Value.int n :: .int dp :: .ref a :: .int sp :: .ref a0 :: st).map (jv_mv g))) rfl (hL.1.trans X.2.2.1.symm) (rest := st.map (jv_mv g)) rfl (by rw [X.2.1]; exact hd) (by omega) (by show 2 * 0 + _ + (nativeFrameWords "java/lang/System" "arraycopy" 5 + 11) ≤ _; rw [jv_words_map, show nativeFrameWords "java/lang/System" "arraycopy" 5 = 7 from by decide +kernel]; omega)
  have e1 : copied (vp_cell (jv_cA g 11) ((jv_sh a0).2, .inl (M.1 a0))) (vp_cell (jv_cA g 11) ((jv_sh a).2, .inl (M.1 a))) sp dp n = vp_cell (jv_cA g 11) ((jv_sh a).2, .inl (va_cpy (M.1 a0) (M.1 a) sp.toNatClampNeg dp.toNatClampNeg n.toNatClampNeg)) := va_copied (fun z => .int z) _ _ (M.1 a0) (M.1 a) h4
  rw [e1] at X' step
  have hl : jv_base g + a < H.size := (Array.getElem?_eq_some_iff.mp hc1).1
  generalize hnew : vp_cell (jv_cA g 11) ((jv_sh a).2, .inl (va_cpy (M.1 a0) (M.1 a) sp.toNatClampNeg dp.toNatClampNeg n.toNatClampNeg)) = nc at X' step
  have hheap : ((T.setVm vm').setCell (jv_base g + a) nc).heap = H.setIfInBounds (jv_base g + a) nc := by rw [← hT']; rfl
  have oq : ∀ q : Nat, q ≠ jv_base g + a → (H.setIfInBounds (jv_base g + a) nc)[q]? = H[q]? := fun q hq => by simp [Array.getElem?_setIfInBounds, Ne.symm hq]
  obtain ⟨t, a1, b1⟩ := k p e R s m args below meth c (H.setIfInBounds (jv_base g + a) nc) ls _ cells slots cm sm Q X (hR.upd (M' := jv_cp M a0 a sp.toNatClampNeg dp.toNatClampNeg n.toNatClampNeg) (by simp) oq (by
      rw [jv_F_int hT.1 (by omega) (by omega)]
      show (H.setIfInBounds (jv_base g + a) nc)[jv_base g + a]? = some (vp_cell _ _)
      have hrow : (jv_cp M a0 a sp.toNatClampNeg dp.toNatClampNeg n.toNatClampNeg).1 a = va_cpy (M.1 a0) (M.1 a) sp.toNatClampNeg dp.toNatClampNeg n.toNatClampNeg := by funext j; simp [jv_cp]
      rw [hrow, hnew]
      simp [Array.getElem?_setIfInBounds, hl]) (fun b hb => by simp [jv_cp, hb])) ⟨by simp; exact hS.1, fun q q1 q2 => by
      rw [oq q (fun e => q2 (by rw [e]; exact Nat.le_add_right _ _))]
      exact hS.2.1 q q1 q2, fun q hq => by
      rcases List.mem_append.mp hq with h | h
      · exact hS.2.2 q h
      · obtain ⟨z, -, hz⟩ := List.mem_map.mp h
        rw [← hz]
        exact Nat.le_add_right _ _⟩ hL g1 g2 g3 g4 hE _ hheap X'
  exact ⟨t, step t a1, b1⟩
/-- the text: .retAddr 3, its bytes: .retAddr 4 -/
def jv_txt : Nat → Int32 := fun j => [97, 100, 99, 108, 119, 106, 122, 98].getD j 0
theorem jv_ldcT (hd : decode κ.2.1 pc = .ok (.ldc 94, 2)) (ho : κ.1.cls = "HaltRing$Text") (k : jv_J g d κ (pc + 2) L (.retAddr 3 :: st) M N cr sr Z) : jv_J g d κ pc L st M N cr sr Z := by
  intro p e R s m args below meth c H ls locs cells slots cm sm Q X hR hS hL h1 h2 h3 h4 hE
  have hro := X.2.2.2.2.2.2.2.2.2.2.2.2.2
  exact va_ldcS X.1 X.2.1 (by rw [← ho]; exact X.2.2.2.2.2.1) hro.2.2.2.2.2.2.2.2 hd (k p e R s m args below meth c H ls locs cells slots cm sm Q X hR hS hL h1 h2 h3 h4 hE)
theorem jv_gCoder {i : Nat} (hd : decode κ.2.1 pc = .ok (.getfield i, 3)) (hw : Cond.fieldLink κ.1.cls i "java/lang/String" "coder" "B" ∈ jv_tbl) (k : jv_J g d κ (pc + 3) L (.int 0 :: st) M N cr sr Z) : jv_J g d κ pc L (.retAddr 3 :: st) M N cr sr Z := by
  intro p e R s m args below meth c H ls locs cells slots cm sm Q X hR hS hL h1 h2 h3 h4 hE
  have hk := (X.2.2.2.2.2.2.2.2.2.2.2.2.2).2.2.2.2.2.2.2.1.1 0 (by omega)
  exact vk_getf X.1 X.2.1 hk.2.1 hS X.2.2.2.2.2.1 (X.2.2.2.2.2.2.1 _ hw) (fun x hx => hx) hd (k p e R s m args below meth c H ls locs cells slots cm sm Q X hR hS hL h1 h2 h3 h4 hE)
theorem jv_gValue {i : Nat} (hd : decode κ.2.1 pc = .ok (.getfield i, 3)) (hw : Cond.fieldLink κ.1.cls i "java/lang/String" "value" "[B" ∈ jv_tbl) (k : jv_J g d κ (pc + 3) L (.retAddr 4 :: st) M N cr sr Z) : jv_J g d κ pc L (.retAddr 3 :: st) M N cr sr Z := by
  intro p e R s m args below meth c H ls locs cells slots cm sm Q X hR hS hL h1 h2 h3 h4 hE
  have hk := (X.2.2.2.2.2.2.2.2.2.2.2.2.2).2.2.2.2.2.2.2.1.1 0 (by omega)
  exact vk_getf X.1 X.2.1 hk.2.2.1 hS X.2.2.2.2.2.1 (X.2.2.2.2.2.2.1 _ hw) (fun x hx => hx) hd (k p e R s m args below meth c H ls locs cells slots cm sm Q X hR hS hL h1 h2 h3 h4 hE)
theorem jv_tlen (hd : decode κ.2.1 pc = .ok (.arraylength, 1)) (k : jv_J g d κ (pc + 1) L (.int 8 :: st) M N cr sr Z) : jv_J g d κ pc L (.retAddr 4 :: st) M N cr sr Z := by
  intro p e R s m args below meth c H ls locs cells slots cm sm Q X hR hS hL h1 h2 h3 h4 hE
  have hk := (X.2.2.2.2.2.2.2.2.2.2.2.2.2).2.2.2.2.2.2.2.1.1 0 (by omega)
  exact va_tlen X.1 X.2.1 hk.2.2.2 hS rfl hd (k p e R s m args below meth c H ls locs cells slots cm sm Q X hR hS hL h1 h2 h3 h4 hE)
theorem jv_tald {i : Int32} (hd : decode κ.2.1 pc = .ok (.baload, 1)) (hin : vp_in i 8) (k : jv_J g d κ (pc + 1) L (.int (jv_txt i.toNatClampNeg) :: st) M N cr sr Z) : jv_J g d κ pc L (.int i :: .retAddr 4 :: st) M N cr sr Z := by
  intro p e R s m args below meth c H ls locs cells slots cm sm Q X hR hS hL h1 h2 h3 h4 hE
  have hk := (X.2.2.2.2.2.2.2.2.2.2.2.2.2).2.2.2.2.2.2.2.1.1 0 (by omega)
  exact va_tb X.1 X.2.1 hk.2.2.2 hS hin rfl hd (k p e R s m args below meth c H ls locs cells slots cm sm Q X hR hS hL h1 h2 h3 h4 hE)
def jv_MT (own : String) (i : Nat) (κ' : jv_Mt) (n : Nat) : Prop := jv_okm κ' n ∧ Cond.methodLink own i κ'.1 ∈ jv_tbl ∧ Cond.instanceMethod κ'.1 ∈ jv_tbl ∧ Cond.selects κ'.1.cls κ'.1 κ'.1 ∈ jv_tbl ∧ κ'.1.cls = "java/lang/String"
theorem jv_invT {κ' : jv_Mt} {i c1 c2 s1 s2 : Nat} (as rest : List Value) (hd : decode κ.2.1 pc = .ok (.invokevirtual i, 3)) (hV : jv_MT κ.1.cls i κ' as.length) (hst : st = as.reverse ++ .retAddr 3 :: rest) (hw : jv_words rest ≤ 8) (hcr : c1 + c2 = cr) (hsr : s1 + s2 = sr)
    (hC : jv_Ct g d κ' (.retAddr 3 :: as) M N c1 s1 (fun v M' N' => jv_J g (d + 1) κ (pc + 3) L (v.toList ++ rest) M' N' c2 s2 Z)) : jv_J g (d + 1) κ pc L st M N cr sr Z := by
  intro p e R s m args below meth c H ls locs cells slots cm sm Q X hR hS hL h1 h2 h3 h4 hE
  subst hcr; subst hsr
  obtain ⟨hok, w1, w2, w3, hr⟩ := hV
  have hts := X.2.2.2.2.2.2.1
  have hfr := X.2.2.2.2.2.2.2.2.1
  have hmx := hok.2.2.1
  have hro := X.2.2.2.2.2.2.2.2.2.2.2.2.2
  refine jv_goes X hS hL h1 h2 h3 h4 hE (va_runV (Ts := jv_tbl) (own := κ.1.cls) (C := κ'.1.cls) (b := jv_ro g 3) (n := as.length) (As := as.map (jv_mv g)) (rest := rest.map (jv_mv g)) ⟨X.1, X.2.1, X.2.2.1, X.2.2.2.2.2.1, hts⟩ hC
    ⟨callB_of (rm := jv_rm d c1 s1) as.length hts (jv_ws_in hok) rfl rfl rfl (hts _ hok.2.1) (hts _ w1) hok.2.2.2 ⟨hfr.1, by show 8 + (κ'.2.2.1 + 11) + 36 * d ≤ R.locals; omega⟩, hts _ w2, hts _ w3⟩
    ⟨jv_blind, by rw [hr]; exact vk_recv hro.2.2.2.2.2.2.2.1 (i := 0) (by omega) hS, fun U hU hW => ⟨rfl, jv_CU_now X hS hU hW, by rw [hU]; exact hR⟩⟩ rfl (by simp) hL.1 ?_ (lv_room (by rw [jv_words_map]; exact hw)) hd ⟨by omega, by omega⟩)
  rw [hst]
  show List.map _ _ = _
  simp [jv_mv]
end JD
end
