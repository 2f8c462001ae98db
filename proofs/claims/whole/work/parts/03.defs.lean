/-! ===== what instructions link ===== -/
/-- field number k of the classes' number t, by the pool's entry i of a class -/
def jv_FL (own : String) (i t k : Nat) : Prop := ∃ r : vw_C, jv_cl[t]? = some r ∧ k < r.2.2 ∧ Cond.fieldLink own i r.1 (r.2.1 k).2.1 (r.2.1 k).2.2.1 ∈ jv_tbl
/-- a method whose code is among the words; n of its words are arguments -/
def jv_okm (κ : jv_Mt) (n : Nat) : Prop := Cond.code κ.1 κ.2.1 κ.2.2.1 κ.2.2.2 ∈ jv_tbl ∧ Cond.initialized κ.1.cls ∈ jv_tbl ∧ κ.2.2.1 ≤ 17 ∧ κ.1.cls ≠ "java/lang/invoke/MethodHandle" ∧ κ.1.cls ≠ "java/lang/invoke/VarHandle" ∧ (parseMethodDescriptor κ.1.desc).map (fun d => d.parameters.length) = some n
/-- what a call of an instance method links -/
def jv_MV (own : String) (i t : Nat) (κ' : jv_Mt) (n : Nat) : Prop := jv_okm κ' n ∧ Cond.methodLink own i κ'.1 ∈ jv_tbl ∧ Cond.instanceMethod κ'.1 ∈ jv_tbl ∧ Cond.selects κ'.1.cls κ'.1 κ'.1 ∈ jv_tbl ∧ ∃ r : vw_C, jv_cl[t]? = some r ∧ r.1 = κ'.1.cls
/-- a static call -/
def jv_MS (own : String) (i : Nat) (κ' : jv_Mt) (n : Nat) : Prop := jv_okm κ' n ∧ Cond.methodLink own i κ'.1 ∈ jv_tbl ∧ Cond.static κ'.1 ∈ jv_tbl
/-- a nest mate's private static method -/
def jv_MSN (own : String) (i : Nat) (κ' : jv_Mt) (n : Nat) : Prop := jv_okm κ' n ∧ Cond.methodLinkNest own i κ'.1 "HaltRing" ∈ jv_nws ∧ Cond.static κ'.1 ∈ jv_tbl
/-- a constructor -/
def jv_MI (own : String) (i : Nat) (κ' : jv_Mt) (n : Nat) : Prop := jv_okm κ' n ∧ Cond.methodLink own i κ'.1 ∈ jv_tbl ∧ Cond.instanceMethod κ'.1 ∈ jv_tbl ∧ κ'.1.name = "<init>" ∧ κ'.2.2.2 = none
def jv_MIN (own : String) (i : Nat) (κ' : jv_Mt) (n : Nat) : Prop := jv_okm κ' n ∧ Cond.methodLinkNest own i κ'.1 "HaltRing" ∈ jv_nws ∧ Cond.instanceMethod κ'.1 ∈ jv_tbl ∧ κ'.1.name = "<init>" ∧ κ'.2.2.2 = none
def jv_MT (own : String) (i : Nat) (κ' : jv_Mt) (n : Nat) : Prop := jv_okm κ' n ∧ Cond.methodLink own i κ'.1 ∈ jv_tbl ∧ Cond.instanceMethod κ'.1 ∈ jv_tbl ∧ Cond.selects κ'.1.cls κ'.1 κ'.1 ∈ jv_tbl ∧ κ'.1.cls = "java/lang/String"
