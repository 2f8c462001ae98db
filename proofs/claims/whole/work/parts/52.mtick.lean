section CM
variable {g : jv_G} {d : Nat} {M : jv_Mem} {Z : Option Value → jv_Mem → Nat → Prop} {B : Bd} {pr w : Int32} {p : Pg} {a : Nat}
theorem c_M_halt (C : MX M B pr a) {h : Nat} {c : Int32} (hh : h < 4) (hz : Z none (jv_pw M a (P_halt p h c) w) 668) : jv_Ct g d mt_M_halt [.ref a, .int (nI h), .int c] (jv_pw M a p w) 668 0 0 Z := by
  obtain ⟨⟨hr, hnc, hnh, hnt, hpr, hcode, hfirst, hgroup, hwhose⟩, ⟨b1, b2, b3, b4, b5⟩, ha1, ha2⟩ := C
  have hT := tg_pg ha1 ha2
  have hl := sl_pg ha1 ha2
  refine jv_ct rfl (Nat.le_of_ble_eq_true rfl) (b_M_halt_0 ?_)
  unfold P_halt at hz
  simp (disch := omega) only [li, ne_eq, nI_add, pk_mul, nI_clamp, vin, hT, hl, tg_m, true_and, pw_at, pw_m, pw_w, pw_o, pw_r, si_pw, si_pww, nn_eq, nn_le, nn_lt, pk_div, rm2, or0, sub0]
  repeat' first | refine ⟨?_, ?_⟩ | intro q
  all_goals simp_all only [ne_eq, Nat.reduceEqDiff,  if_true, if_false, not_false_eq_true, not_true_eq_false, and_self, and_true, true_and, false_and, and_false]

theorem c_M_resume (C : MX M B pr a) {h : Nat} (hh : h < 4) (hz : Z none (jv_pw M a (P_resume p h) w) 668) : jv_Ct g d mt_M_resume [.ref a, .int (nI h)] (jv_pw M a p w) 668 0 0 Z := by
  obtain ⟨⟨hr, hnc, hnh, hnt, hpr, hcode, hfirst, hgroup, hwhose⟩, ⟨b1, b2, b3, b4, b5⟩, ha1, ha2⟩ := C
  have hT := tg_pg ha1 ha2
  have hl := sl_pg ha1 ha2
  refine jv_ct rfl (Nat.le_of_ble_eq_true rfl) (b_M_resume_0 ?_)
  unfold P_resume at hz
  simp (disch := omega) only [li, ne_eq, nI_add, pk_mul, nI_clamp, vin, hT, hl, tg_m, true_and, pw_at, pw_m, pw_w, pw_o, pw_r, si_pw, si_pww, nn_eq, nn_le, nn_lt, pk_div, rm2, or0, sub0]
  repeat' first | refine ⟨?_, ?_⟩ | intro q
  all_goals simp_all only [ne_eq, Nat.reduceEqDiff,  if_true, if_false, not_false_eq_true, not_true_eq_false, and_self, and_true, true_and, false_and, and_false]

theorem c_M_doPlain (C : MX M B pr a) {h u : Nat} (hh : h < 4) (hu : u < 10000) (hz : Z none (jv_pw M a (P_do (p, w) h u).1 (P_do (p, w) h u).2) 668) : jv_Ct g d mt_M_doPlain [.ref 647, .ref a, .int (nI h), .int (nI u)] (jv_pw M a p w) 668 0 0 Z := by
  obtain ⟨⟨hr, hnc, hnh, hnt, hpr, hcode, hfirst, hgroup, hwhose⟩, ⟨b1, b2, b3, b4, b5⟩, ha1, ha2⟩ := C
  have hT := tg_pg ha1 ha2
  have hl := sl_pg ha1 ha2
  refine jv_ct rfl (Nat.le_of_ble_eq_true rfl) (b_M_doPlain_0 ?_)
  unfold P_do at hz
  simp (disch := omega) only [li, ne_eq, nI_add, pk_mul, nI_clamp, vin, hT, hl, tg_m, true_and, pw_at, pw_m, pw_w, pw_o, pw_r, si_pw, si_pww, nn_eq, nn_le, nn_lt, pk_div, rm2, or0, sub0]
  repeat' first | refine ⟨?_, ?_⟩ | intro q
  all_goals simp_all only [ne_eq, Nat.reduceEqDiff,  if_true, if_false, not_false_eq_true, not_true_eq_false, and_self, and_true, true_and, false_and, and_false]

theorem c_M_plain {b : Nat} {N : Nat} (hb : b < 1000) (hz : Z (some (.int (nI (P_plain b)))) M N) : jv_Ct g d mt_M_plain [.int (nI b)] M N 0 0 Z := by
  refine jv_ct rfl (Nat.le_of_ble_eq_true rfl) (b_M_plain_0 ?_)
  unfold P_plain at hz
  simp (disch := omega) only [li, pk_div, rm2, pk_mul, nI_add]
  exact hz
theorem c_M_has {x : Int32} {k N : Nat} (hz : Z (some (.int (if P_bit x k then nI 1 else nI 0))) M N) : jv_Ct g d mt_M_has [.int x, .int (nI k)] M N 0 0 Z := by
  refine jv_ct rfl (Nat.le_of_ble_eq_true rfl) (b_M_has_0 ?_)
  unfold P_bit at hz
  simp only [decide_eq_true_eq] at hz
  simp only [li]
  repeat' first | refine ⟨?_, ?_⟩ | intro q
  all_goals simp_all only [ne_eq, if_true, if_false]
end CM
