section CM
variable {g : jv_G} {d : Nat} {M : jv_Mem} {Z : Option Value → jv_Mem → Nat → Prop} {B : Bd} {pr w : Int32} {p : Pg} {a : Nat}
theorem c_M_halt (C : MX M B pr a) {h : Nat} {c : Int32} (hh : h < 4) (hz : Z none (jv_pw M a (P_halt p h c) w) 668) : jv_Ct g d mt_M_halt [.ref a, .int (nI h), .int c] (jv_pw M a p w) 668 0 0 Z := by
  obtain ⟨⟨hr, hnc, hnh, hnt, hpr, hcode, hfirst, hgroup, hwhose⟩, ⟨b1, b2, b3, b4, b5⟩, ha1, ha2⟩ := C
  have hT := tg_pg ha1 ha2
  have hl := sl_pg ha1 ha2
  refine jv_ct rfl (Nat.le_of_ble_eq_true rfl) (b_M_halt_0 ?_)
  unfold P_halt at hz
  simp (disch := omega) only [li, ne_eq, nI_add, pk_mul, nI_clamp, vin, hT, hl, tg_m, true_and, pw_at, pw_m, pw_w, pw_o, pw_r, si_pw, si_pww, nn_eq, nn_le, nn_lt, pk_div, rm2, or0, sub0]
  repeat' first | refine ⟨?_, ?_⟩ | intro q
  all_goals simp_all only [ne_eq, Nat.reduceEqDiff,  if_true, if_false, not_false_eq_true, not_true_eq_false, and_self, and_true, true_and, false_and, and_false]

theorem c_M_resume (C : MX M B pr a) {h : Nat} (hh : h < 4) (hz : Z none (jv_pw M a (P_resume p h) w) 668) : jv_Ct g d mt_M_resume [.ref a, .int (nI h)] (jv_pw M a p w) 668 0 0 Z := by
  obtain ⟨⟨hr, hnc, hnh, hnt, hpr, hcode, hfirst, hgroup, hwhose⟩, ⟨b1, b2, b3, b4, b5⟩, ha1, ha2⟩ := C
  have hT := tg_pg ha1 ha2
  have hl := sl_pg ha1 ha2
  refine jv_ct rfl (Nat.le_of_ble_eq_true rfl) (b_M_resume_0 ?_)
  unfold P_resume at hz
  simp (disch := omega) only [li, ne_eq, nI_add, pk_mul, nI_clamp, vin, hT, hl, tg_m, true_and, pw_at, pw_m, pw_w, pw_o, pw_r, si_pw, si_pww, nn_eq, nn_le, nn_lt, pk_div, rm2, or0, sub0]
  repeat' first | refine ⟨?_, ?_⟩ | intro q
  all_goals simp_all only [ne_eq, Nat.reduceEqDiff,  if_true, if_false, not_false_eq_true, not_true_eq_false, and_self, and_true, true_and, false_and, and_false]

theorem c_M_doPlain (C : MX M B pr a) {h u : Nat} (hh : h < 4) (hu : u < 10000) (hz : Z none (jv_pw M a (P_do (p, w) h u).1 (P_do (p, w) h u).2) 668) : jv_Ct g d mt_M_doPlain [.ref 647, .ref a, .int (nI h), .int (nI u)] (jv_pw M a p w) 668 0 0 Z := by
  obtain ⟨⟨hr, hnc, hnh, hnt, hpr, hcode, hfirst, hgroup, hwhose⟩, ⟨b1, b2, b3, b4, b5⟩, ha1, ha2⟩ := C
  have hT := tg_pg ha1 ha2
  have hl := sl_pg ha1 ha2
  refine jv_ct rfl (Nat.le_of_ble_eq_true rfl) (b_M_doPlain_0 ?_)
  unfold P_do at hz
  simp (disch := omega) only [li, ne_eq, nI_add, pk_mul, nI_clamp, vin, hT, hl, tg_m, true_and, pw_at, pw_m, pw_w, pw_o, pw_r, si_pw, si_pww, nn_eq, nn_le, nn_lt, pk_div, rm2, or0, sub0]
  repeat' first | refine ⟨?_, ?_⟩ | intro q
  all_goals simp_all only [ne_eq, Nat.reduceEqDiff,  if_true, if_false, not_false_eq_true, not_true_eq_false, and_self, and_true, true_and, false_and, and_false]

theorem c_M_plain {b : Nat} {N : Nat} (hb : b < 1000) (hz : Z (some (.int (nI (P_plain b)))) M N) : jv_Ct g d mt_M_plain [.int (nI b)] M N 0 0 Z := by
  refine jv_ct rfl (Nat.le_of_ble_eq_true rfl) (b_M_plain_0 ?_)
  unfold P_plain at hz
  simp (disch := omega) only [li, pk_div, rm2, pk_mul, nI_add]
  exact hz
theorem c_M_has {x : Int32} {k N : Nat} (hz : Z (some (.int (if P_bit x k then nI 1 else nI 0))) M N) : jv_Ct g d mt_M_has [.int x, .int (nI k)] M N 0 0 Z := by
  refine jv_ct rfl (Nat.le_of_ble_eq_true rfl) (b_M_has_0 ?_)
  unfold P_bit at hz
  simp only [decide_eq_true_eq] at hz
  simp only [li]
  repeat' first | refine ⟨?_, ?_⟩ | intro q
  all_goals simp_all only [ne_eq, if_true, if_false]
theorem c_M_reset (C : MX M B pr a) {h : Nat} (hh : h < 4) (hz : Z none (jv_pw M a (P_reset B p h) w) 668) : jv_Ct g d mt_M_reset [.ref 647, .ref a, .int (nI h)] (jv_pw M a p w) 668 0 0 Z := by
  obtain ⟨⟨hr, hnc, hnh, hnt, hpr, hcode, hfirst, hgroup, hwhose⟩, ⟨b1, b2, b3, b4, b5⟩, ha1, ha2⟩ := C
  have hT := tg_pg ha1 ha2
  have hl := sl_pg ha1 ha2
  have l2 : ∀ (m t : Nat), t + m = bd_nt B → jv_J g d mt_M_reset 38 [some (.ref 647), some (.ref a), some (.int (nI h)), some (.int (nI t))] [] (jv_pw M a (itN (fun t p => if bd_whose B t = h then pu p (40 + 6 * t + 4) (p (40 + 6 * t + 3)) else p) t (itN (fun k p => pu p (8 * h + k) (if k = 0 then bd_first B h else nI 0)) 8 p)) w) 668 0 0 Z := by
    intro m
    induction m with
    | zero =>
      intro t ht
      have ht : t = bd_nt B := by omega
      subst ht
      refine b_M_reset_38 ?_
      simp (disch := omega) only [li, ne_eq, nI_add, pk_mul, nI_clamp, vin, hT, hl, tg_m, true_and, pw_at, pw_m, pw_w, pw_o, pw_r, si_pw, si_pww, nn_eq, nn_le, nn_lt, pk_div, rm2, or0, sub0, hr, hnc, hnh, hnt, hpr, hcode, hfirst, hgroup, hwhose, mr_5, mr_7, mr_8, mr_10, Option.some.injEq, exists_eq_left', tg_649, tg_650, tg_651, tg_652, sl_649, sl_650, sl_651, sl_652]
      exact ⟨fun _ => hz, fun c => absurd (Nat.le_refl _) c⟩
    | succ m ih =>
      intro t ht
      have hw := b4 t
      have ih := ih (t + 1) (by omega)
      simp only [itN] at ih
      refine b_M_reset_38 ?_
      simp (disch := omega) only [li, ne_eq, nI_add, pk_mul, nI_clamp, vin, hT, hl, tg_m, true_and, pw_at, pw_m, pw_w, pw_o, pw_r, si_pw, si_pww, nn_eq, nn_le, nn_lt, pk_div, rm2, or0, sub0, hr, hnc, hnh, hnt, hpr, hcode, hfirst, hgroup, hwhose, mr_5, mr_7, mr_8, mr_10, Option.some.injEq, exists_eq_left', tg_649, tg_650, tg_651, tg_652, sl_649, sl_650, sl_651, sl_652]
      refine ⟨fun c => absurd c (by omega), fun _ => ⟨fun c => ?_, fun c => ?_⟩⟩
      · rwa [if_neg c] at ih
      · rwa [if_pos c] at ih
  have l1 : ∀ (m k : Nat), k + m = 8 → jv_J g d mt_M_reset 2 [some (.ref 647), some (.ref a), some (.int (nI h)), some (.int (nI k))] [] (jv_pw M a (itN (fun k p => pu p (8 * h + k) (if k = 0 then bd_first B h else nI 0)) k p) w) 668 0 0 Z := by
    intro m
    induction m with
    | zero =>
      intro k hk
      have hk : k = 8 := by omega
      subst hk
      refine b_M_reset_2 ?_
      simp (disch := omega) only [li, ne_eq, nI_add, pk_mul, nI_clamp, vin, hT, hl, tg_m, true_and, pw_at, pw_m, pw_w, pw_o, pw_r, si_pw, si_pww, nn_eq, nn_le, nn_lt, pk_div, rm2, or0, sub0, hr, hnc, hnh, hnt, hpr, hcode, hfirst, hgroup, hwhose, mr_5, mr_7, mr_8, mr_10, Option.some.injEq, exists_eq_left', tg_649, tg_650, tg_651, tg_652, sl_649, sl_650, sl_651, sl_652]
      exact ⟨fun _ => l2 (bd_nt B) 0 (by omega), fun c => absurd (Nat.le_refl _) c⟩
    | succ m ih =>
      intro k hk
      have ih := ih (k + 1) (by omega)
      simp only [itN] at ih
      refine b_M_reset_2 ?_
      simp (disch := omega) only [li, ne_eq, nI_add, pk_mul, nI_clamp, vin, hT, hl, tg_m, true_and, pw_at, pw_m, pw_w, pw_o, pw_r, si_pw, si_pww, nn_eq, nn_le, nn_lt, pk_div, rm2, or0, sub0, hr, hnc, hnh, hnt, hpr, hcode, hfirst, hgroup, hwhose, mr_5, mr_7, mr_8, mr_10, Option.some.injEq, exists_eq_left', tg_649, tg_650, tg_651, tg_652, sl_649, sl_650, sl_651, sl_652]
      refine ⟨fun c => absurd c (by omega), fun _ => ⟨fun c => ?_, fun c => ?_⟩⟩
      · rwa [if_neg c] at ih
      · rwa [if_pos c] at ih
  exact jv_ct rfl (Nat.le_of_ble_eq_true rfl) (b_M_reset_0 (l1 8 0 rfl))

theorem c_M_leads (C : MX M B pr a) {t : Nat} (ht : t < 6) (hz : Z (some (.int (if P_lead B p t then nI 1 else nI 0))) (jv_pw M a p w) 668) : jv_Ct g d mt_M_leads [.ref 647, .ref a, .int (nI t)] (jv_pw M a p w) 668 0 0 Z := by
  obtain ⟨⟨hr, hnc, hnh, hnt, hpr, hcode, hfirst, hgroup, hwhose⟩, ⟨b1, b2, b3, b4, b5⟩, ha1, ha2⟩ := C
  have hT := tg_pg ha1 ha2
  have hl := sl_pg ha1 ha2
  have hw := b4 t
  have hw2 := b4 (t + 1)
  refine jv_ct rfl (Nat.le_of_ble_eq_true rfl) (b_M_leads_0 ?_)
  unfold P_lead at hz
  simp only [Bool.and_eq_true, decide_eq_true_eq] at hz
  simp (disch := omega) only [li, ne_eq, nI_add, pk_mul, nI_clamp, vin, hT, hl, tg_m, true_and, pw_at, pw_m, pw_w, pw_o, pw_r, si_pw, si_pww, nn_eq, nn_le, nn_lt, pk_div, rm2, or0, sub0, hr, hnc, hnh, hnt, hpr, hcode, hfirst, hgroup, hwhose, mr_5, mr_7, mr_8, mr_10, Option.some.injEq, exists_eq_left', tg_649, tg_650, tg_651, tg_652, sl_649, sl_650, sl_651, sl_652]
  refine ⟨fun c => ?_, fun c => ?_⟩
  · rwa [if_neg (by omega)] at hz
  · simp (disch := omega) only [li, ne_eq, nI_add, pk_mul, nI_clamp, vin, hT, hl, tg_m, true_and, pw_at, pw_m, pw_w, pw_o, pw_r, si_pw, si_pww, nn_eq, nn_le, nn_lt, pk_div, rm2, or0, sub0, hr, hnc, hnh, hnt, hpr, hcode, hfirst, hgroup, hwhose, mr_5, mr_7, mr_8, mr_10, Option.some.injEq, exists_eq_left', tg_649, tg_650, tg_651, tg_652, sl_649, sl_650, sl_651, sl_652]
    refine ⟨fun c2 => ?_, fun c2 => ⟨fun c3 => ?_, fun c3 => ?_⟩⟩
    · rwa [if_neg (by simp [c2])] at hz
    · rwa [if_neg (by simp [c3])] at hz
    · rwa [if_pos ⟨⟨by omega, c2⟩, c3⟩] at hz

theorem c_M_matches (C : MX M B pr a) {t x : Nat} (ht : t < 6) (hx : p (40 + 6 * t + 1) = nI x) (hx2 : x < 16) (hz : Z (some (.int (if P_match B pr p t then nI 1 else nI 0))) (jv_pw M a p w) 668) : jv_Ct g (d + 1) mt_M_matches [.ref 647, .ref a, .int (nI t)] (jv_pw M a p w) 668 0 0 Z := by
  obtain ⟨⟨hr, hnc, hnh, hnt, hpr, hcode, hfirst, hgroup, hwhose⟩, ⟨b1, b2, b3, b4, b5⟩, ha1, ha2⟩ := C
  have hT := tg_pg ha1 ha2
  have hl := sl_pg ha1 ha2
  have hw := b4 t
  refine jv_ct rfl (Nat.le_of_ble_eq_true rfl) (b_M_matches_0 ?_)
  unfold P_match at hz
  rw [hx] at hz
  simp (disch := omega) only [li, ne_eq, nI_add, pk_mul, nI_clamp, vin, hT, hl, tg_m, true_and, pw_at, pw_m, pw_w, pw_o, pw_r, si_pw, si_pww, nn_eq, nn_le, nn_lt, pk_div, rm2, or0, sub0, hr, hnc, hnh, hnt, hpr, hcode, hfirst, hgroup, hwhose, mr_5, mr_7, mr_8, mr_10, Option.some.injEq, exists_eq_left', tg_649, tg_650, tg_651, tg_652, sl_649, sl_650, sl_651, sl_652, hx]
  simp (disch := omega) only [nI_clamp] at hz
  refine ⟨fun c => ⟨fun c2 => ?_, fun c2 => ?_⟩, fun c => ⟨fun c2 => ?_, fun c2 => ?_⟩⟩
  · simpa [c, c2] using hz
  · refine c_M_has (jv_ri_i ⟨fun c3 => ?_, fun c3 => ?_⟩)
    · by_cases hb : P_bit pr t = true
      · rw [if_pos hb] at c3; cases c3
      · simpa [c, c2, hb] using hz
    · by_cases hb : P_bit pr t = true
      · simpa [c, c2, hb] using hz
      · rw [if_neg hb] at c3; exact absurd rfl c3
  · simpa [c, c2] using hz
  · refine c_M_has (jv_ri_i ⟨fun c3 => ?_, fun c3 => ?_⟩)
    · by_cases hb : P_bit pr t = true
      · rw [if_pos hb] at c3; cases c3
      · simpa [c, c2, hb] using hz
    · by_cases hb : P_bit pr t = true
      · simpa [c, c2, hb] using hz
      · rw [if_neg hb] at c3; exact absurd rfl c3

end CM
