section CM
variable {g : jv_G} {d : Nat} {M : jv_Mem} {Z : Option Value → jv_Mem → Nat → Prop} {B : Bd} {pr w : Int32} {p : Pg} {a : Nat}
theorem c_M_halt (C : MX M B pr a) {h : Nat} {c : Int32} (hh : h < 4) (hz : Z none (jv_pw M a (P_halt p h c) w) 668) : jv_Ct g d mt_M_halt [.ref a, .int (nI h), .int c] (jv_pw M a p w) 668 0 0 Z := by
  have C0 := C
  obtain ⟨⟨hr, hnc, hnh, hnt, hpr, hcode, hfirst, hgroup, hwhose⟩, ⟨b1, b2, b3, b4, b5⟩, ha1, ha2⟩ := C
  have hT := tg_pg ha1 ha2
  have hl := sl_pg ha1 ha2
  refine jv_ct rfl (Nat.le_of_ble_eq_true rfl) (b_M_halt_0 ?_)
  unfold P_halt at hz
  simp (disch := omega) only [li, ne_eq, nI_add, pk_mul, nI_clamp, vin, hT, hl, tg_m, true_and, pw_at, pw_m, pw_w, pw_o, pw_r, si_pw, si_pww, nn_eq, nn_le, nn_lt, pk_div, rm2, or0, sub0]
  repeat' first | refine ⟨?_, ?_⟩ | intro q
  all_goals simp_all only [ne_eq, Nat.reduceEqDiff,  if_true, if_false, not_false_eq_true, not_true_eq_false, and_self, and_true, true_and, false_and, and_false]

theorem c_M_resume (C : MX M B pr a) {h : Nat} (hh : h < 4) (hz : Z none (jv_pw M a (P_resume p h) w) 668) : jv_Ct g d mt_M_resume [.ref a, .int (nI h)] (jv_pw M a p w) 668 0 0 Z := by
  have C0 := C
  obtain ⟨⟨hr, hnc, hnh, hnt, hpr, hcode, hfirst, hgroup, hwhose⟩, ⟨b1, b2, b3, b4, b5⟩, ha1, ha2⟩ := C
  have hT := tg_pg ha1 ha2
  have hl := sl_pg ha1 ha2
  refine jv_ct rfl (Nat.le_of_ble_eq_true rfl) (b_M_resume_0 ?_)
  unfold P_resume at hz
  simp (disch := omega) only [li, ne_eq, nI_add, pk_mul, nI_clamp, vin, hT, hl, tg_m, true_and, pw_at, pw_m, pw_w, pw_o, pw_r, si_pw, si_pww, nn_eq, nn_le, nn_lt, pk_div, rm2, or0, sub0]
  repeat' first | refine ⟨?_, ?_⟩ | intro q
  all_goals simp_all only [ne_eq, Nat.reduceEqDiff,  if_true, if_false, not_false_eq_true, not_true_eq_false, and_self, and_true, true_and, false_and, and_false]

theorem c_M_doPlain (C : MX M B pr a) {h u : Nat} (hh : h < 4) (hu : u < 10000) (hz : Z none (jv_pw M a (P_do (p, w) h u).1 (P_do (p, w) h u).2) 668) : jv_Ct g d mt_M_doPlain [.ref 647, .ref a, .int (nI h), .int (nI u)] (jv_pw M a p w) 668 0 0 Z := by
  have C0 := C
  obtain ⟨⟨hr, hnc, hnh, hnt, hpr, hcode, hfirst, hgroup, hwhose⟩, ⟨b1, b2, b3, b4, b5⟩, ha1, ha2⟩ := C
  have hT := tg_pg ha1 ha2
  have hl := sl_pg ha1 ha2
  refine jv_ct rfl (Nat.le_of_ble_eq_true rfl) (b_M_doPlain_0 ?_)
  unfold P_do at hz
  simp (disch := omega) only [li, ne_eq, nI_add, pk_mul, nI_clamp, vin, hT, hl, tg_m, true_and, pw_at, pw_m, pw_w, pw_o, pw_r, si_pw, si_pww, nn_eq, nn_le, nn_lt, pk_div, rm2, or0, sub0]
  repeat' first | refine ⟨?_, ?_⟩ | intro q
  all_goals simp_all only [ne_eq, Nat.reduceEqDiff,  if_true, if_false, not_false_eq_true, not_true_eq_false, and_self, and_true, true_and, false_and, and_false]

theorem c_M_plain {b : Nat} {N : Nat} (hb : b < 1000) (hz : Z (some (.int (nI (P_plain b)))) M N) : jv_Ct g d mt_M_plain [.int (nI b)] M N 0 0 Z := by
  refine jv_ct rfl (Nat.le_of_ble_eq_true rfl) (b_M_plain_0 ?_)
  unfold P_plain at hz
  simp (disch := omega) only [li, pk_div, rm2, pk_mul, nI_add]
  exact hz
theorem c_M_has {x : Int32} {k N : Nat} (hz : Z (some (.int (if P_bit x k then nI 1 else nI 0))) M N) : jv_Ct g d mt_M_has [.int x, .int (nI k)] M N 0 0 Z := by
  refine jv_ct rfl (Nat.le_of_ble_eq_true rfl) (b_M_has_0 ?_)
  unfold P_bit at hz
  simp only [decide_eq_true_eq] at hz
  simp only [li]
  repeat' first | refine ⟨?_, ?_⟩ | intro q
  all_goals simp_all only [ne_eq, if_true, if_false]
theorem c_M_reset (C : MX M B pr a) {h : Nat} (hh : h < 4) (hz : Z none (jv_pw M a (P_reset B p h) w) 668) : jv_Ct g d mt_M_reset [.ref 647, .ref a, .int (nI h)] (jv_pw M a p w) 668 0 0 Z := by
  have C0 := C
  obtain ⟨⟨hr, hnc, hnh, hnt, hpr, hcode, hfirst, hgroup, hwhose⟩, ⟨b1, b2, b3, b4, b5⟩, ha1, ha2⟩ := C
  have hT := tg_pg ha1 ha2
  have hl := sl_pg ha1 ha2
  have l2 : ∀ (m t : Nat), t + m = bd_nt B → jv_J g d mt_M_reset 38 [some (.ref 647), some (.ref a), some (.int (nI h)), some (.int (nI t))] [] (jv_pw M a (itN (fun t p => if bd_whose B t = h then pu p (40 + 6 * t + 4) (p (40 + 6 * t + 3)) else p) t (itN (fun k p => pu p (8 * h + k) (if k = 0 then bd_first B h else nI 0)) 8 p)) w) 668 0 0 Z := by
    intro m
    induction m with
    | zero =>
      intro t ht
      have ht : t = bd_nt B := by omega
      subst ht
      refine b_M_reset_38 ?_
      simp (disch := omega) only [li, ne_eq, nI_add, pk_mul, nI_clamp, vin, hT, hl, tg_m, true_and, pw_at, pw_m, pw_w, pw_o, pw_r, si_pw, si_pww, nn_eq, nn_le, nn_lt, pk_div, rm2, or0, sub0, hr, hnc, hnh, hnt, hpr, hcode, hfirst, hgroup, hwhose, mr_5, mr_7, mr_8, mr_10, Option.some.injEq, exists_eq_left', tg_649, tg_650, tg_651, tg_652, sl_649, sl_650, sl_651, sl_652]
      exact ⟨fun _ => hz, fun c => absurd (Nat.le_refl _) c⟩
    | succ m ih =>
      intro t ht
      have hw := b4 t
      have ih := ih (t + 1) (by omega)
      simp only [itN] at ih
      refine b_M_reset_38 ?_
      simp (disch := omega) only [li, ne_eq, nI_add, pk_mul, nI_clamp, vin, hT, hl, tg_m, true_and, pw_at, pw_m, pw_w, pw_o, pw_r, si_pw, si_pww, nn_eq, nn_le, nn_lt, pk_div, rm2, or0, sub0, hr, hnc, hnh, hnt, hpr, hcode, hfirst, hgroup, hwhose, mr_5, mr_7, mr_8, mr_10, Option.some.injEq, exists_eq_left', tg_649, tg_650, tg_651, tg_652, sl_649, sl_650, sl_651, sl_652]
      refine ⟨fun c => absurd c (by omega), fun _ => ⟨fun c => ?_, fun c => ?_⟩⟩
      · rwa [if_neg c] at ih
      · rwa [if_pos c] at ih
  have l1 : ∀ (m k : Nat), k + m = 8 → jv_J g d mt_M_reset 2 [some (.ref 647), some (.ref a), some (.int (nI h)), some (.int (nI k))] [] (jv_pw M a (itN (fun k p => pu p (8 * h + k) (if k = 0 then bd_first B h else nI 0)) k p) w) 668 0 0 Z := by
    intro m
    induction m with
    | zero =>
      intro k hk
      have hk : k = 8 := by omega
      subst hk
      refine b_M_reset_2 ?_
      simp (disch := omega) only [li, ne_eq, nI_add, pk_mul, nI_clamp, vin, hT, hl, tg_m, true_and, pw_at, pw_m, pw_w, pw_o, pw_r, si_pw, si_pww, nn_eq, nn_le, nn_lt, pk_div, rm2, or0, sub0, hr, hnc, hnh, hnt, hpr, hcode, hfirst, hgroup, hwhose, mr_5, mr_7, mr_8, mr_10, Option.some.injEq, exists_eq_left', tg_649, tg_650, tg_651, tg_652, sl_649, sl_650, sl_651, sl_652]
      exact ⟨fun _ => l2 (bd_nt B) 0 (by omega), fun c => absurd (Nat.le_refl _) c⟩
    | succ m ih =>
      intro k hk
      have ih := ih (k + 1) (by omega)
      simp only [itN] at ih
      refine b_M_reset_2 ?_
      simp (disch := omega) only [li, ne_eq, nI_add, pk_mul, nI_clamp, vin, hT, hl, tg_m, true_and, pw_at, pw_m, pw_w, pw_o, pw_r, si_pw, si_pww, nn_eq, nn_le, nn_lt, pk_div, rm2, or0, sub0, hr, hnc, hnh, hnt, hpr, hcode, hfirst, hgroup, hwhose, mr_5, mr_7, mr_8, mr_10, Option.some.injEq, exists_eq_left', tg_649, tg_650, tg_651, tg_652, sl_649, sl_650, sl_651, sl_652]
      refine ⟨fun c => absurd c (by omega), fun _ => ⟨fun c => ?_, fun c => ?_⟩⟩
      · rwa [if_neg c] at ih
      · rwa [if_pos c] at ih
  exact jv_ct rfl (Nat.le_of_ble_eq_true rfl) (b_M_reset_0 (l1 8 0 rfl))

theorem c_M_leads (C : MX M B pr a) {t : Nat} (ht : t < 6) (hz : Z (some (.int (if P_lead B p t then nI 1 else nI 0))) (jv_pw M a p w) 668) : jv_Ct g d mt_M_leads [.ref 647, .ref a, .int (nI t)] (jv_pw M a p w) 668 0 0 Z := by
  have C0 := C
  obtain ⟨⟨hr, hnc, hnh, hnt, hpr, hcode, hfirst, hgroup, hwhose⟩, ⟨b1, b2, b3, b4, b5⟩, ha1, ha2⟩ := C
  have hT := tg_pg ha1 ha2
  have hl := sl_pg ha1 ha2
  have hw := b4 t
  have hw2 := b4 (t + 1)
  refine jv_ct rfl (Nat.le_of_ble_eq_true rfl) (b_M_leads_0 ?_)
  unfold P_lead at hz
  simp only [Bool.and_eq_true, decide_eq_true_eq] at hz
  simp (disch := omega) only [li, ne_eq, nI_add, pk_mul, nI_clamp, vin, hT, hl, tg_m, true_and, pw_at, pw_m, pw_w, pw_o, pw_r, si_pw, si_pww, nn_eq, nn_le, nn_lt, pk_div, rm2, or0, sub0, hr, hnc, hnh, hnt, hpr, hcode, hfirst, hgroup, hwhose, mr_5, mr_7, mr_8, mr_10, Option.some.injEq, exists_eq_left', tg_649, tg_650, tg_651, tg_652, sl_649, sl_650, sl_651, sl_652]
  refine ⟨fun c => ?_, fun c => ?_⟩
  · rwa [if_neg (by omega)] at hz
  · simp (disch := omega) only [li, ne_eq, nI_add, pk_mul, nI_clamp, vin, hT, hl, tg_m, true_and, pw_at, pw_m, pw_w, pw_o, pw_r, si_pw, si_pww, nn_eq, nn_le, nn_lt, pk_div, rm2, or0, sub0, hr, hnc, hnh, hnt, hpr, hcode, hfirst, hgroup, hwhose, mr_5, mr_7, mr_8, mr_10, Option.some.injEq, exists_eq_left', tg_649, tg_650, tg_651, tg_652, sl_649, sl_650, sl_651, sl_652]
    refine ⟨fun c2 => ?_, fun c2 => ⟨fun c3 => ?_, fun c3 => ?_⟩⟩
    · rwa [if_neg (by simp [c2])] at hz
    · rwa [if_neg (by simp [c3])] at hz
    · rwa [if_pos ⟨⟨by omega, c2⟩, c3⟩] at hz

theorem c_M_matches (C : MX M B pr a) {t x : Nat} (ht : t < 6) (hx : p (40 + 6 * t + 1) = nI x) (hx2 : x < 16) (hz : Z (some (.int (if P_match B pr p t then nI 1 else nI 0))) (jv_pw M a p w) 668) : jv_Ct g (d + 1) mt_M_matches [.ref 647, .ref a, .int (nI t)] (jv_pw M a p w) 668 0 0 Z := by
  have C0 := C
  obtain ⟨⟨hr, hnc, hnh, hnt, hpr, hcode, hfirst, hgroup, hwhose⟩, ⟨b1, b2, b3, b4, b5⟩, ha1, ha2⟩ := C
  have hT := tg_pg ha1 ha2
  have hl := sl_pg ha1 ha2
  have hw := b4 t
  refine jv_ct rfl (Nat.le_of_ble_eq_true rfl) (b_M_matches_0 ?_)
  unfold P_match at hz
  rw [hx] at hz
  simp (disch := omega) only [li, ne_eq, nI_add, pk_mul, nI_clamp, vin, hT, hl, tg_m, true_and, pw_at, pw_m, pw_w, pw_o, pw_r, si_pw, si_pww, nn_eq, nn_le, nn_lt, pk_div, rm2, or0, sub0, hr, hnc, hnh, hnt, hpr, hcode, hfirst, hgroup, hwhose, mr_5, mr_7, mr_8, mr_10, Option.some.injEq, exists_eq_left', tg_649, tg_650, tg_651, tg_652, sl_649, sl_650, sl_651, sl_652, hx]
  simp (disch := omega) only [nI_clamp] at hz
  refine ⟨fun c => ⟨fun c2 => ?_, fun c2 => ?_⟩, fun c => ⟨fun c2 => ?_, fun c2 => ?_⟩⟩
  · simpa [c, c2] using hz
  · refine c_M_has (jv_ri_i ⟨fun c3 => ?_, fun c3 => ?_⟩)
    · by_cases hb : P_bit pr t = true
      · rw [if_pos hb] at c3; cases c3
      · simpa [c, c2, hb] using hz
    · by_cases hb : P_bit pr t = true
      · simpa [c, c2, hb] using hz
      · rw [if_neg hb] at c3; exact absurd rfl c3
  · simpa [c, c2] using hz
  · refine c_M_has (jv_ri_i ⟨fun c3 => ?_, fun c3 => ?_⟩)
    · by_cases hb : P_bit pr t = true
      · rw [if_pos hb] at c3; cases c3
      · simpa [c, c2, hb] using hz
    · by_cases hb : P_bit pr t = true
      · simpa [c, c2, hb] using hz
      · rw [if_neg hb] at c3; exact absurd rfl c3

theorem c_M_dropOrder (C : MX M B pr a) {k m : Nat} (hm : m < 12) (hk : k ≤ m) (e : p 80 = nI (m + 1)) (hz : Z none (jv_pw M a (P_drop p k) w) 668) : jv_Ct g d mt_M_dropOrder [.ref a, .int (nI k)] (jv_pw M a p w) 668 0 0 Z := by
  have C0 := C
  obtain ⟨⟨hr, hnc, hnh, hnt, hpr, hcode, hfirst, hgroup, hwhose⟩, ⟨b1, b2, b3, b4, b5⟩, ha1, ha2⟩ := C
  have hT := tg_pg ha1 ha2
  have hl := sl_pg ha1 ha2
  obtain ⟨D, hD⟩ : ∃ D : Nat → Pg, ∀ i j, D i j = if j = 80 then nI m else if 81 + 7 * k ≤ j ∧ j < 81 + 7 * k + i then p (j + 7) else p j := ⟨fun i j => if j = 80 then nI m else if 81 + 7 * k ≤ j ∧ j < 81 + 7 * k + i then p (j + 7) else p j, fun _ _ => rfl⟩
  have hD80 : ∀ i, D i 80 = nI m := fun i => by rw [hD, if_pos rfl]
  have hDs : ∀ i, pu (D i) (81 + 7 * k + i) (D i (81 + 7 * k + i + 7)) = D (i + 1) := by
    intro i
    funext j
    rw [hD (i + 1) j]
    unfold pu
    by_cases hj : j = 81 + 7 * k + i
    · rw [if_pos hj, hD, if_neg (by omega), if_neg (by omega), if_neg (by omega), if_pos (by omega), hj]
    · rw [if_neg hj, hD]
      by_cases h80 : j = 80
      · rw [if_pos h80, if_pos h80]
      · rw [if_neg h80, if_neg h80]
        by_cases hr : 81 + 7 * k ≤ j ∧ j < 81 + 7 * k + i
        · rw [if_pos hr, if_pos (by omega)]
        · rw [if_neg hr, if_neg (by omega)]
  have hend : D (7 * (m - k)) = P_drop p k := by
    funext j
    rw [hD]
    unfold P_drop
    rw [e, show nI (m + 1) - nI 1 = nI m from nI_pred m, nI_clamp (by omega)]
    by_cases h80 : j = 80
    · rw [if_pos h80, if_pos h80]
    · rw [if_neg h80, if_neg h80]
      by_cases hr : 81 + 7 * k ≤ j ∧ j < 81 + 7 * k + 7 * (m - k)
      · rw [if_pos hr, if_pos (by omega)]
      · rw [if_neg hr, if_neg (by omega)]
  have h0 : pu p 80 (nI m) = D 0 := by
    funext j
    rw [hD]
    unfold pu
    by_cases h80 : j = 80
    · rw [if_pos h80, if_pos h80]
    · rw [if_neg h80, if_neg h80, if_neg (by omega)]
  have l : ∀ n i, i + n = 7 * (m - k) → jv_J g d mt_M_dropOrder 16 [some (.ref a), none, some (.int (nI (81 + 7 * k + i)))] [] (jv_pw M a (D i) w) 668 0 0 Z := by
    intro n
    induction n with
    | zero =>
      intro i hi
      refine b_M_dropOrder_16 ?_
      simp (disch := omega) only [li, ne_eq, nI_add, pk_mul, nI_clamp, vin, hT, hl, tg_m, true_and, pw_at, pw_m, pw_w, pw_o, pw_r, si_pw, si_pww, nn_eq, nn_le, nn_lt, pk_div, rm2, or0, sub0, hr, hnc, hnh, hnt, hpr, hcode, hfirst, hgroup, hwhose, mr_5, mr_7, mr_8, mr_10, Option.some.injEq, exists_eq_left', tg_649, tg_650, tg_651, tg_652, sl_649, sl_650, sl_651, sl_652, hD80]
      refine ⟨fun _ => ?_, fun c => absurd (by omega) c⟩
      rw [show i = 7 * (m - k) by omega, hend]
      exact hz
    | succ n ih =>
      intro i hi
      have ih := ih (i + 1) (by omega)
      rw [← hDs i] at ih
      refine b_M_dropOrder_16 ?_
      simp (disch := omega) only [li, ne_eq, nI_add, pk_mul, nI_clamp, vin, hT, hl, tg_m, true_and, pw_at, pw_m, pw_w, pw_o, pw_r, si_pw, si_pww, nn_eq, nn_le, nn_lt, pk_div, rm2, or0, sub0, hr, hnc, hnh, hnt, hpr, hcode, hfirst, hgroup, hwhose, mr_5, mr_7, mr_8, mr_10, Option.some.injEq, exists_eq_left', tg_649, tg_650, tg_651, tg_652, sl_649, sl_650, sl_651, sl_652, hD80]
      exact ⟨fun c => absurd c (by omega), fun _ => ih⟩
  refine jv_ct rfl (Nat.le_of_ble_eq_true rfl) (b_M_dropOrder_0 ?_)
  simp (disch := omega) only [li, ne_eq, nI_add, pk_mul, nI_clamp, vin, hT, hl, tg_m, true_and, pw_at, pw_m, pw_w, pw_o, pw_r, si_pw, si_pww, nn_eq, nn_le, nn_lt, pk_div, rm2, or0, sub0, hr, hnc, hnh, hnt, hpr, hcode, hfirst, hgroup, hwhose, mr_5, mr_7, mr_8, mr_10, Option.some.injEq, exists_eq_left', tg_649, tg_650, tg_651, tg_652, sl_649, sl_650, sl_651, sl_652, e]
  rw [show nI (m + 1) - nI 1 = nI m from nI_pred m, h0]
  exact l (7 * (m - k)) 0 (by omega)

theorem c_M_runBuffer (C : MX M B pr a) (hB : BV2 B) {m h : Nat} (P : POK B m p) (hh : h < 4) (hz : Z (some (.int (P_buf h 2 0 (p, w)).2)) (jv_pw M a (P_buf h 2 0 (p, w)).1.1 (P_buf h 2 0 (p, w)).1.2) 668) : jv_Ct g (d + 1) mt_M_runBuffer [.ref 647, .ref a, .int (nI h)] (jv_pw M a p w) 668 0 0 Z := by
  have C0 := C
  obtain ⟨⟨hr, hnc, hnh, hnt, hpr, hcode, hfirst, hgroup, hwhose⟩, ⟨b1, b2, b3, b4, b5⟩, ha1, ha2⟩ := C
  have hT := tg_pg ha1 ha2
  have hl := sl_pg ha1 ha2
  have l : ∀ (f k : Nat) (p : Pg) (w : Int32), k + f = 2 → POK B m p → Z (some (.int (P_buf h f k (p, w)).2)) (jv_pw M a (P_buf h f k (p, w)).1.1 (P_buf h f k (p, w)).1.2) 668 → jv_J g (d + 1) mt_M_runBuffer 2 [some (.ref 647), some (.ref a), some (.int (nI h)), some (.int (nI k)), none] [] (jv_pw M a p w) 668 0 0 Z := by
    intro f
    induction f with
    | zero =>
      intro k p w hk P hz
      refine b_M_runBuffer_2 ?_
      simp (disch := omega) only [li, ne_eq, nI_add, pk_mul, nI_clamp, vin, hT, hl, tg_m, true_and, pw_at, pw_m, pw_w, pw_o, pw_r, si_pw, si_pww, nn_eq, nn_le, nn_lt, pk_div, rm2, or0, sub0, hr, hnc, hnh, hnt, hpr, hcode, hfirst, hgroup, hwhose, mr_5, mr_7, mr_8, mr_10, Option.some.injEq, exists_eq_left', tg_649, tg_650, tg_651, tg_652, sl_649, sl_650, sl_651, sl_652]
      exact ⟨fun _ => hz, fun c => absurd (by omega) c⟩
    | succ f ih =>
      intro k p w hk P hz
      obtain ⟨b, hb, e⟩ := P.buf (k := k) (by omega)
      have hb9 : b < 900 := hb.1
      obtain ⟨e1, e2, e3⟩ := plain_parts b
      have hu : P_plain b < 10000 := by unfold P_plain; omega
      unfold P_buf at hz
      simp only [e] at hz
      rw [nI_clamp (by omega)] at hz
      refine b_M_runBuffer_2 ?_
      simp (disch := omega) only [li, ne_eq, nI_add, pk_mul, nI_clamp, vin, hT, hl, tg_m, true_and, pw_at, pw_m, pw_w, pw_o, pw_r, si_pw, si_pww, nn_eq, nn_le, nn_lt, pk_div, rm2, or0, sub0, hr, hnc, hnh, hnt, hpr, hcode, hfirst, hgroup, hwhose, mr_5, mr_7, mr_8, mr_10, Option.some.injEq, exists_eq_left', tg_649, tg_650, tg_651, tg_652, sl_649, sl_650, sl_651, sl_652, e]
      refine ⟨fun c => absurd c (by omega), fun _ => c_M_plain (by omega) (jv_ri_i ⟨fun c => ?_, fun c => ?_⟩)⟩
      · have c' : ¬ P_plain b = 0 := fun z => c (by rw [z])
        rw [if_neg c'] at hz
        rw [pk_div (by omega) (by omega) (by omega), nn_le (by omega) (by omega)]
        refine ⟨fun c5 => ⟨tg_m, ?_⟩, fun c5 => ?_⟩
        · rw [if_pos c5] at hz
          have hd := BV_DV hb c' c5
          exact c_M_doPlain C0 hh hu (jv_rv_i (ih (k + 1) _ _ (by omega) (P_do_OK P hB.1 hh hd w) hz))
        · rw [if_neg c5] at hz
          exact hz
      · have c' : P_plain b = 0 := (nI_eq (by omega) (by omega)).mp c
        rw [if_pos c'] at hz
        exact hz
  exact jv_ct rfl (Nat.le_of_ble_eq_true rfl) (b_M_runBuffer_0 (l 2 0 p w rfl P hz))

theorem c_M_haltedOf (C : MX M B pr a) {n : Nat} (hn : n ≤ 4) (hz : Z (some (.int (P_hset p n))) (jv_pw M a p w) 668) : jv_Ct g d mt_M_haltedOf [.ref a, .int (nI n)] (jv_pw M a p w) 668 0 0 Z := by
  have C0 := C
  obtain ⟨⟨hr, hnc, hnh, hnt, hpr, hcode, hfirst, hgroup, hwhose⟩, ⟨b1, b2, b3, b4, b5⟩, ha1, ha2⟩ := C
  have hT := tg_pg ha1 ha2
  have hl := sl_pg ha1 ha2
  have l : ∀ (m i : Nat), i + m = n → jv_J g d mt_M_haltedOf 4 [some (.ref a), some (.int (nI n)), some (.int (P_hset p i)), some (.int (nI i))] [] (jv_pw M a p w) 668 0 0 Z := by
    intro m
    induction m with
    | zero =>
      intro i hi
      have hi : i = n := by omega
      subst hi
      refine b_M_haltedOf_4 ?_
      simp (disch := omega) only [li, ne_eq, nI_add, pk_mul, nI_clamp, vin, hT, hl, tg_m, true_and, pw_at, pw_m, pw_w, pw_o, pw_r, si_pw, si_pww, nn_eq, nn_le, nn_lt, pk_div, rm2, or0, sub0, hr, hnc, hnh, hnt, hpr, hcode, hfirst, hgroup, hwhose, mr_5, mr_7, mr_8, mr_10, Option.some.injEq, exists_eq_left', tg_649, tg_650, tg_651, tg_652, sl_649, sl_650, sl_651, sl_652]
      exact ⟨fun _ => hz, fun c => absurd (Nat.le_refl _) c⟩
    | succ m ih =>
      intro i hi
      have ih := ih (i + 1) (by omega)
      simp only [P_hset] at ih
      refine b_M_haltedOf_4 ?_
      simp (disch := omega) only [li, ne_eq, nI_add, pk_mul, nI_clamp, vin, hT, hl, tg_m, true_and, pw_at, pw_m, pw_w, pw_o, pw_r, si_pw, si_pww, nn_eq, nn_le, nn_lt, pk_div, rm2, or0, sub0, hr, hnc, hnh, hnt, hpr, hcode, hfirst, hgroup, hwhose, mr_5, mr_7, mr_8, mr_10, Option.some.injEq, exists_eq_left', tg_649, tg_650, tg_651, tg_652, sl_649, sl_650, sl_651, sl_652]
      refine ⟨fun c => absurd c (by omega), fun _ => ⟨fun c => ?_, fun c => ?_⟩⟩
      · rwa [if_neg c] at ih
      · rwa [if_pos c] at ih
  exact jv_ct rfl (Nat.le_of_ble_eq_true rfl) (b_M_haltedOf_0 (l n 0 (by omega)))

end CM
