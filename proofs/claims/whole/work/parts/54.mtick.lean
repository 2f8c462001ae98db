section CN
variable {g : jv_G} {d : Nat} {M : jv_Mem} {Z : Option Value → jv_Mem → Nat → Prop} {B : Bd} {pr w : Int32} {p : Pg} {a : Nat}
theorem c_M_reach (C : MX M B pr a) (hB : BV2 B) {m k : Nat} (P : POK B m p) (hk : k < m) (hz : Z none (jv_pw M a (P_reach B (p, w) k).1 (P_reach B (p, w) k).2) 668) : jv_Ct g (d + 2) mt_M_reach [.ref 647, .ref a, .int (nI k)] (jv_pw M a p w) 668 0 0 Z := by
  have C0 := C
  obtain ⟨⟨hr, hnc, hnh, hnt, hpr, hcode, hfirst, hgroup, hwhose⟩, ⟨b1, b2, b3, b4, b5⟩, ha1, ha2⟩ := C
  have hT := tg_pg ha1 ha2
  have hl := sl_pg ha1 ha2
  obtain ⟨⟨q, hq, eq⟩, ⟨t, ht, et⟩, -, -, ⟨r, hr4, er⟩⟩ := P.ord hk
  have hm := P.1
  unfold P_reach at hz
  simp only [et, er] at hz
  rw [nI_clamp (by omega), nI_clamp (by omega)] at hz
  have l : ¬ (nI 2 < p (81 + 7 * k) ∧ p (8 * t + 1) ≠ nI 2) → jv_J g (d + 2) mt_M_reach 42 [some (.ref 647), some (.ref a), none, some (.int (nI (81 + 7 * k))), some (.int (nI t))] [] (jv_pw M a p w) 668 0 0 Z := by
    intro hn
    rw [if_neg hn] at hz
    refine b_M_reach_42 ?_
    simp (disch := omega) only [li, ne_eq, nI_add, pk_mul, nI_clamp, vin, hT, hl, tg_m, true_and, pw_at, pw_m, pw_w, pw_o, pw_r, si_pw, si_pww, nn_eq, nn_le, nn_lt, pk_div, rm2, or0, sub0, hr, hnc, hnh, hnt, hpr, hcode, hfirst, hgroup, hwhose, mr_5, mr_7, mr_8, mr_10, Option.some.injEq, exists_eq_left', tg_649, tg_650, tg_651, tg_652, sl_649, sl_650, sl_651, sl_652, et, er]
    refine ⟨fun c => ?_, fun c => ?_, fun c => ?_, fun c => ?_, fun c => ?_, fun c => ?_⟩
    · rw [if_pos c] at hz
      exact c_M_halt C0 (by omega) (jv_rv_i hz)
    · rw [if_neg (by rw [c]; decide), if_pos c] at hz
      exact c_M_resume C0 (by omega) (jv_rv_i hz)
    · rw [if_neg (by rw [c]; decide), if_neg (by rw [c]; decide), if_pos c] at hz
      exact c_M_reset C0 (by omega) (jv_rv_i hz)
    · rw [if_neg (by rw [c]; decide), if_neg (by rw [c]; decide), if_neg (by rw [c]; decide), if_pos c] at hz
      exact hz
    · rw [if_neg (by rw [c]; decide), if_neg (by rw [c]; decide), if_neg (by rw [c]; decide), if_neg (by rw [c]; decide), if_pos c] at hz
      exact hz
    · rw [if_neg c.1, if_neg c.2.1, if_neg c.2.2.1, if_neg c.2.2.2.1, if_neg c.2.2.2.2] at hz
      refine c_M_runBuffer C0 hB P (by omega) (jv_ri_i ?_)
      simp (disch := omega) only [li, ne_eq, nI_add, pk_mul, nI_clamp, vin, hT, hl, tg_m, true_and, pw_at, pw_m, pw_w, pw_o, pw_r, si_pw, si_pww, nn_eq, nn_le, nn_lt, pk_div, rm2, or0, sub0, hr, hnc, hnh, hnt, hpr, hcode, hfirst, hgroup, hwhose, mr_5, mr_7, mr_8, mr_10, Option.some.injEq, exists_eq_left', tg_649, tg_650, tg_651, tg_652, sl_649, sl_650, sl_651, sl_652]
      exact hz
  refine jv_ct rfl (Nat.le_of_ble_eq_true rfl) (b_M_reach_0 ?_)
  simp (disch := omega) only [li, ne_eq, nI_add, pk_mul, nI_clamp, vin, hT, hl, tg_m, true_and, pw_at, pw_m, pw_w, pw_o, pw_r, si_pw, si_pww, nn_eq, nn_le, nn_lt, pk_div, rm2, or0, sub0, hr, hnc, hnh, hnt, hpr, hcode, hfirst, hgroup, hwhose, mr_5, mr_7, mr_8, mr_10, Option.some.injEq, exists_eq_left', tg_649, tg_650, tg_651, tg_652, sl_649, sl_650, sl_651, sl_652, et, er]
  refine ⟨fun c => l (fun z => ?_), fun c => ⟨fun c2 => l (fun z => z.2 c2), fun c2 => ?_⟩⟩
  · rw [eq] at c z
    have c := (nI_leI (by omega) (by omega)).mp c
    have z := (nI_ltI (by omega) (by omega)).mp z.1
    omega
  · have hlt : nI 2 < p (81 + 7 * k) := by
      rw [eq] at c ⊢
      exact nI_lt (Nat.lt_of_not_le fun z => c (nI_le z (by omega))) (by omega)
    rw [if_pos ⟨hlt, c2⟩] at hz
    exact hz

theorem c_M_goRound (C : MX M B pr a) (hB : BV2 B) {m : Nat} (P : POK B m p) (A : AG B m p) (hz : Z none (jv_pw M a (P_round B 13 0 (p, w)).1 (P_round B 13 0 (p, w)).2) 668) : jv_Ct g (d + 3) mt_M_goRound [.ref 647, .ref a] (jv_pw M a p w) 668 0 0 Z := by
  have C0 := C
  obtain ⟨⟨hr, hnc, hnh, hnt, hpr, hcode, hfirst, hgroup, hwhose⟩, ⟨b1, b2, b3, b4, b5⟩, ha1, ha2⟩ := C
  have hT := tg_pg ha1 ha2
  have hl := sl_pg ha1 ha2
  have b2' : bd_nh B ≤ 4 := b2
  have l : ∀ (f k m : Nat) (p : Pg) (w : Int32), k ≤ m → m < k + f → k + f ≤ 13 → POK B m p → AG B m p → Z none (jv_pw M a (P_round B f k (p, w)).1 (P_round B f k (p, w)).2) 668 → jv_J g (d + 3) mt_M_goRound 2 [some (.ref 647), some (.ref a), some (.int (nI k)), none] [] (jv_pw M a p w) 668 0 0 Z := by
    intro f
    induction f with
    | zero => intro k m p w h1 h2; omega
    | succ f ih =>
      intro k m p w hk1 hk2 hk3 P A hz
      obtain ⟨n80, e80, o80⟩ := P.2.1 80
      have o80 := o80.2.2.2.2.2.1 rfl
      subst o80
      have hm := P.1
      unfold P_round at hz
      simp only [e80] at hz
      by_cases hk : k < n80
      · rw [if_pos (nI_lt hk (by omega))] at hz
        obtain ⟨q1, q2, q3⟩ := P_age_OK P hB A hk w
        have hage : ∀ i, i < n80 → i ≠ k → ∃ n, n ≤ bd_nh B ∧ (P_age B (p, w) k).1 (81 + 7 * i + 2) = nI n := by
          intro i hi hik
          rw [q2 _ (by omega) (by omega) (by omega) (by omega)]
          exact A i hi
        obtain ⟨n, hn, e⟩ := A k hk
        have e80' : (P_age B (p, w) k).1 80 = nI n80 := (q2 80 (by omega) (by omega) (by omega) (by omega)).trans e80
        have q3' := q3
        rw [e, nI_add] at q3'
        generalize hs : P_age B (p, w) k = s at *
        have l48 : jv_J g (d + 3) mt_M_goRound 48 [some (.ref 647), some (.ref a), some (.int (nI k)), some (.int (nI (81 + 7 * k)))] [] (jv_pw M a s.1 s.2) 668 0 0 Z := by
          have lb : s.1 (81 + 7 * k + 2) = nI (bd_nh B) + nI 1 → jv_Ct g (d + 2) mt_M_dropOrder [.ref a, .int (nI k)] (jv_pw M a (P_back s.1 k) s.2) 668 0 0 (fun v M4 N4 => jv_rv v (jv_J g (d + 3) mt_M_goRound 2 [some (.ref 647), some (.ref a), some (.int (nI k)), none] [] M4 N4 0 0 Z)) := by
            intro hb
            rw [if_pos hb] at hz
            obtain ⟨m1, rfl⟩ : ∃ m1, n80 = m1 + 1 := ⟨n80 - 1, by omega⟩
            obtain ⟨b1, b2⟩ := P_back_OK q1 hB hk
            obtain ⟨d1, d2, -⟩ := P_drop_OK b1 hB hk (fun i hi hik => by rw [b2 _ (by omega) (by omega)]; exact hage i hi hik)
            exact c_M_dropOrder C0 (m := m1) (by omega) (by omega) (by rw [b2 _ (by omega) (by omega)]; exact e80') (jv_rv_i (ih k m1 _ _ (by omega) (by omega) (by omega) d1 d2 hz))
          have l93 : s.1 (81 + 7 * k + 2) = nI (bd_nh B) + nI 1 → ∀ y, y = (if s.1 (81 + 7 * k) = nI 3 ∧ s.1 (81 + 7 * k + 3) = nI 0 then s.1 (81 + 7 * k + 6) else s.1 77) → jv_J g (d + 3) mt_M_goRound 93 [some (.ref 647), some (.ref a), some (.int (nI k)), some (.int (nI (81 + 7 * k)))] [.int y, .int (nI 77), .ref a] (jv_pw M a s.1 s.2) 668 0 0 Z := by
            intro hb y hy
            have lb := lb hb
            unfold P_back at lb
            rw [← hy] at lb
            refine b_M_goRound_93 ?_
            simp (disch := omega) only [li, ne_eq, nI_add, pk_mul, nI_clamp, vin, hT, hl, tg_m, true_and, pw_at, pw_m, pw_w, pw_o, pw_r, si_pw, si_pww, nn_eq, nn_le, nn_lt, pk_div, rm2, or0, sub0, hr, hnc, hnh, hnt, hpr, hcode, hfirst, hgroup, hwhose, mr_5, mr_7, mr_8, mr_10, Option.some.injEq, exists_eq_left', tg_649, tg_650, tg_651, tg_652, sl_649, sl_650, sl_651, sl_652]
            rw [pu_n s.1 y (show 81 + 7 * k ≠ 77 by omega), pu_n s.1 y (show 76 ≠ 77 by omega), pu_n s.1 y (show 81 + 7 * k + 3 ≠ 77 by omega)]
            obtain ⟨⟨q, hq, eq⟩, -⟩ := q1.ord hk
            refine ⟨fun c => ?_, fun c => ⟨fun c2 => ?_, fun c2 => ?_⟩⟩
            · refine b_M_goRound_123 ?_
              rw [if_neg (fun z => by rw [eq] at c z; have c := (nI_leI (by omega) (by omega)).mp c; have z := (nI_ltI (by omega) (by omega)).mp z.1; omega)] at lb
              simp (disch := omega) only [li, ne_eq, nI_add, pk_mul, nI_clamp, vin, hT, hl, tg_m, true_and, pw_at, pw_m, pw_w, pw_o, pw_r, si_pw, si_pww, nn_eq, nn_le, nn_lt, pk_div, rm2, or0, sub0, hr, hnc, hnh, hnt, hpr, hcode, hfirst, hgroup, hwhose, mr_5, mr_7, mr_8, mr_10, Option.some.injEq, exists_eq_left', tg_649, tg_650, tg_651, tg_652, sl_649, sl_650, sl_651, sl_652]
              exact lb
            · refine b_M_goRound_123 ?_
              rw [if_neg (fun z => c2 z.2)] at lb
              simp (disch := omega) only [li, ne_eq, nI_add, pk_mul, nI_clamp, vin, hT, hl, tg_m, true_and, pw_at, pw_m, pw_w, pw_o, pw_r, si_pw, si_pww, nn_eq, nn_le, nn_lt, pk_div, rm2, or0, sub0, hr, hnc, hnh, hnt, hpr, hcode, hfirst, hgroup, hwhose, mr_5, mr_7, mr_8, mr_10, Option.some.injEq, exists_eq_left', tg_649, tg_650, tg_651, tg_652, sl_649, sl_650, sl_651, sl_652]
              exact lb
            · refine b_M_goRound_123 ?_
              rw [if_pos ⟨by rw [eq] at c ⊢; exact nI_lt (Nat.lt_of_not_le fun z => c (nI_le z (by omega))) (by omega), c2⟩] at lb
              simp (disch := omega) only [li, ne_eq, nI_add, pk_mul, nI_clamp, vin, hT, hl, tg_m, true_and, pw_at, pw_m, pw_w, pw_o, pw_r, si_pw, si_pww, nn_eq, nn_le, nn_lt, pk_div, rm2, or0, sub0, hr, hnc, hnh, hnt, hpr, hcode, hfirst, hgroup, hwhose, mr_5, mr_7, mr_8, mr_10, Option.some.injEq, exists_eq_left', tg_649, tg_650, tg_651, tg_652, sl_649, sl_650, sl_651, sl_652]
              exact lb
          refine b_M_goRound_48 ?_
          simp (disch := omega) only [li, ne_eq, nI_add, pk_mul, nI_clamp, vin, hT, hl, tg_m, true_and, pw_at, pw_m, pw_w, pw_o, pw_r, si_pw, si_pww, nn_eq, nn_le, nn_lt, pk_div, rm2, or0, sub0, hr, hnc, hnh, hnt, hpr, hcode, hfirst, hgroup, hwhose, mr_5, mr_7, mr_8, mr_10, Option.some.injEq, exists_eq_left', tg_649, tg_650, tg_651, tg_652, sl_649, sl_650, sl_651, sl_652]
          refine ⟨fun c => ?_, fun c => ?_⟩
          · have hne : ¬ s.1 (81 + 7 * k + 2) = nI (bd_nh B) + nI 1 := by rw [nI_add]; exact c
            rw [if_neg hne] at hz
            refine ih (k + 1) n80 _ _ (by omega) (by omega) (by omega) q1 (fun i hi => ?_) hz
            by_cases hik : i = k
            · subst hik
              refine ⟨n + 1, ?_, q3'⟩
              have : n ≠ bd_nh B := fun z => hne (by rw [q3', z, nI_add])
              omega
            · exact hage i hi hik
          · have hb : s.1 (81 + 7 * k + 2) = nI (bd_nh B) + nI 1 := by rw [nI_add]; exact c
            refine ⟨fun c3 => l93 hb _ (by rw [if_neg (fun z => c3 z.1)]), fun c3 => ⟨fun c4 => l93 hb _ (by rw [if_neg (fun z => c4 z.2)]), fun c4 => l93 hb _ (by rw [if_pos ⟨c3, c4⟩])⟩⟩
        refine b_M_goRound_2 ?_
        simp (disch := omega) only [li, ne_eq, nI_add, pk_mul, nI_clamp, vin, hT, hl, tg_m, true_and, pw_at, pw_m, pw_w, pw_o, pw_r, si_pw, si_pww, nn_eq, nn_le, nn_lt, pk_div, rm2, or0, sub0, hr, hnc, hnh, hnt, hpr, hcode, hfirst, hgroup, hwhose, mr_5, mr_7, mr_8, mr_10, Option.some.injEq, exists_eq_left', tg_649, tg_650, tg_651, tg_652, sl_649, sl_650, sl_651, sl_652, e80]
        rw [pu_s, pu_n p _ (show 81 + 7 * k + 1 ≠ 81 + 7 * k + 2 by omega)]
        refine ⟨fun c => absurd c (by omega), fun _ => ⟨fun c => ?_, fun c => ?_⟩⟩
        · unfold P_age at hs
          rw [if_neg c] at hs
          rw [← hs] at l48
          exact l48
        · unfold P_age at hs
          rw [if_pos c] at hs
          refine c_M_reach C0 hB (P.otherOrd hB.1 (j := 81 + 7 * k + 2) (n := n + 1) (by omega) (by omega) (by omega) (by omega) |> fun x => by rw [e, nI_add]; exact x) hk (jv_rv_i ?_)
          rw [← hs] at l48
          exact l48
      · rw [if_neg (nI_nlt (by omega) (by omega))] at hz
        refine b_M_goRound_2 ?_
        simp (disch := omega) only [li, ne_eq, nI_add, pk_mul, nI_clamp, vin, hT, hl, tg_m, true_and, pw_at, pw_m, pw_w, pw_o, pw_r, si_pw, si_pww, nn_eq, nn_le, nn_lt, pk_div, rm2, or0, sub0, hr, hnc, hnh, hnt, hpr, hcode, hfirst, hgroup, hwhose, mr_5, mr_7, mr_8, mr_10, Option.some.injEq, exists_eq_left', tg_649, tg_650, tg_651, tg_652, sl_649, sl_650, sl_651, sl_652, e80]
        exact ⟨fun _ => hz, fun c => absurd (by omega) c⟩
  exact jv_ct rfl (Nat.le_of_ble_eq_true rfl) (b_M_goRound_0 (l 13 0 m p w (by omega) (by have := P.1; omega) (by omega) P A hz))

theorem c_M_isCaught (C : MX M B pr a) (hB : BV2 B) {m h : Nat} (P : POK B m p) (hh : h < 4) (hz : Z (some (.int (if (P_caught B pr h 7 0 p).2 then nI 1 else nI 0))) (jv_pw M a (P_caught B pr h 7 0 p).1 w) 668) : jv_Ct g (d + 2) mt_M_isCaught [.ref 647, .ref a, .int (nI h)] (jv_pw M a p w) 668 0 0 Z := by
  have C0 := C
  obtain ⟨⟨hr, hnc, hnh, hnt, hpr, hcode, hfirst, hgroup, hwhose⟩, ⟨b1, b2, b3, b4, b5⟩, ha1, ha2⟩ := C
  have hT := tg_pg ha1 ha2
  have hl := sl_pg ha1 ha2
  have lin : ∀ (f t l : Nat) (b : Bool) (p : Pg), POK B m p → t < bd_nt B → l < bd_nt B → bd_nt B ≤ l + f + 1 →
      (¬ ((P_chain B pr p f l b).2 = true ∧ bd_whose B t = h) → jv_J g (d + 2) mt_M_isCaught 2 [some (.ref 647), some (.ref a), some (.int (nI h)), some (.int (nI ((P_chain B pr p f l b).1 + 1))), none, none, none] [] (jv_pw M a p w) 668 0 0 Z) →
      ((P_chain B pr p f l b).2 = true ∧ bd_whose B t = h → ¬ p (40 + 6 * t + 4) - nI 1 = nI 0 → jv_J g (d + 2) mt_M_isCaught 2 [some (.ref 647), some (.ref a), some (.int (nI h)), some (.int (nI ((P_chain B pr p f l b).1 + 1))), none, none, none] [] (jv_pw M a (pu p (40 + 6 * t + 4) (p (40 + 6 * t + 4) - nI 1)) w) 668 0 0 Z) →
      ((P_chain B pr p f l b).2 = true ∧ bd_whose B t = h → p (40 + 6 * t + 4) - nI 1 = nI 0 → Z (some (.int (nI 1))) (jv_pw M a (pu (pu p (40 + 6 * t + 4) (p (40 + 6 * t + 4) - nI 1)) (40 + 6 * t + 4) (p (40 + 6 * t + 3))) w) 668) →
      jv_J g (d + 2) mt_M_isCaught 21 [some (.ref 647), some (.ref a), some (.int (nI h)), some (.int (nI t)), some (.int (nI l)), some (.int (if b then nI 1 else nI 0)), none] [] (jv_pw M a p w) 668 0 0 Z := by
    intro f
    induction f with
    | zero =>
      intro t l b p P ht hl' hf H0 H1 H2
      have hw := b4 t
      have hnl : P_lead B p l = false := by
        unfold P_lead
        rw [decide_eq_false (by omega), Bool.false_and, Bool.false_and]
      simp only [P_chain] at H0 H1 H2
      refine b_M_isCaught_21 ⟨tg_m, c_M_leads C0 (by omega) (jv_ri_i ?_)⟩
      rw [hnl]
      refine ⟨fun _ => ⟨fun c => ?_, fun c => ?_⟩, fun c => absurd rfl c⟩
      · rw [show nI l + 1 = nI (l + 1) from nI_1 l]
        refine H0 (fun z => ?_)
        rw [z.1, if_pos rfl] at c
        exact absurd c (by decide)
      · have hb : b = true := by
          cases b
          · exact absurd rfl c
          · rfl
        simp (disch := omega) only [li, ne_eq, nI_add, pk_mul, nI_clamp, vin, hT, hl, tg_m, true_and, pw_at, pw_m, pw_w, pw_o, pw_r, si_pw, si_pww, nn_eq, nn_le, nn_lt, pk_div, rm2, or0, sub0, hr, hnc, hnh, hnt, hpr, hcode, hfirst, hgroup, hwhose, mr_5, mr_7, mr_8, mr_10, Option.some.injEq, exists_eq_left', tg_649, tg_650, tg_651, tg_652, sl_649, sl_650, sl_651, sl_652]
        refine ⟨fun c2 => H0 (fun z => c2 z.2), fun c2 => ?_⟩
        rw [pu_s, pu_n p _ (show 40 + 6 * t + 3 ≠ 40 + 6 * t + 4 by omega)]
        exact ⟨fun c3 => H1 ⟨hb, c2⟩ c3, fun c3 => H2 ⟨hb, c2⟩ c3⟩
    | succ f ih =>
      intro t l b p P ht hl' hf H0 H1 H2
      have hw := b4 t
      by_cases hld : P_lead B p l = true
      · have hl2 : l + 1 < bd_nt B := by
          unfold P_lead at hld
          simp only [Bool.and_eq_true, decide_eq_true_eq] at hld
          exact hld.1.1
        unfold P_chain at H0 H1 H2
        rw [if_pos hld] at H0
        simp only [if_pos hld] at H1 H2
        obtain ⟨-, -, ⟨x, hx, ex⟩, -⟩ := P.trig hl2
        refine b_M_isCaught_21 ⟨tg_m, c_M_leads C0 (by omega) (jv_ri_i ?_)⟩
        rw [if_pos hld]
        have ih := ih t (l + 1) (b && P_match B pr p (l + 1)) p P ht hl2 (by omega) H0 H1 H2
        rw [show nI l + 1 = nI (l + 1) from nI_1 l]
        refine ⟨fun c => absurd c (by decide), fun _ => ⟨fun c => ?_, fun c => ⟨tg_m, c_M_matches C0 (by omega) ex hx (jv_ri_i ?_)⟩⟩⟩
        · have hb : b = false := by
            cases b
            · rfl
            · exact absurd c (by decide)
          subst hb
          exact ih
        · have hb : b = true := by
            cases b
            · exact absurd rfl c
            · rfl
          subst hb
          cases hmt : P_match B pr p (l + 1)
          · rw [hmt] at ih
            exact ⟨fun _ => ih, fun c => absurd rfl c⟩
          · rw [hmt] at ih
            exact ⟨fun c => absurd c (by decide), fun _ => ih⟩
      · unfold P_chain at H0 H1 H2
        simp only [if_neg hld] at H0 H1 H2
        refine b_M_isCaught_21 ⟨tg_m, c_M_leads C0 (by omega) (jv_ri_i ?_)⟩
        rw [if_neg hld]
        refine ⟨fun _ => ⟨fun c => ?_, fun c => ?_⟩, fun c => absurd rfl c⟩
        · rw [show nI l + 1 = nI (l + 1) from nI_1 l]
          refine H0 (fun z => ?_)
          rw [z.1, if_pos rfl] at c
          exact absurd c (by decide)
        · have hb : b = true := by
            cases b
            · exact absurd rfl c
            · rfl
          simp (disch := omega) only [li, ne_eq, nI_add, pk_mul, nI_clamp, vin, hT, hl, tg_m, true_and, pw_at, pw_m, pw_w, pw_o, pw_r, si_pw, si_pww, nn_eq, nn_le, nn_lt, pk_div, rm2, or0, sub0, hr, hnc, hnh, hnt, hpr, hcode, hfirst, hgroup, hwhose, mr_5, mr_7, mr_8, mr_10, Option.some.injEq, exists_eq_left', tg_649, tg_650, tg_651, tg_652, sl_649, sl_650, sl_651, sl_652]
          refine ⟨fun c2 => H0 (fun z => c2 z.2), fun c2 => ?_⟩
          rw [pu_s, pu_n p _ (show 40 + 6 * t + 3 ≠ 40 + 6 * t + 4 by omega)]
          exact ⟨fun c3 => H1 ⟨hb, c2⟩ c3, fun c3 => H2 ⟨hb, c2⟩ c3⟩
  have hch : ∀ (f l : Nat) (b : Bool) (p : Pg), l ≤ (P_chain B pr p f l b).1 ∧ (l < bd_nt B → (P_chain B pr p f l b).1 < bd_nt B) := by
    intro f
    induction f with
    | zero => intro l b p; exact ⟨Nat.le_refl _, id⟩
    | succ f ih =>
      intro l b p
      unfold P_chain
      by_cases hld : P_lead B p l = true
      · rw [if_pos hld]
        have hl2 : l + 1 < bd_nt B := by
          unfold P_lead at hld
          simp only [Bool.and_eq_true, decide_eq_true_eq] at hld
          exact hld.1.1
        have := ih (l + 1) (b && P_match B pr p (l + 1)) p
        exact ⟨by omega, fun _ => this.2 hl2⟩
      · rw [if_neg hld]; exact ⟨Nat.le_refl _, id⟩
  have lout : ∀ (f t : Nat) (p : Pg), POK B m p → bd_nt B < t + f → t ≤ bd_nt B → Z (some (.int (if (P_caught B pr h f t p).2 then nI 1 else nI 0))) (jv_pw M a (P_caught B pr h f t p).1 w) 668 → jv_J g (d + 2) mt_M_isCaught 2 [some (.ref 647), some (.ref a), some (.int (nI h)), some (.int (nI t)), none, none, none] [] (jv_pw M a p w) 668 0 0 Z := by
    intro f
    induction f with
    | zero => intro t p P h1 h2; omega
    | succ f ih =>
      intro t p P hf ht hz
      by_cases htn : t < bd_nt B
      · obtain ⟨-, -, ⟨x, hx, ex⟩, -⟩ := P.trig htn
        have hc := hch 6 t (P_match B pr p t) p
        have hc1 := hc.1
        have hc2 := hc.2 htn
        obtain ⟨⟨c, c1, c2, ec⟩, ⟨n, n1, n2, e⟩, -⟩ := P.trig htn
        unfold P_caught at hz
        simp only [if_pos htn] at hz
        refine b_M_isCaught_2 ?_
        simp (disch := omega) only [li, ne_eq, nI_add, pk_mul, nI_clamp, vin, hT, hl, tg_m, true_and, pw_at, pw_m, pw_w, pw_o, pw_r, si_pw, si_pww, nn_eq, nn_le, nn_lt, pk_div, rm2, or0, sub0, hr, hnc, hnh, hnt, hpr, hcode, hfirst, hgroup, hwhose, mr_5, mr_7, mr_8, mr_10, Option.some.injEq, exists_eq_left', tg_649, tg_650, tg_651, tg_652, sl_649, sl_650, sl_651, sl_652]
        refine ⟨fun c => absurd c (by omega), fun _ => c_M_matches C0 (by omega) ex hx (jv_ri_i (lin 6 t t (P_match B pr p t) p P htn htn (by omega) (fun hn => ?_) (fun hp hne => ?_) (fun hp he => ?_)))⟩
        · rw [if_neg hn] at hz
          exact ih _ p P (by omega) (by omega) hz
        · rw [if_pos hp, if_neg hne] at hz
          have Q : POK B m (pu p (40 + 6 * t + 4) (p (40 + 6 * t + 4) - nI 1)) := by
            have hn1 : n - 1 ≠ 0 := by
              intro z
              apply hne
              rw [e, pk_sub (by omega), z]
            rw [e, pk_sub (by omega)]
            exact P.trigleft htn hB.1 (by omega)
          exact ih _ _ Q (by omega) (by omega) hz
        · rw [if_pos hp, if_pos he] at hz
          exact hz
      · unfold P_caught at hz
        simp only [if_neg htn] at hz
        refine b_M_isCaught_2 ?_
        simp (disch := omega) only [li, ne_eq, nI_add, pk_mul, nI_clamp, vin, hT, hl, tg_m, true_and, pw_at, pw_m, pw_w, pw_o, pw_r, si_pw, si_pww, nn_eq, nn_le, nn_lt, pk_div, rm2, or0, sub0, hr, hnc, hnh, hnt, hpr, hcode, hfirst, hgroup, hwhose, mr_5, mr_7, mr_8, mr_10, Option.some.injEq, exists_eq_left', tg_649, tg_650, tg_651, tg_652, sl_649, sl_650, sl_651, sl_652]
        exact ⟨fun _ => hz, fun c => absurd (by omega) c⟩
  exact jv_ct rfl (Nat.le_of_ble_eq_true rfl) (b_M_isCaught_0 (lout 7 0 p P (by omega) (by omega) hz))

theorem c_M_runHart (C : MX M B pr a) (hB : BV2 B) {m h : Nat} (P : POK B m p) (hh : h < 4) (hz : Z none (jv_pw M a (P_run B pr (p, w) h).1 (P_run B pr (p, w) h).2) 668) : jv_Ct g (d + 3) mt_M_runHart [.ref 647, .ref a, .int (nI h)] (jv_pw M a p w) 668 0 0 Z := by
  have C0 := C
  obtain ⟨⟨hr, hnc, hnh, hnt, hpr, hcode, hfirst, hgroup, hwhose⟩, ⟨b1, b2, b3, b4, b5⟩, ha1, ha2⟩ := C
  have hT := tg_pg ha1 ha2
  have hl := sl_pg ha1 ha2
  obtain ⟨⟨n8, hn8, e8⟩, -⟩ := P.hartp hh
  obtain ⟨w1, w2, w3⟩ := P_wrap_OK P hB hh
  obtain ⟨c1, c2⟩ := P_caught_OK hB pr h 7 0 _ w1
  have l40 : p (8 * h + 1) = nI 0 → bd_nc B ≠ 0 → jv_J g (d + 3) mt_M_runHart 40 [some (.ref 647), some (.ref a), some (.int (nI h)), some (.int (nI (8 * h))), none] [.int (if nI (bd_nc B) ≤ p (8 * h) then nI 0 else p (8 * h)), .int (nI (8 * h)), .ref a] (jv_pw M a p w) 668 0 0 Z := by
    intro h0 hnc0
    obtain ⟨n, hn, en⟩ := w3 hnc0
    have e8' : (P_caught B pr h 7 0 (P_wrap B p h)).1 (8 * h) = nI n := by rw [c2 _ (fun t ht => by omega), en]
    unfold P_run at hz
    simp only [if_pos (And.intro h0 hnc0)] at hz
    have hcv := hB.2.1 n hn
    have hu := b5 n
    refine b_M_runHart_40 ?_
    simp (disch := omega) only [li, ne_eq, nI_add, pk_mul, nI_clamp, vin, hT, hl, tg_m, true_and, pw_at, pw_m, pw_w, pw_o, pw_r, si_pw, si_pww, nn_eq, nn_le, nn_lt, pk_div, rm2, or0, sub0, hr, hnc, hnh, hnt, hpr, hcode, hfirst, hgroup, hwhose, mr_5, mr_7, mr_8, mr_10, Option.some.injEq, exists_eq_left', tg_649, tg_650, tg_651, tg_652, sl_649, sl_650, sl_651, sl_652]
    rw [show pu p (8 * h) (if nI (bd_nc B) ≤ p (8 * h) then nI 0 else p (8 * h)) = P_wrap B p h from rfl]
    refine c_M_isCaught C0 hB w1 hh (jv_ri_i ?_)
    generalize hs : P_caught B pr h 7 0 (P_wrap B p h) = s at *
    refine ⟨fun c => ?_, fun c => ?_⟩
    · have hf : ¬ s.2 = true := fun z => by rw [z] at c; exact absurd c (by decide)
      rw [if_neg hf, e8', nI_clamp (by omega), nI_add] at hz
      simp (disch := omega) only [li, ne_eq, nI_add, pk_mul, nI_clamp, vin, hT, hl, tg_m, true_and, pw_at, pw_m, pw_w, pw_o, pw_r, si_pw, si_pww, nn_eq, nn_le, nn_lt, pk_div, rm2, or0, sub0, hr, hnc, hnh, hnt, hpr, hcode, hfirst, hgroup, hwhose, mr_5, mr_7, mr_8, mr_10, Option.some.injEq, exists_eq_left', tg_649, tg_650, tg_651, tg_652, sl_649, sl_650, sl_651, sl_652, e8']
      unfold P_instr at hz
      refine ⟨fun c6 => ⟨fun c0 => ?_, fun c0 => ?_⟩, fun c7 => ?_, fun c8 => ?_, fun cd => ?_⟩
      · rw [if_pos c6, if_pos c0] at hz
        exact hz
      · rw [if_pos c6, if_neg c0] at hz
        exact hz
      · rw [if_neg (by omega), if_pos c7] at hz
        exact hz
      · rw [if_neg (by omega), if_neg (by omega), if_pos c8] at hz
        exact c_M_halt C0 hh (jv_rv_i hz)
      · rw [if_neg cd.1, if_neg cd.2.1, if_neg cd.2.2] at hz
        exact c_M_doPlain C0 hh hu (jv_rv_i hz)
    · have hf : s.2 = true := by
        cases hs2 : s.2
        · rw [hs2] at c; exact absurd rfl c
        · rfl
      rw [if_pos hf] at hz
      exact c_M_halt C0 hh (jv_rv_i hz)
  refine jv_ct rfl (Nat.le_of_ble_eq_true rfl) (b_M_runHart_0 ?_)
  simp (disch := omega) only [li, ne_eq, nI_add, pk_mul, nI_clamp, vin, hT, hl, tg_m, true_and, pw_at, pw_m, pw_w, pw_o, pw_r, si_pw, si_pww, nn_eq, nn_le, nn_lt, pk_div, rm2, or0, sub0, hr, hnc, hnh, hnt, hpr, hcode, hfirst, hgroup, hwhose, mr_5, mr_7, mr_8, mr_10, Option.some.injEq, exists_eq_left', tg_649, tg_650, tg_651, tg_652, sl_649, sl_650, sl_651, sl_652]
  refine ⟨fun c => ?_, fun c => ⟨fun cn => ⟨fun c3 => ?_, fun c3 => ?_⟩, fun cn => ?_⟩⟩
  · unfold P_run at hz
    simp only [if_neg (fun z : p (8 * h + 1) = nI 0 ∧ bd_nc B ≠ 0 => c z.1)] at hz
    exact hz
  · have l40 := l40 c cn
    rw [if_neg (fun z => by rw [e8] at c3 z; have c3 := (nI_ltI (by omega) (by omega)).mp c3; have z := (nI_leI (by omega) (by omega)).mp z; omega)] at l40
    exact l40
  · have l40 := l40 c cn
    rw [if_pos (by rw [e8] at c3 ⊢; exact nI_le (Nat.le_of_not_lt fun z => c3 (nI_lt z (by omega))) (by omega))] at l40
    exact l40
  · unfold P_run at hz
    simp only [if_neg (fun z : p (8 * h + 1) = nI 0 ∧ bd_nc B ≠ 0 => z.2 cn)] at hz
    exact hz

theorem c_M_tickOn (C : MX M B pr a) (hB : BV2 B) (P0 : POA B 12 p) (hz : Z none (jv_pw M a (P_tick B pr p).1 (P_tick B pr p).2) 668) : jv_Ct g (d + 4) mt_M_tickOn [.ref 647, .ref a] (jv_pw M a p w) 668 0 0 Z := by
  have C0 := C
  obtain ⟨⟨hr, hnc, hnh, hnt, hpr, hcode, hfirst, hgroup, hwhose⟩, ⟨b1, b2, b3, b4, b5⟩, ha1, ha2⟩ := C
  have hT := tg_pg ha1 ha2
  have hl := sl_pg ha1 ha2
  obtain ⟨m0, hm0, P, A⟩ := P0
  obtain ⟨m1, hm1, P1, A1⟩ := P_round_OK hB 13 0 m0 p (nI 0) (by omega) P A
  have hb := hB.1.2.1
  unfold P_tick at hz
  generalize hwas : P_hset p (bd_nh B) = was at *
  generalize hs1 : P_round B 13 0 (p, nI 0) = s1 at *
  obtain ⟨R1, R2⟩ := P_runs_OK P1 hB pr s1.2
  change POK B m1 (P_runs B pr s1).1 at R1
  have e2 : P_runs B pr s1 = itN (fun h s => P_run B pr s h) (bd_nh B) s1 := rfl
  generalize hs2 : P_runs B pr s1 = s2 at *
  generalize hnow : P_hset s2.1 (bd_nh B) = now at *
  -- waking
  have lw : ∀ (q : Pg), s2.2 ≠ nI 0 → ∀ (n i : Nat), i + n = bd_nh B → Z none (jv_pw M a (itN (fun h p => pu (pu p (8 * h + 1) (if p (8 * h + 1) = nI 1 then nI 0 else p (8 * h + 1))) (8 * h + 2) (nI 0)) (bd_nh B) q) s2.2) 668 → jv_J g (d + 4) mt_M_tickOn 173 [some (.ref 647), some (.ref a), none, none, some (.int (nI i)), none, none] [] (jv_pw M a (itN (fun h p => pu (pu p (8 * h + 1) (if p (8 * h + 1) = nI 1 then nI 0 else p (8 * h + 1))) (8 * h + 2) (nI 0)) i q) s2.2) 668 0 0 Z := by
    intro q hne n
    induction n with
    | zero =>
      intro i hi hz
      have hi : i = bd_nh B := by omega
      subst hi
      refine b_M_tickOn_173 ?_
      simp (disch := omega) only [li, ne_eq, nI_add, pk_mul, nI_clamp, vin, hT, hl, tg_m, true_and, pw_at, pw_m, pw_w, pw_o, pw_r, si_pw, si_pww, nn_eq, nn_le, nn_lt, pk_div, rm2, or0, sub0, hr, hnc, hnh, hnt, hpr, hcode, hfirst, hgroup, hwhose, mr_5, mr_7, mr_8, mr_10, Option.some.injEq, exists_eq_left', tg_649, tg_650, tg_651, tg_652, sl_649, sl_650, sl_651, sl_652]
      exact ⟨fun _ => hz, fun c => absurd (Nat.le_refl _) c⟩
    | succ n ih =>
      intro i hi hz
      have ih := ih (i + 1) (by omega) hz
      simp only [itN] at ih
      refine b_M_tickOn_173 ?_
      simp (disch := omega) only [li, ne_eq, nI_add, pk_mul, nI_clamp, vin, hT, hl, tg_m, true_and, pw_at, pw_m, pw_w, pw_o, pw_r, si_pw, si_pww, nn_eq, nn_le, nn_lt, pk_div, rm2, or0, sub0, hr, hnc, hnh, hnt, hpr, hcode, hfirst, hgroup, hwhose, mr_5, mr_7, mr_8, mr_10, Option.some.injEq, exists_eq_left', tg_649, tg_650, tg_651, tg_652, sl_649, sl_650, sl_651, sl_652]
      refine ⟨fun c => absurd c (by omega), fun _ => ⟨fun c => absurd c hne, fun _ => ⟨fun c => ?_, fun c => ?_⟩⟩⟩
      · rwa [if_neg c] at ih
      · rwa [if_pos c] at ih
  have l173 : ∀ (q : Pg), Z none (jv_pw M a (P_wake B (q, s2.2)) s2.2) 668 → jv_J g (d + 4) mt_M_tickOn 173 [some (.ref 647), some (.ref a), none, none, some (.int (nI 0)), none, none] [] (jv_pw M a q s2.2) 668 0 0 Z := by
    intro q hz
    unfold P_wake at hz
    by_cases hw0 : s2.2 = nI 0
    · rw [if_pos hw0] at hz
      refine b_M_tickOn_173 ?_
      simp (disch := omega) only [li, ne_eq, nI_add, pk_mul, nI_clamp, vin, hT, hl, tg_m, true_and, pw_at, pw_m, pw_w, pw_o, pw_r, si_pw, si_pww, nn_eq, nn_le, nn_lt, pk_div, rm2, or0, sub0, hr, hnc, hnh, hnt, hpr, hcode, hfirst, hgroup, hwhose, mr_5, mr_7, mr_8, mr_10, Option.some.injEq, exists_eq_left', tg_649, tg_650, tg_651, tg_652, sl_649, sl_650, sl_651, sl_652]
      exact ⟨fun _ => hz, fun _ => ⟨fun _ => hz, fun c => absurd hw0 c⟩⟩
    · rw [if_neg hw0] at hz
      exact lw q hw0 (bd_nh B) 0 (by omega) hz
  -- a group
  have lg : ∀ (k : Nat) (q : Pg), k = 1 ∨ k = 2 → jv_J g (d + 4) mt_M_tickOn 53 [some (.ref 647), some (.ref a), some (.int was), some (.int now), some (.int (nI (k + 1))), none, none] [] (jv_pw M a (P_grp B was now k q) s2.2) 668 0 0 Z → jv_J g (d + 4) mt_M_tickOn 53 [some (.ref 647), some (.ref a), some (.int was), some (.int now), some (.int (nI k)), none, none] [] (jv_pw M a q s2.2) 668 0 0 Z := by
    intro k q hk hj
    unfold P_grp at hj
    have l125 : ∀ (x5 : Int32), (x5 = nI 0 → ¬ P_stops B was now k (bd_nh B) = true) → (¬ x5 = nI 0 → P_stops B was now k (bd_nh B) = true) → ∀ (n i : Nat), i + n = bd_nh B → jv_J g (d + 4) mt_M_tickOn 125 [some (.ref 647), some (.ref a), some (.int was), some (.int now), some (.int (nI k)), some (.int x5), some (.int (nI i))] [] (jv_pw M a (itN (fun h p => if P_stops B was now k (bd_nh B) = true ∧ bd_group B h = nI k then P_halt p h (nI 4) else p) i q) s2.2) 668 0 0 Z := by
      intro x5 hx0 hx1 n
      induction n with
      | zero =>
        intro i hi
        have hi : i = bd_nh B := by omega
        subst hi
        refine b_M_tickOn_125 ?_
        simp (disch := omega) only [li, ne_eq, nI_add, pk_mul, nI_clamp, vin, hT, hl, tg_m, true_and, pw_at, pw_m, pw_w, pw_o, pw_r, si_pw, si_pww, nn_eq, nn_le, nn_lt, pk_div, rm2, or0, sub0, hr, hnc, hnh, hnt, hpr, hcode, hfirst, hgroup, hwhose, mr_5, mr_7, mr_8, mr_10, Option.some.injEq, exists_eq_left', tg_649, tg_650, tg_651, tg_652, sl_649, sl_650, sl_651, sl_652]
        exact ⟨fun _ => hj, fun c => absurd (Nat.le_refl _) c⟩
      | succ n ih =>
        intro i hi
        have ih := ih (i + 1) (by omega)
        simp only [itN] at ih
        refine b_M_tickOn_125 ?_
        simp (disch := omega) only [li, ne_eq, nI_add, pk_mul, nI_clamp, vin, hT, hl, tg_m, true_and, pw_at, pw_m, pw_w, pw_o, pw_r, si_pw, si_pww, nn_eq, nn_le, nn_lt, pk_div, rm2, or0, sub0, hr, hnc, hnh, hnt, hpr, hcode, hfirst, hgroup, hwhose, mr_5, mr_7, mr_8, mr_10, Option.some.injEq, exists_eq_left', tg_649, tg_650, tg_651, tg_652, sl_649, sl_650, sl_651, sl_652]
        refine ⟨fun c => absurd c (by omega), fun _ => ⟨fun c => ?_, fun c => ⟨fun c2 => ?_, fun c2 => ?_⟩⟩⟩
        · rwa [if_neg (fun z => hx0 c z.1)] at ih
        · rwa [if_neg (fun z => c2 z.2)] at ih
        · rw [if_pos ⟨hx1 c, c2⟩] at ih
          exact c_M_halt C0 (by omega) (jv_rv_i ih)
    have l65 : ∀ (n i : Nat), i + n = bd_nh B → jv_J g (d + 4) mt_M_tickOn 65 [some (.ref 647), some (.ref a), some (.int was), some (.int now), some (.int (nI k)), some (.int (if P_stops B was now k i = true then nI 1 else nI 0)), some (.int (nI i))] [] (jv_pw M a q s2.2) 668 0 0 Z := by
      intro n
      induction n with
      | zero =>
        intro i hi
        have hi : i = bd_nh B := by omega
        subst hi
        refine b_M_tickOn_65 ?_
        simp (disch := omega) only [li, ne_eq, nI_add, pk_mul, nI_clamp, vin, hT, hl, tg_m, true_and, pw_at, pw_m, pw_w, pw_o, pw_r, si_pw, si_pww, nn_eq, nn_le, nn_lt, pk_div, rm2, or0, sub0, hr, hnc, hnh, hnt, hpr, hcode, hfirst, hgroup, hwhose, mr_5, mr_7, mr_8, mr_10, Option.some.injEq, exists_eq_left', tg_649, tg_650, tg_651, tg_652, sl_649, sl_650, sl_651, sl_652]
        exact ⟨fun _ => l125 _ (fun c z => by rw [if_pos z] at c; exact absurd c (by decide)) (fun c => by cases hst : P_stops B was now k (bd_nh B) with | false => rw [hst] at c; exact absurd rfl c | true => rfl) (bd_nh B) 0 (by omega), fun c => absurd (Nat.le_refl _) c⟩
      | succ n ih =>
        intro i hi
        have ih := ih (i + 1) (by omega)
        refine b_M_tickOn_65 ?_
        simp (disch := omega) only [li, ne_eq, nI_add, pk_mul, nI_clamp, vin, hT, hl, tg_m, true_and, pw_at, pw_m, pw_w, pw_o, pw_r, si_pw, si_pww, nn_eq, nn_le, nn_lt, pk_div, rm2, or0, sub0, hr, hnc, hnh, hnt, hpr, hcode, hfirst, hgroup, hwhose, mr_5, mr_7, mr_8, mr_10, Option.some.injEq, exists_eq_left', tg_649, tg_650, tg_651, tg_652, sl_649, sl_650, sl_651, sl_652]
        refine ⟨fun c => absurd c (by omega), fun _ => ⟨fun c => ?_, fun c => ⟨fun c2 => ?_, fun c2 => c_M_has (jv_ri_i ⟨fun c3 => ?_, fun c3 => c_M_has (jv_ri_i ⟨fun c4 => ?_, fun c4 => ?_⟩)⟩)⟩⟩⟩
        · cases hst : P_stops B was now k i
          · rw [hst] at c; exact absurd rfl c
          · rw [show P_stops B was now k (i + 1) = true by simp [P_stops, hst]] at ih; exact ih
        · cases hst : P_stops B was now k i
          · rw [show P_stops B was now k (i + 1) = false by simp [P_stops, hst, c2]] at ih; exact ih
          · rw [hst] at c; exact absurd c (by decide)
        · cases hst : P_stops B was now k i
          · cases hbt : P_bit now i
            · rw [show P_stops B was now k (i + 1) = false by simp [P_stops, hst, hbt]] at ih; exact ih
            · rw [hbt] at c3; exact absurd c3 (by decide)
          · rw [hst] at c; exact absurd c (by decide)
        · cases hst : P_stops B was now k i
          · cases hbt : P_bit was i
            · rw [hbt] at c4; exact absurd rfl c4
            · rw [show P_stops B was now k (i + 1) = false by simp [P_stops, hst, hbt]] at ih; exact ih
          · rw [hst] at c; exact absurd c (by decide)
        · cases hst : P_stops B was now k i
          · cases hbt : P_bit was i
            · cases hbn : P_bit now i
              · rw [hbn] at c3; exact absurd rfl c3
              · rw [show P_stops B was now k (i + 1) = true by simp [P_stops, hst, hbt, hbn, c2]] at ih; exact ih
            · rw [hbt] at c4; exact absurd c4 (by decide)
          · rw [hst] at c; exact absurd c (by decide)
    refine b_M_tickOn_53 ?_
    simp (disch := omega) only [li, ne_eq, nI_add, pk_mul, nI_clamp, vin, hT, hl, tg_m, true_and, pw_at, pw_m, pw_w, pw_o, pw_r, si_pw, si_pww, nn_eq, nn_le, nn_lt, pk_div, rm2, or0, sub0, hr, hnc, hnh, hnt, hpr, hcode, hfirst, hgroup, hwhose, mr_5, mr_7, mr_8, mr_10, Option.some.injEq, exists_eq_left', tg_649, tg_650, tg_651, tg_652, sl_649, sl_650, sl_651, sl_652]
    exact ⟨fun c => absurd c (by omega), fun _ => l65 (bd_nh B) 0 (by omega)⟩
  have l53 : jv_J g (d + 4) mt_M_tickOn 53 [some (.ref 647), some (.ref a), some (.int was), some (.int now), some (.int (nI 1)), none, none] [] (jv_pw M a s2.1 s2.2) 668 0 0 Z := by
    refine lg 1 _ (Or.inl rfl) (lg 2 _ (Or.inr rfl) (b_M_tickOn_53 ?_))
    simp (disch := omega) only [li, ne_eq, nI_add, pk_mul, nI_clamp, vin, hT, hl, tg_m, true_and, pw_at, pw_m, pw_w, pw_o, pw_r, si_pw, si_pww, nn_eq, nn_le, nn_lt, pk_div, rm2, or0, sub0, hr, hnc, hnh, hnt, hpr, hcode, hfirst, hgroup, hwhose, mr_5, mr_7, mr_8, mr_10, Option.some.injEq, exists_eq_left', tg_649, tg_650, tg_651, tg_652, sl_649, sl_650, sl_651, sl_652]
    exact ⟨fun _ => l173 _ hz, fun c => absurd (Nat.le_refl _) c⟩
  have l21 : ∀ (n i : Nat), i + n = bd_nh B → jv_J g (d + 4) mt_M_tickOn 21 [some (.ref 647), some (.ref a), some (.int was), some (.int (nI i)), none, none, none] [] (jv_pw M a (itN (fun h s => P_run B pr s h) i s1).1 (itN (fun h s => P_run B pr s h) i s1).2) 668 0 0 Z := by
    intro n
    induction n with
    | zero =>
      intro i hi
      have hi : i = bd_nh B := by omega
      subst hi
      rw [← e2]
      refine b_M_tickOn_21 ?_
      simp (disch := omega) only [li, ne_eq, nI_add, pk_mul, nI_clamp, vin, hT, hl, tg_m, true_and, pw_at, pw_m, pw_w, pw_o, pw_r, si_pw, si_pww, nn_eq, nn_le, nn_lt, pk_div, rm2, or0, sub0, hr, hnc, hnh, hnt, hpr, hcode, hfirst, hgroup, hwhose, mr_5, mr_7, mr_8, mr_10, Option.some.injEq, exists_eq_left', tg_649, tg_650, tg_651, tg_652, sl_649, sl_650, sl_651, sl_652]
      refine ⟨fun _ => c_M_haltedOf C0 (by omega) (jv_ri_i ?_), fun c => absurd (Nat.le_refl _) c⟩
      rw [hnow]
      exact l53
    | succ n ih =>
      intro i hi
      have ih := ih (i + 1) (by omega)
      simp only [itN] at ih
      have Q : POK B m1 (itN (fun h s => P_run B pr s h) i s1).1 := itN_ind (I := fun s : Ps => POK B m1 s.1) i s1 P1 (fun h s hh Q => (P_run_OK Q hB pr s.2 (by omega)).1)
      refine b_M_tickOn_21 ?_
      simp (disch := omega) only [li, ne_eq, nI_add, pk_mul, nI_clamp, vin, hT, hl, tg_m, true_and, pw_at, pw_m, pw_w, pw_o, pw_r, si_pw, si_pww, nn_eq, nn_le, nn_lt, pk_div, rm2, or0, sub0, hr, hnc, hnh, hnt, hpr, hcode, hfirst, hgroup, hwhose, mr_5, mr_7, mr_8, mr_10, Option.some.injEq, exists_eq_left', tg_649, tg_650, tg_651, tg_652, sl_649, sl_650, sl_651, sl_652]
      exact ⟨fun c => absurd c (by omega), fun _ => c_M_runHart C0 hB Q (by omega) (jv_rv_i ih)⟩
  refine jv_ct rfl (Nat.le_of_ble_eq_true rfl) (b_M_tickOn_0 ?_)
  simp (disch := omega) only [li, ne_eq, nI_add, pk_mul, nI_clamp, vin, hT, hl, tg_m, true_and, pw_at, pw_m, pw_w, pw_o, pw_r, si_pw, si_pww, nn_eq, nn_le, nn_lt, pk_div, rm2, or0, sub0, hr, hnc, hnh, hnt, hpr, hcode, hfirst, hgroup, hwhose, mr_5, mr_7, mr_8, mr_10, Option.some.injEq, exists_eq_left', tg_649, tg_650, tg_651, tg_652, sl_649, sl_650, sl_651, sl_652]
  refine c_M_haltedOf C0 (by omega) (jv_ri_i ?_)
  simp (disch := omega) only [li, ne_eq, nI_add, pk_mul, nI_clamp, vin, hT, hl, tg_m, true_and, pw_at, pw_m, pw_w, pw_o, pw_r, si_pw, si_pww, nn_eq, nn_le, nn_lt, pk_div, rm2, or0, sub0, hr, hnc, hnh, hnt, hpr, hcode, hfirst, hgroup, hwhose, mr_5, mr_7, mr_8, mr_10, Option.some.injEq, exists_eq_left', tg_649, tg_650, tg_651, tg_652, sl_649, sl_650, sl_651, sl_652]
  refine c_M_goRound C0 hB P A (jv_rv_i ?_)
  rw [hs1, hwas]
  exact l21 (bd_nh B) 0 (by omega)

/-- n ticks -/
def P_ticks (B : Bd) (pr : Int32) : Nat → Ps → Ps
  | 0, s => s
  | n + 1, s => P_ticks B pr n (P_tick B pr s.1)
theorem P_ticks_OK (hB : BV2 B) (pr : Int32) : ∀ (n : Nat) (s : Ps), POA B 12 s.1 → POA B 12 (P_ticks B pr n s).1
  | 0, _, P => P
  | n + 1, s, P => P_ticks_OK hB pr n _ (P_tick_OK P hB pr)
theorem c_M_tickMany (C : MX M B pr a) (hB : BV2 B) (P : POA B 12 p) {n : Nat} (hn : n ≤ 1000) (hz : Z none (jv_pw M a (P_ticks B pr n (p, w)).1 (P_ticks B pr n (p, w)).2) 668) : jv_Ct g (d + 5) mt_M_tickMany [.ref 647, .ref a, .int (nI n)] (jv_pw M a p w) 668 0 0 Z := by
  have C0 := C
  obtain ⟨⟨hr, hnc, hnh, hnt, hpr, hcode, hfirst, hgroup, hwhose⟩, ⟨b1, b2, b3, b4, b5⟩, ha1, ha2⟩ := C
  have hT := tg_pg ha1 ha2
  have hl := sl_pg ha1 ha2
  have l : ∀ (m i : Nat) (s : Ps), i + m = n → POA B 12 s.1 → Z none (jv_pw M a (P_ticks B pr m s).1 (P_ticks B pr m s).2) 668 → jv_J g (d + 5) mt_M_tickMany 2 [some (.ref 647), some (.ref a), some (.int (nI n)), some (.int (nI i))] [] (jv_pw M a s.1 s.2) 668 0 0 Z := by
    intro m
    induction m with
    | zero =>
      intro i s hi P hz
      refine b_M_tickMany_2 ?_
      simp (disch := omega) only [li, ne_eq, nI_add, pk_mul, nI_clamp, vin, hT, hl, tg_m, true_and, pw_at, pw_m, pw_w, pw_o, pw_r, si_pw, si_pww, nn_eq, nn_le, nn_lt, pk_div, rm2, or0, sub0, hr, hnc, hnh, hnt, hpr, hcode, hfirst, hgroup, hwhose, mr_5, mr_7, mr_8, mr_10, Option.some.injEq, exists_eq_left', tg_649, tg_650, tg_651, tg_652, sl_649, sl_650, sl_651, sl_652]
      exact ⟨fun _ => hz, fun c => absurd (by omega) c⟩
    | succ m ih =>
      intro i s hi P hz
      refine b_M_tickMany_2 ?_
      simp (disch := omega) only [li, ne_eq, nI_add, pk_mul, nI_clamp, vin, hT, hl, tg_m, true_and, pw_at, pw_m, pw_w, pw_o, pw_r, si_pw, si_pww, nn_eq, nn_le, nn_lt, pk_div, rm2, or0, sub0, hr, hnc, hnh, hnt, hpr, hcode, hfirst, hgroup, hwhose, mr_5, mr_7, mr_8, mr_10, Option.some.injEq, exists_eq_left', tg_649, tg_650, tg_651, tg_652, sl_649, sl_650, sl_651, sl_652]
      exact ⟨fun c => absurd c (by omega), fun _ => c_M_tickOn C0 hB P (jv_rv_i (ih (i + 1) _ (by omega) (P_tick_OK P hB pr) hz))⟩
  exact jv_ct rfl (Nat.le_of_ble_eq_true rfl) (b_M_tickMany_0 (l n 0 (p, w) (by omega) P hz))

end CN
