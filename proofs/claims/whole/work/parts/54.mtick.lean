section CN
variable {g : jv_G} {d : Nat} {M : jv_Mem} {Z : Option Value → jv_Mem → Nat → Prop} {B : Bd} {pr w : Int32} {p : Pg} {a : Nat}
theorem c_M_reach (C : MX M B pr a) (hB : BV2 B) {m k : Nat} (P : POK B m p) (hk : k < m) (hz : Z none (jv_pw M a (P_reach B (p, w) k).1 (P_reach B (p, w) k).2) 668) : jv_Ct g (d + 2) mt_M_reach [.ref 647, .ref a, .int (nI k)] (jv_pw M a p w) 668 0 0 Z := by
  have C0 := C
  obtain ⟨⟨hr, hnc, hnh, hnt, hpr, hcode, hfirst, hgroup, hwhose⟩, ⟨b1, b2, b3, b4, b5⟩, ha1, ha2⟩ := C
  have hT := tg_pg ha1 ha2
  have hl := sl_pg ha1 ha2
  obtain ⟨⟨q, hq, eq⟩, ⟨t, ht, et⟩, -, -, ⟨r, hr4, er⟩⟩ := P.ord hk
  have hm := P.1
  unfold P_reach at hz
  simp only [et, er] at hz
  rw [nI_clamp (by omega), nI_clamp (by omega)] at hz
  have l : ¬ (nI 2 < p (81 + 7 * k) ∧ p (8 * t + 1) ≠ nI 2) → jv_J g (d + 2) mt_M_reach 42 [some (.ref 647), some (.ref a), none, some (.int (nI (81 + 7 * k))), some (.int (nI t))] [] (jv_pw M a p w) 668 0 0 Z := by
    intro hn
    rw [if_neg hn] at hz
    refine b_M_reach_42 ?_
    simp (disch := omega) only [li, ne_eq, nI_add, pk_mul, nI_clamp, vin, hT, hl, tg_m, true_and, pw_at, pw_m, pw_w, pw_o, pw_r, si_pw, si_pww, nn_eq, nn_le, nn_lt, pk_div, rm2, or0, sub0, hr, hnc, hnh, hnt, hpr, hcode, hfirst, hgroup, hwhose, mr_5, mr_7, mr_8, mr_10, Option.some.injEq, exists_eq_left', tg_649, tg_650, tg_651, tg_652, sl_649, sl_650, sl_651, sl_652, et, er]
    refine ⟨fun c => ?_, fun c => ?_, fun c => ?_, fun c => ?_, fun c => ?_, fun c => ?_⟩
    · rw [if_pos c] at hz
      exact c_M_halt C0 (by omega) (jv_rv_i hz)
    · rw [if_neg (by rw [c]; decide), if_pos c] at hz
      exact c_M_resume C0 (by omega) (jv_rv_i hz)
    · rw [if_neg (by rw [c]; decide), if_neg (by rw [c]; decide), if_pos c] at hz
      exact c_M_reset C0 (by omega) (jv_rv_i hz)
    · rw [if_neg (by rw [c]; decide), if_neg (by rw [c]; decide), if_neg (by rw [c]; decide), if_pos c] at hz
      exact hz
    · rw [if_neg (by rw [c]; decide), if_neg (by rw [c]; decide), if_neg (by rw [c]; decide), if_neg (by rw [c]; decide), if_pos c] at hz
      exact hz
    · rw [if_neg c.1, if_neg c.2.1, if_neg c.2.2.1, if_neg c.2.2.2.1, if_neg c.2.2.2.2] at hz
      refine c_M_runBuffer C0 hB P (by omega) (jv_ri_i ?_)
      simp (disch := omega) only [li, ne_eq, nI_add, pk_mul, nI_clamp, vin, hT, hl, tg_m, true_and, pw_at, pw_m, pw_w, pw_o, pw_r, si_pw, si_pww, nn_eq, nn_le, nn_lt, pk_div, rm2, or0, sub0, hr, hnc, hnh, hnt, hpr, hcode, hfirst, hgroup, hwhose, mr_5, mr_7, mr_8, mr_10, Option.some.injEq, exists_eq_left', tg_649, tg_650, tg_651, tg_652, sl_649, sl_650, sl_651, sl_652]
      exact hz
  refine jv_ct rfl (Nat.le_of_ble_eq_true rfl) (b_M_reach_0 ?_)
  simp (disch := omega) only [li, ne_eq, nI_add, pk_mul, nI_clamp, vin, hT, hl, tg_m, true_and, pw_at, pw_m, pw_w, pw_o, pw_r, si_pw, si_pww, nn_eq, nn_le, nn_lt, pk_div, rm2, or0, sub0, hr, hnc, hnh, hnt, hpr, hcode, hfirst, hgroup, hwhose, mr_5, mr_7, mr_8, mr_10, Option.some.injEq, exists_eq_left', tg_649, tg_650, tg_651, tg_652, sl_649, sl_650, sl_651, sl_652, et, er]
  refine ⟨fun c => l (fun z => ?_), fun c => ⟨fun c2 => l (fun z => z.2 c2), fun c2 => ?_⟩⟩
  · rw [eq] at c z
    have c := (nI_leI (by omega) (by omega)).mp c
    have z := (nI_ltI (by omega) (by omega)).mp z.1
    omega
  · have hlt : nI 2 < p (81 + 7 * k) := by
      rw [eq] at c ⊢
      exact nI_lt (Nat.lt_of_not_le fun z => c (nI_le z (by omega))) (by omega)
    rw [if_pos ⟨hlt, c2⟩] at hz
    exact hz

theorem c_M_goRound (C : MX M B pr a) (hB : BV2 B) {m : Nat} (P : POK B m p) (A : AG B m p) (hz : Z none (jv_pw M a (P_round B 13 0 (p, w)).1 (P_round B 13 0 (p, w)).2) 668) : jv_Ct g (d + 3) mt_M_goRound [.ref 647, .ref a] (jv_pw M a p w) 668 0 0 Z := by
  have C0 := C
  obtain ⟨⟨hr, hnc, hnh, hnt, hpr, hcode, hfirst, hgroup, hwhose⟩, ⟨b1, b2, b3, b4, b5⟩, ha1, ha2⟩ := C
  have hT := tg_pg ha1 ha2
  have hl := sl_pg ha1 ha2
  have b2' : bd_nh B ≤ 4 := b2
  have l : ∀ (f k m : Nat) (p : Pg) (w : Int32), k ≤ m → m < k + f → k + f ≤ 13 → POK B m p → AG B m p → Z none (jv_pw M a (P_round B f k (p, w)).1 (P_round B f k (p, w)).2) 668 → jv_J g (d + 3) mt_M_goRound 2 [some (.ref 647), some (.ref a), some (.int (nI k)), none] [] (jv_pw M a p w) 668 0 0 Z := by
    intro f
    induction f with
    | zero => intro k m p w h1 h2; omega
    | succ f ih =>
      intro k m p w hk1 hk2 hk3 P A hz
      obtain ⟨n80, e80, o80⟩ := P.2.1 80
      have o80 := o80.2.2.2.2.2.1 rfl
      subst o80
      have hm := P.1
      unfold P_round at hz
      simp only [e80] at hz
      by_cases hk : k < n80
      · rw [if_pos (nI_lt hk (by omega))] at hz
        obtain ⟨q1, q2, q3⟩ := P_age_OK P hB A hk w
        have hage : ∀ i, i < n80 → i ≠ k → ∃ n, n ≤ bd_nh B ∧ (P_age B (p, w) k).1 (81 + 7 * i + 2) = nI n := by
          intro i hi hik
          rw [q2 _ (by omega) (by omega) (by omega) (by omega)]
          exact A i hi
        obtain ⟨n, hn, e⟩ := A k hk
        have e80' : (P_age B (p, w) k).1 80 = nI n80 := (q2 80 (by omega) (by omega) (by omega) (by omega)).trans e80
        have q3' := q3
        rw [e, nI_add] at q3'
        generalize hs : P_age B (p, w) k = s at *
        have l48 : jv_J g (d + 3) mt_M_goRound 48 [some (.ref 647), some (.ref a), some (.int (nI k)), some (.int (nI (81 + 7 * k)))] [] (jv_pw M a s.1 s.2) 668 0 0 Z := by
          have lb : s.1 (81 + 7 * k + 2) = nI (bd_nh B) + nI 1 → jv_Ct g (d + 2) mt_M_dropOrder [.ref a, .int (nI k)] (jv_pw M a (P_back s.1 k) s.2) 668 0 0 (fun v M4 N4 => jv_rv v (jv_J g (d + 3) mt_M_goRound 2 [some (.ref 647), some (.ref a), some (.int (nI k)), none] [] M4 N4 0 0 Z)) := by
            intro hb
            rw [if_pos hb] at hz
            obtain ⟨m1, rfl⟩ : ∃ m1, n80 = m1 + 1 := ⟨n80 - 1, by omega⟩
            obtain ⟨b1, b2⟩ := P_back_OK q1 hB hk
            obtain ⟨d1, d2, -⟩ := P_drop_OK b1 hB hk (fun i hi hik => by rw [b2 _ (by omega) (by omega)]; exact hage i hi hik)
            exact c_M_dropOrder C0 (m := m1) (by omega) (by omega) (by rw [b2 _ (by omega) (by omega)]; exact e80') (jv_rv_i (ih k m1 _ _ (by omega) (by omega) (by omega) d1 d2 hz))
          have l93 : s.1 (81 + 7 * k + 2) = nI (bd_nh B) + nI 1 → ∀ y, y = (if s.1 (81 + 7 * k) = nI 3 ∧ s.1 (81 + 7 * k + 3) = nI 0 then s.1 (81 + 7 * k + 6) else s.1 77) → jv_J g (d + 3) mt_M_goRound 93 [some (.ref 647), some (.ref a), some (.int (nI k)), some (.int (nI (81 + 7 * k)))] [.int y, .int (nI 77), .ref a] (jv_pw M a s.1 s.2) 668 0 0 Z := by
            intro hb y hy
            have lb := lb hb
            unfold P_back at lb
            rw [← hy] at lb
            refine b_M_goRound_93 ?_
            simp (disch := omega) only [li, ne_eq, nI_add, pk_mul, nI_clamp, vin, hT, hl, tg_m, true_and, pw_at, pw_m, pw_w, pw_o, pw_r, si_pw, si_pww, nn_eq, nn_le, nn_lt, pk_div, rm2, or0, sub0, hr, hnc, hnh, hnt, hpr, hcode, hfirst, hgroup, hwhose, mr_5, mr_7, mr_8, mr_10, Option.some.injEq, exists_eq_left', tg_649, tg_650, tg_651, tg_652, sl_649, sl_650, sl_651, sl_652]
            rw [pu_n s.1 y (show 81 + 7 * k ≠ 77 by omega), pu_n s.1 y (show 76 ≠ 77 by omega), pu_n s.1 y (show 81 + 7 * k + 3 ≠ 77 by omega)]
            obtain ⟨⟨q, hq, eq⟩, -⟩ := q1.ord hk
            refine ⟨fun c => ?_, fun c => ⟨fun c2 => ?_, fun c2 => ?_⟩⟩
            · refine b_M_goRound_123 ?_
              rw [if_neg (fun z => by rw [eq] at c z; have c := (nI_leI (by omega) (by omega)).mp c; have z := (nI_ltI (by omega) (by omega)).mp z.1; omega)] at lb
              simp (disch := omega) only [li, ne_eq, nI_add, pk_mul, nI_clamp, vin, hT, hl, tg_m, true_and, pw_at, pw_m, pw_w, pw_o, pw_r, si_pw, si_pww, nn_eq, nn_le, nn_lt, pk_div, rm2, or0, sub0, hr, hnc, hnh, hnt, hpr, hcode, hfirst, hgroup, hwhose, mr_5, mr_7, mr_8, mr_10, Option.some.injEq, exists_eq_left', tg_649, tg_650, tg_651, tg_652, sl_649, sl_650, sl_651, sl_652]
              exact lb
            · refine b_M_goRound_123 ?_
              rw [if_neg (fun z => c2 z.2)] at lb
              simp (disch := omega) only [li, ne_eq, nI_add, pk_mul, nI_clamp, vin, hT, hl, tg_m, true_and, pw_at, pw_m, pw_w, pw_o, pw_r, si_pw, si_pww, nn_eq, nn_le, nn_lt, pk_div, rm2, or0, sub0, hr, hnc, hnh, hnt, hpr, hcode, hfirst, hgroup, hwhose, mr_5, mr_7, mr_8, mr_10, Option.some.injEq, exists_eq_left', tg_649, tg_650, tg_651, tg_652, sl_649, sl_650, sl_651, sl_652]
              exact lb
            · refine b_M_goRound_123 ?_
              rw [if_pos ⟨by rw [eq] at c ⊢; exact nI_lt (Nat.lt_of_not_le fun z => c (nI_le z (by omega))) (by omega), c2⟩] at lb
              simp (disch := omega) only [li, ne_eq, nI_add, pk_mul, nI_clamp, vin, hT, hl, tg_m, true_and, pw_at, pw_m, pw_w, pw_o, pw_r, si_pw, si_pww, nn_eq, nn_le, nn_lt, pk_div, rm2, or0, sub0, hr, hnc, hnh, hnt, hpr, hcode, hfirst, hgroup, hwhose, mr_5, mr_7, mr_8, mr_10, Option.some.injEq, exists_eq_left', tg_649, tg_650, tg_651, tg_652, sl_649, sl_650, sl_651, sl_652]
              exact lb
          refine b_M_goRound_48 ?_
          simp (disch := omega) only [li, ne_eq, nI_add, pk_mul, nI_clamp, vin, hT, hl, tg_m, true_and, pw_at, pw_m, pw_w, pw_o, pw_r, si_pw, si_pww, nn_eq, nn_le, nn_lt, pk_div, rm2, or0, sub0, hr, hnc, hnh, hnt, hpr, hcode, hfirst, hgroup, hwhose, mr_5, mr_7, mr_8, mr_10, Option.some.injEq, exists_eq_left', tg_649, tg_650, tg_651, tg_652, sl_649, sl_650, sl_651, sl_652]
          refine ⟨fun c => ?_, fun c => ?_⟩
          · have hne : ¬ s.1 (81 + 7 * k + 2) = nI (bd_nh B) + nI 1 := by rw [nI_add]; exact c
            rw [if_neg hne] at hz
            refine ih (k + 1) n80 _ _ (by omega) (by omega) (by omega) q1 (fun i hi => ?_) hz
            by_cases hik : i = k
            · subst hik
              refine ⟨n + 1, ?_, q3'⟩
              have : n ≠ bd_nh B := fun z => hne (by rw [q3', z, nI_add])
              omega
            · exact hage i hi hik
          · have hb : s.1 (81 + 7 * k + 2) = nI (bd_nh B) + nI 1 := by rw [nI_add]; exact c
            refine ⟨fun c3 => l93 hb _ (by rw [if_neg (fun z => c3 z.1)]), fun c3 => ⟨fun c4 => l93 hb _ (by rw [if_neg (fun z => c4 z.2)]), fun c4 => l93 hb _ (by rw [if_pos ⟨c3, c4⟩])⟩⟩
        refine b_M_goRound_2 ?_
        simp (disch := omega) only [li, ne_eq, nI_add, pk_mul, nI_clamp, vin, hT, hl, tg_m, true_and, pw_at, pw_m, pw_w, pw_o, pw_r, si_pw, si_pww, nn_eq, nn_le, nn_lt, pk_div, rm2, or0, sub0, hr, hnc, hnh, hnt, hpr, hcode, hfirst, hgroup, hwhose, mr_5, mr_7, mr_8, mr_10, Option.some.injEq, exists_eq_left', tg_649, tg_650, tg_651, tg_652, sl_649, sl_650, sl_651, sl_652, e80]
        rw [pu_s, pu_n p _ (show 81 + 7 * k + 1 ≠ 81 + 7 * k + 2 by omega)]
        refine ⟨fun c => absurd c (by omega), fun _ => ⟨fun c => ?_, fun c => ?_⟩⟩
        · unfold P_age at hs
          rw [if_neg c] at hs
          rw [← hs] at l48
          exact l48
        · unfold P_age at hs
          rw [if_pos c] at hs
          refine c_M_reach C0 hB (P.otherOrd hB.1 (j := 81 + 7 * k + 2) (n := n + 1) (by omega) (by omega) (by omega) (by omega) |> fun x => by rw [e, nI_add]; exact x) hk (jv_rv_i ?_)
          rw [← hs] at l48
          exact l48
      · rw [if_neg (nI_nlt (by omega) (by omega))] at hz
        refine b_M_goRound_2 ?_
        simp (disch := omega) only [li, ne_eq, nI_add, pk_mul, nI_clamp, vin, hT, hl, tg_m, true_and, pw_at, pw_m, pw_w, pw_o, pw_r, si_pw, si_pww, nn_eq, nn_le, nn_lt, pk_div, rm2, or0, sub0, hr, hnc, hnh, hnt, hpr, hcode, hfirst, hgroup, hwhose, mr_5, mr_7, mr_8, mr_10, Option.some.injEq, exists_eq_left', tg_649, tg_650, tg_651, tg_652, sl_649, sl_650, sl_651, sl_652, e80]
        exact ⟨fun _ => hz, fun c => absurd (by omega) c⟩
  exact jv_ct rfl (Nat.le_of_ble_eq_true rfl) (b_M_goRound_0 (l 13 0 m p w (by omega) (by have := P.1; omega) (by omega) P A hz))

end CN
