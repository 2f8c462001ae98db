section RO
variable {g : jv_G} {d : Nat} {M M' : jv_Mem} {Z : Option Value → jv_Mem → Nat → Prop} {T T' : Tt} {B : Bd} {p p' q : Pg} {U : Ut} {K : Kt} {S S' : St} {e e' : Int64} {ab : Int32}
theorem RL.become {V : SV} {p : Pg} (H : RL B V p) (hB : BOK B) {t : Nat} (ht : t < 6) (a b c n ch : Int32) : RL B (vu (vu (vu (vu (vu (vu V (27 + t) 1 a) (27 + t) 2 b) (27 + t) 3 c) (27 + t) 4 n) (27 + t) 5 n) (27 + t) 6 ch) (P_set p t a b c n ch) :=
  (((((H.trig hB (k := 0) ht (by omega) a).trig hB (k := 1) ht (by omega) b).trig hB (k := 2) ht (by omega) c).trig hB (k := 3) ht (by omega) n).trig hB (k := 4) ht (by omega) n).trig hB (k := 5) ht (by omega) ch
theorem P_set_at (p : Pg) (t : Nat) (a b c n ch : Int32) (j : Nat) : P_set p t a b c n ch j = if j = 40 + 6 * t then a else if j = 40 + 6 * t + 1 then b else if j = 40 + 6 * t + 2 then c else if j = 40 + 6 * t + 3 then n else if j = 40 + 6 * t + 4 then n else if j = 40 + 6 * t + 5 then ch else p j := by
  unfold P_set pu
  (repeat' split) <;> first | rfl | (exfalso; omega)
theorem POK.become {m : Nat} (P : POK B m p) (hB : BV2 B) {t a b c n ch : Nat} (ht : t < bd_nt B) (ha : a ≤ 1) (hb : b < 16) (hab : a = 1 → b < 4) (hc : c < 1000) (hn : 1 ≤ n ∧ n ≤ 9) (hch : ch ≤ 1) : POK B m (P_set p t (nI a) (nI b) (nI c) (nI n) (nI ch)) := by
  have h4 := hB.1.2.1
  have h6 := hB.1.2.2.1
  have hq := P_set_at p t (nI a) (nI b) (nI c) (nI n) (nI ch)
  obtain ⟨hm, os, r1, r2, r3⟩ := P
  have out : ∀ j, (j < 40 + 6 * t ∨ 40 + 6 * t + 6 ≤ j) → P_set p t (nI a) (nI b) (nI c) (nI n) (nI ch) j = p j := fun j h => by rw [hq, if_neg (by omega), if_neg (by omega), if_neg (by omega), if_neg (by omega), if_neg (by omega), if_neg (by omega)]
  refine ⟨hm, fun j => ?_, fun i hi => ?_, fun t' ht' => ?_, fun i hi => ?_⟩
  · by_cases hin : 40 + 6 * t ≤ j ∧ j < 40 + 6 * t + 6
    · rcases (by omega : j = 40 + 6 * t ∨ j = 40 + 6 * t + 1 ∨ j = 40 + 6 * t + 2 ∨ j = 40 + 6 * t + 3 ∨ j = 40 + 6 * t + 4 ∨ j = 40 + 6 * t + 5) with z | z | z | z | z | z
      · rw [hq, if_pos z]; exact ⟨a, rfl, by unfold OKn; omega⟩
      · rw [hq, if_neg (by omega), if_pos z]; exact ⟨b, rfl, by unfold OKn; omega⟩
      · rw [hq, if_neg (by omega), if_neg (by omega), if_pos z]; exact ⟨c, rfl, by unfold OKn; omega⟩
      · rw [hq, if_neg (by omega), if_neg (by omega), if_neg (by omega), if_pos z]; exact ⟨n, rfl, by unfold OKn; omega⟩
      · rw [hq, if_neg (by omega), if_neg (by omega), if_neg (by omega), if_neg (by omega), if_pos z]; exact ⟨n, rfl, by unfold OKn; omega⟩
      · rw [hq, if_neg (by omega), if_neg (by omega), if_neg (by omega), if_neg (by omega), if_neg (by omega), if_pos z]; exact ⟨ch, rfl, by unfold OKn; omega⟩
    · rw [out j (by omega)]; exact os j
  · rw [out _ (by omega), out _ (by omega)]; exact r1 i hi
  · by_cases htt : t' = t
    · subst htt
      rw [hq, if_pos rfl, hq, if_neg (by omega), if_pos rfl]
      intro z
      exact ⟨b, hab (nI_inj (by omega) (by omega) z), rfl⟩
    · rw [out _ (by omega), out _ (by omega)]; exact r2 t' ht'
  · rw [out _ (by omega), out _ (by omega)]; exact r3 i hi
/-- a State whose trigger has become another -/
theorem SR.become {V : SV} {π : Nat → Nat} {pr : Int32} (S1 : SR B pr V π p) (hB : BV2 B) {t a b c n ch : Nat} (ht : t < bd_nt B) (ha : a ≤ 1) (hb : b < 16) (hab : a = 1 → b < 4) (hc : c < 1000) (hn : 1 ≤ n ∧ n ≤ 9) (hch : ch ≤ 1) : SR B pr (vu (vu (vu (vu (vu (vu V (27 + t) 1 (nI a)) (27 + t) 2 (nI b)) (27 + t) 3 (nI c)) (27 + t) 4 (nI n)) (27 + t) 5 (nI n)) (27 + t) 6 (nI ch)) π (P_set p t (nI a) (nI b) (nI c) (nI n) (nI ch)) := by
  obtain ⟨m, P, A, R, Qo, C, I, AB1⟩ := S1
  have h6 := hB.1.2.2.1
  have hm := P.1
  have out : ∀ j, (40 + 6 * t + 6 ≤ j) → P_set p t (nI a) (nI b) (nI c) (nI n) (nI ch) j = p j := fun j h => by rw [P_set_at, if_neg (by omega), if_neg (by omega), if_neg (by omega), if_neg (by omega), if_neg (by omega), if_neg (by omega)]
  refine ⟨m, P.become hB ht ha hb hab hc hn hch, fun i hi => by rw [out _ (by omega)]; exact A i hi, R.become hB.1 (by omega) _ _ _ _ _, fun i hi => (Qo i hi).same (fun f => ?_) (fun j _ _ => out _ (by omega)), ?_, I, ?_⟩
  · have := I.1 i (by omega)
    simp (disch := omega) only [vu_k]
  · simp (disch := omega) only [vu_k]; exact C
  · simp (disch := omega) only [vu_k]; exact AB1
theorem R_set (h : RC M T B p U K S e) (hB : BV2 B) (hU : U.1 ≤ 14) {x1 x2 x3 x4 x5 x6 : Int32} (h6 : x6 = nI 0 ∨ x6 = nI 1) (hz : ∀ M', RC M' T B (s_set B U p x1 x2 x3 x4 x5 x6).2.2 (s_set B U p x1 x2 x3 x4 x5 x6).2.1 K S e → FRm M M' → Z (some (.int (s_set B U p x1 x2 x3 x4 x5 x6).1)) M' 668) : jv_Ct g (d + 9) mt_R_set [.ref 0, .int x1, .int x2, .int x3, .int x4, .int x5, .int x6] M 668 0 0 Z := by
  have f02 := h.1.1.2.2.1
  have f04 := h.1.1.2.2.2.2.1
  have b6 := hB.1.2.2.1
  unfold s_set at hz
  refine jv_ct rfl (Nat.le_of_ble_eq_true rfl) (b_R_set_0 ⟨tg_0, c_isTrigger h hB (jv_ri_i ?_)⟩)
  by_cases hb1 : bl x1 (bd_nt B) = true
  · rw [if_pos hb1] at hz ⊢
    refine ⟨fun _ => c_isBelow (b := 2) (by omega) (jv_ri_i ?_), fun c => absurd c (by decide)⟩
    by_cases hb2 : bl x2 2 = true
    · rw [if_pos hb2]
      refine ⟨fun c => absurd c (by decide), fun _ => ?_⟩
      have l48 : ∀ y, y = (if x2 = nI 0 then 1 else 1000) → bl x3 (if x2 = nI 0 then 16 else 4) = true → jv_J g (d + 9) mt_R_set 48 [some (.ref 0), some (.int x1), some (.int x2), some (.int x3), some (.int x4), some (.int x5), some (.int x6), none, none] [.int (nI y), .int x4] M 668 0 0 Z := by
        intro y hy hb3
        have hy' : y < 2 ^ 31 := by rw [hy]; split <;> omega
        refine b_R_set_48 (c_isBelow hy' (jv_ri_i ?_))
        by_cases hb4 : bl x4 y = true
        · rw [if_pos hb4]
          rw [hy] at hb4
          refine ⟨fun c => absurd c (by decide), fun _ => ?_⟩
          by_cases hb5 : br x5 1 9 = true
          · rw [if_pos ⟨hb2, hb3, hb4, hb5⟩] at hz
            obtain ⟨t, ht, ex1⟩ := bl_of hb1 (by omega)
            obtain ⟨a, ha, ex2⟩ := bl_of hb2 (by omega)
            obtain ⟨n, hn1, hn2, ex5⟩ := br_of hb5 (by omega)
            obtain ⟨ch, hch, ex6⟩ : ∃ ch, ch ≤ 1 ∧ x6 = nI ch := by
              rcases h6 with z | z
              · exact ⟨0, by omega, z⟩
              · exact ⟨1, by omega, z⟩
            have hb3' : ∃ b, b < 16 ∧ (a = 1 → b < 4) ∧ x3 = nI b := by
              by_cases h0 : x2 = nI 0
              · rw [if_pos h0] at hb3
                obtain ⟨b, h1, h2⟩ := bl_of hb3 (by omega)
                refine ⟨b, h1, fun z => ?_, h2⟩
                subst z
                rw [ex2] at h0
                exact absurd h0 (by decide)
              · rw [if_neg h0] at hb3
                obtain ⟨b, h1, h2⟩ := bl_of hb3 (by omega)
                exact ⟨b, by omega, fun _ => h1, h2⟩
            have hb4' : ∃ c, c < 1000 ∧ x4 = nI c := by
              by_cases h0 : x2 = nI 0
              · rw [if_pos h0] at hb4
                obtain ⟨c, h1, h2⟩ := bl_of hb4 (by omega)
                exact ⟨c, by omega, h2⟩
              · rw [if_neg h0] at hb4
                obtain ⟨c, h1, h2⟩ := bl_of hb4 (by omega)
                exact ⟨c, h1, h2⟩
            obtain ⟨b, hb, hab, ex3⟩ := hb3'
            obtain ⟨c, hc, ex4⟩ := hb4'
            subst ex1 ex2 ex3 ex4 ex5 ex6
            rw [nx_n (by omega)] at hz
            simp (disch := omega) only [li, nn_lt, nn_le, tg_0, tg_110, f02, f04, true_and, Option.some.injEq, exists_eq_left']
            refine ⟨fun c => absurd c (by omega), fun _ => ⟨fun _ => ?_, fun c => absurd hn2 c⟩⟩
            refine h.past hB hU (fun M1 h1 F1 => jv_rv_i ?_)
            obtain ⟨σ, eσ, hσ, f02, X, V, π, ee, SR1, ab6⟩ := h1.pres
            have X0 := X
            obtain ⟨-, r0, r1, r2, r3, r4, r5, r6, r7, r8⟩ := X
            have tS0 := t_S0 hσ
            have tS1 := t_S1 hσ
            have tS2 := t_S2 hσ
            have lS2 := l_S2 hσ
            have tS3 := t_S3 hσ
            have lS3 := l_S3 hσ
            have tS16 := t_S16 hσ
            have lS16 := l_S16 hσ
            have tS17 := t_S17 hσ
            have lS17 := l_S17 hσ
            have tS18 := t_S18 hσ
            have lS18 := l_S18 hσ
            obtain ⟨m, P, A, R, Qo, C, I, AB1⟩ := id SR1
            have b4 := hB.1.2.1
            have b6 := hB.1.2.2.1
            rw [← ee]
            have e7 := r7 t (by omega)
            have tSt := t_ST hσ (show t < 6 by omega)
            obtain ⟨c1, c2⟩ := R.2.2.2.1 t ht
            have k0 : V (27 + t) 1 = p (40 + 6 * t) := c2 0 (by omega)
            simp (disch := omega) only [li, ne_eq, nI_add, pk_mul, nI_clamp, vin, true_and, nn_eq, nn_le, nn_lt, pk_div, rm2, or0, sw_0, sw_1, sw_3, sw_18, sw_o, sw_h, sw_r, sw_t, wi_0, wi_1, wi_3, wi_18, wi_o, wi_h, wi_r, wi_t, sw_q, sw_ref, wr_q, tS0, tS1, tS2, lS2, tS3, lS3, tS16, lS16, tS17, lS17, tS18, lS18, r0, r1, r2, r3, r4, r5, Option.some.injEq, exists_eq_left', f02, tg_0, e7, tSt, k0]
            refine jv_ct rfl (Nat.le_of_ble_eq_true rfl) (b_U_become_0 ?_)
            simp (disch := omega) only [li, ne_eq, nI_add, pk_mul, nI_clamp, vin, true_and, nn_eq, nn_le, nn_lt, pk_div, rm2, or0, sw_0, sw_1, sw_3, sw_18, sw_o, sw_h, sw_r, sw_t, wi_0, wi_1, wi_3, wi_18, wi_o, wi_h, wi_r, wi_t, sw_q, sw_ref, wr_q, tS0, tS1, tS2, lS2, tS3, lS3, tS16, lS16, tS17, lS17, tS18, lS18, r0, r1, r2, r3, r4, r5, Option.some.injEq, exists_eq_left', f02, tg_0, tSt]
            refine ⟨?_, jv_rv_i ?_⟩
            · rcases (by omega : ch = 0 ∨ ch = 1) with rfl | rfl
              · exact Or.inl rfl
              · exact Or.inr (by simp)
            · obtain ⟨rc, fr⟩ := h1.put eσ (SR1.become hB ht (by omega) hb hab hc ⟨hn1, hn2⟩ hch) (by simp (disch := omega) only [vu_k]; exact ab6)
              exact hz _ rc (F1.trans fr)
          · rw [if_neg (fun z => hb5 z.2.2.2)] at hz
            have hf : ¬ (((1 : Nat) : Int) ≤ x5.toInt ∧ x5.toInt ≤ ((9 : Nat) : Int)) := fun z => hb5 (decide_eq_true z)
            refine ⟨fun _ => hz M h FRm.rf, fun c => ⟨fun c2 => ?_, fun _ => hz M h FRm.rf⟩⟩
            exfalso
            have c' : ¬ x5 < nI 1 := c
            have c2' : x5 ≤ nI 9 := c2
            rw [nlt (by omega)] at c'
            rw [nle (by omega)] at c2'
            omega
        · rw [if_neg hb4]
          rw [hy] at hb4
          rw [if_neg (fun z => hb4 z.2.2.1)] at hz
          exact ⟨fun _ => hz M h FRm.rf, fun c => absurd rfl c⟩
      have l29 : ∀ y, y = (if x2 = nI 0 then 16 else 4) → jv_J g (d + 9) mt_R_set 29 [some (.ref 0), some (.int x1), some (.int x2), some (.int x3), some (.int x4), some (.int x5), some (.int x6), none, none] [.int (nI y), .int x3] M 668 0 0 Z := by
        intro y hy
        have hy' : y < 2 ^ 31 := by rw [hy]; split <;> omega
        refine b_R_set_29 (c_isBelow hy' (jv_ri_i ?_))
        by_cases hb3 : bl x3 y = true
        · rw [if_pos hb3]
          rw [hy] at hb3
          refine ⟨fun c => absurd c (by decide), fun _ => ⟨fun c => l48 1000 (if_neg (show ¬ x2 = nI 0 from c)).symm hb3, fun c => l48 1 (if_pos (show x2 = nI 0 from c)).symm hb3⟩⟩
        · rw [if_neg hb3]
          rw [hy] at hb3
          rw [if_neg (fun z => hb3 z.2.1)] at hz
          exact ⟨fun _ => hz M h FRm.rf, fun c => absurd rfl c⟩
      exact ⟨fun c => l29 4 (if_neg (show ¬ x2 = nI 0 from c)).symm, fun c => l29 16 (if_pos (show x2 = nI 0 from c)).symm⟩
    · rw [if_neg hb2]
      rw [if_neg (fun z => hb2 z.1)] at hz
      exact ⟨fun _ => hz M h FRm.rf, fun c => absurd rfl c⟩
  · rw [if_neg hb1] at hz ⊢
    exact ⟨fun c => absurd rfl c, fun _ => hz M h FRm.rf⟩
theorem R_send (h : RC M T B p U K S e) (hB : BV2 B) (P8 : POA B 8 p) (hU : U.1 ≤ 14) {x1 x2 x3 x4 : Int32} (hz : ∀ M', RC M' T B (s_send B U p x1 x2 x3 x4).2.2 (s_send B U p x1 x2 x3 x4).2.1 K S e → FRm M M' → Z (some (.int (s_send B U p x1 x2 x3 x4).1)) M' 668) : jv_Ct g (d + 9) mt_R_send [.ref 0, .int x1, .int x2, .int x3, .int x4] M 668 0 0 Z := by
  have f02 := h.1.1.2.2.1
  have f04 := h.1.1.2.2.2.2.1
  have b4 := hB.1.2.1
  obtain ⟨m8, hm8, P8, A8⟩ := P8
  have e80 := P8.p80
  unfold s_send at hz
  rw [e80, nx_n (by omega)] at hz
  refine jv_ct rfl (Nat.le_of_ble_eq_true rfl) (b_R_send_0 (c_isBelow (b := 6) (by omega) (jv_ri_i ?_)))
  by_cases hb1 : bl x1 6 = true
  · rw [if_pos hb1] at hz ⊢
    refine ⟨fun _ => ⟨tg_0, c_isHart h hB (jv_ri_i ?_)⟩, fun c => absurd c (by decide)⟩
    by_cases hb2 : bl x2 (bd_nh B) = true
    · rw [if_pos hb2] at hz ⊢
      refine ⟨fun _ => ?_, fun c => absurd c (by decide)⟩
      have l76 : ¬ (bl x3 (if x1 = nI 3 ∨ x1 = nI 4 then 4 else 1) = true ∧ bl x4 (if x1 = nI 4 then 1000 else 1) = true) → jv_J g (d + 9) mt_R_send 76 [none, none, none, none, none, none] [] M 668 0 0 Z := by
        intro hn
        rw [if_neg hn] at hz
        exact b_R_send_76 (hz M h FRm.rf)
      have l70 : ∀ y, y = (if x1 = nI 4 then 1000 else 1) → bl x3 (if x1 = nI 3 ∨ x1 = nI 4 then 4 else 1) = true → jv_J g (d + 9) mt_R_send 70 [some (.ref 0), some (.int x1), some (.int x2), some (.int x3), some (.int x4), none] [.int (nI y), .int x4] M 668 0 0 Z := by
        intro y hy hb3
        have hy' : y < 2 ^ 31 := by rw [hy]; split <;> omega
        refine b_R_send_70 (c_isBelow hy' (jv_ri_i ?_))
        by_cases hb4 : bl x4 y = true
        · rw [if_pos hb4]
          rw [hy] at hb4
          rw [if_pos ⟨hb3, hb4⟩] at hz
          refine ⟨fun _ => ?_, fun c => absurd c (by decide)⟩
          obtain ⟨k, hk, ex1⟩ := bl_of hb1 (by omega)
          obtain ⟨hh, hhh, ex2⟩ := bl_of hb2 (by omega)
          have hb3' : ∃ b, b < 4 ∧ x3 = nI b := by
            by_cases h0 : x1 = nI 3 ∨ x1 = nI 4
            · rw [if_pos h0] at hb3
              obtain ⟨b, h1, h2⟩ := bl_of hb3 (by omega)
              exact ⟨b, h1, h2⟩
            · rw [if_neg h0] at hb3
              obtain ⟨b, h1, h2⟩ := bl_of hb3 (by omega)
              exact ⟨b, by omega, h2⟩
          have hb4' : ∃ c, c < 1000 ∧ x4 = nI c := by
            by_cases h0 : x1 = nI 4
            · rw [if_pos h0] at hb4
              obtain ⟨c, h1, h2⟩ := bl_of hb4 (by omega)
              exact ⟨c, h1, h2⟩
            · rw [if_neg h0] at hb4
              obtain ⟨c, h1, h2⟩ := bl_of hb4 (by omega)
              exact ⟨c, by omega, h2⟩
          obtain ⟨b, hb, ex3⟩ := hb3'
          obtain ⟨c, hc, ex4⟩ := hb4'
          subst ex1 ex2 ex3 ex4
          have g2 : jv_Tg 9 0 668 ∧ ∃ b11, M.2.1 0 4 = some b11 ∧ jv_Tg 9 0 668 ∧ ∃ b14, M.2.1 0 2 = some b14 ∧ jv_Tg 3 b11 668 ∧ (m8 < 8 → jv_Ct g (d + 8) mt_A_push [.ref b11, .ref b14] M 668 0 0 (fun v M18 N18 => jv_rv v (jv_Tg 9 0 N18 ∧ ∃ b20, M18.2.1 0 2 = some b20 ∧ jv_Tg 6 b20 N18 ∧ ∃ b23, M18.2.1 b20 0 = some b23 ∧ jv_Tg 0 b23 N18 ∧ jv_Ct g (d + 8) mt_D_accept [.ref b23, .int (nI k), .int (nI hh), .int (nI b), .int (nI c)] M18 N18 0 0 (fun v M27 N27 => jv_rv v (jv_Tg 9 0 N27 ∧ ∃ b29, M27.2.1 0 2 = some b29 ∧ jv_Tg 6 b29 N27 ∧ ∃ b32, M27.2.1 b29 0 = some b32 ∧ jv_Tg 0 b32 N27 ∧ Z (some (.int (M27.1 b32 3))) M27 N27))))) := by
            refine ⟨tg_0, 110, f04, tg_0, 44, f02, tg_110, fun hlt => ?_⟩
            rw [if_neg (by omega)] at hz
            refine h.past hB hU (fun M1 h1 F1 => jv_rv_i ?_)
            obtain ⟨σ, eσ, hσ, f02, X, V, π, ee, SR1, ab6⟩ := h1.pres
            have X0 := X
            obtain ⟨-, r0, r1, r2, r3, r4, r5, r6, r7, r8⟩ := X
            have tS0 := t_S0 hσ
            have tS1 := t_S1 hσ
            have tS2 := t_S2 hσ
            have lS2 := l_S2 hσ
            have tS3 := t_S3 hσ
            have lS3 := l_S3 hσ
            have tS16 := t_S16 hσ
            have lS16 := l_S16 hσ
            have tS17 := t_S17 hσ
            have lS17 := l_S17 hσ
            have tS18 := t_S18 hσ
            have lS18 := l_S18 hσ
            obtain ⟨m, P, A, R, Qo, C, I, AB1⟩ := id SR1
            have b4 := hB.1.2.1
            have b6 := hB.1.2.2.1
            rw [← ee]
            simp (disch := omega) only [li, ne_eq, nI_add, pk_mul, nI_clamp, vin, true_and, nn_eq, nn_le, nn_lt, pk_div, rm2, or0, sw_0, sw_1, sw_3, sw_18, sw_o, sw_h, sw_r, sw_t, wi_0, wi_1, wi_3, wi_18, wi_o, wi_h, wi_r, wi_t, sw_q, sw_ref, wr_q, tS0, tS1, tS2, lS2, tS3, lS3, tS16, lS16, tS17, lS17, tS18, lS18, r0, r1, r2, r3, r4, r5, Option.some.injEq, exists_eq_left', f02, tg_0]
            refine c_accept X0 hB SR1 e80 (by omega) (by omega) hhh hb hc (fun V' S' a' => jv_rv_i ?_)
            simp (disch := omega) only [li, ne_eq, nI_add, pk_mul, nI_clamp, vin, true_and, nn_eq, nn_le, nn_lt, pk_div, rm2, or0, sw_0, sw_1, sw_3, sw_18, sw_o, sw_h, sw_r, sw_t, wi_0, wi_1, wi_3, wi_18, wi_o, wi_h, wi_r, wi_t, sw_q, sw_ref, wr_q, tS0, tS1, tS2, lS2, tS3, lS3, tS16, lS16, tS17, lS17, tS18, lS18, r0, r1, r2, r3, r4, r5, Option.some.injEq, exists_eq_left', f02, tg_0]
            obtain ⟨m2, P2, A2, R2, Q2, C2, I2, AB2⟩ := id S'
            rw [R2.2.2.2.2.1.1]
            obtain ⟨rc, fr⟩ := h1.put eσ S' (a'.trans ab6)
            exact hz _ rc (F1.trans fr)
          obtain ⟨-, b11, g4, -, b14, g5, t3, g6⟩ := g2
          obtain ⟨σ, eσ, hσ, f02, X, V, π, ee, SR1, ab6⟩ := h.pres
          have X0 := X
          obtain ⟨-, r0, r1, r2, r3, r4, r5, r6, r7, r8⟩ := X
          have tS0 := t_S0 hσ
          have tS1 := t_S1 hσ
          have tS2 := t_S2 hσ
          have lS2 := l_S2 hσ
          have tS3 := t_S3 hσ
          have lS3 := l_S3 hσ
          have tS16 := t_S16 hσ
          have lS16 := l_S16 hσ
          have tS17 := t_S17 hσ
          have lS17 := l_S17 hσ
          have tS18 := t_S18 hσ
          have lS18 := l_S18 hσ
          obtain ⟨m, P, A, R, Qo, C, I, AB1⟩ := id SR1
          have b4 := hB.1.2.1
          have b6 := hB.1.2.2.1
          have hCm : V 1 2 = nI m8 := by
            have : m = m8 := by
              have q1 := P.p80
              have q2 := P.1
              rw [e80] at q1
              exact (nI_inj (by omega) (by omega) q1).symm
            rw [C, this]
          refine ⟨tg_0, σ, f02, tS0, σ + 1, r0, tS1, ?_⟩
          have hv : M.1 (σ + 1) 2 = nI m8 := by rw [← ee, sw_1, hCm]
          simp (disch := omega) only [li, hv, nn_lt]
          refine ⟨fun c => ⟨tg_0, b11, g4, tg_0, b14, g5, t3, g6 c⟩, fun c => ?_⟩
          rw [if_pos (by omega)] at hz
          exact hz M h FRm.rf
        · rw [if_neg hb4]
          rw [hy] at hb4
          exact ⟨fun c => absurd rfl c, fun _ => l76 (fun z => hb4 z.2)⟩
      have l50 : ∀ y, y = (if x1 = nI 3 ∨ x1 = nI 4 then 4 else 1) → jv_J g (d + 9) mt_R_send 50 [some (.ref 0), some (.int x1), some (.int x2), some (.int x3), some (.int x4), none] [.int (nI y), .int x3] M 668 0 0 Z := by
        intro y hy
        have hy' : y < 2 ^ 31 := by rw [hy]; split <;> omega
        refine b_R_send_50 (c_isBelow hy' (jv_ri_i ?_))
        by_cases hb3 : bl x3 y = true
        · rw [if_pos hb3]
          rw [hy] at hb3
          exact ⟨fun c => absurd c (by decide), fun _ => ⟨fun c => l70 1 (if_neg (show ¬ x1 = nI 4 from c)).symm hb3, fun c => l70 1000 (if_pos (show x1 = nI 4 from c)).symm hb3⟩⟩
        · rw [if_neg hb3]
          rw [hy] at hb3
          exact ⟨fun _ => l76 (fun z => hb3 z.1), fun c => absurd rfl c⟩
      refine ⟨fun c => b_R_send_37 ⟨fun q => absurd q (by decide), fun _ => l50 4 (if_pos (show x1 = nI 3 ∨ x1 = nI 4 from Or.inl c)).symm⟩, fun c => ⟨fun c2 => b_R_send_37 ⟨fun _ => l50 1 (if_neg (show ¬ (x1 = nI 3 ∨ x1 = nI 4) from fun z => z.elim c c2)).symm, fun q => absurd rfl q⟩, fun c2 => b_R_send_37 ⟨fun q => absurd q (by decide), fun _ => l50 4 (if_pos (show x1 = nI 3 ∨ x1 = nI 4 from Or.inr c2)).symm⟩⟩⟩
    · rw [if_neg hb2] at hz ⊢
      exact ⟨fun c => absurd rfl c, fun _ => hz M h FRm.rf⟩
  · rw [if_neg hb1] at hz ⊢
    exact ⟨fun c => absurd rfl c, fun _ => hz M h FRm.rf⟩
end RO
