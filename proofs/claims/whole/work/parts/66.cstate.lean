section SC
variable {g : jv_G} {d : Nat} {M : jv_Mem} {Z : Option Value → jv_Mem → Nat → Prop} {B : Bd} {p : Pg} {σ m : Nat} {V : SV} {π : Nat → Nat}
/-- the program at cell 40 -/
def PRG (M : jv_Mem) (B : Bd) : Prop := M.2.1 40 0 = some 41 ∧ M.2.1 40 1 = some 42 ∧ M.2.1 40 2 = some 43 ∧ M.1 40 3 = nI (bd_nc B) ∧ ∀ k, k < bd_nc B → M.1 41 k = nI (bd_code B k / 1000) ∧ M.1 42 k = nI (bd_code B k / 100 % 10) ∧ M.1 43 k = nI (bd_code B k % 100)
theorem st_prog : ∀ σ ∈ st_bases, ∀ b, b < 44 → 40 ≤ b → (b < σ ∨ σ + 33 ≤ b) ∧ b ≠ σ + 2 := by decide +kernel
theorem tg_40 : jv_Tg 4 40 668 := ⟨by decide +kernel, by decide⟩
theorem tg_41 : jv_Tg 11 41 668 := ⟨by decide +kernel, by decide⟩
theorem tg_42 : jv_Tg 11 42 668 := ⟨by decide +kernel, by decide⟩
theorem tg_43 : jv_Tg 11 43 668 := ⟨by decide +kernel, by decide⟩
theorem sl_41 : (jv_sh 41).2 = 16 := by decide +kernel
theorem sl_42 : (jv_sh 42).2 = 16 := by decide +kernel
theorem sl_43 : (jv_sh 43).2 = 16 := by decide +kernel
theorem RL.place {V : SV} {p : Pg} (H : RL B V p) (hB : BOK B) {h : Nat} (hh : h < 4) (x : Int32) : RL B (vu V (19 + 2 * h) 3 x) (pu p (8 * h) x) := by
  refine H.hart hB hh (fun k j h1 _ => vu_k _ _ h1) (fun j hj => pu_n _ _ (by omega)) (fun hn => ?_)
  obtain ⟨a1, a2, a3, a4, a5, a6, a7⟩ := H.2.1 h hn
  exact ⟨by rw [vu_j _ _ (by omega), a1], by rw [vu_j _ _ (by omega), a2], by rw [vu_s, pu_s], by rw [vu_j _ _ (by omega), a4, pu_n _ _ (by omega)], by rw [vu_j _ _ (by omega), a5, pu_n _ _ (by omega)], by rw [vu_j _ _ (by omega), a6, pu_n _ _ (by omega), pu_n _ _ (by omega)], fun r hr => by rw [vu_k _ _ (by omega), a7 r hr, pu_n _ _ (by omega)]⟩
theorem RL.sleep {V : SV} {p : Pg} (H : RL B V p) (hB : BOK B) {h : Nat} (hh : h < 4) : RL B (vu (vu V (19 + 2 * h) 4 (nI 1)) (19 + 2 * h) 6 (nI 1)) (pu p (8 * h + 1) (nI 1)) := by
  refine H.hart hB hh (fun k j h1 _ => by rw [vu_k _ _ h1, vu_k _ _ h1]) (fun j hj => pu_n _ _ (by omega)) (fun hn => ?_)
  obtain ⟨a1, a2, a3, a4, a5, a6, a7⟩ := H.2.1 h hn
  exact ⟨by rw [vu_j _ _ (by omega), vu_j _ _ (by omega), a1], by rw [vu_j _ _ (by omega), vu_j _ _ (by omega), a2], by rw [vu_j _ _ (by omega), vu_j _ _ (by omega), a3, pu_n _ _ (by omega)], by rw [vu_j _ _ (by omega), vu_s, pu_s], by rw [vu_j _ _ (by omega), vu_j _ _ (by omega), a5, pu_n _ _ (by omega)], by rw [vu_s, pu_s, if_pos rfl], fun r hr => by rw [vu_k _ _ (by omega), vu_k _ _ (by omega), a7 r hr, pu_n _ _ (by omega)]⟩
theorem RL.wake {V : SV} {p : Pg} (H : RL B V p) (hB : BOK B) {h : Nat} (hh : h < 4) {y : Int32} (hy : ¬ y = nI 1) : RL B (vu (vu V (19 + 2 * h) 6 (nI 0)) (19 + 2 * h) 4 y) (pu (pu p (8 * h + 1) y) (8 * h + 2) (nI 0)) := by
  refine H.hart hB hh (fun k j h1 _ => by rw [vu_k _ _ h1, vu_k _ _ h1]) (fun j hj => by rw [pu_n _ _ (by omega), pu_n _ _ (by omega)]) (fun hn => ?_)
  obtain ⟨a1, a2, a3, a4, a5, a6, a7⟩ := H.2.1 h hn
  exact ⟨by rw [vu_j _ _ (by omega), vu_j _ _ (by omega), a1], by rw [vu_j _ _ (by omega), vu_j _ _ (by omega), a2], by rw [vu_j _ _ (by omega), vu_j _ _ (by omega), a3, pu_n _ _ (by omega), pu_n _ _ (by omega)], by rw [vu_s, pu_n _ _ (by omega), pu_s], by rw [vu_j _ _ (by omega), vu_j _ _ (by omega), a5, pu_n _ _ (by omega), pu_n _ _ (by omega)], by rw [vu_j _ _ (by omega), vu_s, pu_n _ _ (show 8 * h + 1 ≠ 8 * h + 2 by omega), pu_s, if_neg hy, pu_s], fun r hr => by rw [vu_k _ _ (by omega), vu_k _ _ (by omega), a7 r hr, pu_n _ _ (by omega), pu_n _ _ (by omega)]⟩
theorem c_S_step (X : SX M σ) (G : PRG M B) (hB : BV2 B) (P : POK B m p) (H : RL B V p) {h : Nat} (hh : h < bd_nh B) {pr : Int32} (hab : AB B (V 0 6) pr) {w : Int32} (hw : V 0 7 = w) (hz : ∀ V', RL B V' (P_run B pr (p, w) h).1 → KK V V' → V' 0 7 = (P_run B pr (p, w) h).2 → Z none (sw M σ V' π) 668) : jv_Ct g (d + 2) mt_S_step [.ref σ, .int (nI h), .ref 40] (sw M σ V π) 668 0 0 Z := by
  have X0 := X
  obtain ⟨hσ, r0, r1, r2, r3, r4, r5, r6, r7, r8⟩ := X
  have tS0 := t_S0 hσ
  have tS1 := t_S1 hσ
  have tS2 := t_S2 hσ
  have lS2 := l_S2 hσ
  have tS3 := t_S3 hσ
  have lS3 := l_S3 hσ
  have tS16 := t_S16 hσ
  have lS16 := l_S16 hσ
  have tS17 := t_S17 hσ
  have lS17 := l_S17 hσ
  have tS18 := t_S18 hσ
  have lS18 := l_S18 hσ
  have b4 := hB.1.2.1
  have b16 := hB.1.1
  obtain ⟨g0, g1, g2, g3, g4⟩ := G
  have s40 := st_prog σ hσ 40 (by omega) (by omega)
  have s41 := st_prog σ hσ 41 (by omega) (by omega)
  have s42 := st_prog σ hσ 42 (by omega) (by omega)
  have s43 := st_prog σ hσ 43 (by omega) (by omega)
  have u40 := fun (V : SV) j => sw_out (M := M) (V := V) (π := π) s40.1 j
  have u41 := fun (V : SV) j => sw_out (M := M) (V := V) (π := π) s41.1 j
  have u42 := fun (V : SV) j => sw_out (M := M) (V := V) (π := π) s42.1 j
  have u43 := fun (V : SV) j => sw_out (M := M) (V := V) (π := π) s43.1 j
  have v40 := fun (V : SV) j => sw_ref (M := M) (V := V) (π := π) s40.2 j
  have t40 := tg_40
  have t41 := tg_41
  have t42 := tg_42
  have t43 := tg_43
  have tSh := t_SH hσ (show h < 4 by omega)
  have tSr := t_SR hσ (show h < 4 by omega)
  have lSr := l_SR hσ (show h < 4 by omega)
  have e6 := r6 h (by omega)
  have e8 := r8 h (by omega)
  obtain ⟨a1, a2, a3, a4, a5, a6, a7⟩ := H.2.1 h hh
  obtain ⟨⟨n, hn, e0⟩, ⟨md, hmd, e1⟩, -⟩ := P.hartp (h := h) (by omega)
  rw [e0] at a3
  rw [e1] at a4
  obtain ⟨rs, ers⟩ : ∃ rs, rs = P_run B pr (p, w) h := ⟨_, rfl⟩
  rw [← ers] at hz
  unfold P_run at ers
  have l38 : md = 0 → bd_nc B ≠ 0 → ∀ V1, RL B V1 (P_wrap B p h) → KK V V1 → V1 0 7 = w → jv_J g (d + 2) mt_S_step 38 [some (.ref σ), some (.int (nI h)), some (.ref 40), some (.ref (σ + 19 + 2 * h)), none, none, none] [] (sw M σ V1 π) 668 0 0 Z := by
    intro hmd0 hnc V1 R1 K1 W1
    rw [if_pos ⟨by show p (8 * h + 1) = nI 0; rw [e1, hmd0], hnc⟩] at ers
    simp only [] at ers
    obtain ⟨w1, w2, w3⟩ := P_wrap_OK P hB (show h < 4 by omega)
    obtain ⟨n2, hn2, en2⟩ := w3 hnc
    obtain ⟨c1, c2⟩ := P_caught_OK hB pr h 7 0 _ w1
    refine b_S_step_38 ?_
    simp (disch := omega) only [li, ne_eq, nI_add, pk_mul, nI_clamp, vin, true_and, nn_eq, nn_le, nn_lt, pk_div, rm2, or0, sw_0, sw_1, sw_3, sw_18, sw_o, sw_h, sw_r, sw_t, wi_0, wi_1, wi_3, wi_18, wi_o, wi_h, wi_r, wi_t, sw_q, sw_ref, wr_q, tS0, tS1, tS2, lS2, tS3, lS3, tS16, lS16, tS17, lS17, tS18, lS18, r0, r1, r2, r3, r4, r5, Option.some.injEq, exists_eq_left']
    refine c_S_isStopped X0 hB w1 R1 hh (pr := pr) (by rw [K1.2.1]; exact hab) (fun V2 R2 K2 W2 => jv_ri_i ?_)
    obtain ⟨cg, ecg⟩ : ∃ cg, cg = P_caught B pr h 7 0 (P_wrap B p h) := ⟨_, rfl⟩
    rw [← ecg] at ers R2 c1 c2 ⊢
    by_cases hc : cg.2 = true
    · rw [if_pos hc] at ers
      subst ers
      rw [if_pos hc]
      refine ⟨fun c => absurd c (by decide), fun _ => ?_⟩
      simp (disch := omega) only [li, ne_eq, nI_add, pk_mul, nI_clamp, vin, true_and, nn_eq, nn_le, nn_lt, pk_div, rm2, or0, sw_0, sw_1, sw_3, sw_18, sw_o, sw_h, sw_r, sw_t, wi_0, wi_1, wi_3, wi_18, wi_o, wi_h, wi_r, wi_t, sw_q, sw_ref, wr_q, tS0, tS1, tS2, lS2, tS3, lS3, tS16, lS16, tS17, lS17, tS18, lS18, r0, r1, r2, r3, r4, r5, Option.some.injEq, exists_eq_left', tSh]
      exact c_S_halt X0 hB.1 c1 R2 hh (fun V3 R3 K3 W3 => jv_rv_i (hz V3 R3 (K1.trans (K2.trans K3)) (W3.trans (W2.trans W1))))
    · rw [if_neg hc] at ers
      rw [if_neg hc]
      refine ⟨fun _ => ?_, fun c => absurd rfl c⟩
      have ep : cg.1 (8 * h) = nI n2 := by rw [c2 _ (fun t ht => by omega), en2]
      rw [ep, nI_add, nI_clamp (by omega)] at ers
      obtain ⟨z1, z2, z3, z4, z5, z6, z7⟩ := R2.2.1 h hh
      rw [ep] at z3
      obtain ⟨k1, k2, k3⟩ := g4 n2 hn2
      have hu := hB.2.1 n2 hn2
      have hu' := hu
      unfold CV at hu'
      obtain ⟨u, eu⟩ : ∃ u, u = bd_code B n2 := ⟨_, rfl⟩
      rw [← eu] at k1 k2 k3 hu hu' ers
      have Rn := R2.place hB.1 (show h < 4 by omega) (nI (n2 + 1))
      have Pn := c1.place hB.1 (show h < 4 by omega) (show n2 + 1 ≤ 16 by omega)
      have Kn : KK V (vu V2 (19 + 2 * h) 3 (nI (n2 + 1))) := (K1.trans K2).upd (by omega)
      have Wn : vu V2 (19 + 2 * h) 3 (nI (n2 + 1)) 0 7 = w := by rw [vu_k _ _ (by omega)]; exact W2.trans W1
      obtain ⟨q, eq⟩ : ∃ q, q = pu cg.1 (8 * h) (nI (n2 + 1)) := ⟨_, rfl⟩
      rw [← eq] at ers Rn Pn
      unfold P_instr at ers
      simp (disch := omega) only [li, ne_eq, nI_add, pk_mul, nI_clamp, vin, true_and, nn_eq, nn_le, nn_lt, pk_div, rm2, or0, sw_0, sw_1, sw_3, sw_18, sw_o, sw_h, sw_r, sw_t, wi_0, wi_1, wi_3, wi_18, wi_o, wi_h, wi_r, wi_t, sw_q, sw_ref, wr_q, tS0, tS1, tS2, lS2, tS3, lS3, tS16, lS16, tS17, lS17, tS18, lS18, r0, r1, r2, r3, r4, r5, Option.some.injEq, exists_eq_left', tSh, z3, u40, u41, u42, u43, v40, g0, g1, g2, t40, t41, t42, t43, sl_41, sl_42, sl_43, k1, k2, k3, e8, tSr, lSr]
      refine ⟨fun c => ?_, fun c => ?_, fun c => ?_, fun c => ?_⟩
      · rw [if_pos c] at ers
        have hreg : vu V2 (19 + 2 * h) 3 (nI (n2 + 1)) (20 + 2 * h) (u / 100 % 10) = q (8 * h + 4 + u / 100 % 10) := (Rn.2.1 h hh).2.2.2.2.2.2 _ (by omega)
        rw [hreg]
        refine ⟨fun c' => b_S_step_136 ?_, fun c' => b_S_step_136 ?_⟩
        · simp (disch := omega) only [li, ne_eq, nI_add, pk_mul, nI_clamp, vin, true_and, nn_eq, nn_le, nn_lt, pk_div, rm2, or0, sw_0, sw_1, sw_3, sw_18, sw_o, sw_h, sw_r, sw_t, wi_0, wi_1, wi_3, wi_18, wi_o, wi_h, wi_r, wi_t, sw_q, sw_ref, wr_q, tS0, tS1, tS2, lS2, tS3, lS3, tS16, lS16, tS17, lS17, tS18, lS18, r0, r1, r2, r3, r4, r5, Option.some.injEq, exists_eq_left', tSh]
          rw [if_pos c'] at ers
          replace ers : rs = (pu q (8 * h) (q (8 * h)), w) := ers
          rw [show q (8 * h) = nI (n2 + 1) by rw [eq, pu_s]] at ers
          subst ers
          exact hz _ (Rn.place hB.1 (by omega) _) (Kn.upd (by omega)) (by rw [vu_k _ _ (by omega)]; exact Wn)
        · simp (disch := omega) only [li, ne_eq, nI_add, pk_mul, nI_clamp, vin, true_and, nn_eq, nn_le, nn_lt, pk_div, rm2, or0, sw_0, sw_1, sw_3, sw_18, sw_o, sw_h, sw_r, sw_t, wi_0, wi_1, wi_3, wi_18, wi_o, wi_h, wi_r, wi_t, sw_q, sw_ref, wr_q, tS0, tS1, tS2, lS2, tS3, lS3, tS16, lS16, tS17, lS17, tS18, lS18, r0, r1, r2, r3, r4, r5, Option.some.injEq, exists_eq_left', tSh]
          rw [if_neg c'] at ers
          subst ers
          exact hz _ (Rn.place hB.1 (by omega) _) (Kn.upd (by omega)) (by rw [vu_k _ _ (by omega)]; exact Wn)
      · rw [if_neg (by omega), if_pos c] at ers
        subst ers
        refine jv_ct rfl (Nat.le_of_ble_eq_true rfl) (b_H_sleep_0 ?_)
        simp (disch := omega) only [li, ne_eq, nI_add, pk_mul, nI_clamp, vin, true_and, nn_eq, nn_le, nn_lt, pk_div, rm2, or0, sw_0, sw_1, sw_3, sw_18, sw_o, sw_h, sw_r, sw_t, wi_0, wi_1, wi_3, wi_18, wi_o, wi_h, wi_r, wi_t, sw_q, sw_ref, wr_q, tS0, tS1, tS2, lS2, tS3, lS3, tS16, lS16, tS17, lS17, tS18, lS18, r0, r1, r2, r3, r4, r5, Option.some.injEq, exists_eq_left', tSh]
        exact jv_rv_i (hz _ (Rn.sleep hB.1 (by omega)) ((Kn.upd (by omega)).upd (by omega)) (by rw [vu_k _ _ (by omega), vu_k _ _ (by omega)]; exact Wn))
      · rw [if_neg (by omega), if_neg (by omega), if_pos c] at ers
        subst ers
        exact c_S_halt X0 hB.1 Pn Rn hh (fun V3 R3 K3 W3 => jv_rv_i (hz V3 R3 (Kn.trans K3) (W3.trans Wn)))
      · rw [if_neg (by omega), if_neg (by omega), if_neg (by omega)] at ers
        subst ers
        exact c_S_calc X0 hB.1 Pn Rn hh (CV_DV hu (by omega) (by omega) (by omega)) Wn rfl rfl rfl (fun V3 R3 K3 W3 => jv_rv_i (hz V3 R3 (Kn.trans K3) W3))
  refine jv_ct rfl (Nat.le_of_ble_eq_true rfl) (b_S_step_0 ?_)
  simp (disch := omega) only [li, ne_eq, nI_add, pk_mul, nI_clamp, vin, true_and, nn_eq, nn_le, nn_lt, pk_div, rm2, or0, sw_0, sw_1, sw_3, sw_18, sw_o, sw_h, sw_r, sw_t, wi_0, wi_1, wi_3, wi_18, wi_o, wi_h, wi_r, wi_t, sw_q, sw_ref, wr_q, tS0, tS1, tS2, lS2, tS3, lS3, tS16, lS16, tS17, lS17, tS18, lS18, r0, r1, r2, r3, r4, r5, Option.some.injEq, exists_eq_left', tSh, e6, a3, a4, u40, g3, t40]
  refine ⟨fun c => ?_, fun c => ⟨fun c1 => ⟨fun c2 => ?_, fun c2 => ?_⟩, fun c1 => ?_⟩⟩
  · rw [if_neg (fun z => c (nI_inj (by omega) (by omega) (e1.symm.trans z.1)))] at ers
    subst ers
    exact hz V H KK.rf hw
  · refine l38 c c1 V (H.page hB.1 (fun j hj => ?_)) KK.rf hw
    unfold P_wrap
    rw [if_neg (by rw [e0, nn_le (by omega) (by omega)]; omega)]
    unfold pu
    split
    · rename_i hj; rw [hj]
    · rfl
  · refine l38 c c1 _ ?_ (KK.rf.upd (by omega)) (by rw [vu_k _ _ (by omega)]; exact hw)
    unfold P_wrap
    rw [if_pos (by rw [e0, nn_le (by omega) (by omega)]; omega)]
    exact H.place hB.1 (by omega) _
  · rw [if_neg (fun z => z.2 c1)] at ers
    subst ers
    exact hz V H KK.rf hw

/-! halts that spread -/
theorem P_halt_congr {q : Pg} {h j : Nat} {c : Int32} (hq : ∀ i, 8 * h ≤ i → i < 8 * h + 8 → q i = p i) (hj : 8 * h ≤ j ∧ j < 8 * h + 8) : P_halt q h c j = P_halt p h c j := by
  unfold P_halt
  rw [hq (8 * h + 1) (by omega) (by omega)]
  split
  · exact hq j hj.1 hj.2
  · unfold pu
    rw [hq j hj.1 hj.2]
theorem halts_at (C : Nat → Prop) [DecidablePred C] (c : Int32) : ∀ (n : Nat) (p : Pg) (j : Nat), itN (fun h p => if C h then P_halt p h c else p) n p j = if j < 8 * n ∧ C (j / 8) then P_halt p (j / 8) c j else p j
  | 0, p, j => by rw [if_neg (by omega)]; rfl
  | n + 1, p, j => by
    show (if C n then P_halt (itN _ n p) n c else itN _ n p) j = _
    have ih := halts_at C c n p
    by_cases hj : 8 * n ≤ j ∧ j < 8 * n + 8
    · have hd : j / 8 = n := by omega
      rw [hd]
      by_cases hC : C n
      · rw [if_pos hC, if_pos ⟨by omega, hC⟩]
        exact P_halt_congr (fun i h1 h2 => by rw [ih i, if_neg (by omega)]) hj
      · rw [if_neg hC, if_neg (fun z => hC z.2), ih j, if_neg (by omega)]
    · have : (if C n then P_halt (itN (fun h p => if C h then P_halt p h c else p) n p) n c else itN (fun h p => if C h then P_halt p h c else p) n p) j = itN (fun h p => if C h then P_halt p h c else p) n p j := by
        split
        · exact P_halt_keep (by omega)
        · rfl
      rw [this, ih j]
      by_cases h2 : j < 8 * n
      · by_cases hC : C (j / 8)
        · rw [if_pos ⟨h2, hC⟩, if_pos ⟨by omega, hC⟩]
        · rw [if_neg (fun z => hC z.2), if_neg (fun z => hC z.2)]
      · rw [if_neg (fun z => h2 z.1), if_neg (by omega)]
/-- both groups at once -/
abbrev P_C (B : Bd) (was now : Int32) (h : Nat) : Prop := (P_stops B was now 1 (bd_nh B) = true ∧ bd_group B h = nI 1) ∨ (P_stops B was now 2 (bd_nh B) = true ∧ bd_group B h = nI 2)
theorem grp_both (B : Bd) (was now : Int32) (p : Pg) : P_grp B was now 2 (P_grp B was now 1 p) = itN (fun h p => if P_C B was now h then P_halt p h (nI 4) else p) (bd_nh B) p := by
  funext j
  unfold P_grp
  rw [halts_at (P_C B was now), halts_at (fun h => P_stops B was now 2 (bd_nh B) = true ∧ bd_group B h = nI 2), halts_at (fun h => P_stops B was now 1 (bd_nh B) = true ∧ bd_group B h = nI 1)]
  by_cases h0 : j < 8 * bd_nh B
  · by_cases c1 : P_stops B was now 1 (bd_nh B) = true ∧ bd_group B (j / 8) = nI 1
    · have c2 : ¬ (P_stops B was now 2 (bd_nh B) = true ∧ bd_group B (j / 8) = nI 2) := fun z => absurd (c1.2.symm.trans z.2) (by decide)
      rw [if_neg (fun z => c2 z.2), if_pos ⟨h0, c1⟩, if_pos ⟨h0, Or.inl c1⟩]
    · by_cases c2 : P_stops B was now 2 (bd_nh B) = true ∧ bd_group B (j / 8) = nI 2
      · rw [if_pos ⟨h0, c2⟩, if_pos ⟨h0, Or.inr c2⟩]
        refine P_halt_congr (fun i h1 h2 => ?_) (by omega)
        rw [halts_at (fun h => P_stops B was now 1 (bd_nh B) = true ∧ bd_group B h = nI 1), if_neg]
        rw [show i / 8 = j / 8 by omega]
        exact fun z => c1 z.2
      · rw [if_neg (fun z => c2 z.2), if_neg (fun z => c1 z.2), if_neg (fun z => z.2.elim c1 c2)]
  · rw [if_neg (fun z => h0 z.1), if_neg (fun z => h0 z.1), if_neg (fun z => h0 z.1)]
theorem bit_or : ∀ n, n < 4 → ∀ a, a < 2 ^ n → nI a ||| (nI 1 <<< (nI n &&& nI 31)) = nI (a + 2 ^ n) := by decide +kernel
theorem hset_n (p : Pg) : ∀ n, n ≤ 4 → ∃ a, a < 2 ^ n ∧ P_hset p n = nI a
  | 0, _ => ⟨0, by decide, rfl⟩
  | n + 1, hn => by
    obtain ⟨a, ha, e⟩ := hset_n p n (by omega)
    have h2 : 2 ^ (n + 1) = 2 ^ n + 2 ^ n := by rw [Nat.pow_succ]; omega
    unfold P_hset
    split
    · exact ⟨a + 2 ^ n, by omega, by rw [e]; exact bit_or n (by omega) a ha⟩
    · exact ⟨a, by omega, e⟩
theorem fresh_bit : ∀ a, a < 16 → ∀ b, b < 16 → ∀ h, h < 4 → ((((nI a &&& (nI b ^^^ (-1))) >>> (nI h &&& nI 31)) &&& nI 1 = nI 0) ↔ (P_bit (nI a) h && !P_bit (nI b) h) = false) := by decide +kernel
theorem grp_bit0 : ∀ a, a < 8 → ∀ k, k < 3 → (a ||| 2 ^ k) < 8 ∧ nI a ||| (nI 1 <<< (nI k &&& nI 31)) = nI (a ||| 2 ^ k) ∧ ∀ j, j < 3 → (((nI (a ||| 2 ^ k) >>> (nI j &&& nI 31)) &&& nI 1 = nI 0) ↔ (((nI a >>> (nI j &&& nI 31)) &&& nI 1 = nI 0) ∧ j ≠ k)) := by decide +kernel
theorem grp_bit (a : Nat) (ha : a < 8) (k : Nat) (hk : k < 3) : ∃ a', a' < 8 ∧ nI a ||| (nI 1 <<< (nI k &&& nI 31)) = nI a' ∧ ∀ j, j < 3 → (((nI a' >>> (nI j &&& nI 31)) &&& nI 1 = nI 0) ↔ (((nI a >>> (nI j &&& nI 31)) &&& nI 1 = nI 0) ∧ j ≠ k)) := ⟨_, grp_bit0 a ha k hk⟩
theorem c_S_spreadHalts (X : SX M σ) (hB : BV2 B) (P : POK B m p) (H : RL B V p) {was now : Nat} (hwas : was < 16) (hnow : now < 16) (hz : ∀ V', RL B V' (P_grp B (nI was) (nI now) 2 (P_grp B (nI was) (nI now) 1 p)) → KK V V' → V' 0 7 = V 0 7 → Z none (sw M σ V' π) 668) : jv_Ct g (d + 1) mt_S_spreadHalts [.ref σ, .int (nI now &&& (nI was ^^^ (-1)))] (sw M σ V π) 668 0 0 Z := by
  have X0 := X
  obtain ⟨hσ, r0, r1, r2, r3, r4, r5, r6, r7, r8⟩ := X
  have tS0 := t_S0 hσ
  have tS1 := t_S1 hσ
  have tS2 := t_S2 hσ
  have lS2 := l_S2 hσ
  have tS3 := t_S3 hσ
  have lS3 := l_S3 hσ
  have tS16 := t_S16 hσ
  have lS16 := l_S16 hσ
  have tS17 := t_S17 hσ
  have lS17 := l_S17 hσ
  have tS18 := t_S18 hσ
  have lS18 := l_S18 hσ
  have b4 := hB.1.2.1
  have hnh := H.1.1
  rw [grp_both] at hz
  -- the groups
  have l2 : ∀ gr, gr < 8 → (∀ k, k < 3 → (((nI gr >>> (nI k &&& nI 31)) &&& nI 1 = nI 0) ↔ P_stops B (nI was) (nI now) k (bd_nh B) = false)) → ∀ n i V1 p1, i + n = bd_nh B → p1 = itN (fun h p => if P_C B (nI was) (nI now) h then P_halt p h (nI 4) else p) i p → POK B m p1 → RL B V1 p1 → KK V V1 → V1 0 7 = V 0 7 → jv_J g (d + 1) mt_S_spreadHalts 42 [some (.ref σ), none, some (.int (nI gr)), some (.int (nI i))] [] (sw M σ V1 π) 668 0 0 Z := by
    intro gr hgr hbit n
    induction n with
    | zero =>
      intro i V1 p1 hi ep P1 R K W
      have hi : i = bd_nh B := by omega
      subst hi
      subst ep
      have hnh := R.1.1
      refine b_S_spreadHalts_42 ?_
      simp (disch := omega) only [li, ne_eq, nI_add, pk_mul, nI_clamp, vin, true_and, nn_eq, nn_le, nn_lt, pk_div, rm2, or0, sw_0, sw_1, sw_3, sw_18, sw_o, sw_h, sw_r, sw_t, wi_0, wi_1, wi_3, wi_18, wi_o, wi_h, wi_r, wi_t, sw_q, sw_ref, wr_q, tS0, tS1, tS2, lS2, tS3, lS3, tS16, lS16, tS17, lS17, tS18, lS18, r0, r1, r2, r3, r4, r5, Option.some.injEq, exists_eq_left', hnh]
      exact ⟨fun _ => hz V1 R K W, fun c => absurd (Nat.le_refl _) c⟩
    | succ n ih =>
      intro i V1 p1 hi ep P1 R K W
      have hnh := R.1.1
      have tSh := t_SH hσ (show i < 4 by omega)
      have e6 := r6 i (by omega)
      obtain ⟨a1, a2, a3, a4, a5, a6, a7⟩ := R.2.1 i (by omega)
      obtain ⟨k, hk, ek⟩ := hB.2.2.2.1 i
      rw [ek] at a2
      have hbk := hbit k (by omega)
      have noC : (k = 0 ∨ ((nI gr >>> (nI k &&& nI 31)) &&& nI 1 = nI 0)) → ¬ P_C B (nI was) (nI now) i := by
        intro hc z
        unfold P_C at z
        rw [ek] at z
        rcases z with ⟨z1, z2⟩ | ⟨z1, z2⟩
        · have := nI_inj (by omega) (by omega) z2
          subst this
          rcases hc with hc | hc
          · omega
          · rw [hbk.mp hc] at z1; exact absurd z1 (by decide)
        · have := nI_inj (by omega) (by omega) z2
          subst this
          rcases hc with hc | hc
          · omega
          · rw [hbk.mp hc] at z1; exact absurd z1 (by decide)
      have skip : (k = 0 ∨ ((nI gr >>> (nI k &&& nI 31)) &&& nI 1 = nI 0)) → jv_J g (d + 1) mt_S_spreadHalts 42 [some (.ref σ), none, some (.int (nI gr)), some (.int (nI (i + 1)))] [] (sw M σ V1 π) 668 0 0 Z := fun hc => ih (i + 1) V1 p1 (by omega) (by show _ = (if _ then _ else _); rw [if_neg (noC hc)]; exact ep) P1 R K W
      refine b_S_spreadHalts_42 ?_
      simp (disch := omega) only [li, ne_eq, nI_add, pk_mul, nI_clamp, vin, true_and, nn_eq, nn_le, nn_lt, pk_div, rm2, or0, sw_0, sw_1, sw_3, sw_18, sw_o, sw_h, sw_r, sw_t, wi_0, wi_1, wi_3, wi_18, wi_o, wi_h, wi_r, wi_t, sw_q, sw_ref, wr_q, tS0, tS1, tS2, lS2, tS3, lS3, tS16, lS16, tS17, lS17, tS18, lS18, r0, r1, r2, r3, r4, r5, Option.some.injEq, exists_eq_left', hnh, tSh, e6, a2]
      refine ⟨fun c => absurd c (by omega), fun _ => ⟨fun c => skip (Or.inl c), fun c => ⟨fun c2 => skip (Or.inr c2), fun c2 => ?_⟩⟩⟩
      have yes : P_C B (nI was) (nI now) i := by
        have hs : P_stops B (nI was) (nI now) k (bd_nh B) = true := by
          rw [← Bool.not_eq_false]; exact fun z => c2 (hbk.mpr z)
        unfold P_C
        rw [ek]
        rcases (by omega : k = 1 ∨ k = 2) with rfl | rfl
        · exact Or.inl ⟨hs, rfl⟩
        · exact Or.inr ⟨hs, rfl⟩
      refine c_S_halt X0 hB.1 P1 R (by omega) (fun V2 R2 K2 W2 => jv_rv_i ?_)
      exact ih (i + 1) V2 _ (by omega) (by show _ = (if _ then _ else _); rw [if_pos yes, ← ep]) (P1.halt (by omega) (by omega)) R2 (K.trans K2) (W2.trans W)
  have l1 : ∀ n i gr, i + n = bd_nh B → gr < 8 → (∀ k, k < 3 → (((nI gr >>> (nI k &&& nI 31)) &&& nI 1 = nI 0) ↔ P_stops B (nI was) (nI now) k i = false)) → jv_J g (d + 1) mt_S_spreadHalts 4 [some (.ref σ), some (.int (nI now &&& (nI was ^^^ (-1)))), some (.int (nI gr)), some (.int (nI i))] [] (sw M σ V π) 668 0 0 Z := by
    intro n
    induction n with
    | zero =>
      intro i gr hi hgr hbit
      have hi : i = bd_nh B := by omega
      subst hi
      refine b_S_spreadHalts_4 ?_
      simp (disch := omega) only [li, ne_eq, nI_add, pk_mul, nI_clamp, vin, true_and, nn_eq, nn_le, nn_lt, pk_div, rm2, or0, sw_0, sw_1, sw_3, sw_18, sw_o, sw_h, sw_r, sw_t, wi_0, wi_1, wi_3, wi_18, wi_o, wi_h, wi_r, wi_t, sw_q, sw_ref, wr_q, tS0, tS1, tS2, lS2, tS3, lS3, tS16, lS16, tS17, lS17, tS18, lS18, r0, r1, r2, r3, r4, r5, Option.some.injEq, exists_eq_left', hnh]
      exact ⟨fun _ => l2 gr hgr hbit (bd_nh B) 0 V p (by omega) rfl P H KK.rf rfl, fun c => absurd (Nat.le_refl _) c⟩
    | succ n ih =>
      intro i gr hi hgr hbit
      have tSh := t_SH hσ (show i < 4 by omega)
      have e6 := r6 i (by omega)
      obtain ⟨a1, a2, a3, a4, a5, a6, a7⟩ := H.2.1 i (by omega)
      obtain ⟨k, hk, ek⟩ := hB.2.2.2.1 i
      rw [ek] at a2
      have fb := fresh_bit now hnow was hwas i (by omega)
      refine b_S_spreadHalts_4 ?_
      have hm1 : (-1 : Int32) = -nI 1 := rfl
      simp (disch := omega) only [li, ne_eq, nI_add, pk_mul, nI_clamp, vin, true_and, nn_eq, nn_le, nn_lt, pk_div, rm2, or0, sw_0, sw_1, sw_3, sw_18, sw_o, sw_h, sw_r, sw_t, wi_0, wi_1, wi_3, wi_18, wi_o, wi_h, wi_r, wi_t, sw_q, sw_ref, wr_q, tS0, tS1, tS2, lS2, tS3, lS3, tS16, lS16, tS17, lS17, tS18, lS18, r0, r1, r2, r3, r4, r5, Option.some.injEq, exists_eq_left', hnh, tSh, e6, a2]
      rw [← hm1]
      refine ⟨fun c => absurd c (by omega), fun _ => ⟨fun c => ?_, fun c => ?_⟩⟩
      · refine ih (i + 1) gr (by omega) hgr (fun j hj => ?_)
        have : P_stops B (nI was) (nI now) j (i + 1) = P_stops B (nI was) (nI now) j i := by
          show (_ || (_ && _ && _)) = _
          rw [Bool.and_assoc, fb.mp c, Bool.and_false, Bool.or_false]
        rw [this]
        exact hbit j hj
      · obtain ⟨gr', hgr', e', hb'⟩ := grp_bit gr hgr k (by omega)
        rw [e']
        refine ih (i + 1) gr' (by omega) hgr' (fun j hj => ?_)
        have hf : (P_bit (nI now) i && !P_bit (nI was) i) = true := by
          rw [← Bool.not_eq_false]; exact fun z => c (fb.mpr z)
        have : P_stops B (nI was) (nI now) j (i + 1) = (P_stops B (nI was) (nI now) j i || decide (j = k)) := by
          show (_ || (decide (bd_group B i = nI j) && _ && _)) = _
          rw [Bool.and_assoc, hf, Bool.and_true, ek]
          congr 1
          by_cases hjk : j = k
          · subst hjk; simp
          · rw [decide_eq_false hjk, decide_eq_false (fun z => hjk (nI_inj (by omega) (by omega) z.symm))]
        rw [this, hb' j hj, hbit j hj, Bool.or_eq_false_iff, decide_eq_false_iff_not]
  refine jv_ct rfl (Nat.le_of_ble_eq_true rfl) (b_S_spreadHalts_0 (l1 (bd_nh B) 0 0 (by omega) (by omega) (fun k hk => ?_)))
  rcases (by omega : k = 0 ∨ k = 1 ∨ k = 2) with rfl | rfl | rfl <;> exact ⟨fun _ => rfl, fun _ => by decide⟩

theorem c_S_wakeAll (X : SX M σ) (hB : BV2 B) (H : RL B V p) {w : Int32} (hw : ¬ w = nI 0) (hz : ∀ V', RL B V' (P_wake B (p, w)) → KK V V' → V' 0 7 = V 0 7 → Z none (sw M σ V' π) 668) : jv_Ct g (d + 1) mt_S_wakeAll [.ref σ] (sw M σ V π) 668 0 0 Z := by
  have X0 := X
  obtain ⟨hσ, r0, r1, r2, r3, r4, r5, r6, r7, r8⟩ := X
  have tS0 := t_S0 hσ
  have tS1 := t_S1 hσ
  have tS2 := t_S2 hσ
  have lS2 := l_S2 hσ
  have tS3 := t_S3 hσ
  have lS3 := l_S3 hσ
  have tS16 := t_S16 hσ
  have lS16 := l_S16 hσ
  have tS17 := t_S17 hσ
  have lS17 := l_S17 hσ
  have tS18 := t_S18 hσ
  have lS18 := l_S18 hσ
  have b4 := hB.1.2.1
  unfold P_wake at hz
  rw [if_neg hw] at hz
  have l : ∀ n i V1 p1, i + n = bd_nh B → p1 = itN (fun h p => pu (pu p (8 * h + 1) (if p (8 * h + 1) = nI 1 then nI 0 else p (8 * h + 1))) (8 * h + 2) (nI 0)) i p → RL B V1 p1 → KK V V1 → V1 0 7 = V 0 7 → jv_J g (d + 1) mt_S_wakeAll 2 [some (.ref σ), some (.int (nI i))] [] (sw M σ V1 π) 668 0 0 Z := by
    intro n
    induction n with
    | zero =>
      intro i V1 p1 hi ep R K W
      have hi : i = bd_nh B := by omega
      subst hi
      subst ep
      have hnh := R.1.1
      refine b_S_wakeAll_2 ?_
      simp (disch := omega) only [li, ne_eq, nI_add, pk_mul, nI_clamp, vin, true_and, nn_eq, nn_le, nn_lt, pk_div, rm2, or0, sw_0, sw_1, sw_3, sw_18, sw_o, sw_h, sw_r, sw_t, wi_0, wi_1, wi_3, wi_18, wi_o, wi_h, wi_r, wi_t, sw_q, sw_ref, wr_q, tS0, tS1, tS2, lS2, tS3, lS3, tS16, lS16, tS17, lS17, tS18, lS18, r0, r1, r2, r3, r4, r5, Option.some.injEq, exists_eq_left', hnh]
      exact ⟨fun _ => hz V1 R K W, fun c => absurd (Nat.le_refl _) c⟩
    | succ n ih =>
      intro i V1 p1 hi ep R K W
      have hnh := R.1.1
      have tSh := t_SH hσ (show i < 4 by omega)
      have e6 := r6 i (by omega)
      obtain ⟨a1, a2, a3, a4, a5, a6, a7⟩ := R.2.1 i (by omega)
      refine b_S_wakeAll_2 ?_
      simp (disch := omega) only [li, ne_eq, nI_add, pk_mul, nI_clamp, vin, true_and, nn_eq, nn_le, nn_lt, pk_div, rm2, or0, sw_0, sw_1, sw_3, sw_18, sw_o, sw_h, sw_r, sw_t, wi_0, wi_1, wi_3, wi_18, wi_o, wi_h, wi_r, wi_t, sw_q, sw_ref, wr_q, tS0, tS1, tS2, lS2, tS3, lS3, tS16, lS16, tS17, lS17, tS18, lS18, r0, r1, r2, r3, r4, r5, Option.some.injEq, exists_eq_left', hnh, tSh, e6]
      refine ⟨fun c => absurd c (by omega), fun _ => ?_⟩
      refine jv_ct rfl (Nat.le_of_ble_eq_true rfl) (b_H_wake_0 ?_)
      simp (disch := omega) only [li, ne_eq, nI_add, pk_mul, nI_clamp, vin, true_and, nn_eq, nn_le, nn_lt, pk_div, rm2, or0, sw_0, sw_1, sw_3, sw_18, sw_o, sw_h, sw_r, sw_t, wi_0, wi_1, wi_3, wi_18, wi_o, wi_h, wi_r, wi_t, sw_q, sw_ref, wr_q, tS0, tS1, tS2, lS2, tS3, lS3, tS16, lS16, tS17, lS17, tS18, lS18, r0, r1, r2, r3, r4, r5, Option.some.injEq, exists_eq_left', tSh, vu_j, a4]
      refine ⟨fun c => jv_rv_i ?_, fun c => jv_rv_i ?_⟩
      · have R2 := R.wake hB.1 (show i < 4 by omega) c
        have hv : vu (vu V1 (19 + 2 * i) 6 (nI 0)) (19 + 2 * i) 4 (p1 (8 * i + 1)) = vu V1 (19 + 2 * i) 6 (nI 0) := by
          funext k j
          unfold vu
          by_cases hc : k = 19 + 2 * i ∧ j = 4
          · rw [if_pos hc, if_neg (by omega), hc.1, hc.2, a4]
          · rw [if_neg hc]
        rw [hv] at R2
        refine ih (i + 1) _ _ (by omega) ?_ R2 (K.upd (by omega)) (by rw [vu_k _ _ (by omega)]; exact W)
        show _ = pu (pu (itN _ i p) _ _) _ _
        rw [← ep, if_neg c]
      · have R2 := R.wake hB.1 (show i < 4 by omega) (show ¬ nI 0 = nI 1 by decide)
        refine ih (i + 1) _ _ (by omega) ?_ R2 ((K.upd (by omega)).upd (by omega)) (by rw [vu_k _ _ (by omega), vu_k _ _ (by omega)]; exact W)
        show _ = pu (pu (itN _ i p) _ _) _ _
        rw [← ep, if_pos c]
  exact jv_ct rfl (Nat.le_of_ble_eq_true rfl) (b_S_wakeAll_0 (l (bd_nh B) 0 V p (by omega) rfl H KK.rf rfl))

/-- a State and a page, with what holds of both -/
def SR (B : Bd) (pr : Int32) (V : SV) (π : Nat → Nat) (p : Pg) : Prop := ∃ m, POK B m p ∧ AG B m p ∧ RL B V p ∧ RQ V π m p ∧ V 1 2 = nI m ∧ PI π ∧ AB B (V 0 6) pr
/-- n ticks of a page -/
def PT (B : Bd) (pr : Int32) : Nat → Pg → Pg
  | 0, p => p
  | n + 1, p => PT B pr n (P_tick B pr p).1
theorem PT_eq (pr : Int32) : ∀ (n : Nat) (s : Ps), (P_ticks B pr n s).1 = PT B pr n s.1
  | 0, _ => rfl
  | n + 1, s => by show (P_ticks B pr n _).1 = PT B pr n _; exact PT_eq pr n _
theorem RQ.keep {V V' : SV} {p p' : Pg} {π : Nat → Nat} {m : Nat} (H : RQ V π m p) (hm : m ≤ 12) (I : PI π) (K : ∀ k f, 4 ≤ k → k < 16 → V' k f = V k f) (hp : ∀ j, 81 ≤ j → p' j = p j) : RQ V' π m p' := fun i hi => (H i hi).same (fun f => K _ _ (by omega) (by have := I.1 i (by omega); omega)) (fun k h1 _ => hp k (by omega))
theorem c_S_pass (X : SX M σ) (G : PRG M B) (hB : BV2 B) {pr : Int32} (S : SR B pr V π p) {n : Nat} (hn : n < 1000) (hz : ∀ V' π', SR B pr V' π' (PT B pr n p) → V' 0 6 = V 0 6 → Z none (sw M σ V' π') 668) : jv_Ct g (d + 4) mt_S_pass [.ref σ, .ref 40, .int (nI n)] (sw M σ V π) 668 0 0 Z := by
  have X0 := X
  obtain ⟨hσ, r0, r1, r2, r3, r4, r5, r6, r7, r8⟩ := X
  have tS0 := t_S0 hσ
  have tS1 := t_S1 hσ
  have tS2 := t_S2 hσ
  have lS2 := l_S2 hσ
  have tS3 := t_S3 hσ
  have lS3 := l_S3 hσ
  have tS16 := t_S16 hσ
  have lS16 := l_S16 hσ
  have tS17 := t_S17 hσ
  have lS17 := l_S17 hσ
  have tS18 := t_S18 hσ
  have lS18 := l_S18 hσ
  have b4 := hB.1.2.1
  have l : ∀ k i V1 π1 p1, i + k = n → SR B pr V1 π1 p1 → V1 0 6 = V 0 6 → PT B pr n p = PT B pr k p1 → jv_J g (d + 4) mt_S_pass 2 [some (.ref σ), some (.ref 40), some (.int (nI n)), some (.int (nI i)), none, none] [] (sw M σ V1 π1) 668 0 0 Z := by
    intro k
    induction k with
    | zero =>
      intro i V1 π1 p1 hi S1 A1 E
      have hi : i = n := by omega
      subst hi
      rw [E] at hz
      refine b_S_pass_2 ?_
      simp (disch := omega) only [li, ne_eq, nI_add, pk_mul, nI_clamp, vin, true_and, nn_eq, nn_le, nn_lt, pk_div, rm2, or0, sw_0, sw_1, sw_3, sw_18, sw_o, sw_h, sw_r, sw_t, wi_0, wi_1, wi_3, wi_18, wi_o, wi_h, wi_r, wi_t, sw_q, sw_ref, wr_q, tS0, tS1, tS2, lS2, tS3, lS3, tS16, lS16, tS17, lS17, tS18, lS18, r0, r1, r2, r3, r4, r5, Option.some.injEq, exists_eq_left']
      exact ⟨fun _ => hz V1 π1 S1 A1, fun c => absurd (Nat.le_refl _) c⟩
    | succ k ih =>
      intro i V1 π1 p1 hi S1 A1 E
      obtain ⟨m, P, A, R, Q, C, I, AB1⟩ := S1
      refine b_S_pass_2 ?_
      simp (disch := omega) only [li, ne_eq, nI_add, pk_mul, nI_clamp, vin, true_and, nn_eq, nn_le, nn_lt, pk_div, rm2, or0, sw_0, sw_1, sw_3, sw_18, sw_o, sw_h, sw_r, sw_t, wi_0, wi_1, wi_3, wi_18, wi_o, wi_h, wi_r, wi_t, sw_q, sw_ref, wr_q, tS0, tS1, tS2, lS2, tS3, lS3, tS16, lS16, tS17, lS17, tS18, lS18, r0, r1, r2, r3, r4, r5, Option.some.injEq, exists_eq_left']
      refine ⟨fun c => absurd c (by omega), fun _ => ?_⟩
      refine c_S_haltedSet X0 hB.1 R (jv_ri_i ?_)
      simp (disch := omega) only [li, ne_eq, nI_add, pk_mul, nI_clamp, vin, true_and, nn_eq, nn_le, nn_lt, pk_div, rm2, or0, sw_0, sw_1, sw_3, sw_18, sw_o, sw_h, sw_r, sw_t, wi_0, wi_1, wi_3, wi_18, wi_o, wi_h, wi_r, wi_t, sw_q, sw_ref, wr_q, tS0, tS1, tS2, lS2, tS3, lS3, tS16, lS16, tS17, lS17, tS18, lS18, r0, r1, r2, r3, r4, r5, Option.some.injEq, exists_eq_left']
      have R0 := R.free hB.1 (k := 0) (j := 7) (nI 0) (by omega)
      refine c_S_moveOrders X0 hB P A R0 (Q.keep P.1 I (fun k f h1 h2 => vu_k _ _ (by omega)) (fun _ _ => rfl)) (by rw [vu_k _ _ (by omega)]; exact C) I (w := nI 0) (vu_s _ _ _ _) (fun V2 π2 m2 hm2 R2 P2 A2 Q2 C2 I2 B2 W2 => jv_rv_i ?_)
      have B2 : V2 0 6 = V1 0 6 := by rw [B2, vu_j _ _ (by omega)]
      obtain ⟨s0, es0⟩ : ∃ s0, s0 = P_round B 13 0 (p1, nI 0) := ⟨_, rfl⟩
      rw [← es0] at R2 P2 A2 Q2 W2
      obtain ⟨was, hwas, ewas⟩ := hset_n p1 (bd_nh B) b4
      have hwas : was < 16 := Nat.lt_of_lt_of_le hwas (Nat.pow_le_pow_right (by omega) b4)
      have l25 : ∀ k2 h V3 s3, h + k2 = bd_nh B → s3 = itN (fun h s => P_run B pr s h) h s0 → POK B m2 s3.1 → RL B V3 s3.1 → KK V2 V3 → V3 0 7 = s3.2 → (∀ j, 76 ≤ j → s3.1 j = s0.1 j) → jv_J g (d + 4) mt_S_pass 25 [some (.ref σ), some (.ref 40), some (.int (nI n)), some (.int (nI i)), some (.int (P_hset p1 (bd_nh B))), some (.int (nI h))] [] (sw M σ V3 π2) 668 0 0 Z := by
        intro k2
        induction k2 with
        | zero =>
          intro h V3 s3 hh es3 P3 R3 K3 W3 F3
          have hh : h = bd_nh B := by omega
          subst hh
          have hnh := R3.1.1
          refine b_S_pass_25 ?_
          simp (disch := omega) only [li, ne_eq, nI_add, pk_mul, nI_clamp, vin, true_and, nn_eq, nn_le, nn_lt, pk_div, rm2, or0, sw_0, sw_1, sw_3, sw_18, sw_o, sw_h, sw_r, sw_t, wi_0, wi_1, wi_3, wi_18, wi_o, wi_h, wi_r, wi_t, sw_q, sw_ref, wr_q, tS0, tS1, tS2, lS2, tS3, lS3, tS16, lS16, tS17, lS17, tS18, lS18, r0, r1, r2, r3, r4, r5, Option.some.injEq, exists_eq_left', hnh]
          refine ⟨fun _ => ?_, fun c => absurd (Nat.le_refl _) c⟩
          refine c_S_haltedSet X0 hB.1 R3 (jv_ri_i ?_)
          obtain ⟨now, hnow, enow⟩ := hset_n s3.1 (bd_nh B) b4
          have hnow : now < 16 := Nat.lt_of_lt_of_le hnow (Nat.pow_le_pow_right (by omega) b4)
          have Et : P_tick B pr p1 = (P_wake B (P_grp B (nI was) (nI now) 2 (P_grp B (nI was) (nI now) 1 s3.1), s3.2), s3.2) := by
            unfold P_tick P_runs
            rw [← es0, ← es3, ewas, enow]
          obtain ⟨g1, g2⟩ := P_grp_OK P3 hB (nI was) (nI now) 1
          obtain ⟨g3, g4⟩ := P_grp_OK g1 hB (nI was) (nI now) 2
          obtain ⟨w1, w2⟩ := P_wake_OK g3 hB s3.2
          have fr : ∀ j, 76 ≤ j → (P_tick B pr p1).1 j = s0.1 j := fun j hj => by rw [Et]; exact (w2 j hj).trans ((g4 j hj).trans ((g2 j hj).trans (F3 j hj)))
          have nx : ∀ V5, RL B V5 (P_tick B pr p1).1 → KK V2 V5 → jv_J g (d + 4) mt_S_pass 2 [some (.ref σ), some (.ref 40), some (.int (nI n)), some (.int (nI (i + 1))), none, none] [] (sw M σ V5 π2) 668 0 0 Z := by
            intro V5 R5 K5
            refine ih (i + 1) V5 π2 _ (by omega) ⟨m2, by rw [Et]; exact w1, fun l hl => by rw [fr _ (by omega)]; exact A2 l hl, R5, Q2.keep P2.1 I2 K5.1 (fun j hj => fr j (by omega)), by rw [K5.2.2]; exact C2, I2, by rw [K5.2.1, B2]; exact AB1⟩ (by rw [K5.2.1, B2]; exact A1) E
          rw [ewas, enow]
          simp (disch := omega) only [li, ne_eq, nI_add, pk_mul, nI_clamp, vin, true_and, nn_eq, nn_le, nn_lt, pk_div, rm2, or0, sw_0, sw_1, sw_3, sw_18, sw_o, sw_h, sw_r, sw_t, wi_0, wi_1, wi_3, wi_18, wi_o, wi_h, wi_r, wi_t, sw_q, sw_ref, wr_q, tS0, tS1, tS2, lS2, tS3, lS3, tS16, lS16, tS17, lS17, tS18, lS18, r0, r1, r2, r3, r4, r5, Option.some.injEq, exists_eq_left']
          refine c_S_spreadHalts X0 hB P3 R3 hwas hnow (fun V4 R4 K4 W4 => jv_rv_i ?_)
          have W4 : V4 0 7 = s3.2 := W4.trans W3
          simp (disch := omega) only [li, ne_eq, nI_add, pk_mul, nI_clamp, vin, true_and, nn_eq, nn_le, nn_lt, pk_div, rm2, or0, sw_0, sw_1, sw_3, sw_18, sw_o, sw_h, sw_r, sw_t, wi_0, wi_1, wi_3, wi_18, wi_o, wi_h, wi_r, wi_t, sw_q, sw_ref, wr_q, tS0, tS1, tS2, lS2, tS3, lS3, tS16, lS16, tS17, lS17, tS18, lS18, r0, r1, r2, r3, r4, r5, Option.some.injEq, exists_eq_left', W4]
          refine ⟨fun c => ?_, fun c => ?_⟩
          · refine nx V4 ?_ (K3.trans K4)
            rw [Et]
            unfold P_wake
            rw [if_pos c]
            exact R4
          · refine c_S_wakeAll X0 hB R4 c (fun V5 R5 K5 W5 => jv_rv_i (nx V5 ?_ (K3.trans (K4.trans K5))))
            rw [Et]
            exact R5
        | succ k2 ih2 =>
          intro h V3 s3 hh es3 P3 R3 K3 W3 F3
          have hnh := R3.1.1
          refine b_S_pass_25 ?_
          simp (disch := omega) only [li, ne_eq, nI_add, pk_mul, nI_clamp, vin, true_and, nn_eq, nn_le, nn_lt, pk_div, rm2, or0, sw_0, sw_1, sw_3, sw_18, sw_o, sw_h, sw_r, sw_t, wi_0, wi_1, wi_3, wi_18, wi_o, wi_h, wi_r, wi_t, sw_q, sw_ref, wr_q, tS0, tS1, tS2, lS2, tS3, lS3, tS16, lS16, tS17, lS17, tS18, lS18, r0, r1, r2, r3, r4, r5, Option.some.injEq, exists_eq_left', hnh]
          refine ⟨fun c => absurd c (by omega), fun _ => ?_⟩
          refine c_S_step X0 G hB P3 R3 (by omega) (pr := pr) (by rw [K3.2.1, B2]; exact AB1) W3 (fun V4 R4 K4 W4 => jv_rv_i ?_)
          obtain ⟨q1, q2⟩ := P_run_OK P3 hB pr s3.2 (h := h) (by omega)
          exact ih2 (h + 1) V4 (P_run B pr s3 h) (by omega) (by show _ = P_run B pr (itN _ h s0) h; rw [← es3]) q1 R4 (K3.trans K4) W4 (fun j hj => (q2 j hj).trans (F3 j hj))
      exact l25 (bd_nh B) 0 V2 s0 (by omega) rfl P2 R2 KK.rf W2 (fun _ _ => rfl)
  exact jv_ct rfl (Nat.le_of_ble_eq_true rfl) (b_S_pass_0 (l n 0 V π p (by omega) S rfl rfl))

end SC
