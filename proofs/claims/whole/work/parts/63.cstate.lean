section SC
variable {g : jv_G} {d : Nat} {M : jv_Mem} {Z : Option Value → jv_Mem → Nat → Prop} {B : Bd} {p : Pg} {σ m : Nat} {V : SV} {π : Nat → Nat}
theorem P_do_1 {h u n : Nat} {w : Int32} (c : u / 1000 = 1) (e : p (8 * h + 4 + u / 100 % 10) = nI n) (hn : n < 1000) : P_do (p, w) h u = (pu p (8 * h + 4 + u / 100 % 10) (nI ((n + u % 100) % 1000)), w) := by
  unfold P_do
  rw [if_pos c]
  simp (disch := omega) only [e, nI_add, pk_div, pk_mul, rm2]
theorem P_do_2 {h u n : Nat} {w : Int32} (c : u / 1000 = 2) (e : p (8 * h + 4 + u / 100 % 10) = nI n) (hn : n < 1000) : P_do (p, w) h u = (pu p (8 * h + 4 + u / 100 % 10) (if n ≤ 0 then nI 0 else nI n - nI 1), w) := by
  unfold P_do
  rw [if_neg (by omega), if_pos c]
  simp (disch := omega) only [e, nn_le]
  by_cases h0 : n ≤ 0
  · rw [if_pos h0, if_pos h0, show n = 0 by omega]
  · rw [if_neg h0, if_neg h0]
theorem P_do_3 {h u : Nat} {w : Int32} (c : u / 1000 = 3) : P_do (p, w) h u = (pu p (8 * h + 4 + u / 100 % 10) (p (8 * h + 4 + u % 100)), w) := by
  unfold P_do
  rw [if_neg (by omega), if_neg (by omega), if_pos c]
theorem P_do_4 {h u : Nat} {w : Int32} (c : u / 1000 = 4) : P_do (p, w) h u = (pu p (8 * h + 4 + u / 100 % 10) (p (32 + u % 100)), w) := by
  unfold P_do
  rw [if_neg (by omega), if_neg (by omega), if_neg (by omega), if_pos c]
theorem P_do_5 {h u : Nat} {w : Int32} (c : u / 1000 = 5) : P_do (p, w) h u = (pu p (32 + u % 100) (p (8 * h + 4 + u / 100 % 10)), if w = nI 0 then (if u % 100 = 7 then nI 1 else nI 0) else nI 1) := by
  unfold P_do
  rw [if_neg (by omega), if_neg (by omega), if_neg (by omega), if_neg (by omega)]
theorem c_S_calc (X : SX M σ) (hB : BOK B) (P : POK B m p) (H : RL B V p) {h u : Nat} (hh : h < bd_nh B) (hu : DV u) {w : Int32} (hw : V 0 7 = w) {x2 x3 x4 : Int32} (g2 : x2 = nI (u / 1000)) (g3 : x3 = nI (u / 100 % 10)) (g4 : x4 = nI (u % 100)) (hz : ∀ V', RL B V' (P_do (p, w) h u).1 → KK V V' → V' 0 7 = (P_do (p, w) h u).2 → Z none (sw M σ V' π) 668) : jv_Ct g d mt_S_calculate [.ref σ, .ref (σ + 19 + 2 * h), .int x2, .int x3, .int x4] (sw M σ V π) 668 0 0 Z := by
  have X0 := X
  obtain ⟨hσ, r0, r1, r2, r3, r4, r5, r6, r7, r8⟩ := X
  have tS0 := t_S0 hσ
  have tS1 := t_S1 hσ
  have tS2 := t_S2 hσ
  have lS2 := l_S2 hσ
  have tS3 := t_S3 hσ
  have lS3 := l_S3 hσ
  have tS16 := t_S16 hσ
  have lS16 := l_S16 hσ
  have tS17 := t_S17 hσ
  have lS17 := l_S17 hσ
  have tS18 := t_S18 hσ
  have lS18 := l_S18 hσ
  have b4 := hB.2.1
  unfold DV at hu
  subst g2 g3 g4
  have tSh := t_SH hσ (show h < 4 by omega)
  have tSr := t_SR hσ (show h < 4 by omega)
  have lSr := l_SR hσ (show h < 4 by omega)
  have e8 := r8 h (by omega)
  obtain ⟨a1, a2, a3, a4, a5, a6, a7⟩ := H.2.1 h hh
  have e1 := a7 (u / 100 % 10) (by omega)
  obtain ⟨n, en, hn⟩ := P.2.1.at (8 * h + 4 + u / 100 % 10)
  rw [en] at e1
  refine jv_ct rfl (Nat.le_of_ble_eq_true rfl) (b_S_calculate_0 ?_)
  simp (disch := omega) only [li, ne_eq, nI_add, pk_mul, nI_clamp, vin, true_and, nn_eq, nn_le, nn_lt, pk_div, rm2, or0, sw_0, sw_1, sw_3, sw_18, sw_o, sw_h, sw_r, sw_t, wi_0, wi_1, wi_3, wi_18, wi_o, wi_h, wi_r, wi_t, sw_q, sw_ref, wr_q, tS0, tS1, tS2, lS2, tS3, lS3, tS16, lS16, tS17, lS17, tS18, lS18, r0, r1, r2, r3, r4, r5, Option.some.injEq, exists_eq_left', tSh, tSr, lSr, e8, e1]
  refine ⟨fun c => ?_, fun c => ⟨fun c1 => ?_, fun c1 => ?_⟩, fun c => ?_, fun c => ?_, fun c => ?_, fun c => ?_⟩
  · rw [P_do_1 c en hn] at hz
    exact hz _ (H.reg hB (by omega) (by omega) _) (KK.rf.upd (by omega)) (by rw [vu_k _ _ (by omega)]; exact hw)
  · rw [P_do_2 c en hn, if_pos c1] at hz
    exact hz _ (H.reg hB (by omega) (by omega) _) (KK.rf.upd (by omega)) (by rw [vu_k _ _ (by omega)]; exact hw)
  · rw [P_do_2 c en hn, if_neg c1] at hz
    exact hz _ (H.reg hB (by omega) (by omega) _) (KK.rf.upd (by omega)) (by rw [vu_k _ _ (by omega)]; exact hw)
  · rw [P_do_3 c] at hz
    simp (disch := omega) only [li, ne_eq, nI_add, pk_mul, nI_clamp, vin, true_and, nn_eq, nn_le, nn_lt, pk_div, rm2, or0, sw_0, sw_1, sw_3, sw_18, sw_o, sw_h, sw_r, sw_t, wi_0, wi_1, wi_3, wi_18, wi_o, wi_h, wi_r, wi_t, sw_q, sw_ref, wr_q, tS0, tS1, tS2, lS2, tS3, lS3, tS16, lS16, tS17, lS17, tS18, lS18, r0, r1, r2, r3, r4, r5, Option.some.injEq, exists_eq_left', tSh, tSr, lSr, e8, e1]
    rw [a7 (u % 100) (by omega)]
    exact hz _ (H.reg hB (by omega) (by omega) _) (KK.rf.upd (by omega)) (by rw [vu_k _ _ (by omega)]; exact hw)
  · rw [P_do_4 c] at hz
    simp (disch := omega) only [li, ne_eq, nI_add, pk_mul, nI_clamp, vin, true_and, nn_eq, nn_le, nn_lt, pk_div, rm2, or0, sw_0, sw_1, sw_3, sw_18, sw_o, sw_h, sw_r, sw_t, wi_0, wi_1, wi_3, wi_18, wi_o, wi_h, wi_r, wi_t, sw_q, sw_ref, wr_q, tS0, tS1, tS2, lS2, tS3, lS3, tS16, lS16, tS17, lS17, tS18, lS18, r0, r1, r2, r3, r4, r5, Option.some.injEq, exists_eq_left', tSh, tSr, lSr, e8, e1]
    rw [H.2.2.1 (u % 100) (by omega)]
    exact hz _ (H.reg hB (by omega) (by omega) _) (KK.rf.upd (by omega)) (by rw [vu_k _ _ (by omega)]; exact hw)
  · rw [P_do_5 c, en] at hz
    simp (disch := omega) only [li, ne_eq, nI_add, pk_mul, nI_clamp, vin, true_and, nn_eq, nn_le, nn_lt, pk_div, rm2, or0, sw_0, sw_1, sw_3, sw_18, sw_o, sw_h, sw_r, sw_t, wi_0, wi_1, wi_3, wi_18, wi_o, wi_h, wi_r, wi_t, sw_q, sw_ref, wr_q, tS0, tS1, tS2, lS2, tS3, lS3, tS16, lS16, tS17, lS17, tS18, lS18, r0, r1, r2, r3, r4, r5, Option.some.injEq, exists_eq_left', tSh, tSr, lSr, e8, e1]
    have R := H.cell hB (show u % 100 < 8 by omega) (nI n)
    have hv : vu V 18 (u % 100) (nI n) 0 7 = w := by rw [vu_k _ _ (by omega)]; exact hw
    simp only [hv]
    refine ⟨fun c1 => ?_, fun c1 => ⟨fun c2 => ?_, fun c2 => ?_⟩⟩
    · rw [if_neg c1] at hz
      exact hz _ (R.free hB _ (by omega)) ((KK.rf.upd (by omega)).upd (by omega)) (vu_s _ _ _ _)
    · rw [if_pos c1, if_neg c2] at hz
      exact hz _ (R.free hB _ (by omega)) ((KK.rf.upd (by omega)).upd (by omega)) (vu_s _ _ _ _)
    · rw [if_pos c1, if_pos c2] at hz
      exact hz _ (R.free hB _ (by omega)) ((KK.rf.upd (by omega)).upd (by omega)) (vu_s _ _ _ _)
  · omega

theorem plain_dig {b : Nat} (hb : b < 1000) : P_plain b / 1000 = b / 100 ∧ P_plain b / 100 % 10 = b / 10 % 10 ∧ P_plain b % 100 = b % 10 ∧ (P_plain b = 0 ↔ b = 0) := by
  unfold P_plain
  omega
theorem BV_DVb {b : Nat} (h : BV b) (h0 : b ≠ 0) (h6 : b / 100 < 6) : DV (P_plain b) := by
  unfold BV at h
  obtain ⟨q1, q2, q3, -⟩ := plain_dig (b := b) (by omega)
  have hlt : P_plain b < 6000 ∧ 1000 ≤ P_plain b := by unfold P_plain; omega
  unfold DV
  rw [q1, q2, q3]
  omega
theorem c_S_runBuffer (X : SX M σ) (hB : BV2 B) (P : POK B m p) (H : RL B V p) {h : Nat} (hh : h < bd_nh B) {w : Int32} (hw : V 0 7 = w) (hz : ∀ V', RL B V' (P_buf h 2 0 (p, w)).1.1 → KK V V' → V' 0 7 = (P_buf h 2 0 (p, w)).1.2 → Z (some (.int (P_buf h 2 0 (p, w)).2)) (sw M σ V' π) 668) : jv_Ct g (d + 1) mt_S_runBuffer [.ref σ, .ref (σ + 19 + 2 * h)] (sw M σ V π) 668 0 0 Z := by
  have X0 := X
  obtain ⟨hσ, r0, r1, r2, r3, r4, r5, r6, r7, r8⟩ := X
  have tS0 := t_S0 hσ
  have tS1 := t_S1 hσ
  have tS2 := t_S2 hσ
  have lS2 := l_S2 hσ
  have tS3 := t_S3 hσ
  have lS3 := l_S3 hσ
  have tS16 := t_S16 hσ
  have lS16 := l_S16 hσ
  have tS17 := t_S17 hσ
  have lS17 := l_S17 hσ
  have tS18 := t_S18 hσ
  have lS18 := l_S18 hσ
  have b4 := hB.1.2.1
  obtain ⟨rs, ers⟩ : ∃ rs, rs = P_buf h 2 0 (p, w) := ⟨_, rfl⟩
  rw [← ers] at hz
  have l : ∀ f k p1 w1 V1, k + f = 2 → POK B m p1 → RL B V1 p1 → KK V V1 → V1 0 7 = w1 → rs = P_buf h f k (p1, w1) → jv_J g (d + 1) mt_S_runBuffer 2 [some (.ref σ), some (.ref (σ + 19 + 2 * h)), some (.int (nI k)), none] [] (sw M σ V1 π) 668 0 0 Z := by
    intro f
    induction f with
    | zero =>
      intro k p1 w1 V1 hk P1 R K W E
      have hk : k = 2 := by omega
      subst hk
      rw [E] at hz
      refine b_S_runBuffer_2 ?_
      simp (disch := omega) only [li, ne_eq, nI_add, pk_mul, nI_clamp, vin, true_and, nn_eq, nn_le, nn_lt, pk_div, rm2, or0, sw_0, sw_1, sw_3, sw_18, sw_o, sw_h, sw_r, sw_t, wi_0, wi_1, wi_3, wi_18, wi_o, wi_h, wi_r, wi_t, sw_q, sw_ref, wr_q, tS0, tS1, tS2, lS2, tS3, lS3, tS16, lS16, tS17, lS17, tS18, lS18, r0, r1, r2, r3, r4, r5, Option.some.injEq, exists_eq_left']
      exact ⟨fun _ => hz V1 R K W, fun c => absurd (Nat.le_refl _) c⟩
    | succ f ih =>
      intro k p1 w1 V1 hk P1 R K W E
      have eb := R.2.2.2.2.2 k (by omega)
      obtain ⟨b, ebn, ob⟩ := P1.2.1 (78 + k)
      have hb := ob.2.2.2.2.1 (by omega)
      have hb9 := ob.1
      rw [ebn] at eb
      obtain ⟨q1, q2, q3, q4⟩ := plain_dig (b := b) (by omega)
      unfold P_buf at E
      simp (disch := omega) only [ebn, nI_clamp, q1, q4] at E
      refine b_S_runBuffer_2 ?_
      simp (disch := omega) only [li, ne_eq, nI_add, pk_mul, nI_clamp, vin, true_and, nn_eq, nn_le, nn_lt, pk_div, rm2, or0, sw_0, sw_1, sw_3, sw_18, sw_o, sw_h, sw_r, sw_t, wi_0, wi_1, wi_3, wi_18, wi_o, wi_h, wi_r, wi_t, sw_q, sw_ref, wr_q, tS0, tS1, tS2, lS2, tS3, lS3, tS16, lS16, tS17, lS17, tS18, lS18, r0, r1, r2, r3, r4, r5, Option.some.injEq, exists_eq_left', eb]
      refine ⟨fun c => absurd c (by omega), fun _ => ⟨fun c => ?_, fun c => ⟨fun c2 => ?_, fun c2 => ?_⟩⟩⟩
      · rw [if_pos c] at E
        rw [E] at hz
        exact hz V1 R K W
      · rw [if_neg c, if_pos (by omega)] at E
        refine c_S_calc X0 hB.1 P1 R hh (BV_DVb hb c c2) W (by rw [q1]) (by rw [q2]) (by rw [q3]) (fun V2 R2 K2 W2 => jv_rv_i ?_)
        exact ih (k + 1) _ _ V2 (by omega) (P_do_OK P1 hB.1 (by omega) (BV_DVb hb c c2) w1) R2 (K.trans K2) W2 E
      · rw [if_neg c, if_neg (by omega)] at E
        rw [E] at hz
        exact hz V1 R K W
  exact jv_ct rfl (Nat.le_of_ble_eq_true rfl) (b_S_runBuffer_0 (l 2 0 p w V rfl P H KK.rf hw ers))

end SC
