/-- the orders' objects, the absent ones and the queue's length stay -/
def KK (V V' : SV) : Prop := (∀ k j, 4 ≤ k → k < 16 → V' k j = V k j) ∧ V' 0 6 = V 0 6 ∧ V' 1 2 = V 1 2
theorem KK.rf {V : SV} : KK V V := ⟨fun _ _ _ _ => rfl, rfl, rfl⟩
theorem KK.trans {V V1 V2 : SV} (a : KK V V1) (b : KK V1 V2) : KK V V2 := ⟨fun k j h1 h2 => (b.1 k j h1 h2).trans (a.1 k j h1 h2), b.2.1.trans a.2.1, b.2.2.trans a.2.2⟩
theorem KK.upd {V V' : SV} (a : KK V V') {k j : Nat} {x : Int32} (hk : 16 ≤ k ∨ k = 3 ∨ (k = 0 ∧ j = 7) ∨ (k = 1 ∧ 3 ≤ j)) : KK V (vu V' k j x) := by
  obtain ⟨a1, a2, a3⟩ := a
  refine ⟨fun k' j' h1 h2 => by rw [vu_k _ _ (by omega)]; exact a1 k' j' h1 h2, ?_, ?_⟩
  · by_cases h0 : k = 0
    · rw [vu_j _ _ (by omega)]; exact a2
    · rw [vu_k _ _ (by omega)]; exact a2
  · by_cases h0 : k = 1
    · rw [vu_j _ _ (by omega)]; exact a3
    · rw [vu_k _ _ (by omega)]; exact a3
section SC
variable {g : jv_G} {d : Nat} {M : jv_Mem} {Z : Option Value → jv_Mem → Nat → Prop} {B : Bd} {p : Pg} {σ m : Nat} {V : SV} {π : Nat → Nat}
/-- a hart's own part, as the class changes it -/
theorem RH_halt (H : RL B V p) (hB : BOK B) (P : POK B m p) {h : Nat} (hh : h < bd_nh B) (c : Int32) (hm : ¬ p (8 * h + 1) = nI 2) : RL B (vu (vu V (19 + 2 * h) 4 (nI 2)) (19 + 2 * h) 5 c) (P_halt p h c) := by
  have b4 := hB.2.1
  obtain ⟨a1, a2, a3, a4, a5, a6, a7⟩ := H.2.1 h hh
  obtain ⟨-, ⟨n, hn, e⟩, -⟩ := P.hartp (h := h) (by omega)
  unfold P_halt
  rw [if_neg hm]
  refine H.hart hB (h := h) (by omega) (fun k j h1 h2 => by rw [vu_k _ _ h1, vu_k _ _ h1]) (fun j hj => by rw [pu_n _ _ (by omega), pu_n _ _ (by omega), pu_n _ _ (by omega)]) (fun _ => ?_)
  refine ⟨by rw [vu_j _ _ (by omega), vu_j _ _ (by omega), a1], by rw [vu_j _ _ (by omega), vu_j _ _ (by omega), a2], by rw [vu_j _ _ (by omega), vu_j _ _ (by omega), a3, pu_n _ _ (by omega), pu_n _ _ (by omega), pu_n _ _ (by omega)], by rw [vu_j _ _ (by omega), vu_s, pu_n _ _ (by omega), pu_s], by rw [vu_s, pu_s], ?_, fun r hr => by rw [vu_k _ _ (by omega), vu_k _ _ (by omega), a7 r hr, pu_n _ _ (by omega), pu_n _ _ (by omega), pu_n _ _ (by omega)]⟩
  rw [vu_j _ _ (by omega), vu_j _ _ (by omega), a6, pu_n (pu (pu p _ _) _ _) _ (show 8 * h + 1 ≠ 8 * h + 3 by omega), pu_s, if_neg (show ¬ nI 2 = nI 1 by decide), pu_n _ _ (by omega), pu_n _ _ (by omega), pu_s]
  by_cases h1 : p (8 * h + 1) = nI 1
  · rw [if_pos h1, if_pos h1]
  · rw [if_neg h1, if_neg h1]
    refine P.2.2.1 h hh ?_
    rw [e] at hm h1 ⊢
    have : n ≠ 2 := fun z => hm (by rw [z])
    have : n ≠ 1 := fun z => h1 (by rw [z])
    rw [show n = 0 by omega]
theorem RH_resume (H : RL B V p) (hB : BOK B) (P : POK B m p) {h : Nat} (hh : h < bd_nh B) (hm : p (8 * h + 1) = nI 2) : RL B (vu (vu V (19 + 2 * h) 4 (if V (19 + 2 * h) 6 = nI 0 then nI 0 else nI 1)) (19 + 2 * h) 5 (nI 0)) (P_resume p h) := by
  have b4 := hB.2.1
  obtain ⟨a1, a2, a3, a4, a5, a6, a7⟩ := H.2.1 h hh
  obtain ⟨-, -, ⟨n, hn, e⟩⟩ := P.hartp (h := h) (by omega)
  rw [hm, if_neg (show ¬ nI 2 = nI 1 by decide), e] at a6
  unfold P_resume
  rw [if_pos hm, e]
  have hmode : (if V (19 + 2 * h) 6 = nI 0 then nI 0 else nI 1) = (if nI n = nI 1 then nI 1 else nI 0) := by
    rw [a6]
    rcases (by omega : n = 0 ∨ n = 1) with rfl | rfl
    · rw [if_pos rfl, if_neg (by decide)]
    · rw [if_neg (by decide), if_pos rfl]
  rw [hmode]
  refine H.hart hB (h := h) (by omega) (fun k j h1 h2 => by rw [vu_k _ _ h1, vu_k _ _ h1]) (fun j hj => by rw [pu_n _ _ (by omega), pu_n _ _ (by omega), pu_n _ _ (by omega)]) (fun _ => ?_)
  refine ⟨by rw [vu_j _ _ (by omega), vu_j _ _ (by omega), a1], by rw [vu_j _ _ (by omega), vu_j _ _ (by omega), a2], by rw [vu_j _ _ (by omega), vu_j _ _ (by omega), a3, pu_n _ _ (by omega), pu_n _ _ (by omega), pu_n _ _ (by omega)], by rw [vu_j _ _ (by omega), vu_s, pu_n _ _ (by omega), pu_n _ _ (by omega), pu_s], by rw [vu_s, pu_s], ?_, fun r hr => by rw [vu_k _ _ (by omega), vu_k _ _ (by omega), a7 r hr, pu_n _ _ (by omega), pu_n _ _ (by omega), pu_n _ _ (by omega)]⟩
  rw [vu_j _ _ (by omega), vu_j _ _ (by omega), a6, pu_n _ _ (show 8 * h + 1 ≠ 8 * h + 3 by omega), pu_n _ _ (show 8 * h + 1 ≠ 8 * h + 2 by omega), pu_s, pu_n _ _ (show 8 * h + 2 ≠ 8 * h + 3 by omega), pu_s]
  rcases (by omega : n = 0 ∨ n = 1) with rfl | rfl
  · rw [if_neg (by decide)]
  · rw [if_pos rfl, if_pos rfl]
theorem c_S_halt (X : SX M σ) (hB : BOK B) (P : POK B m p) (H : RL B V p) {h : Nat} (hh : h < bd_nh B) {c : Int32} (hz : ∀ V', RL B V' (P_halt p h c) → KK V V' → V' 0 7 = V 0 7 → Z none (sw M σ V' π) 668) : jv_Ct g d mt_H_halt [.ref (σ + 19 + 2 * h), .int c] (sw M σ V π) 668 0 0 Z := by
  have X0 := X
  obtain ⟨hσ, r0, r1, r2, r3, r4, r5, r6, r7, r8⟩ := X
  have tS0 := t_S0 hσ
  have tS1 := t_S1 hσ
  have tS2 := t_S2 hσ
  have lS2 := l_S2 hσ
  have tS3 := t_S3 hσ
  have lS3 := l_S3 hσ
  have tS16 := t_S16 hσ
  have lS16 := l_S16 hσ
  have tS17 := t_S17 hσ
  have lS17 := l_S17 hσ
  have tS18 := t_S18 hσ
  have lS18 := l_S18 hσ
  have b4 := hB.2.1
  have tSh := t_SH hσ (show h < 4 by omega)
  obtain ⟨a1, a2, a3, a4, a5, a6, a7⟩ := H.2.1 h hh
  refine jv_ct rfl (Nat.le_of_ble_eq_true rfl) (b_H_halt_0 ?_)
  simp (disch := omega) only [li, ne_eq, nI_add, pk_mul, nI_clamp, vin, true_and, nn_eq, nn_le, nn_lt, pk_div, rm2, or0, sw_0, sw_1, sw_3, sw_18, sw_o, sw_h, sw_r, sw_t, wi_0, wi_1, wi_3, wi_18, wi_o, wi_h, wi_r, wi_t, sw_q, sw_ref, wr_q, tS0, tS1, tS2, lS2, tS3, lS3, tS16, lS16, tS17, lS17, tS18, lS18, r0, r1, r2, r3, r4, r5, Option.some.injEq, exists_eq_left', tSh, a4]
  refine ⟨fun c1 => ?_, fun c1 => ?_⟩
  · refine hz V ?_ KK.rf rfl
    unfold P_halt
    rw [if_pos c1]
    exact H
  · exact hz _ (RH_halt H hB P hh c c1) ((KK.rf.upd (by omega)).upd (by omega)) (by rw [vu_k _ _ (by omega), vu_k _ _ (by omega)])

theorem c_S_resume (X : SX M σ) (hB : BOK B) (P : POK B m p) (H : RL B V p) {h : Nat} (hh : h < bd_nh B) (hz : ∀ V', RL B V' (P_resume p h) → KK V V' → V' 0 7 = V 0 7 → Z none (sw M σ V' π) 668) : jv_Ct g d mt_H_resume [.ref (σ + 19 + 2 * h)] (sw M σ V π) 668 0 0 Z := by
  have X0 := X
  obtain ⟨hσ, r0, r1, r2, r3, r4, r5, r6, r7, r8⟩ := X
  have tS0 := t_S0 hσ
  have tS1 := t_S1 hσ
  have tS2 := t_S2 hσ
  have lS2 := l_S2 hσ
  have tS3 := t_S3 hσ
  have lS3 := l_S3 hσ
  have tS16 := t_S16 hσ
  have lS16 := l_S16 hσ
  have tS17 := t_S17 hσ
  have lS17 := l_S17 hσ
  have tS18 := t_S18 hσ
  have lS18 := l_S18 hσ
  have b4 := hB.2.1
  have tSh := t_SH hσ (show h < 4 by omega)
  obtain ⟨a1, a2, a3, a4, a5, a6, a7⟩ := H.2.1 h hh
  refine jv_ct rfl (Nat.le_of_ble_eq_true rfl) (b_H_resume_0 ?_)
  simp (disch := omega) only [li, ne_eq, nI_add, pk_mul, nI_clamp, vin, true_and, nn_eq, nn_le, nn_lt, pk_div, rm2, or0, sw_0, sw_1, sw_3, sw_18, sw_o, sw_h, sw_r, sw_t, wi_0, wi_1, wi_3, wi_18, wi_o, wi_h, wi_r, wi_t, sw_q, sw_ref, wr_q, tS0, tS1, tS2, lS2, tS3, lS3, tS16, lS16, tS17, lS17, tS18, lS18, r0, r1, r2, r3, r4, r5, Option.some.injEq, exists_eq_left', tSh, a4]
  refine ⟨fun c1 => ?_, fun c1 => ⟨fun c2 => ?_, fun c2 => ?_⟩⟩
  · refine hz V ?_ KK.rf rfl
    unfold P_resume
    rw [if_neg c1]
    exact H
  · have R := RH_resume H hB P hh c1
    rw [if_pos c2] at R
    exact hz _ R ((KK.rf.upd (by omega)).upd (by omega)) (by rw [vu_k _ _ (by omega), vu_k _ _ (by omega)])
  · have R := RH_resume H hB P hh c1
    rw [if_neg c2] at R
    exact hz _ R ((KK.rf.upd (by omega)).upd (by omega)) (by rw [vu_k _ _ (by omega), vu_k _ _ (by omega)])

theorem RH_clr (H : RL B V p) (hB : BOK B) {h : Nat} (hh : h < bd_nh B) {q : Pg} (hq : ∀ j, q j = if 8 * h ≤ j ∧ j < 8 * h + 8 then (if j = 8 * h then bd_first B h else nI 0) else p j) : RL B (vu (vu (vu (vu (itN (fun r V => vu V (20 + 2 * h) r (nI 0)) 4 V) (19 + 2 * h) 3 (V (19 + 2 * h) 1)) (19 + 2 * h) 4 (nI 0)) (19 + 2 * h) 5 (nI 0)) (19 + 2 * h) 6 (nI 0)) q := by
  have b4 := hB.2.1
  obtain ⟨a1, a2, a3, a4, a5, a6, a7⟩ := H.2.1 h hh
  have hW : ∀ n k j, itN (fun r V => vu V (20 + 2 * h) r (nI 0)) n V k j = if k = 20 + 2 * h ∧ j < n then nI 0 else V k j := by
    intro n
    induction n with
    | zero => intro k j; rw [if_neg (by omega)]; rfl
    | succ n ih =>
      intro k j
      show (if k = 20 + 2 * h ∧ j = n then nI 0 else itN (fun r V => vu V (20 + 2 * h) r (nI 0)) n V k j) = _
      rw [ih k j]
      (repeat' split) <;> first | rfl | (exfalso; omega)
  refine H.hart hB (h := h) (by omega) (fun k j h1 h2 => by rw [vu_k _ _ h1, vu_k _ _ h1, vu_k _ _ h1, vu_k _ _ h1, hW, if_neg (fun z => h2 z.1)]) (fun j hj => by rw [hq, if_neg (by omega)]) (fun _ => ?_)
  refine ⟨?_, ?_, ?_, ?_, ?_, ?_, fun r hr => ?_⟩
  · rw [vu_j _ _ (by omega), vu_j _ _ (by omega), vu_j _ _ (by omega), vu_j _ _ (by omega), hW, if_neg (by omega), a1]
  · rw [vu_j _ _ (by omega), vu_j _ _ (by omega), vu_j _ _ (by omega), vu_j _ _ (by omega), hW, if_neg (by omega), a2]
  · rw [vu_j _ _ (by omega), vu_j _ _ (by omega), vu_j _ _ (by omega), vu_s, a1, hq, if_pos ⟨by omega, by omega⟩, if_pos rfl]
  · rw [vu_j _ _ (by omega), vu_j _ _ (by omega), vu_s, hq, if_pos ⟨by omega, by omega⟩, if_neg (by omega)]
  · rw [vu_j _ _ (by omega), vu_s, hq, if_pos ⟨by omega, by omega⟩, if_neg (by omega)]
  · rw [vu_s, hq, hq, if_pos (show 8 * h ≤ 8 * h + 1 ∧ 8 * h + 1 < 8 * h + 8 by omega), if_neg (show ¬ 8 * h + 1 = 8 * h by omega), if_neg (by decide), if_pos (show 8 * h ≤ 8 * h + 2 ∧ 8 * h + 2 < 8 * h + 8 by omega), if_neg (by omega)]
  · rw [vu_k _ _ (by omega), vu_k _ _ (by omega), vu_k _ _ (by omega), vu_k _ _ (by omega), hW, if_pos ⟨rfl, hr⟩, hq, if_pos ⟨by omega, by omega⟩, if_neg (by omega)]
theorem c_S_hrestart (X : SX M σ) {h : Nat} (hh : h < 4) (hz : Z none (sw M σ (vu (vu (vu (vu (itN (fun r V => vu V (20 + 2 * h) r (nI 0)) 4 V) (19 + 2 * h) 3 (V (19 + 2 * h) 1)) (19 + 2 * h) 4 (nI 0)) (19 + 2 * h) 5 (nI 0)) (19 + 2 * h) 6 (nI 0)) π) 668) : jv_Ct g d mt_H_restart [.ref (σ + 19 + 2 * h)] (sw M σ V π) 668 0 0 Z := by
  have X0 := X
  obtain ⟨hσ, r0, r1, r2, r3, r4, r5, r6, r7, r8⟩ := X
  have tS0 := t_S0 hσ
  have tS1 := t_S1 hσ
  have tS2 := t_S2 hσ
  have lS2 := l_S2 hσ
  have tS3 := t_S3 hσ
  have lS3 := l_S3 hσ
  have tS16 := t_S16 hσ
  have lS16 := l_S16 hσ
  have tS17 := t_S17 hσ
  have lS17 := l_S17 hσ
  have tS18 := t_S18 hσ
  have lS18 := l_S18 hσ
  have tSh := t_SH hσ hh
  have tSr := t_SR hσ hh
  have lSr := l_SR hσ hh
  have e8 := r8 h hh
  have hV1 : ∀ n, itN (fun r V => vu V (20 + 2 * h) r (nI 0)) n V (19 + 2 * h) 1 = V (19 + 2 * h) 1 := by
    intro n
    induction n with
    | zero => rfl
    | succ n ih => show vu _ _ _ _ _ _ = _; rw [vu_k _ _ (by omega)]; exact ih
  have l : ∀ n i, i + n = 4 → jv_J g d mt_H_restart 2 [some (.ref (σ + 19 + 2 * h)), some (.int (nI i))] [] (sw M σ (itN (fun r V => vu V (20 + 2 * h) r (nI 0)) i V) π) 668 0 0 Z := by
    intro n
    induction n with
    | zero =>
      intro i hi
      have hi : i = 4 := by omega
      subst hi
      refine b_H_restart_2 ?_
      simp (disch := omega) only [li, ne_eq, nI_add, pk_mul, nI_clamp, vin, true_and, nn_eq, nn_le, nn_lt, pk_div, rm2, or0, sw_0, sw_1, sw_3, sw_18, sw_o, sw_h, sw_r, sw_t, wi_0, wi_1, wi_3, wi_18, wi_o, wi_h, wi_r, wi_t, sw_q, sw_ref, wr_q, tS0, tS1, tS2, lS2, tS3, lS3, tS16, lS16, tS17, lS17, tS18, lS18, r0, r1, r2, r3, r4, r5, Option.some.injEq, exists_eq_left', tSh, hV1]
      exact ⟨fun _ => hz, fun c => absurd (Nat.le_refl _) c⟩
    | succ n ih =>
      intro i hi
      refine b_H_restart_2 ?_
      simp (disch := omega) only [li, ne_eq, nI_add, pk_mul, nI_clamp, vin, true_and, nn_eq, nn_le, nn_lt, pk_div, rm2, or0, sw_0, sw_1, sw_3, sw_18, sw_o, sw_h, sw_r, sw_t, wi_0, wi_1, wi_3, wi_18, wi_o, wi_h, wi_r, wi_t, sw_q, sw_ref, wr_q, tS0, tS1, tS2, lS2, tS3, lS3, tS16, lS16, tS17, lS17, tS18, lS18, r0, r1, r2, r3, r4, r5, Option.some.injEq, exists_eq_left', tSh, tSr, lSr, e8]
      exact ⟨fun c => absurd c (by omega), fun _ => ih (i + 1) (by omega)⟩
  exact jv_ct rfl (Nat.le_of_ble_eq_true rfl) (b_H_restart_0 (l 4 0 rfl))

theorem c_S_restart (X : SX M σ) (hB : BV2 B) (P : POK B m p) (H : RL B V p) {h : Nat} (hh : h < bd_nh B) (hz : ∀ V', RL B V' (P_reset B p h) → KK V V' → V' 0 7 = V 0 7 → Z none (sw M σ V' π) 668) : jv_Ct g (d + 1) mt_S_restart [.ref σ, .int (nI h)] (sw M σ V π) 668 0 0 Z := by
  have X0 := X
  obtain ⟨hσ, r0, r1, r2, r3, r4, r5, r6, r7, r8⟩ := X
  have tS0 := t_S0 hσ
  have tS1 := t_S1 hσ
  have tS2 := t_S2 hσ
  have lS2 := l_S2 hσ
  have tS3 := t_S3 hσ
  have lS3 := l_S3 hσ
  have tS16 := t_S16 hσ
  have lS16 := l_S16 hσ
  have tS17 := t_S17 hσ
  have lS17 := l_S17 hσ
  have tS18 := t_S18 hσ
  have lS18 := l_S18 hσ
  have b4 := hB.1.2.1
  have b6 := hB.1.2.2.1
  have bw := hB.1.2.2.2.1
  rw [P_reset_eq] at hz
  have tSh := t_SH hσ (show h < 4 by omega)
  have e6 := r6 h (by omega)
  have R0 := RH_clr H hB.1 hh (q := fun j => if 8 * h ≤ j ∧ j < 8 * h + 8 then (if j = 8 * h then bd_first B h else nI 0) else p j) (fun _ => rfl)
  have Q0 := P.clr hB (show h < 4 by omega) (fun _ => rfl)
  have l : ∀ n t V1, t + n = bd_nt B → RL B V1 (itN (fun t p => if bd_whose B t = h then pu p (40 + 6 * t + 4) (p (40 + 6 * t + 3)) else p) t (fun j => if 8 * h ≤ j ∧ j < 8 * h + 8 then (if j = 8 * h then bd_first B h else nI 0) else p j)) → KK V V1 → V1 0 7 = V 0 7 → jv_J g (d + 1) mt_S_restart 11 [some (.ref σ), some (.int (nI h)), some (.int (nI t))] [] (sw M σ V1 π) 668 0 0 Z := by
    intro n
    induction n with
    | zero =>
      intro t V1 ht R K W
      have ht : t = bd_nt B := by omega
      subst ht
      refine b_S_restart_11 ?_
      simp (disch := omega) only [li, ne_eq, nI_add, pk_mul, nI_clamp, vin, true_and, nn_eq, nn_le, nn_lt, pk_div, rm2, or0, sw_0, sw_1, sw_3, sw_18, sw_o, sw_h, sw_r, sw_t, wi_0, wi_1, wi_3, wi_18, wi_o, wi_h, wi_r, wi_t, sw_q, sw_ref, wr_q, tS0, tS1, tS2, lS2, tS3, lS3, tS16, lS16, tS17, lS17, tS18, lS18, r0, r1, r2, r3, r4, r5, Option.some.injEq, exists_eq_left', R.1.2]
      exact ⟨fun _ => hz V1 R K W, fun c => absurd (Nat.le_refl _) c⟩
    | succ n ih =>
      intro t V1 ht R K W
      have tSt := t_ST hσ (show t < 6 by omega)
      have e7 := r7 t (by omega)
      obtain ⟨c1, c2⟩ := R.2.2.2.1 t (by omega)
      have hwt := bw t
      refine b_S_restart_11 ?_
      simp (disch := omega) only [li, ne_eq, nI_add, pk_mul, nI_clamp, vin, true_and, nn_eq, nn_le, nn_lt, pk_div, rm2, or0, sw_0, sw_1, sw_3, sw_18, sw_o, sw_h, sw_r, sw_t, wi_0, wi_1, wi_3, wi_18, wi_o, wi_h, wi_r, wi_t, sw_q, sw_ref, wr_q, tS0, tS1, tS2, lS2, tS3, lS3, tS16, lS16, tS17, lS17, tS18, lS18, r0, r1, r2, r3, r4, r5, Option.some.injEq, exists_eq_left', R.1.2, tSt, e7, c1]
      have ih := fun V2 => ih (t + 1) V2 (by omega)
      simp only [itN] at ih
      refine ⟨fun c => absurd c (by omega), fun _ => ⟨fun c => ?_, fun c => ?_⟩⟩
      · simp only [if_neg c] at ih
        exact ih V1 R K W
      · simp only [if_pos c] at ih
        refine ih _ ?_ (K.upd (by omega)) (by rw [vu_k _ _ (by omega)]; exact W)
        rw [show V1 (27 + t) 4 = _ from c2 3 (by omega)]
        exact R.trig hB.1 (t := t) (k := 4) (by omega) (by omega) _
  refine jv_ct rfl (Nat.le_of_ble_eq_true rfl) (b_S_restart_0 ?_)
  simp (disch := omega) only [li, ne_eq, nI_add, pk_mul, nI_clamp, vin, true_and, nn_eq, nn_le, nn_lt, pk_div, rm2, or0, sw_0, sw_1, sw_3, sw_18, sw_o, sw_h, sw_r, sw_t, wi_0, wi_1, wi_3, wi_18, wi_o, wi_h, wi_r, wi_t, sw_q, sw_ref, wr_q, tS0, tS1, tS2, lS2, tS3, lS3, tS16, lS16, tS17, lS17, tS18, lS18, r0, r1, r2, r3, r4, r5, Option.some.injEq, exists_eq_left', tSh, e6]
  refine c_S_hrestart X0 (by omega) (jv_rv_i (l (bd_nt B) 0 _ (by omega) R0 ?_ ?_))
  · refine KK.upd (KK.upd (KK.upd (KK.upd ?_ (by omega)) (by omega)) (by omega)) (by omega)
    exact itN_ind (I := fun V1 => KK V V1) 4 V KK.rf (fun i V1 _ K => K.upd (by omega))
  · rw [vu_k _ _ (by omega), vu_k _ _ (by omega), vu_k _ _ (by omega), vu_k _ _ (by omega)]
    exact itN_ind (I := fun V1 : SV => V1 0 7 = V 0 7) 4 V rfl (fun i V1 _ K => by rw [vu_k _ _ (by omega)]; exact K)

end SC
