section SC
variable {g : jv_G} {d : Nat} {M : jv_Mem} {Z : Option Value → jv_Mem → Nat → Prop} {B : Bd} {p : Pg} {σ m : Nat} {V : SV} {π : Nat → Nat}
theorem c_S_haltedSet (X : SX M σ) (hB : BOK B) (H : RL B V p) (hz : Z (some (.int (P_hset p (bd_nh B)))) (sw M σ V π) 668) : jv_Ct g d mt_S_haltedSet [.ref σ] (sw M σ V π) 668 0 0 Z := by
  have X0 := X
  obtain ⟨hσ, r0, r1, r2, r3, r4, r5, r6, r7, r8⟩ := X
  have tS0 := t_S0 hσ
  have tS1 := t_S1 hσ
  have tS2 := t_S2 hσ
  have lS2 := l_S2 hσ
  have tS3 := t_S3 hσ
  have lS3 := l_S3 hσ
  have tS16 := t_S16 hσ
  have lS16 := l_S16 hσ
  have tS17 := t_S17 hσ
  have lS17 := l_S17 hσ
  have tS18 := t_S18 hσ
  have lS18 := l_S18 hσ
  have b4 := hB.2.1
  have hnh := H.1.1
  have l : ∀ n i, i + n = bd_nh B → jv_J g d mt_S_haltedSet 4 [some (.ref σ), some (.int (P_hset p i)), some (.int (nI i))] [] (sw M σ V π) 668 0 0 Z := by
    intro n
    induction n with
    | zero =>
      intro i hi
      have hi : i = bd_nh B := by omega
      subst hi
      refine b_S_haltedSet_4 ?_
      simp (disch := omega) only [li, ne_eq, nI_add, pk_mul, nI_clamp, vin, true_and, nn_eq, nn_le, nn_lt, pk_div, rm2, or0, sw_0, sw_1, sw_3, sw_18, sw_o, sw_h, sw_r, sw_t, wi_0, wi_1, wi_3, wi_18, wi_o, wi_h, wi_r, wi_t, sw_q, sw_ref, wr_q, tS0, tS1, tS2, lS2, tS3, lS3, tS16, lS16, tS17, lS17, tS18, lS18, r0, r1, r2, r3, r4, r5, Option.some.injEq, exists_eq_left', hnh]
      exact ⟨fun _ => hz, fun c => absurd (Nat.le_refl _) c⟩
    | succ n ih =>
      intro i hi
      have tSh := t_SH hσ (show i < 4 by omega)
      have e6 := r6 i (by omega)
      obtain ⟨a1, a2, a3, a4, a5, a6, a7⟩ := H.2.1 i (by omega)
      have ih := ih (i + 1) (by omega)
      refine b_S_haltedSet_4 ?_
      simp (disch := omega) only [li, ne_eq, nI_add, pk_mul, nI_clamp, vin, true_and, nn_eq, nn_le, nn_lt, pk_div, rm2, or0, sw_0, sw_1, sw_3, sw_18, sw_o, sw_h, sw_r, sw_t, wi_0, wi_1, wi_3, wi_18, wi_o, wi_h, wi_r, wi_t, sw_q, sw_ref, wr_q, tS0, tS1, tS2, lS2, tS3, lS3, tS16, lS16, tS17, lS17, tS18, lS18, r0, r1, r2, r3, r4, r5, Option.some.injEq, exists_eq_left', hnh, tSh, e6, a4]
      refine ⟨fun c => absurd c (by omega), fun _ => ⟨fun c => ?_, fun c => ?_⟩⟩
      · unfold P_hset at ih
        rw [if_neg c] at ih
        exact ih
      · unfold P_hset at ih
        rw [if_pos c] at ih
        exact ih
  exact jv_ct rfl (Nat.le_of_ble_eq_true rfl) (b_S_haltedSet_0 (l (bd_nh B) 0 (by omega)))

def P_m0 (B : Bd) (p : Pg) (t : Nat) : Bool := if p (40 + 6 * t) = nI 0 then decide (p (8 * bd_whose B t) = p (40 + 6 * t + 1)) else decide (p (8 * bd_whose B t + 4 + (p (40 + 6 * t + 1)).toNatClampNeg) = p (40 + 6 * t + 2))
theorem c_S_matches (X : SX M σ) (hB : BV2 B) (P : POK B m p) (H : RL B V p) {t : Nat} (ht : t < bd_nt B) (hz : Z (some (.int (if P_m0 B p t = true then nI 1 else nI 0))) (sw M σ V π) 668) : jv_Ct g d mt_U_matches [.ref (σ + 27 + t), .ref (σ + 19 + 2 * bd_whose B t)] (sw M σ V π) 668 0 0 Z := by
  have X0 := X
  obtain ⟨hσ, r0, r1, r2, r3, r4, r5, r6, r7, r8⟩ := X
  have tS0 := t_S0 hσ
  have tS1 := t_S1 hσ
  have tS2 := t_S2 hσ
  have lS2 := l_S2 hσ
  have tS3 := t_S3 hσ
  have lS3 := l_S3 hσ
  have tS16 := t_S16 hσ
  have lS16 := l_S16 hσ
  have tS17 := t_S17 hσ
  have lS17 := l_S17 hσ
  have tS18 := t_S18 hσ
  have lS18 := l_S18 hσ
  have b4 := hB.1.2.1
  have b6 := hB.1.2.2.1
  have hw := hB.2.2.2.2 t ht
  have hw4 : bd_whose B t < 4 := hB.1.2.2.2.1 t
  have tSt := t_ST hσ (show t < 6 by omega)
  have tSh := t_SH hσ hw4
  have tSr := t_SR hσ hw4
  have lSr := l_SR hσ hw4
  have e8 := r8 _ hw4
  obtain ⟨a1, a2, a3, a4, a5, a6, a7⟩ := H.2.1 _ hw
  obtain ⟨c1, c2⟩ := H.2.2.2.1 t ht
  obtain ⟨-, -, ⟨n1, h1, e1⟩, ⟨n0, h0, e0⟩, -⟩ := P.trig ht
  have k0 := c2 0 (by omega)
  have k1 := c2 1 (by omega)
  have k2 := c2 2 (by omega)
  rw [show 1 + 0 = 1 by rfl, Nat.add_zero] at k0
  rw [show 1 + 1 = 2 by rfl] at k1
  rw [show 1 + 2 = 3 by rfl] at k2
  have E0 : n0 = 0 → P_m0 B p t = decide (p (8 * bd_whose B t) = nI n1) := fun c => by unfold P_m0; rw [if_pos (by rw [e0, c]), e1]
  have E1 : n0 ≠ 0 → P_m0 B p t = decide (p (8 * bd_whose B t + 4 + n1) = p (40 + 6 * t + 2)) := fun c => by unfold P_m0; rw [if_neg (by rw [e0, nn_eq (by omega) (by omega)]; exact c), e1, nI_clamp (by omega)]
  rw [e0] at k0
  rw [e1] at k1
  refine jv_ct rfl (Nat.le_of_ble_eq_true rfl) (b_U_matches_0 ?_)
  simp (disch := omega) only [li, ne_eq, nI_add, pk_mul, nI_clamp, vin, true_and, nn_eq, nn_le, nn_lt, pk_div, rm2, or0, sw_0, sw_1, sw_3, sw_18, sw_o, sw_h, sw_r, sw_t, wi_0, wi_1, wi_3, wi_18, wi_o, wi_h, wi_r, wi_t, sw_q, sw_ref, wr_q, tS0, tS1, tS2, lS2, tS3, lS3, tS16, lS16, tS17, lS17, tS18, lS18, r0, r1, r2, r3, r4, r5, Option.some.injEq, exists_eq_left', tSt, tSh, k0, k1, k2, e8, tSr, lSr, a3]
  refine ⟨fun c => ?_, fun c => ?_⟩
  · have hx : n1 < 4 := by
      obtain ⟨n, hn, e⟩ := P.2.2.2.1 t ht (by rw [e0, show n0 = 1 by omega])
      rw [e1] at e
      have := nI_inj (by omega) (by omega) e
      omega
    rw [E1 c] at hz
    simp (disch := omega) only [li, ne_eq, nI_add, pk_mul, nI_clamp, vin, true_and, nn_eq, nn_le, nn_lt, pk_div, rm2, or0, sw_0, sw_1, sw_3, sw_18, sw_o, sw_h, sw_r, sw_t, wi_0, wi_1, wi_3, wi_18, wi_o, wi_h, wi_r, wi_t, sw_q, sw_ref, wr_q, tS0, tS1, tS2, lS2, tS3, lS3, tS16, lS16, tS17, lS17, tS18, lS18, r0, r1, r2, r3, r4, r5, Option.some.injEq, exists_eq_left', a7]
    refine ⟨fun q => ?_, fun q => ?_⟩
    · rw [decide_eq_false q, if_neg (by decide)] at hz; exact hz
    · rw [decide_eq_true q, if_pos rfl] at hz; exact hz
  · rw [E0 c] at hz
    refine ⟨fun q => ?_, fun q => ?_⟩
    · rw [decide_eq_false q, if_neg (by decide)] at hz; exact hz
    · rw [decide_eq_true q, if_pos rfl] at hz; exact hz

theorem c_S_isJoined (X : SX M σ) (hB : BV2 B) (P : POK B m p) (H : RL B V p) {t : Nat} (ht : t < bd_nt B) (hz : Z (some (.int (if P_lead B p t = true then nI 1 else nI 0))) (sw M σ V π) 668) : jv_Ct g d mt_S_isJoined [.ref σ, .int (nI t)] (sw M σ V π) 668 0 0 Z := by
  have X0 := X
  obtain ⟨hσ, r0, r1, r2, r3, r4, r5, r6, r7, r8⟩ := X
  have tS0 := t_S0 hσ
  have tS1 := t_S1 hσ
  have tS2 := t_S2 hσ
  have lS2 := l_S2 hσ
  have tS3 := t_S3 hσ
  have lS3 := l_S3 hσ
  have tS16 := t_S16 hσ
  have lS16 := l_S16 hσ
  have tS17 := t_S17 hσ
  have lS17 := l_S17 hσ
  have tS18 := t_S18 hσ
  have lS18 := l_S18 hσ
  have b6 := hB.1.2.2.1
  have tSt := t_ST hσ (show t < 6 by omega)
  have e7 := r7 t (by omega)
  have hnt := H.1.2
  obtain ⟨c1, c2⟩ := H.2.2.2.1 t ht
  obtain ⟨-, -, -, -, ⟨n5, h5, e5⟩⟩ := P.trig ht
  have k5 := c2 5 (by omega)
  rw [show 1 + 5 = 6 by rfl, e5] at k5
  have hw4 : bd_whose B t < 4 := hB.1.2.2.2.1 t
  have hw5 : bd_whose B (t + 1) < 4 := hB.1.2.2.2.1 (t + 1)
  unfold P_lead at hz
  rw [e5] at hz
  refine jv_ct rfl (Nat.le_of_ble_eq_true rfl) (b_S_isJoined_0 ?_)
  simp (disch := omega) only [li, ne_eq, nI_add, pk_mul, nI_clamp, vin, true_and, nn_eq, nn_le, nn_lt, pk_div, rm2, or0, sw_0, sw_1, sw_3, sw_18, sw_o, sw_h, sw_r, sw_t, wi_0, wi_1, wi_3, wi_18, wi_o, wi_h, wi_r, wi_t, sw_q, sw_ref, wr_q, tS0, tS1, tS2, lS2, tS3, lS3, tS16, lS16, tS17, lS17, tS18, lS18, r0, r1, r2, r3, r4, r5, Option.some.injEq, exists_eq_left', tSt, e7, k5, hnt]
  refine ⟨fun c => ?_, fun c => ⟨fun c' => ?_, fun c' => ?_⟩⟩
  · rw [decide_eq_false (show ¬ nI n5 = nI 1 by rw [c]; decide), Bool.and_false, Bool.false_and, if_neg (by decide)] at hz; exact hz
  · rw [decide_eq_false (show ¬ t + 1 < bd_nt B by omega), Bool.false_and, Bool.false_and, if_neg (by decide)] at hz; exact hz
  · have tSt1 := t_ST hσ (show t + 1 < 6 by omega)
    have e71 := r7 (t + 1) (by omega)
    obtain ⟨d1, d2⟩ := H.2.2.2.1 (t + 1) (by omega)
    simp (disch := omega) only [li, ne_eq, nI_add, pk_mul, nI_clamp, vin, true_and, nn_eq, nn_le, nn_lt, pk_div, rm2, or0, sw_0, sw_1, sw_3, sw_18, sw_o, sw_h, sw_r, sw_t, wi_0, wi_1, wi_3, wi_18, wi_o, wi_h, wi_r, wi_t, sw_q, sw_ref, wr_q, tS0, tS1, tS2, lS2, tS3, lS3, tS16, lS16, tS17, lS17, tS18, lS18, r0, r1, r2, r3, r4, r5, Option.some.injEq, exists_eq_left', tSt, e7, c1, d1, tSt1, e71]
    rw [decide_eq_true (show t + 1 < bd_nt B by omega), decide_eq_true (show nI n5 = nI 1 by rw [show n5 = 1 by omega]), Bool.true_and, Bool.true_and] at hz
    refine ⟨fun q => ?_, fun q => ?_⟩
    · rw [decide_eq_false q, if_neg (by decide)] at hz; exact hz
    · rw [decide_eq_true q, if_pos rfl] at hz; exact hz

theorem c_S_countsDown (X : SX M σ) (hB : BV2 B) (P : POK B m p) (H : RL B V p) {t : Nat} (ht : t < bd_nt B) (hz0 : ¬ p (40 + 6 * t + 4) - nI 1 = nI 0 → ∀ V', RL B V' (pu p (40 + 6 * t + 4) (p (40 + 6 * t + 4) - nI 1)) → KK V V' → V' 0 7 = V 0 7 → Z (some (.int (nI 0))) (sw M σ V' π) 668)
  (hz1 : p (40 + 6 * t + 4) - nI 1 = nI 0 → ∀ V', RL B V' (pu (pu p (40 + 6 * t + 4) (p (40 + 6 * t + 4) - nI 1)) (40 + 6 * t + 4) (p (40 + 6 * t + 3))) → KK V V' → V' 0 7 = V 0 7 → Z (some (.int (nI 1))) (sw M σ V' π) 668) : jv_Ct g d mt_U_countsDown [.ref (σ + 27 + t)] (sw M σ V π) 668 0 0 Z := by
  have X0 := X
  obtain ⟨hσ, r0, r1, r2, r3, r4, r5, r6, r7, r8⟩ := X
  have tS0 := t_S0 hσ
  have tS1 := t_S1 hσ
  have tS2 := t_S2 hσ
  have lS2 := l_S2 hσ
  have tS3 := t_S3 hσ
  have lS3 := l_S3 hσ
  have tS16 := t_S16 hσ
  have lS16 := l_S16 hσ
  have tS17 := t_S17 hσ
  have lS17 := l_S17 hσ
  have tS18 := t_S18 hσ
  have lS18 := l_S18 hσ
  have b6 := hB.1.2.2.1
  have tSt := t_ST hσ (show t < 6 by omega)
  obtain ⟨c1, c2⟩ := H.2.2.2.1 t ht
  obtain ⟨⟨n3, h31, h32, e3⟩, ⟨n4, h41, h42, e4⟩, -⟩ := P.trig ht
  have k3 := c2 3 (by omega)
  have k4 := c2 4 (by omega)
  rw [show 1 + 3 = 4 by rfl] at k3
  rw [show 1 + 4 = 5 by rfl, e4] at k4
  rw [e4] at hz0 hz1
  have R1 := H.trig hB.1 (t := t) (k := 4) (by omega) (by omega) (nI n4 - nI 1)
  have R2 := R1.trig hB.1 (t := t) (k := 4) (by omega) (by omega) (p (40 + 6 * t + 3))
  have hs : nI n4 - nI 1 = nI (n4 - 1) := pk_sub (by omega)
  refine jv_ct rfl (Nat.le_of_ble_eq_true rfl) (b_U_countsDown_0 ?_)
  simp (disch := omega) only [li, ne_eq, nI_add, pk_mul, nI_clamp, vin, true_and, nn_eq, nn_le, nn_lt, pk_div, rm2, or0, sw_0, sw_1, sw_3, sw_18, sw_o, sw_h, sw_r, sw_t, wi_0, wi_1, wi_3, wi_18, wi_o, wi_h, wi_r, wi_t, sw_q, sw_ref, wr_q, tS0, tS1, tS2, lS2, tS3, lS3, tS16, lS16, tS17, lS17, tS18, lS18, r0, r1, r2, r3, r4, r5, Option.some.injEq, exists_eq_left', tSt, k4, vu_s, vu_j, k3, hs]
  rw [hs] at R1 R2 hz0 hz1
  refine ⟨fun c => ?_, fun c => ?_⟩
  · exact hz1 (by rw [show n4 - 1 = 0 by omega]) _ R2 ((KK.rf.upd (by omega)).upd (by omega)) (by rw [vu_k _ _ (by omega), vu_k _ _ (by omega)])
  · exact hz0 (by rw [nn_eq (by omega) (by omega)]; omega) _ R1 (KK.rf.upd (by omega)) (by rw [vu_k _ _ (by omega)])

theorem nI_n9 : ∀ n, n < 16 → nI n ≠ -9 := by decide
/-- the triggers that are absent on one side are not present on the other -/
def AB (B : Bd) (ab pr : Int32) : Prop := ∀ t, t < bd_nt B → ((ab >>> (nI t &&& nI 31)) &&& nI 1 = nI 0 ↔ P_bit pr t = true)
/-- a chain that began at t0, at its member l -/
def P_mid (B : Bd) (pr : Int32) (h f t0 fl l : Nat) (b : Bool) (p : Pg) : Pg × Bool :=
  if (P_chain B pr p fl l b).2 = true ∧ bd_whose B t0 = h then
    (if p (40 + 6 * t0 + 4) - nI 1 = nI 0 then (pu (pu p (40 + 6 * t0 + 4) (p (40 + 6 * t0 + 4) - nI 1)) (40 + 6 * t0 + 4) (p (40 + 6 * t0 + 3)), true)
     else P_caught B pr h f ((P_chain B pr p fl l b).1 + 1) (pu p (40 + 6 * t0 + 4) (p (40 + 6 * t0 + 4) - nI 1)))
  else P_caught B pr h f ((P_chain B pr p fl l b).1 + 1) p
theorem P_caught_mid {pr : Int32} {h f t : Nat} (ht : t < bd_nt B) : P_caught B pr h (f + 1) t p = P_mid B pr h f t 6 t (P_match B pr p t) p := by
  show (if t < bd_nt B then _ else _) = _
  rw [if_pos ht]
  rfl
theorem P_mid_lead {pr : Int32} {h f t0 fl l : Nat} {b : Bool} (hl : P_lead B p l = true) : P_mid B pr h f t0 (fl + 1) l b p = P_mid B pr h f t0 fl (l + 1) (b && P_match B pr p (l + 1)) p := by
  have e : P_chain B pr p (fl + 1) l b = P_chain B pr p fl (l + 1) (b && P_match B pr p (l + 1)) := by
    show (if P_lead B p l then _ else _) = _
    rw [if_pos hl]
  unfold P_mid
  rw [e]
theorem P_mid_end {pr : Int32} {h f t0 fl l : Nat} {b : Bool} (hl : ¬ P_lead B p l = true) : P_mid B pr h f t0 (fl + 1) l b p = if b = true ∧ bd_whose B t0 = h then
    (if p (40 + 6 * t0 + 4) - nI 1 = nI 0 then (pu (pu p (40 + 6 * t0 + 4) (p (40 + 6 * t0 + 4) - nI 1)) (40 + 6 * t0 + 4) (p (40 + 6 * t0 + 3)), true)
     else P_caught B pr h f (l + 1) (pu p (40 + 6 * t0 + 4) (p (40 + 6 * t0 + 4) - nI 1)))
  else P_caught B pr h f (l + 1) p := by
  have e : P_chain B pr p (fl + 1) l b = (l, b) := by
    show (if P_lead B p l then _ else _) = _
    rw [if_neg hl]
  unfold P_mid
  rw [e]
theorem c_S_isStopped (X : SX M σ) (hB : BV2 B) (P : POK B m p) (H : RL B V p) {h : Nat} (hh : h < bd_nh B) {pr : Int32} (hab : AB B (V 0 6) pr) (hz : ∀ V', RL B V' (P_caught B pr h 7 0 p).1 → KK V V' → V' 0 7 = V 0 7 → Z (some (.int (if (P_caught B pr h 7 0 p).2 = true then nI 1 else nI 0))) (sw M σ V' π) 668) : jv_Ct g (d + 1) mt_S_isStopped [.ref σ, .int (nI h)] (sw M σ V π) 668 0 0 Z := by
  have X0 := X
  obtain ⟨hσ, r0, r1, r2, r3, r4, r5, r6, r7, r8⟩ := X
  have tS0 := t_S0 hσ
  have tS1 := t_S1 hσ
  have tS2 := t_S2 hσ
  have lS2 := l_S2 hσ
  have tS3 := t_S3 hσ
  have lS3 := l_S3 hσ
  have tS16 := t_S16 hσ
  have lS16 := l_S16 hσ
  have tS17 := t_S17 hσ
  have lS17 := l_S17 hσ
  have tS18 := t_S18 hσ
  have lS18 := l_S18 hσ
  have b4 := hB.1.2.1
  have b6 := hB.1.2.2.1
  obtain ⟨rs, ers⟩ : ∃ rs, rs = P_caught B pr h 7 0 p := ⟨_, rfl⟩
  rw [← ers] at hz
  have e6 := r6 h (by omega)
  have l : ∀ n t f p1 V1 (x3 : Int32), t + n = bd_nt B → POK B m p1 → RL B V1 p1 → KK V V1 → V1 0 7 = V 0 7 →
      ((bd_nt B < t + f → rs = P_caught B pr h f t p1 → jv_J g (d + 1) mt_S_isStopped 8 [some (.ref σ), some (.int (nI h)), some (.int (-9)), some (.int x3), some (.int (nI t))] [] (sw M σ V1 π) 668 0 0 Z) ∧
       (∀ t0 fl b, t0 < bd_nt B → bd_nt B < t + 1 + f → bd_nt B ≤ t + fl → t < bd_nt B → bd_whose B t = h → bd_whose B t0 = h → x3 = (if b = true then nI 1 else nI 0) → rs = P_mid B pr h f t0 fl t (b && P_match B pr p1 t) p1 → jv_J g (d + 1) mt_S_isStopped 42 [some (.ref σ), some (.int (nI h)), some (.int (nI t0)), some (.int x3), some (.int (nI t))] [] (sw M σ V1 π) 668 0 0 Z) ∧
       (∀ t0 fl b, bd_nt B < t + 1 + f → bd_nt B ≤ t + fl → t < bd_nt B → ¬ bd_whose B t = h → ¬ bd_whose B t0 = h → rs = P_mid B pr h f t0 fl t b p1 → jv_J g (d + 1) mt_S_isStopped 8 [some (.ref σ), some (.int (nI h)), some (.int (-9)), some (.int x3), some (.int (nI t))] [] (sw M σ V1 π) 668 0 0 Z)) := by
    intro n
    induction n with
    | zero =>
      intro t f p1 V1 x3 hn P1 R K W
      have hn : t = bd_nt B := by omega
      subst hn
      have hnt := R.1.2
      refine ⟨fun hf E => ?_, fun _ _ _ _ _ _ c => absurd c (by omega), fun _ _ _ _ _ c => absurd c (by omega)⟩
      have E2 : rs = (p1, false) := by
        rw [E]
        cases f with
        | zero => rfl
        | succ f => show (if _ then _ else _) = _; rw [if_neg (by omega)]
      subst E2
      refine b_S_isStopped_8 ?_
      simp (disch := omega) only [li, ne_eq, nI_add, pk_mul, nI_clamp, vin, true_and, nn_eq, nn_le, nn_lt, pk_div, rm2, or0, sw_0, sw_1, sw_3, sw_18, sw_o, sw_h, sw_r, sw_t, wi_0, wi_1, wi_3, wi_18, wi_o, wi_h, wi_r, wi_t, sw_q, sw_ref, wr_q, tS0, tS1, tS2, lS2, tS3, lS3, tS16, lS16, tS17, lS17, tS18, lS18, r0, r1, r2, r3, r4, r5, Option.some.injEq, exists_eq_left', hnt]
      exact ⟨fun _ => hz V1 R K W, fun c => absurd (Nat.le_refl _) c⟩
    | succ n ih =>
      intro t f p1 V1 x3 hn P1 R K W
      have hnt := R.1.2
      have ht : t < bd_nt B := by omega
      have hw4 : bd_whose B t < 4 := hB.1.2.2.2.1 t
      have tSt := t_ST hσ (show t < 6 by omega)
      have e7 := r7 t (by omega)
      obtain ⟨c1, c2⟩ := R.2.2.2.1 t ht
      -- behind the match
      have l82 : ∀ f t0 fl b, t0 < bd_nt B → bd_nt B < t + 1 + f → bd_nt B ≤ t + fl → bd_whose B t = h → bd_whose B t0 = h → rs = P_mid B pr h f t0 fl t b p1 → jv_J g (d + 1) mt_S_isStopped 82 [some (.ref σ), some (.int (nI h)), some (.int (nI t0)), none, some (.int (nI t))] [.int (if b = true then nI 1 else nI 0)] (sw M σ V1 π) 668 0 0 Z := by
        intro f t0 fl b ht0 hf hfl hwt hw0 E
        obtain ⟨fl, rfl⟩ : ∃ f2, fl = f2 + 1 := ⟨fl - 1, by omega⟩
        have tS0' := t_ST hσ (show t0 < 6 by omega)
        have e70 := r7 t0 (by omega)
        refine b_S_isStopped_82 ?_
        simp (disch := omega) only [li, ne_eq, nI_add, pk_mul, nI_clamp, vin, true_and, nn_eq, nn_le, nn_lt, pk_div, rm2, or0, sw_0, sw_1, sw_3, sw_18, sw_o, sw_h, sw_r, sw_t, wi_0, wi_1, wi_3, wi_18, wi_o, wi_h, wi_r, wi_t, sw_q, sw_ref, wr_q, tS0, tS1, tS2, lS2, tS3, lS3, tS16, lS16, tS17, lS17, tS18, lS18, r0, r1, r2, r3, r4, r5, Option.some.injEq, exists_eq_left']
        refine c_S_isJoined X0 hB P1 R ht (jv_ri_i ?_)
        by_cases hl : P_lead B p1 t = true
        · rw [if_pos hl]
          rw [P_mid_lead hl] at E
          have hl2 := hl
          unfold P_lead at hl2
          simp only [Bool.and_eq_true, decide_eq_true_eq] at hl2
          refine ⟨fun _ => ?_, fun c => absurd c (by decide)⟩
          have ih2 := (ih (t + 1) f p1 V1 (if b = true then nI 1 else nI 0) (by omega) P1 R K W).2.1 t0 fl b ht0 (by omega) (by omega) (by omega) (by omega) hw0 rfl E
          have tSt1 := t_ST hσ (show t + 1 < 6 by omega)
          have e71 := r7 (t + 1) (by omega)
          obtain ⟨d1, d2⟩ := R.2.2.2.1 (t + 1) (by omega)
          have hw5 : bd_whose B (t + 1) < 4 := hB.1.2.2.2.1 (t + 1)
          refine b_S_isStopped_8 ?_
          simp (disch := omega) only [li, ne_eq, nI_add, pk_mul, nI_clamp, vin, true_and, nn_eq, nn_le, nn_lt, pk_div, rm2, or0, sw_0, sw_1, sw_3, sw_18, sw_o, sw_h, sw_r, sw_t, wi_0, wi_1, wi_3, wi_18, wi_o, wi_h, wi_r, wi_t, sw_q, sw_ref, wr_q, tS0, tS1, tS2, lS2, tS3, lS3, tS16, lS16, tS17, lS17, tS18, lS18, r0, r1, r2, r3, r4, r5, Option.some.injEq, exists_eq_left', hnt, tSt1, e71, d1]
          refine ⟨fun c => absurd c (by omega), fun _ => ⟨fun c => absurd (show bd_whose B (t + 1) = h by omega) c, fun _ => ⟨fun _ => ih2, fun c => absurd c (nI_n9 t0 (by omega))⟩⟩⟩
        · rw [if_neg hl]
          rw [P_mid_end hl] at E
          refine ⟨fun c => absurd rfl c, fun _ => ?_⟩
          cases b with
          | false =>
            rw [if_neg (by simp)] at E
            refine ⟨fun _ => (ih (t + 1) f p1 V1 _ (by omega) P1 R K W).1 (by omega) E, fun c => absurd rfl c⟩
          | true =>
            rw [if_pos ⟨rfl, hw0⟩] at E
            refine ⟨fun c => absurd c (by decide), fun _ => ?_⟩
            obtain ⟨⟨n3, h31, h32, e3⟩, ⟨n4, h41, h42, e4⟩, -⟩ := P1.trig ht0
            simp (disch := omega) only [li, ne_eq, nI_add, pk_mul, nI_clamp, vin, true_and, nn_eq, nn_le, nn_lt, pk_div, rm2, or0, sw_0, sw_1, sw_3, sw_18, sw_o, sw_h, sw_r, sw_t, wi_0, wi_1, wi_3, wi_18, wi_o, wi_h, wi_r, wi_t, sw_q, sw_ref, wr_q, tS0, tS1, tS2, lS2, tS3, lS3, tS16, lS16, tS17, lS17, tS18, lS18, r0, r1, r2, r3, r4, r5, Option.some.injEq, exists_eq_left', tS0', e70]
            refine c_S_countsDown X0 hB P1 R ht0 (fun q V2 R2 K2 W2 => jv_ri_i ?_) (fun q V2 R2 K2 W2 => jv_ri_i ?_)
            · rw [if_neg q] at E
              refine ⟨fun _ => ?_, fun c => absurd rfl c⟩
              have P2 : POK B m (pu p1 (40 + 6 * t0 + 4) (p1 (40 + 6 * t0 + 4) - nI 1)) := by
                rw [e4, pk_sub (by omega)]
                rw [e4, pk_sub (by omega), nn_eq (by omega) (by omega)] at q
                exact P1.trigleft ht0 hB.1 (by omega)
              exact (ih (t + 1) f _ V2 _ (by omega) P2 R2 (K.trans K2) (W2.trans W)).1 (by omega) E
            · rw [if_pos q] at E
              subst E
              refine ⟨fun c => absurd c (by decide), fun _ => ?_⟩
              exact hz V2 R2 (K.trans K2) (W2.trans W)
      have l42 : ∀ f t0 fl b x3, t0 < bd_nt B → bd_nt B < t + 1 + f → bd_nt B ≤ t + fl → bd_whose B t = h → bd_whose B t0 = h → x3 = (if b = true then nI 1 else nI 0) → rs = P_mid B pr h f t0 fl t (b && P_match B pr p1 t) p1 → jv_J g (d + 1) mt_S_isStopped 42 [some (.ref σ), some (.int (nI h)), some (.int (nI t0)), some (.int x3), some (.int (nI t))] [] (sw M σ V1 π) 668 0 0 Z := by
        intro f t0 fl b x3 ht0 hf hfl hwt hw0 hx3 E
        have g82 := l82 f t0 fl _ ht0 hf hfl hwt hw0 E
        have hbit := hab t ht
        rw [← K.2.1] at hbit
        refine b_S_isStopped_42 ?_
        subst hx3
        have tSh := t_SH hσ (show h < 4 by omega)
        simp (disch := omega) only [li, ne_eq, nI_add, pk_mul, nI_clamp, vin, true_and, nn_eq, nn_le, nn_lt, pk_div, rm2, or0, sw_0, sw_1, sw_3, sw_18, sw_o, sw_h, sw_r, sw_t, wi_0, wi_1, wi_3, wi_18, wi_o, wi_h, wi_r, wi_t, sw_q, sw_ref, wr_q, tS0, tS1, tS2, lS2, tS3, lS3, tS16, lS16, tS17, lS17, tS18, lS18, r0, r1, r2, r3, r4, r5, Option.some.injEq, exists_eq_left', e7, e6, tSt]
        cases b with
        | false =>
          refine ⟨fun _ => ?_, fun c => absurd rfl c⟩
          simpa using g82
        | true =>
          refine ⟨fun c => absurd c (by decide), fun _ => ⟨fun c => ?_, fun c => ?_⟩⟩
          · have : P_bit pr t = false := by
              rw [← Bool.not_eq_true]; exact fun z => c (hbit.mpr z)
            have hm : (true && P_match B pr p1 t) = false := by show (true && (_ && P_bit pr t)) = false; rw [this, Bool.and_false, Bool.and_false]
            rw [hm] at g82
            exact g82
          · have hb1 := hbit.mp c
            have hm : (true && P_match B pr p1 t) = P_m0 B p1 t := by show (true && (P_m0 B p1 t && P_bit pr t)) = _; rw [hb1, Bool.and_true, Bool.true_and]
            rw [hm] at g82
            have cm := c_S_matches (g := g) (d := d) (π := π) (Z := fun v M18 N18 => jv_ri v (fun r17 => (r17 = nI 0 → jv_J g (d + 1) mt_S_isStopped 82 [some (.ref σ), some (.int (nI h)), some (.int (nI t0)), none, some (.int (nI t))] [.int (nI 0)] M18 N18 0 0 Z) ∧ (¬ (r17 = nI 0) → jv_J g (d + 1) mt_S_isStopped 82 [some (.ref σ), some (.int (nI h)), some (.int (nI t0)), none, some (.int (nI t))] [.int (nI 1)] M18 N18 0 0 Z))) X0 hB P1 R ht (jv_ri_i ?_)
            · rw [hwt] at cm; exact cm
            · by_cases hq : P_m0 B p1 t = true
              · rw [if_pos hq] at g82 ⊢
                exact ⟨fun c => absurd c (by decide), fun _ => g82⟩
              · rw [if_neg hq] at g82 ⊢
                exact ⟨fun _ => g82, fun c => absurd rfl c⟩
      have l3 : ∀ f t0 fl b, bd_nt B < t + 1 + f → bd_nt B ≤ t + fl → ¬ bd_whose B t = h → ¬ bd_whose B t0 = h → rs = P_mid B pr h f t0 fl t b p1 → jv_J g (d + 1) mt_S_isStopped 8 [some (.ref σ), some (.int (nI h)), some (.int (-9)), some (.int x3), some (.int (nI t))] [] (sw M σ V1 π) 668 0 0 Z := by
        intro f t0 fl b hf hfl hwt hw0 E
        obtain ⟨fl, rfl⟩ : ∃ f2, fl = f2 + 1 := ⟨fl - 1, by omega⟩
        refine b_S_isStopped_8 ?_
        simp (disch := omega) only [li, ne_eq, nI_add, pk_mul, nI_clamp, vin, true_and, nn_eq, nn_le, nn_lt, pk_div, rm2, or0, sw_0, sw_1, sw_3, sw_18, sw_o, sw_h, sw_r, sw_t, wi_0, wi_1, wi_3, wi_18, wi_o, wi_h, wi_r, wi_t, sw_q, sw_ref, wr_q, tS0, tS1, tS2, lS2, tS3, lS3, tS16, lS16, tS17, lS17, tS18, lS18, r0, r1, r2, r3, r4, r5, Option.some.injEq, exists_eq_left', hnt, tSt, e7, c1]
        refine ⟨fun c => absurd c (by omega), fun _ => ⟨fun _ => ?_, fun c => absurd c hwt⟩⟩
        by_cases hl : P_lead B p1 t = true
        · rw [P_mid_lead hl] at E
          unfold P_lead at hl
          simp only [Bool.and_eq_true, decide_eq_true_eq] at hl
          exact (ih (t + 1) f p1 V1 x3 (by omega) P1 R K W).2.2 t0 fl _ (by omega) (by omega) (by omega) (by omega) hw0 E
        · rw [P_mid_end hl, if_neg (fun z => hw0 z.2)] at E
          exact (ih (t + 1) f p1 V1 x3 (by omega) P1 R K W).1 (by omega) E
      refine ⟨fun hf E => ?_, fun t0 fl b h1 h2 h3 _ h4 h5 h6 E => l42 f t0 fl b x3 h1 h2 h3 h4 h5 h6 E, fun t0 fl b h2 h3 _ h4 h5 E => l3 f t0 fl b h2 h3 h4 h5 E⟩
      obtain ⟨f, rfl⟩ : ∃ f2, f = f2 + 1 := ⟨f - 1, by omega⟩
      rw [P_caught_mid ht] at E
      by_cases hwt : bd_whose B t = h
      · have g42 := l42 f t 6 true (nI 1) ht (by omega) (by omega) hwt hwt rfl (by rw [Bool.true_and]; exact E)
        refine b_S_isStopped_8 ?_
        simp (disch := omega) only [li, ne_eq, nI_add, pk_mul, nI_clamp, vin, true_and, nn_eq, nn_le, nn_lt, pk_div, rm2, or0, sw_0, sw_1, sw_3, sw_18, sw_o, sw_h, sw_r, sw_t, wi_0, wi_1, wi_3, wi_18, wi_o, wi_h, wi_r, wi_t, sw_q, sw_ref, wr_q, tS0, tS1, tS2, lS2, tS3, lS3, tS16, lS16, tS17, lS17, tS18, lS18, r0, r1, r2, r3, r4, r5, Option.some.injEq, exists_eq_left', hnt, tSt, e7, c1]
        refine ⟨fun c => absurd c (by omega), fun _ => ⟨fun c => absurd hwt c, fun _ => ⟨fun c => absurd trivial c, fun _ => g42⟩⟩⟩
      · exact l3 f t 6 _ (by omega) (by omega) hwt hwt E
  exact jv_ct rfl (Nat.le_of_ble_eq_true rfl) (b_S_isStopped_0 ((l (bd_nt B) 0 7 p V _ (by omega) P H KK.rf rfl).1 (by omega) ers))

end SC
