section SC
variable {g : jv_G} {d : Nat} {M : jv_Mem} {Z : Option Value → jv_Mem → Nat → Prop} {B : Bd} {p : Pg} {σ m : Nat} {V : SV} {π : Nat → Nat}
/-- of the orders' objects only number j may change -/
def KR (j : Nat) (V V' : SV) : Prop := (∀ k f, 4 ≤ k → k < 16 → k ≠ 4 + j → V' k f = V k f) ∧ V' 0 6 = V 0 6 ∧ V' 1 2 = V 1 2
theorem KK.kr {V V' : SV} (h : KK V V') (j : Nat) : KR j V V' := ⟨fun k f h1 h2 _ => h.1 k f h1 h2, h.2⟩
theorem KR.trans {j : Nat} {V V1 V2 : SV} (a : KR j V V1) (b : KR j V1 V2) : KR j V V2 := ⟨fun k f h1 h2 h3 => (b.1 k f h1 h2 h3).trans (a.1 k f h1 h2 h3), b.2.1.trans a.2.1, b.2.2.trans a.2.2⟩
theorem KR.upd {j f : Nat} {V V1 : SV} {x : Int32} (a : KR j V V1) : KR j V (vu V1 (4 + j) f x) := ⟨fun k f' h1 h2 h3 => by rw [vu_k _ _ h3]; exact a.1 k f' h1 h2 h3, by rw [vu_k _ _ (by omega)]; exact a.2.1, by rw [vu_k _ _ (by omega)]; exact a.2.2⟩
theorem RQi.code {j i : Nat} {x : Int32} (H : RQi V j p i) : RQi (vu V (4 + j) 5 x) j (pu p (81 + 7 * i + 3) x) i := by
  obtain ⟨a0, a1, a2, a3, a4, a5, a6⟩ := H
  refine ⟨?_, ?_, ?_, by rw [vu_s, pu_s], ?_, ?_, ?_⟩ <;> (rw [vu_j _ _ (by omega), pu_n _ _ (by omega)]; assumption)
theorem RQi.taken {j i : Nat} {x : Int32} (H : RQi V j p i) : RQi (vu V (4 + j) 6 x) j (pu p (81 + 7 * i + 6) x) i := by
  obtain ⟨a0, a1, a2, a3, a4, a5, a6⟩ := H
  refine ⟨?_, ?_, ?_, ?_, ?_, ?_, by rw [vu_s, pu_s]⟩ <;> (rw [vu_j _ _ (by omega), pu_n _ _ (by omega)]; assumption)
theorem RQi.age {j i : Nat} {x : Int32} (H : RQi V j p i) : RQi (vu V (4 + j) 4 x) j (pu p (81 + 7 * i + 2) x) i := by
  obtain ⟨a0, a1, a2, a3, a4, a5, a6⟩ := H
  refine ⟨?_, ?_, by rw [vu_s, pu_s], ?_, ?_, ?_, ?_⟩ <;> (rw [vu_j _ _ (by omega), pu_n _ _ (by omega)]; assumption)
theorem RL.ordp {V : SV} {p : Pg} {j f i : Nat} {x y : Int32} (H : RL B V p) (hB : BOK B) (hj : j < 12) (hi : 81 ≤ i) : RL B (vu V (4 + j) f x) (pu p i y) := (H.free hB x (by omega)).page hB (fun q hq => pu_n _ _ (by omega))
theorem P_reach_eq {k n0 h r : Nat} {w : Int32} (e0 : p (81 + 7 * k) = nI n0) (h0 : n0 ≤ 5) (e1 : p (81 + 7 * k + 1) = nI h) (hh : h < 4) (e4 : p (81 + 7 * k + 4) = nI r) (hr : r < 4) : P_reach B (p, w) k =
    if 2 < n0 ∧ p (8 * h + 1) ≠ nI 2 then (pu p (81 + 7 * k + 3) (nI 4), w)
    else if n0 = 0 then (P_halt p h (nI 1), w) else if n0 = 1 then (P_resume p h, w) else if n0 = 2 then (P_reset B p h, w)
    else if n0 = 3 then (pu p (81 + 7 * k + 6) (p (8 * h + 4 + r)), w) else if n0 = 4 then (pu p (8 * h + 4 + r) (p (81 + 7 * k + 5)), w)
    else (pu (P_buf h 2 0 (p, w)).1.1 (81 + 7 * k + 3) (P_buf h 2 0 (p, w)).2, (P_buf h 2 0 (p, w)).1.2) := by
  unfold P_reach
  simp (disch := omega) only [e0, e1, e4, nI_clamp, nn_lt, nn_eq]
theorem c_S_reach (X : SX M σ) (hB : BV2 B) (P : POK B m p) (H : RL B V p) {k j : Nat} (hk : k < m) (hj : j < 12) (Q : RQi V j p k) {w : Int32} (hw : V 0 7 = w) (hz : ∀ V', RL B V' (P_reach B (p, w) k).1 → RQi V' j (P_reach B (p, w) k).1 k → KR j V V' → V' 0 7 = (P_reach B (p, w) k).2 → Z none (sw M σ V' π) 668) : jv_Ct g (d + 2) mt_S_reach [.ref σ, .ref (σ + 4 + j)] (sw M σ V π) 668 0 0 Z := by
  have X0 := X
  obtain ⟨hσ, r0, r1, r2, r3, r4, r5, r6, r7, r8⟩ := X
  have tS0 := t_S0 hσ
  have tS1 := t_S1 hσ
  have tS2 := t_S2 hσ
  have lS2 := l_S2 hσ
  have tS3 := t_S3 hσ
  have lS3 := l_S3 hσ
  have tS16 := t_S16 hσ
  have lS16 := l_S16 hσ
  have tS17 := t_S17 hσ
  have lS17 := l_S17 hσ
  have tS18 := t_S18 hσ
  have lS18 := l_S18 hσ
  have b4 := hB.1.2.1
  obtain ⟨⟨n0, h0, e0⟩, ⟨h, hh, e1⟩, -, -, ⟨r, hr, e4⟩⟩ := P.ord hk
  obtain ⟨q0, q1, q2, q3, q4, q5, q6⟩ := id Q
  rw [e0] at q0
  rw [e1] at q1
  rw [e4] at q4
  rw [P_reach_eq e0 h0 e1 (by omega) e4 hr] at hz
  obtain ⟨a1, a2, a3, a4, a5, a6, a7⟩ := H.2.1 h hh
  have tSo := t_SO hσ hj
  have tSh := t_SH hσ (show h < 4 by omega)
  have tSr := t_SR hσ (show h < 4 by omega)
  have lSr := l_SR hσ (show h < 4 by omega)
  have e8 := r8 h (by omega)
  have e6 := r6 h (by omega)
  have tail : ¬ (2 < n0 ∧ p (8 * h + 1) ≠ nI 2) → jv_J g (d + 2) mt_S_reach 31 [some (.ref σ), some (.ref (σ + 4 + j)), some (.ref (σ + 19 + 2 * h))] [] (sw M σ V π) 668 0 0 Z := by
    intro hc
    rw [if_neg hc] at hz
    refine b_S_reach_31 ?_
    simp (disch := omega) only [li, ne_eq, nI_add, pk_mul, nI_clamp, vin, true_and, nn_eq, nn_le, nn_lt, pk_div, rm2, or0, sw_0, sw_1, sw_3, sw_18, sw_o, sw_h, sw_r, sw_t, wi_0, wi_1, wi_3, wi_18, wi_o, wi_h, wi_r, wi_t, sw_q, sw_ref, wr_q, tS0, tS1, tS2, lS2, tS3, lS3, tS16, lS16, tS17, lS17, tS18, lS18, r0, r1, r2, r3, r4, r5, Option.some.injEq, exists_eq_left', tSo, tSh, tSr, lSr, e8, q0, q1, q4]
    refine ⟨fun c => ?_, fun c => ?_, fun c => ?_, fun c => ?_, fun c => ?_, fun c => ?_⟩
    · rw [if_pos c] at hz
      refine c_S_halt X0 hB.1 P H hh (fun V' R K W => jv_rv_i (hz V' R ?_ (K.kr j) (W.trans hw)))
      exact Q.same (fun f => K.1 _ _ (by omega) (by omega)) (fun i _ _ => P_halt_keep (by omega))
    · rw [if_neg (by omega), if_pos c] at hz
      refine c_S_resume X0 hB.1 P H hh (fun V' R K W => jv_rv_i (hz V' R ?_ (K.kr j) (W.trans hw)))
      exact Q.same (fun f => K.1 _ _ (by omega) (by omega)) (fun i _ _ => P_resume_keep (by omega))
    · rw [if_neg (by omega), if_neg (by omega), if_pos c] at hz
      refine c_S_restart X0 hB P H hh (fun V' R K W => jv_rv_i (hz V' R ?_ (K.kr j) (W.trans hw)))
      exact Q.same (fun f => K.1 _ _ (by omega) (by omega)) (fun i _ _ => P_reset_keep hB.1 (by omega) (by omega))
    · rw [if_neg (by omega), if_neg (by omega), if_neg (by omega), if_pos c] at hz
      rw [a7 r hr]
      exact hz _ (H.ordp hB.1 hj (by omega)) Q.taken (KK.rf.kr j).upd (by rw [vu_k _ _ (by omega)]; exact hw)
    · rw [if_neg (by omega), if_neg (by omega), if_neg (by omega), if_neg (by omega), if_pos c] at hz
      rw [q5]
      exact hz _ (H.reg hB.1 (by omega) hr _) (Q.same (fun f => vu_k _ _ (by omega)) (fun i _ _ => pu_n _ _ (by omega))) ((KK.rf.upd (by omega)).kr j) (by rw [vu_k _ _ (by omega)]; exact hw)
    · rw [if_neg (by omega), if_neg (by omega), if_neg (by omega), if_neg (by omega), if_neg (by omega)] at hz
      refine c_S_runBuffer X0 hB P H hh hw (fun V' R K W => jv_ri_i ?_)
      obtain ⟨-, k2, -⟩ := P_buf_OK hB.1 (show h < 4 by omega) 2 0 p w (by omega) P
      simp (disch := omega) only [li, ne_eq, nI_add, pk_mul, nI_clamp, vin, true_and, nn_eq, nn_le, nn_lt, pk_div, rm2, or0, sw_0, sw_1, sw_3, sw_18, sw_o, sw_h, sw_r, sw_t, wi_0, wi_1, wi_3, wi_18, wi_o, wi_h, wi_r, wi_t, sw_q, sw_ref, wr_q, tS0, tS1, tS2, lS2, tS3, lS3, tS16, lS16, tS17, lS17, tS18, lS18, r0, r1, r2, r3, r4, r5, Option.some.injEq, exists_eq_left', tSo]
      exact hz _ (R.ordp hB.1 hj (by omega)) (RQi.code (Q.same (fun f => K.1 _ _ (by omega) (by omega)) (fun i _ _ => k2 i (by omega)))) (K.kr j).upd (by rw [vu_k _ _ (by omega)]; exact W)
  refine jv_ct rfl (Nat.le_of_ble_eq_true rfl) (b_S_reach_0 ?_)
  simp (disch := omega) only [li, ne_eq, nI_add, pk_mul, nI_clamp, vin, true_and, nn_eq, nn_le, nn_lt, pk_div, rm2, or0, sw_0, sw_1, sw_3, sw_18, sw_o, sw_h, sw_r, sw_t, wi_0, wi_1, wi_3, wi_18, wi_o, wi_h, wi_r, wi_t, sw_q, sw_ref, wr_q, tS0, tS1, tS2, lS2, tS3, lS3, tS16, lS16, tS17, lS17, tS18, lS18, r0, r1, r2, r3, r4, r5, Option.some.injEq, exists_eq_left', tSo, tSh, q0, q1, e6]
  refine jv_ct rfl (Nat.le_of_ble_eq_true rfl) (b_O_isAbstract_0 ?_)
  simp (disch := omega) only [li, ne_eq, nI_add, pk_mul, nI_clamp, vin, true_and, nn_eq, nn_le, nn_lt, pk_div, rm2, or0, sw_0, sw_1, sw_3, sw_18, sw_o, sw_h, sw_r, sw_t, wi_0, wi_1, wi_3, wi_18, wi_o, wi_h, wi_r, wi_t, sw_q, sw_ref, wr_q, tS0, tS1, tS2, lS2, tS3, lS3, tS16, lS16, tS17, lS17, tS18, lS18, r0, r1, r2, r3, r4, r5, Option.some.injEq, exists_eq_left', tSo, q0]
  refine ⟨fun c => jv_ri_i ?_, fun c => jv_ri_i ?_⟩
  · exact ⟨fun _ => tail (by omega), fun c1 => absurd rfl c1⟩
  · refine ⟨fun c1 => absurd c1 (by decide), fun _ => ?_⟩
    simp (disch := omega) only [li, ne_eq, nI_add, pk_mul, nI_clamp, vin, true_and, nn_eq, nn_le, nn_lt, pk_div, rm2, or0, sw_0, sw_1, sw_3, sw_18, sw_o, sw_h, sw_r, sw_t, wi_0, wi_1, wi_3, wi_18, wi_o, wi_h, wi_r, wi_t, sw_q, sw_ref, wr_q, tS0, tS1, tS2, lS2, tS3, lS3, tS16, lS16, tS17, lS17, tS18, lS18, r0, r1, r2, r3, r4, r5, Option.some.injEq, exists_eq_left', tSo, tSh, a4]
    refine ⟨fun c1 => tail (fun z => z.2 c1), fun c1 => ?_⟩
    rw [if_pos ⟨by omega, c1⟩] at hz
    exact hz _ (H.ordp hB.1 hj (by omega)) Q.code (KK.rf.kr j).upd (by rw [vu_k _ _ (by omega)]; exact hw)

theorem c_S_finish (X : SX M σ) (hB : BV2 B) (P : POK B m p) (H : RL B V p) {k j : Nat} (hk : k < m) (hj : j < 12) (Q : RQi V j p k) (hz : ∀ V', RL B V' (P_back p k) → KK V V' → V' 0 7 = V 0 7 → Z none (sw M σ V' π) 668) : jv_Ct g d mt_D_finish [.ref (σ + 1), .ref (σ + 4 + j)] (sw M σ V π) 668 0 0 Z := by
  have X0 := X
  obtain ⟨hσ, r0, r1, r2, r3, r4, r5, r6, r7, r8⟩ := X
  have tS0 := t_S0 hσ
  have tS1 := t_S1 hσ
  have tS2 := t_S2 hσ
  have lS2 := l_S2 hσ
  have tS3 := t_S3 hσ
  have lS3 := l_S3 hσ
  have tS16 := t_S16 hσ
  have lS16 := l_S16 hσ
  have tS17 := t_S17 hσ
  have lS17 := l_S17 hσ
  have tS18 := t_S18 hσ
  have lS18 := l_S18 hσ
  have b4 := hB.1.2.1
  obtain ⟨⟨n0, h0, e0⟩, -, -, ⟨c3, hc3, e3⟩, -⟩ := P.ord hk
  obtain ⟨q0, q1, q2, q3, q4, q5, q6⟩ := id Q
  have r3' := P.2.2.2.2 k hk
  have hE := H.2.2.2.2.1.1
  obtain ⟨ne, ee, he⟩ := P.2.1.at 76
  rw [ee] at hE
  have E : P_back p k = pu (pu p 77 (if n0 = 3 ∧ c3 = 0 then p (81 + 7 * k + 6) else p 77)) 76 (if 2 < n0 ∧ ne = 0 then nI c3 else nI ne) := by
    unfold P_back
    simp (disch := omega) only [e0, e3, ee, nn_eq, nn_lt]
  rw [E] at hz
  rw [e0] at q0
  rw [e3] at q3
  have hab : c3 ≠ 0 → 2 < n0 := by
    intro hc
    have := r3' (by rw [e3]; intro z; exact hc (nI_inj (by omega) (by omega) z))
    rw [e0] at this
    exact (nI_ltI (by omega) (by omega)).mp this
  have tSo := t_SO hσ hj
  refine jv_ct rfl (Nat.le_of_ble_eq_true rfl) (b_D_finish_0 ?_)
  simp (disch := omega) only [li, ne_eq, nI_add, pk_mul, nI_clamp, vin, true_and, nn_eq, nn_le, nn_lt, pk_div, rm2, or0, sw_0, sw_1, sw_3, sw_18, sw_o, sw_h, sw_r, sw_t, wi_0, wi_1, wi_3, wi_18, wi_o, wi_h, wi_r, wi_t, sw_q, sw_ref, wr_q, tS0, tS1, tS2, lS2, tS3, lS3, tS16, lS16, tS17, lS17, tS18, lS18, r0, r1, r2, r3, r4, r5, Option.some.injEq, exists_eq_left', tSo, q0, q3, hE]
  refine ⟨fun c => ⟨fun c1 => ?_, fun c1 => ?_⟩, fun c => ⟨fun c1 => ?_, fun c1 => ?_⟩⟩
  · rw [if_neg (by omega)] at hz
    refine hz V (H.page hB.1 (fun i hi => ?_)) KK.rf rfl
    unfold pu
    split
    · rename_i hi; subst hi
      split
      · rename_i h2; rw [c, ee, h2.2]
      · exact ee.symm
    · split
      · rename_i hi; subst hi; rfl
      · rfl
  · rw [if_pos ⟨c1, c⟩] at hz
    rw [q6]
    refine hz _ ((H.data hB.1 _).page hB.1 (fun i hi => ?_)) (KK.rf.upd (by omega)) (by rw [vu_k _ _ (by omega)])
    by_cases h6 : i = 76
    · subst h6
      rw [pu_s, pu_n _ _ (by omega), ee]
      split
      · rename_i h2; rw [c, h2.2]
      · rfl
    · rw [pu_n _ _ h6]
  · rw [if_neg (by omega), if_neg (by omega)] at hz
    refine hz _ ((H.err hB.1 _).page hB.1 (fun i hi => ?_)) (KK.rf.upd (by omega)) (by rw [vu_k _ _ (by omega)])
    unfold pu
    split
    · rfl
    · split
      · rename_i hi; subst hi; rfl
      · rfl
  · have := hab c
    rw [if_neg (by omega), if_pos ⟨this, c1⟩] at hz
    refine hz _ ((H.err hB.1 _).page hB.1 (fun i hi => ?_)) (KK.rf.upd (by omega)) (by rw [vu_k _ _ (by omega)])
    unfold pu
    split
    · rfl
    · split
      · rename_i hi; subst hi; rfl
      · rfl

theorem c_S_moveForward (X : SX M σ) {i k : Nat} (hi : i < 12) (hk : k < 12) (hπ : ∀ q, q < 12 → π q < 12) (hz : Z none (sw M σ V (nu (nu π i (π k)) k (π i))) 668) : jv_Ct g d mt_D_moveForward [.ref (σ + 1), .int (nI i), .int (nI k)] (sw M σ V π) 668 0 0 Z := by
  have X0 := X
  obtain ⟨hσ, r0, r1, r2, r3, r4, r5, r6, r7, r8⟩ := X
  have tS0 := t_S0 hσ
  have tS1 := t_S1 hσ
  have tS2 := t_S2 hσ
  have lS2 := l_S2 hσ
  have tS3 := t_S3 hσ
  have lS3 := l_S3 hσ
  have tS16 := t_S16 hσ
  have lS16 := l_S16 hσ
  have tS17 := t_S17 hσ
  have lS17 := l_S17 hσ
  have tS18 := t_S18 hσ
  have lS18 := l_S18 hσ
  have tSi := t_SO hσ (hπ i hi)
  have tSk := t_SO hσ (hπ k hk)
  refine jv_ct rfl (Nat.le_of_ble_eq_true rfl) (b_D_moveForward_0 ?_)
  simp (disch := omega) only [li, ne_eq, nI_add, pk_mul, nI_clamp, vin, true_and, nn_eq, nn_le, nn_lt, pk_div, rm2, or0, sw_0, sw_1, sw_3, sw_18, sw_o, sw_h, sw_r, sw_t, wi_0, wi_1, wi_3, wi_18, wi_o, wi_h, wi_r, wi_t, sw_q, sw_ref, wr_q, tS0, tS1, tS2, lS2, tS3, lS3, tS16, lS16, tS17, lS17, tS18, lS18, r0, r1, r2, r3, r4, r5, Option.some.injEq, exists_eq_left', tSi, tSk]
  exact hz

/-- the queue's places hold twelve objects -/
def PI (π : Nat → Nat) : Prop := (∀ q, q < 12 → π q < 12) ∧ ∀ a b, a < 12 → b < 12 → π a = π b → a = b
theorem PI.swap {π : Nat → Nat} (h : PI π) {i k : Nat} (hi : i < 12) (hk : k < 12) : PI (nu (nu π i (π k)) k (π i)) := by
  obtain ⟨h1, h2⟩ := h
  refine ⟨fun q hq => ?_, fun a b ha hb => ?_⟩
  · unfold nu
    (repeat' split) <;> first | exact h1 _ hi | exact h1 _ hk | exact h1 _ hq
  · have ht : ∀ a, nu (nu π i (π k)) k (π i) a = π (if a = k then i else if a = i then k else a) := by
      intro a
      unfold nu
      (repeat' split) <;> rfl
    intro e
    rw [ht, ht] at e
    have := h2 _ _ (by (repeat' split) <;> omega) (by (repeat' split) <;> omega) e
    revert this
    (repeat' split) <;> omega
/-- the orders while they go round: the first k stay, those from i on are still to come -/
def LQ (V : SV) (π : Nat → Nat) (k i m : Nat) (p : Pg) : Prop := (∀ l, l < k → l < m → RQi V (π l) p l) ∧ ∀ l, k ≤ l → l < m → RQi V (π (l + (i - k))) p l
theorem LQ.drop {V V' : SV} {p p' : Pg} {π : Nat → Nat} {k i n m1 : Nat} (L : LQ V π k i (m1 + 1) p) (hki : k ≤ i) (hn : n ≤ 12) (hin : i < n) (hm : m1 + 1 = k + (n - i)) (I : PI π) (hV : ∀ q f, 4 ≤ q → q < 16 → q ≠ 4 + π i → V' q f = V q f)
    (hp : ∀ l f, l < k → f < 7 → p' (81 + 7 * l + f) = p (81 + 7 * l + f)) (hp2 : ∀ l f, k ≤ l → l < m1 → f < 7 → p' (81 + 7 * l + f) = p (81 + 7 * (l + 1) + f)) : LQ V' π k (i + 1) m1 p' := by
  refine ⟨fun l h1 h2 => ?_, fun l h1 h2 => ?_⟩
  · refine (L.1 l h1 (by omega)).same (fun f => hV _ _ (by omega) (by have := I.1 l (by omega); omega) (fun e => ?_)) (fun q q1 q2 => ?_)
    · have := I.2 l i (by omega) (by omega) (by omega)
      omega
    · have := hp l (q - (81 + 7 * l)) h1 (by omega)
      rwa [show 81 + 7 * l + (q - (81 + 7 * l)) = q by omega] at this
  · have L2 := L.2 (l + 1) (by omega) (by omega)
    rw [show l + 1 + (i - k) = l + (i + 1 - k) by omega] at L2
    obtain ⟨a0, a1, a2, a3, a4, a5, a6⟩ := L2
    have hv : ∀ f, V' (4 + π (l + (i + 1 - k))) f = V (4 + π (l + (i + 1 - k))) f := fun f => hV _ _ (by omega) (by have := I.1 (l + (i + 1 - k)) (by omega); omega) (fun e => by
      have := I.2 (l + (i + 1 - k)) i (by omega) (by omega) (by omega)
      omega)
    refine ⟨?_, ?_, ?_, ?_, ?_, ?_, ?_⟩
    · rw [hv, a0]; exact (hp2 l 0 h1 h2 (by omega)).symm
    · rw [hv, a1]; exact (hp2 l 1 h1 h2 (by omega)).symm
    · rw [hv, a2]; exact (hp2 l 2 h1 h2 (by omega)).symm
    · rw [hv, a3]; exact (hp2 l 3 h1 h2 (by omega)).symm
    · rw [hv, a4]; exact (hp2 l 4 h1 h2 (by omega)).symm
    · rw [hv, a5]; exact (hp2 l 5 h1 h2 (by omega)).symm
    · rw [hv, a6]; exact (hp2 l 6 h1 h2 (by omega)).symm
theorem LQ.stay {V V' : SV} {p p' : Pg} {π : Nat → Nat} {k i n m1 : Nat} (L : LQ V π k i m1 p) (hki : k ≤ i) (hn : n ≤ 12) (hin : i < n) (hm : m1 = k + (n - i)) (I : PI π) (hV : ∀ q f, 4 ≤ q → q < 16 → q ≠ 4 + π i → V' q f = V q f)
    (hp : ∀ l f, l ≠ k → l < m1 → f < 7 → p' (81 + 7 * l + f) = p (81 + 7 * l + f)) (Q : RQi V' (π i) p' k) : LQ V' (nu (nu π i (π k)) k (π i)) (k + 1) (i + 1) m1 p' := by
  have hπ : ∀ a, a ≠ k → a ≠ i → nu (nu π i (π k)) k (π i) a = π a := fun a h1 h2 => by unfold nu; rw [if_neg h1, if_neg h2]
  have hπk : nu (nu π i (π k)) k (π i) k = π i := by unfold nu; rw [if_pos rfl]
  have sm : ∀ l a, l ≠ k → l < m1 → a < 12 → a ≠ i → RQi V (π a) p l → RQi V' (π a) p' l := by
    intro l a h1 h2 h3 h4 h5
    refine h5.same (fun f => hV _ _ (by omega) (by have := I.1 a h3; omega) (fun e => h4 (I.2 a i h3 (by omega) (by omega)))) (fun q q1 q2 => ?_)
    have := hp l (q - (81 + 7 * l)) h1 h2 (by omega)
    rwa [show 81 + 7 * l + (q - (81 + 7 * l)) = q by omega] at this
  refine ⟨fun l h1 h2 => ?_, fun l h1 h2 => ?_⟩
  · by_cases hlk : l = k
    · subst hlk; rw [hπk]; exact Q
    · rw [hπ l hlk (by omega)]
      exact sm l l hlk h2 (by omega) (by omega) (L.1 l (by omega) h2)
  · rw [show i + 1 - (k + 1) = i - k by omega, hπ _ (by omega) (by omega)]
    exact sm l _ (by omega) h2 (by omega) (by omega) (L.2 l (by omega) h2)
theorem c_S_moveOrders (X : SX M σ) (hB : BV2 B) (P : POK B m p) (A : AG B m p) (H : RL B V p) (hQ : RQ V π m p) (hc : V 1 2 = nI m) (I : PI π) {w : Int32} (hw : V 0 7 = w) (hz : ∀ V' π' m', m' ≤ m → RL B V' (P_round B 13 0 (p, w)).1 → POK B m' (P_round B 13 0 (p, w)).1 → AG B m' (P_round B 13 0 (p, w)).1 → RQ V' π' m' (P_round B 13 0 (p, w)).1 → V' 1 2 = nI m' → PI π' → V' 0 6 = V 0 6 → V' 0 7 = (P_round B 13 0 (p, w)).2 → Z none (sw M σ V' π') 668) : jv_Ct g (d + 3) mt_S_moveOrders [.ref σ] (sw M σ V π) 668 0 0 Z := by
  have X0 := X
  obtain ⟨hσ, r0, r1, r2, r3, r4, r5, r6, r7, r8⟩ := X
  have tS0 := t_S0 hσ
  have tS1 := t_S1 hσ
  have tS2 := t_S2 hσ
  have lS2 := l_S2 hσ
  have tS3 := t_S3 hσ
  have lS3 := l_S3 hσ
  have tS16 := t_S16 hσ
  have lS16 := l_S16 hσ
  have tS17 := t_S17 hσ
  have lS17 := l_S17 hσ
  have tS18 := t_S18 hσ
  have lS18 := l_S18 hσ
  have b4 := hB.1.2.1
  obtain ⟨rs, ers⟩ : ∃ rs, rs = P_round B 13 0 (p, w) := ⟨_, rfl⟩
  rw [← ers] at hz
  have hm12 := P.1
  have l : ∀ n i k m1 p1 w1 V1 π1, i + n = m → k ≤ i → m1 = k + (m - i) → POK B m1 p1 → AG B m1 p1 → RL B V1 p1 → LQ V1 π1 k i m1 p1 → V1 1 2 = nI m → PI π1 → V1 0 6 = V 0 6 → V1 0 7 = w1 → rs = P_round B (13 - i) k (p1, w1) → jv_J g (d + 3) mt_S_moveOrders 4 [some (.ref σ), some (.int (nI k)), some (.int (nI i)), none] [] (sw M σ V1 π1) 668 0 0 Z := by
    intro n
    induction n with
    | zero =>
      intro i k m1 p1 w1 V1 π1 hi hki hm1 P1 A1 R L C I1 AB W E
      have hi : i = m := by omega
      subst hi
      obtain rfl : m1 = k := by omega
      obtain ⟨n80, e80, o80⟩ := P1.2.1 80
      have o80 := o80.2.2.2.2.2.1 rfl
      subst o80
      obtain ⟨f, ef⟩ : ∃ f, 13 - i = f + 1 := ⟨12 - i, by omega⟩
      rw [ef] at E
      unfold P_round at E
      rw [if_neg (by show ¬ nI n80 < p1 80; rw [e80, nn_lt (by omega) (by omega)]; omega)] at E
      subst E
      refine b_S_moveOrders_4 ?_
      simp (disch := omega) only [li, ne_eq, nI_add, pk_mul, nI_clamp, vin, true_and, nn_eq, nn_le, nn_lt, pk_div, rm2, or0, sw_0, sw_1, sw_3, sw_18, sw_o, sw_h, sw_r, sw_t, wi_0, wi_1, wi_3, wi_18, wi_o, wi_h, wi_r, wi_t, sw_q, sw_ref, wr_q, tS0, tS1, tS2, lS2, tS3, lS3, tS16, lS16, tS17, lS17, tS18, lS18, r0, r1, r2, r3, r4, r5, Option.some.injEq, exists_eq_left', C]
      refine ⟨fun _ => ?_, fun c => absurd (Nat.le_refl _) c⟩
      exact hz _ π1 n80 (by omega) (R.free hB.1 _ (by omega)) P1 A1 (fun q hq => (L.1 q hq hq).same (fun f => vu_k _ _ (by omega)) (fun _ _ _ => rfl)) (vu_s _ _ _ _) I1 (by rw [vu_k _ _ (by omega)]; exact AB) (by rw [vu_k _ _ (by omega)]; exact W)
    | succ n ih =>
      intro i k m1 p1 w1 V1 π1 hi hki hm1 P1 A1 R L C I1 AB W E
      obtain ⟨n80, e80, o80⟩ := P1.2.1 80
      have o80 := o80.2.2.2.2.2.1 rfl
      subst o80
      have hkm : k < n80 := by omega
      have Q := L.2 k (Nat.le_refl _) hkm
      rw [show k + (i - k) = i by omega] at Q
      have hj := I1.1 i (by omega)
      obtain ⟨⟨n0, h0, e0⟩, ⟨h, hh, e1⟩, -, -, ⟨r, hr, e4⟩⟩ := P1.ord hkm
      obtain ⟨a, ha, e2⟩ := A1 k hkm
      obtain ⟨q0, q1, q2, q3, q4, q5, q6⟩ := id Q
      rw [e2] at q2
      rw [e1] at q1
      have hnh := R.1.1
      have tSo := t_SO hσ hj
      rw [show 13 - i = (13 - (i + 1)) + 1 by omega] at E
      unfold P_round at E
      rw [if_pos (by show nI k < p1 80; rw [e80, nn_lt (by omega) (by omega)]; exact hkm)] at E
      obtain ⟨g1, g2, g3⟩ := P_age_OK P1 hB A1 hkm w1
      obtain ⟨s3, es3⟩ : ∃ s3, s3 = P_age B (p1, w1) k := ⟨_, rfl⟩
      rw [← es3] at E g1 g2 g3
      have R2 : RL B (vu V1 (4 + π1 i) 4 (nI (a + 1))) (pu p1 (81 + 7 * k + 2) (nI (a + 1))) := R.ordp hB.1 hj (by omega)
      have Q2 : RQi (vu V1 (4 + π1 i) 4 (nI (a + 1))) (π1 i) (pu p1 (81 + 7 * k + 2) (nI (a + 1))) k := Q.age
      have P2 : POK B n80 (pu p1 (81 + 7 * k + 2) (nI (a + 1))) := P1.otherOrd hB.1 (by omega) (by omega) (by omega) (by omega)
      have Eage : P_age B (p1, w1) k = if a + 1 = h + 1 then P_reach B (pu p1 (81 + 7 * k + 2) (nI (a + 1)), w1) k else (pu p1 (81 + 7 * k + 2) (nI (a + 1)), w1) := by
        unfold P_age
        simp (disch := omega) only [e1, e2, nI_add, nn_eq]
      -- behind its step
      have fin : ∀ V3, RL B V3 s3.1 → RQi V3 (π1 i) s3.1 k → KR (π1 i) V1 V3 → V3 0 7 = s3.2 → a + 1 = bd_nh B + 1 → jv_Ct g (d + 2) mt_D_finish [.ref (σ + 1), .ref (σ + 4 + π1 i)] (sw M σ V3 π1) 668 0 0 (fun v M36 N36 => jv_rv v (jv_J g (d + 3) mt_S_moveOrders 4 [some (.ref σ), some (.int (nI k)), some (.int (nI (i + 1))), none] [] M36 N36 0 0 Z)) := by
        intro V3 R3 Q3 K3 W3 hc
        rw [if_pos (by rw [g3, e2, nI_add, hc, nI_add])] at E
        refine c_S_finish X0 hB g1 R3 hkm hj Q3 (fun V4 R4 K4 W4 => jv_rv_i ?_)
        obtain ⟨m2, rfl⟩ : ∃ m2, n80 = m2 + 1 := ⟨n80 - 1, by omega⟩
        obtain ⟨t1, t2⟩ := P_back_OK g1 hB hkm
        obtain ⟨d1, d2, d3⟩ := P_drop_OK t1 hB hkm (fun l hl hlk => by rw [t2 _ (by omega) (by omega), g2 _ (by omega) (by omega) (by omega) (by omega)]; exact A1 l hl)
        have e80' : P_back s3.1 k 80 - nI 1 = nI m2 := by rw [t2 _ (by omega) (by omega), g2 _ (by omega) (by omega) (by omega) (by omega), e80]; exact nI_pred m2
        refine ih (i + 1) k m2 _ _ V4 π1 (by omega) (by omega) (by omega) d1 d2 (R4.page hB.1 d3) (L.drop hki hm12 (by omega) hm1 I1 (fun q f h1 h2 h3 => (K4.1 q f h1 h2).trans (K3.1 q f h1 h2 h3)) (fun l f h1 h2 => ?_) (fun l f h1 h2 h3 => ?_)) (by rw [K4.2.2, K3.2.2]; exact C) I1 (by rw [K4.2.1, K3.2.1]; exact AB) (by rw [W4]; exact W3) E
        · unfold P_drop
          rw [if_neg (by omega), if_neg (by omega), t2 _ (by omega) (by omega), g2 _ (by omega) (by omega) (by omega) (by omega)]
        · unfold P_drop
          rw [if_neg (by omega), e80', nI_clamp (by omega), if_pos (by omega), t2 _ (by omega) (by omega), g2 _ (by omega) (by omega) (by omega) (by omega), show 81 + 7 * l + f + 7 = 81 + 7 * (l + 1) + f by omega]
      have go : ∀ V3, RL B V3 s3.1 → RQi V3 (π1 i) s3.1 k → KR (π1 i) V1 V3 → V3 0 7 = s3.2 → ¬ a + 1 = bd_nh B + 1 → jv_Ct g (d + 2) mt_D_moveForward [.ref (σ + 1), .int (nI i), .int (nI k)] (sw M σ V3 π1) 668 0 0 (fun v M36 N36 => jv_rv v (jv_J g (d + 3) mt_S_moveOrders 4 [some (.ref σ), some (.int (nI (k + 1))), some (.int (nI (i + 1))), none] [] M36 N36 0 0 Z)) := by
        intro V3 R3 Q3 K3 W3 hc
        have hne : ¬ s3.1 (81 + 7 * k + 2) = nI (bd_nh B) + nI 1 := by
          rw [g3, e2, nI_add, nI_add, nn_eq (by omega) (by omega)]
          exact hc
        rw [if_neg hne] at E
        refine c_S_moveForward X0 (by omega) (by omega) I1.1 (jv_rv_i ?_)
        refine ih (i + 1) (k + 1) n80 s3.1 s3.2 V3 _ (by omega) (by omega) (by omega) g1 (fun l hl => ?_) R3 (L.stay hki hm12 (by omega) hm1 I1 K3.1 (fun l f h1 h2 h3 => g2 _ (by omega) (by omega) (by omega) (by omega)) Q3) (by rw [K3.2.2]; exact C) (I1.swap (by omega) (by omega)) (by rw [K3.2.1]; exact AB) W3 E
        by_cases hlk : l = k
        · subst hlk
          exact ⟨a + 1, by omega, by rw [g3, e2, nI_add]⟩
        · rw [g2 _ (by omega) (by omega) (by omega) (by omega)]; exact A1 l hl
      refine b_S_moveOrders_4 ?_
      simp (disch := omega) only [li, ne_eq, nI_add, pk_mul, nI_clamp, vin, true_and, nn_eq, nn_le, nn_lt, pk_div, rm2, or0, sw_0, sw_1, sw_3, sw_18, sw_o, sw_h, sw_r, sw_t, wi_0, wi_1, wi_3, wi_18, wi_o, wi_h, wi_r, wi_t, sw_q, sw_ref, wr_q, tS0, tS1, tS2, lS2, tS3, lS3, tS16, lS16, tS17, lS17, tS18, lS18, r0, r1, r2, r3, r4, r5, Option.some.injEq, exists_eq_left', C, tSo, q2, q1, vu_s, vu_j, vu_k, hnh]
      refine ⟨fun c => absurd c (by omega), fun _ => ⟨fun c => ⟨fun c1 => ?_, fun c1 => ?_⟩, fun c => ?_⟩⟩
      · rw [if_neg c] at Eage
        rw [Eage] at es3
        subst es3
        exact go _ R2 Q2 (KK.rf.kr _).upd (by rw [vu_k _ _ (by omega)]; exact W) c1
      · rw [if_neg c] at Eage
        rw [Eage] at es3
        subst es3
        exact fin _ R2 Q2 (KK.rf.kr _).upd (by rw [vu_k _ _ (by omega)]; exact W) c1
      · rw [if_pos c] at Eage
        rw [Eage] at es3
        subst es3
        refine c_S_reach X0 hB P2 R2 hkm hj Q2 (w := w1) (by rw [vu_k _ _ (by omega)]; exact W) (fun V3 R3 Q3 K3 W3 => jv_rv_i ?_)
        have v4 : V3 (4 + π1 i) 4 = nI (a + 1) := by rw [Q3.2.2.1, g3, e2, nI_add]
        have v04 := R3.1.1
        simp (disch := omega) only [li, ne_eq, nI_add, pk_mul, nI_clamp, vin, true_and, nn_eq, nn_le, nn_lt, pk_div, rm2, or0, sw_0, sw_1, sw_3, sw_18, sw_o, sw_h, sw_r, sw_t, wi_0, wi_1, wi_3, wi_18, wi_o, wi_h, wi_r, wi_t, sw_q, sw_ref, wr_q, tS0, tS1, tS2, lS2, tS3, lS3, tS16, lS16, tS17, lS17, tS18, lS18, r0, r1, r2, r3, r4, r5, Option.some.injEq, exists_eq_left', tSo, v4, v04]
        refine ⟨fun c1 => ?_, fun c1 => ?_⟩
        · exact go V3 R3 Q3 ((KK.rf.kr _).upd.trans K3) W3 c1
        · exact fin V3 R3 Q3 ((KK.rf.kr _).upd.trans K3) W3 c1
  exact jv_ct rfl (Nat.le_of_ble_eq_true rfl) (b_S_moveOrders_0 (l m 0 0 m p w V π (by omega) (by omega) (by omega) P A H ⟨fun q hq => absurd hq (by omega), fun q _ hq => hQ q hq⟩ hc I rfl hw ers))

end SC
