/-! ===== forecasts ===== -/
def P_done (B : Bd) (goal : Int32) (p : Pg) : Bool := decide (P_hset p (bd_nh B) &&& goal = goal)
/-- behind how many ticks, fuel more at the most, the harts of the goal are halted -/
def P_first (B : Bd) (goal : Int32) : Nat → Nat → Pg → Option Nat
  | 0, n, p => if P_done B goal p = true then some n else none
  | f + 1, n, p => if P_done B goal p = true then some n else P_first B goal f (n + 1) (P_tick B (nI 63) p).1
def FI (B : Bd) (goal : Int32) (lim : Nat) (p : Pg) : Option Nat := P_first B goal lim 0 p
def FX (B : Bd) (goal : Int32) (x : Int32) (p : Pg) : Option Nat := if x < nI 0 then none else FI B goal (nx x) p
def oi (r : Option Nat) : Int32 := match r with
  | none => -9
  | some n => nI n
theorem P_first_le {B : Bd} {goal : Int32} : ∀ {f n : Nat} {p : Pg} {k : Nat}, P_first B goal f n p = some k → n ≤ k ∧ k ≤ n + f
  | 0, n, p, k, h => by
    unfold P_first at h
    split at h
    · cases h; omega
    · cases h
  | f + 1, n, p, k, h => by
    unfold P_first at h
    split at h
    · cases h; omega
    · have := P_first_le h
      omega
/-- a smaller limit -/
theorem P_first_lim {B : Bd} {goal : Int32} : ∀ (f f' n : Nat) (p : Pg), f' ≤ f → P_first B goal f' n p = (match P_first B goal f n p with | none => none | some k => if k ≤ n + f' then some k else none)
  | 0, f', n, p, h => by
    have : f' = 0 := by omega
    subst this
    unfold P_first
    split
    · simp
    · rfl
  | f + 1, 0, n, p, _ => by
    show (if P_done B goal p = true then some n else none) = match (if P_done B goal p = true then some n else P_first B goal f (n + 1) (P_tick B (nI 63) p).1) with | none => none | some k => if k ≤ n + 0 then some k else none
    by_cases hd : P_done B goal p = true
    · rw [if_pos hd, if_pos hd]; simp
    · rw [if_neg hd, if_neg hd]
      cases hr : P_first B goal f (n + 1) (P_tick B (nI 63) p).1 with
      | none => rfl
      | some k =>
        have := (P_first_le hr).1
        show none = if k ≤ n + 0 then some k else none
        rw [if_neg (by omega)]
  | f + 1, f' + 1, n, p, h => by
    show (if P_done B goal p = true then some n else P_first B goal f' (n + 1) (P_tick B (nI 63) p).1) = match (if P_done B goal p = true then some n else P_first B goal f (n + 1) (P_tick B (nI 63) p).1) with | none => none | some k => if k ≤ n + (f' + 1) then some k else none
    by_cases hd : P_done B goal p = true
    · rw [if_pos hd, if_pos hd]
      show some n = if n ≤ n + (f' + 1) then some n else none
      rw [if_pos (by omega)]
    · rw [if_neg hd, if_neg hd, P_first_lim f f' (n + 1) _ (by omega)]
      cases hr : P_first B goal f (n + 1) (P_tick B (nI 63) p).1 with
      | none => rfl
      | some k =>
        show (if k ≤ n + 1 + f' then some k else none) = if k ≤ n + (f' + 1) then some k else none
        rw [show n + 1 + f' = n + (f' + 1) by omega]
theorem FI_lim {B : Bd} {goal : Int32} {f f' : Nat} {p : Pg} (h : f' ≤ f) : FI B goal f' p = (match FI B goal f p with | none => none | some k => if k ≤ f' then some k else none) := by
  unfold FI
  rw [P_first_lim f f' 0 p h]
  cases P_first B goal f 0 p with
  | none => rfl
  | some k => show (if k ≤ 0 + f' then _ else _) = if k ≤ f' then _ else _; rw [Nat.zero_add]
theorem FI_le {B : Bd} {goal : Int32} {f : Nat} {p : Pg} {k : Nat} (h : FI B goal f p = some k) : k ≤ f := by
  have := (P_first_le h).2
  omega
section RO
variable {g : jv_G} {d : Nat} {M M' : jv_Mem} {Z : Option Value → jv_Mem → Nat → Prop} {T T' : Tt} {B : Bd} {p p' q : Pg} {U : Ut} {K : Kt} {S S' : St} {e e' : Int64} {ab : Int32}
theorem c_tuh0 (h : RC M T B p U K S e) {goal x : Int32} (hx : x < nI 0) (hz : Z (some (.int (-9))) M 668) : jv_Ct g (d + 5) mt_R_ticksUntilHalted [.ref 0, .int goal, .int x] M 668 0 0 Z := by
  refine jv_ct rfl (Nat.le_of_ble_eq_true rfl) (b_R_ticksUntilHalted_0 (b_R_ticksUntilHalted_2 ⟨fun _ => hz, fun c => absurd hx c⟩))
theorem c_tuh (h : RC M T B p U K S e) (hB : BV2 B) (Q : SQ M 77 B (nI 63) ab q) {goal : Int32} {lim : Nat} (hl : lim < 900) (hz : ∀ M', EXC M M' 77 → Z (some (.int (oi (FI B goal lim q)))) M' 668) : jv_Ct g (d + 5) mt_R_ticksUntilHalted [.ref 0, .int goal, .int (nI lim)] M 668 0 0 Z := by
  have h77 : 77 ∈ st_bases := by decide
  have t77 : jv_Tg 6 77 668 := t_S0 h77
  obtain ⟨rs, ers⟩ : ∃ rs, rs = FI B goal lim q := ⟨_, rfl⟩
  rw [← ers] at hz
  -- behind the ticks of round n
  have chk : ∀ n M1, n ≤ lim → (∀ M2, RC M2 T B p U K S e → EXC M M2 77 → SQ M2 77 B (nI 63) ab (PT B (nI 63) n q) → (P_done B goal (PT B (nI 63) n q) = false) → jv_J g (d + 5) mt_R_ticksUntilHalted 2 [some (.ref 0), some (.int goal), some (.int (nI lim)), some (.int (nI (n + 1)))] [] M2 668 0 0 Z) → RC M1 T B p U K S e → EXC M M1 77 → SQ M1 77 B (nI 63) ab (PT B (nI 63) n q) → rs = P_first B goal (lim - n) n (PT B (nI 63) n q) → jv_Ct g (d + 4) mt_S_haltedSet [.ref 77] M1 668 0 0 (fun v M6 N6 => jv_ri v (fun r5 => (¬ (r5 &&& goal) = goal → jv_J g (d + 5) mt_R_ticksUntilHalted 2 [some (.ref 0), some (.int goal), some (.int (nI lim)), some (.int (nI (n + 1)))] [] M6 N6 0 0 Z) ∧ ((r5 &&& goal) = goal → Z (some (.int (nI n))) M6 N6))) := by
    intro n M1 hn nxt h1 E1 Q1 er
    refine q_hset h1.1 hB h77 Q1 (jv_ri_i ⟨fun c => nxt M1 h1 E1 Q1 (decide_eq_false c), fun c => ?_⟩)
    have hd : P_done B goal (PT B (nI 63) n q) = true := decide_eq_true c
    have : rs = some n := by
      rw [er]
      cases lim - n with
      | zero => show (if _ then _ else _) = _; rw [if_pos hd]
      | succ f => show (if _ then _ else _) = _; rw [if_pos hd]
    rw [this] at hz
    exact hz M1 E1
  have l : ∀ k n M1, n + k = lim + 1 → 1 ≤ n → RC M1 T B p U K S e → EXC M M1 77 → SQ M1 77 B (nI 63) ab (PT B (nI 63) (n - 1) q) → (n ≤ lim → rs = P_first B goal (lim - n) n (PT B (nI 63) n q)) → (lim < n → rs = none) → jv_J g (d + 5) mt_R_ticksUntilHalted 2 [some (.ref 0), some (.int goal), some (.int (nI lim)), some (.int (nI n))] [] M1 668 0 0 Z := by
    intro k
    induction k with
    | zero =>
      intro n M1 hk hn1 h1 E1 Q1 er er2
      refine b_R_ticksUntilHalted_2 ?_
      rw [er2 (by omega)] at hz
      simp (disch := omega) only [li, nn_lt]
      exact ⟨fun _ => hz M1 E1, fun c => absurd (show lim < n by omega) c⟩
    | succ k ih =>
      intro n M1 hk hn1 h1 E1 Q1 er er2
      have f03 := h1.1.1.2.2.2.1
      have f01 := h1.1.1.2.1
      refine b_R_ticksUntilHalted_2 ?_
      simp (disch := omega) only [li, ne_eq, nn_lt, nn_le, nI_add, tg_0, f03, f01, t77, true_and, Option.some.injEq, exists_eq_left']
      refine ⟨fun c => absurd c (by omega), fun _ => ⟨fun c => absurd c (by omega), fun _ => ?_⟩⟩
      refine q_pass h1.1 h1.prg hB h77 Q1 (show 1 < 1000 by omega) (fun M2 E2 Q2 => jv_rv_i ?_)
      have h2 := h1.trial E2
      have k03 := h2.1.1.2.2.2.1
      simp (disch := omega) only [tg_0, k03, t77, true_and, Option.some.injEq, exists_eq_left']
      have Q2' : SQ M2 77 B (nI 63) ab (PT B (nI 63) n q) := by
        obtain ⟨n', rfl⟩ : ∃ n', n = n' + 1 := ⟨n - 1, by omega⟩
        rw [PT_succ]
        exact Q2
      refine chk n M2 (by omega) (fun M3 h3 E3 Q3 hd => ?_) h2 (E1.trans E2) Q2' (er (by omega))
      refine ih (n + 1) M3 (by omega) (by omega) h3 E3 (by rw [Nat.add_sub_cancel]; exact Q3) (fun hle => ?_) (fun hgt => ?_)
      · rw [er (by omega), show lim - n = (lim - (n + 1)) + 1 by omega]
        show (if P_done B goal (PT B (nI 63) n q) = true then _ else _) = _
        rw [hd, if_neg (by decide), PT_succ]
      · rw [er (by omega), show lim - n = 0 by omega]
        show (if P_done B goal (PT B (nI 63) n q) = true then _ else _) = _
        rw [hd, if_neg (by decide)]
  refine jv_ct rfl (Nat.le_of_ble_eq_true rfl) (b_R_ticksUntilHalted_0 (b_R_ticksUntilHalted_2 ?_))
  have f03 := h.1.1.2.2.2.1
  have e0 : nI lim < nI 0 ↔ lim < 0 := by rw [nn_lt (by omega) (by omega)]
  have z0 : nI 0 ≤ nI 0 ↔ 0 ≤ 0 := by rw [nn_le (by omega) (by omega)]
  simp (disch := omega) only [li, ne_eq, nI_add, tg_0, f03, t77, true_and, Option.some.injEq, exists_eq_left', e0, z0]
  refine ⟨fun c => absurd c (by omega), fun _ => ⟨fun _ => ?_, fun c => absurd (Nat.le_refl 0) c⟩⟩
  refine chk 0 M (by omega) (fun M3 h3 E3 Q3 hd => ?_) h ⟨fun _ _ _ => rfl, fun _ _ _ => rfl, (h.1.2.2.2.2.2.2 77 h77).2, rfl⟩ Q (by rw [ers]; rfl)
  refine l lim 1 M3 (by omega) (by omega) h3 E3 Q3 (fun hle => ?_) (fun hgt => ?_)
  · rw [ers]
    unfold FI
    rw [show lim = (lim - 1) + 1 by omega]
    show (if P_done B goal q = true then _ else _) = _
    rw [show P_done B goal q = false from hd, if_neg (by decide)]
    rfl
  · rw [ers]
    unfold FI
    rw [show lim = 0 by omega]
    show (if P_done B goal q = true then _ else _) = _
    rw [show P_done B goal q = false from hd, if_neg (by decide)]
theorem c_trial (h : RC M T B p U K S e) (hB : BV2 B) (hz : ∀ M', EXC M M' 77 → SQ M' 77 B (nI 63) (nI 0) p → Z none M' 668) : jv_Ct g (d + 2) mt_S_copyFrom [.ref 77, .ref 44] M 668 0 0 Z :=
  q_copy h.1 hB (by decide) (by decide) (by decide) (SP_SQ.mp h.2.2.1) hz
def s_ahead (B : Bd) (p : Pg) (x1 x2 x3 : Int32) : Int32 := if bl x2 (bd_nh B) = true then (if bl x1 100 = true then (if bl x3 10 = true then P_tell B (PT B (nI 63) (nx x1) p) (nx x2) (nx x3) else -2) else -2) else -1
def s_halts (B : Bd) (p : Pg) (x : Int32) : Int32 := if bl x (bd_nh B) = true then oi (FI B (nI 1 <<< (x &&& nI 31)) 60 p) else -1
theorem R_halts (h : RC M T B p U K S e) (hB : BV2 B) {x : Int32} (hz : ∀ M', RC M' T B p U K S e → FRm M M' → Z (some (.int (s_halts B p x))) M' 668) : jv_Ct g (d + 9) mt_R_halts [.ref 0, .int x] M 668 0 0 Z := by
  have h77 : 77 ∈ st_bases := by decide
  have t77 : jv_Tg 6 77 668 := t_S0 h77
  have f02 := h.1.1.2.2.1
  have f03 := h.1.1.2.2.2.1
  unfold s_halts at hz
  refine jv_ct rfl (Nat.le_of_ble_eq_true rfl) (b_R_halts_0 ⟨tg_0, c_isHart h hB (jv_ri_i ?_)⟩)
  by_cases hb : bl x (bd_nh B) = true
  · rw [if_pos hb] at hz ⊢
    refine ⟨fun _ => ?_, fun c => absurd c (by decide)⟩
    simp (disch := omega) only [li, tg_0, f03, f02, t77, true_and, Option.some.injEq, exists_eq_left']
    refine c_trial h hB (fun M1 E1 Q1 => jv_rv_i ?_)
    have h1 := h.trial E1
    exact ⟨tg_0, c_tuh h1 hB Q1 (show 60 < 900 by omega) (fun M2 E2 => jv_ri_i (hz M2 (h1.trial E2) ((E1.trans E2).frm h77)))⟩
  · rw [if_neg hb] at hz ⊢
    exact ⟨fun c => absurd rfl c, fun _ => hz M h FRm.rf⟩
theorem R_ahead (h : RC M T B p U K S e) (hB : BV2 B) {x1 x2 x3 : Int32} (hz : ∀ M', RC M' T B p U K S e → FRm M M' → Z (some (.int (s_ahead B p x1 x2 x3))) M' 668) : jv_Ct g (d + 9) mt_R_ahead [.ref 0, .int x1, .int x2, .int x3] M 668 0 0 Z := by
  have h77 : 77 ∈ st_bases := by decide
  have t77 : jv_Tg 6 77 668 := t_S0 h77
  have f02 := h.1.1.2.2.1
  have f03 := h.1.1.2.2.2.1
  have b4 := hB.1.2.1
  unfold s_ahead at hz
  refine jv_ct rfl (Nat.le_of_ble_eq_true rfl) (b_R_ahead_0 ⟨tg_0, c_isHart h hB (jv_ri_i ?_)⟩)
  by_cases hb : bl x2 (bd_nh B) = true
  · rw [if_pos hb] at hz ⊢
    refine ⟨fun _ => ?_, fun c => absurd c (by decide)⟩
    refine c_isBelow (b := 100) (by omega) (jv_ri_i ?_)
    by_cases hb1 : bl x1 100 = true
    · rw [if_pos hb1] at hz ⊢
      obtain ⟨n, hn, ex⟩ := bl_of hb1 (by omega)
      obtain ⟨j, hj, ex2⟩ := bl_of hb (by omega)
      subst ex ex2
      rw [nx_n (by omega), nx_n (by omega)] at hz
      refine ⟨fun _ => ?_, fun c => absurd c (by decide)⟩
      simp (disch := omega) only [li, tg_0, f03, f02, t77, true_and, Option.some.injEq, exists_eq_left']
      refine c_trial h hB (fun M1 E1 Q1 => jv_rv_i ?_)
      have h1 := h.trial E1
      have g03 := h1.1.1.2.2.2.1
      have g01 := h1.1.1.2.1
      simp (disch := omega) only [tg_0, g03, g01, t77, true_and, Option.some.injEq, exists_eq_left']
      refine q_pass h1.1 h1.prg hB h77 Q1 (by omega) (fun M2 E2 Q2 => jv_rv_i ?_)
      have h2 := h1.trial E2
      have k03 := h2.1.1.2.2.2.1
      obtain ⟨V, π, v1, v2, S2, ab2⟩ := Q2
      obtain ⟨m, P, A, R, Qo, C, I, AB1⟩ := S2
      have X := (h2.1.2.2.2.2.2.2 77 h77).1
      obtain ⟨σ, eσ⟩ : ∃ σ, σ = 77 := ⟨_, rfl⟩
      rw [← eσ] at k03 X v1 v2 h77
      have ee := sw_self v1 v2
      have hzz := hz M2 h2 ((E1.trans E2).frm (by decide))
      rw [← ee] at hzz ⊢
      have X0 := X
      obtain ⟨hσ, r0, r1, r2, r3, r4, r5, r6, r7, r8⟩ := X
      have tS0 := t_S0 hσ
      have tS1 := t_S1 hσ
      have tS2 := t_S2 hσ
      have lS2 := l_S2 hσ
      have tS3 := t_S3 hσ
      have lS3 := l_S3 hσ
      have tS16 := t_S16 hσ
      have lS16 := l_S16 hσ
      have tS17 := t_S17 hσ
      have lS17 := l_S17 hσ
      have tS18 := t_S18 hσ
      have lS18 := l_S18 hσ
      have e6 := r6 j (by omega)
      have tSh := t_SH hσ (show j < 4 by omega)
      simp (disch := omega) only [li, ne_eq, nI_add, pk_mul, nI_clamp, vin, true_and, nn_eq, nn_le, nn_lt, pk_div, rm2, or0, sw_0, sw_1, sw_3, sw_18, sw_o, sw_h, sw_r, sw_t, wi_0, wi_1, wi_3, wi_18, wi_o, wi_h, wi_r, wi_t, sw_q, sw_ref, wr_q, tS0, tS1, tS2, lS2, tS3, lS3, tS16, lS16, tS17, lS17, tS18, lS18, r0, r1, r2, r3, r4, r5, Option.some.injEq, exists_eq_left', k03, e6, tSh, tg_0]
      exact c_property X0 hB P R hj (jv_ri_i hzz)
    · rw [if_neg hb1] at hz ⊢
      exact ⟨fun c => absurd rfl c, fun _ => hz M h FRm.rf⟩
  · rw [if_neg hb] at hz ⊢
    exact ⟨fun c => absurd rfl c, fun _ => hz M h FRm.rf⟩
end RO
