def P_does (B : Bd) (p : Pg) (s : Nat) : Option Pg :=
  if s / 100000 = 1 then (if s / 10000 % 10 * 10 + s / 1000 % 10 = 0 ∨ s % 1000 ≠ 0 then none else some (PT B (nI 63) (s / 10000 % 10 * 10 + s / 1000 % 10) p))
  else if s / 100000 = 2 then (if 2 < s / 10000 % 10 ∨ bd_nh B ≤ s / 1000 % 10 ∨ s % 1000 ≠ 0 ∨ 8 ≤ nx (p 80) then none else some (P_send p (nI (s / 10000 % 10)) (nI (s / 1000 % 10)) (nI 0) (nI 0)))
  else if s / 100000 = 3 then (if s / 10000 % 10 < bd_nh B ∧ s % 1000 = 0 ∧ p (8 * (s / 10000 % 10) + 1) = nI (s / 1000 % 10) then some p else none)
  else if s / 100000 = 4 then (if s / 10000 % 10 < bd_nh B ∧ s / 1000 % 10 < 4 ∧ p (8 * (s / 10000 % 10) + 4 + s / 1000 % 10) = nI (s % 1000) then some p else none)
  else if s / 100000 = 5 then (if s / 10000 % 10 < 8 ∧ s / 1000 % 10 = 0 ∧ p (32 + s / 10000 % 10) = nI (s % 1000) then some p else none)
  else if s / 100000 = 6 then (if s / 1000 % 10 = 0 ∧ s % 1000 = 0 ∧ p 76 = nI (s / 10000 % 10) then some p else none)
  else if s / 100000 = 7 then (if s / 10000 % 10 < bd_nh B ∧ s % 1000 % 100 = 0 ∧ p (8 * (s / 10000 % 10)) = nI (s / 1000 % 10 * 10 + s % 1000 / 100) then some p else none)
  else none
def J_run (B : Bd) (n r : Nat) : Nat → Nat → Pg → Int32
  | 0, _, _ => -9
  | f + 1, k, p => match P_does B p (r / 1000000 ^ (n - 1 - k) % 1000000) with
    | none => nI k
    | some p' => J_run B n r f (k + 1) p'
def s_judge (B : Bd) (p : Pg) (x : Int32) (l : Int64) : Int32 := if br x 1 3 = true ∧ 0 ≤ l.toInt ∧ l.toInt.toNat < 1000000 ^ nx x then J_run B (nx x) l.toInt.toNat (nx x) 0 p else -2
theorem li64 (n : Nat) : (OfNat.ofNat n : Int64) = lN n := rfl
section RO
variable {g : jv_G} {d : Nat} {M M' : jv_Mem} {Z : Option Value → jv_Mem → Nat → Prop} {T T' : Tt} {B : Bd} {p p' q : Pg} {U : Ut} {K : Kt} {S S' : St} {e e' : Int64} {ab pr : Int32} {σ : Nat}
theorem SQ.view (Q : SQ M σ B pr ab q) : M.1 σ 4 = nI (bd_nh B) ∧ M.1 (σ + 1) 2 = q 80 ∧ M.1 (σ + 1) 3 = q 76 ∧ (∀ c, c < 8 → M.1 (σ + 18) c = q (32 + c)) ∧ ∀ h, h < bd_nh B → h < 4 → M.1 (σ + 19 + 2 * h) 3 = q (8 * h) ∧ M.1 (σ + 19 + 2 * h) 4 = q (8 * h + 1) ∧ ∀ r, r < 4 → M.1 (σ + 20 + 2 * h) r = q (8 * h + 4 + r) := by
  obtain ⟨V, π, v1, v2, ⟨m, P, A, R, Qo, C, I, AB1⟩, a6⟩ := Q
  refine ⟨(v1 0 4 (by omega)).trans R.1.1, (v1 1 2 (by omega)).trans (C.trans P.p80.symm), (v1 1 3 (by omega)).trans R.2.2.2.2.1.1, fun c hc => (v1 18 c (by omega)).trans (R.2.2.1 c hc), fun h hh h4 => ?_⟩
  obtain ⟨a1, a2, a3, a4, a5, a6, a7⟩ := R.2.1 h hh
  have w1 := fun j => v1 (19 + 2 * h) j (by omega)
  have w2 := fun j => v1 (20 + 2 * h) j (by omega)
  simp only [← Nat.add_assoc] at w1 w2
  exact ⟨(w1 3).trans a3, (w1 4).trans a4, fun r hr => (w2 r).trans (a7 r hr)⟩
theorem q_accept (H : SHP M) (hB : BV2 B) (hσ : σ ∈ st_bases) (Q : SQ M σ B pr ab p) {m : Nat} (em : p 80 = nI m) (hm : m < 12) {k h r v : Nat} (hk : k ≤ 5) (hh : h < bd_nh B) (hr : r < 4) (hv : v < 1000) (hz : ∀ M', EXC M M' σ → SQ M' σ B pr ab (P_send p (nI k) (nI h) (nI r) (nI v)) → Z none M' 668) : jv_Ct g (d + 2) mt_D_accept [.ref (σ + 1), .int (nI k), .int (nI h), .int (nI r), .int (nI v)] M 668 0 0 Z := by
  obtain ⟨V, π, v1, v2, S1, a6⟩ := Q
  have e := sw_self v1 v2
  have c := c_accept (g := g) (d := d) (Z := Z) (H.2.2.2.2.2.2 σ hσ).1 hB S1 em hm hk hh hr hv (fun V' S' a' => hz _ (EXC.sw S'.pi) (SQ.mk S' (a'.trans a6)))
  rw [e] at c
  exact c
theorem P_send_OK (P : POA B 8 p) (hB : BV2 B) (h8 : nx (p 80) < 8) {k h r v : Nat} (hk : k ≤ 5) (hh : h < bd_nh B) (hr : r < 4) (hv : v < 1000) : POA B 8 (P_send p (nI k) (nI h) (nI r) (nI v)) ∧ ∀ j, 165 ≤ j → P_send p (nI k) (nI h) (nI r) (nI v) j = p j := by
  obtain ⟨m, hm, P1, A1⟩ := P
  have e := P1.p80
  rw [e, nx_n (by omega)] at h8
  unfold P_send
  split
  · exact ⟨⟨m, hm, P1, A1⟩, fun _ _ => rfl⟩
  · split
    · exact ⟨⟨m, hm, P1.err hB (by omega), fun i hi => by rw [pu_n _ _ (by omega)]; exact A1 i hi⟩, fun j hj => pu_n _ _ (by omega)⟩
    · obtain ⟨q1, q2⟩ := P1.app A1 (by omega) hB hk hh hr hv
      refine ⟨⟨m + 1, by omega, q1, q2⟩, fun j hj => ?_⟩
      rw [P_app_at e (by omega), if_neg (by omega), if_neg (by omega), if_neg (by omega), if_neg (by omega), if_neg (by omega), if_neg (by omega), if_neg (by omega), if_neg (by omega)]
theorem P_does_OK (P : POA B 8 p) (hB : BV2 B) {s : Nat} {p' : Pg} (h : P_does B p s = some p') : POA B 8 p' ∧ ∀ j, 165 ≤ j → p' j = p j := by
  unfold P_does at h
  split at h
  · split at h
    · cases h
    · cases h; exact ⟨PT_OK hB _ _ _ P, fun j hj => PT_hi hB _ hj _ _ P⟩
  · split at h
    · split at h
      · cases h
      · rename_i hn; cases h; exact P_send_OK P hB (by omega) (by omega) (by omega) (by omega) (by omega)
    · (repeat' split at h) <;> first | (cases h; done) | (cases h; exact ⟨P, fun _ _ => rfl⟩)
theorem c_holds (h : RC M T B p U K S e) (hB : BV2 B) (Q : SQ M 77 B (nI 63) ab q) (P8 : POA B 8 q) {s : Nat} (hs : s < 1000000) (hz0 : P_does B q s = none → ∀ M', EXC M M' 77 → Z (some (.int (nI 0))) M' 668) (hz1 : ∀ q', P_does B q s = some q' → ∀ M', EXC M M' 77 → SQ M' 77 B (nI 63) ab q' → Z (some (.int (nI 1))) M' 668) : jv_Ct g (d + 6) mt_R_holdsInTrial [.ref 0, .int (nI s)] M 668 0 0 Z := by
  have h77 : 77 ∈ st_bases := by decide
  have t77 : jv_Tg 6 77 668 := t_S0 h77
  have f03 := h.1.1.2.2.2.1
  have f01 := h.1.1.2.1
  have b4 := hB.1.2.1
  have X := (h.1.2.2.2.2.2.2 77 h77).1
  obtain ⟨w0, w1, w2, w3, w4⟩ := Q.view
  have E0 := EXC.rf h.1 h77
  obtain ⟨m, hm, Pm, Am⟩ := P8
  have e80 := Pm.p80
  obtain ⟨n76, e76, h76⟩ := Pm.2.1.at 76
  have no : P_does B q s = none → Z (some (.int (nI 0))) M 668 := fun hn => hz0 hn M E0
  have yes : P_does B q s = some q → Z (some (.int (nI 1))) M 668 := fun hn => hz1 q hn M E0 Q
  refine jv_ct rfl (Nat.le_of_ble_eq_true rfl) (b_R_holdsInTrial_0 ?_)
  simp (disch := omega) only [li, ne_eq, pk_div, pk_mul, rm2, nI_add, nn_eq, nn_le]
  refine ⟨fun c => ?_, fun c => ⟨fun c1 => no ?_, fun c1 => ?_⟩, fun c => ⟨fun c1 => no ?_, fun c1 => ⟨tg_0, c_isHart h hB (jv_ri_i ?_)⟩⟩, fun c => ⟨tg_0, c_isHart h hB (jv_ri_i ?_)⟩, fun c => ⟨fun c1 => no ?_, fun c1 => ⟨fun c2 => no ?_, fun c2 => ?_⟩⟩, fun c => ⟨fun c1 => no ?_, fun c1 => ⟨fun c2 => no ?_, fun c2 => ?_⟩⟩, fun c => ⟨fun c1 => no ?_, fun c1 => ⟨tg_0, c_isHart h hB (jv_ri_i ?_)⟩⟩, fun c => no ?_⟩
  · refine ⟨tg_0, 77, f03, tg_0, 40, f01, t77, ?_⟩
    refine q_pass h.1 h.prg hB h77 Q (by omega) (fun M1 E1 Q1 => jv_rv_i ⟨fun c1 => hz0 ?_ M1 E1, fun c1 => ⟨fun c2 => hz0 ?_ M1 E1, fun c2 => hz1 _ ?_ M1 E1 Q1⟩⟩)
    · unfold P_does; rw [if_pos c, if_pos (Or.inr c1)]
    · unfold P_does; rw [if_pos c, if_pos (Or.inl (by omega))]
    · unfold P_does; rw [if_pos c, if_neg (by omega)]
  · unfold P_does; rw [if_neg (by omega), if_pos c, if_pos (by omega)]
  · refine ⟨tg_0, ?_⟩
    refine jv_ct rfl (Nat.le_of_ble_eq_true rfl) (b_R_isSentInTrial_0 ?_)
    simp (disch := omega) only [li, nn_lt]
    refine ⟨fun c2 => jv_ri_i ⟨fun _ => no ?_, fun z => absurd rfl z⟩, fun c2 => ⟨tg_0, c_isHart h hB (jv_ri_i ?_)⟩⟩
    · unfold P_does; rw [if_neg (by omega), if_pos c, if_pos (by omega)]
    · by_cases hb : s / 1000 % 10 < bd_nh B
      · rw [bl_in hb (by omega), if_pos rfl]
        refine ⟨fun z => absurd z (by decide), fun _ => ⟨tg_0, 77, f03, t77, 77 + 1, X.2.1, t_S1 h77, ?_⟩⟩
        rw [w1, e80, nn_lt (by omega) (by omega)]
        refine ⟨fun c3 => ⟨tg_0, 77, f03, t77, 77 + 1, X.2.1, t_S1 h77, ?_⟩, fun c3 => jv_ri_i ⟨fun _ => no ?_, fun z => absurd rfl z⟩⟩
        · refine q_accept h.1 hB h77 Q e80 (by omega) (show s / 10000 % 10 ≤ 5 by omega) hb (show 0 < 4 by omega) (show 0 < 1000 by omega) (fun M1 E1 Q1 => jv_rv_i (jv_ri_i ⟨fun z => absurd z (by decide), fun _ => hz1 _ ?_ M1 E1 Q1⟩))
          unfold P_does; rw [if_neg (by omega), if_pos c, e80, nx_n (by omega), if_neg (by omega)]
        · unfold P_does; rw [if_neg (by omega), if_pos c, e80, nx_n (by omega), if_pos (by omega)]
      · rw [bl_out hb (by omega), if_neg (by decide)]
        refine ⟨fun _ => jv_ri_i ⟨fun _ => no ?_, fun z => absurd rfl z⟩, fun z => absurd rfl z⟩
        unfold P_does; rw [if_neg (by omega), if_pos c, if_pos (by omega)]
  · unfold P_does; rw [if_neg (by omega), if_neg (by omega), if_pos c, if_neg (by omega)]
  · by_cases hb : s / 10000 % 10 < bd_nh B
    · rw [bl_in hb (by omega), if_pos rfl]
      obtain ⟨u1, u2, u3⟩ := w4 _ hb (by omega)
      refine ⟨fun z => absurd z (by decide), fun _ => ⟨tg_0, 77, f03, t77, 77 + 16, X.2.2.1, t_S16 h77, by rw [l_S16 h77]; exact vp_in_nI (by omega) (by omega), 77 + 19 + 2 * (s / 10000 % 10), by rw [nI_clamp (by omega)]; exact X.2.2.2.2.2.2.2.1 _ (by omega), t_SH h77 (by omega), ?_⟩⟩
      rw [u2]
      refine ⟨fun c2 => no ?_, fun c2 => yes ?_⟩
      · unfold P_does; rw [if_neg (by omega), if_neg (by omega), if_pos c, if_neg (fun z => c2 z.2.2)]
      · unfold P_does; rw [if_neg (by omega), if_neg (by omega), if_pos c, if_pos ⟨hb, c1, c2⟩]
    · rw [bl_out hb (by omega), if_neg (by decide)]
      refine ⟨fun _ => no ?_, fun z => absurd rfl z⟩
      unfold P_does; rw [if_neg (by omega), if_neg (by omega), if_pos c, if_neg (fun z => hb z.1)]
  · by_cases hb : s / 10000 % 10 < bd_nh B
    · rw [bl_in hb (by omega), if_pos rfl]
      obtain ⟨u1, u2, u3⟩ := w4 _ hb (by omega)
      refine ⟨fun z => absurd z (by decide), fun _ => ⟨fun c1 => no ?_, fun c1 => ⟨tg_0, 77, f03, t77, 77 + 16, X.2.2.1, t_S16 h77, by rw [l_S16 h77]; exact vp_in_nI (by omega) (by omega), 77 + 19 + 2 * (s / 10000 % 10), by rw [nI_clamp (by omega)]; exact X.2.2.2.2.2.2.2.1 _ (by omega), t_SH h77 (by omega), 77 + 20 + 2 * (s / 10000 % 10), X.2.2.2.2.2.2.2.2.2 _ (by omega), t_SR h77 (by omega), by rw [l_SR h77 (by omega)]; exact vp_in_nI (by omega) (by omega), ?_⟩⟩⟩
      · unfold P_does; rw [if_neg (by omega), if_neg (by omega), if_neg (by omega), if_pos c, if_neg (by omega)]
      · rw [nI_clamp (by omega), u3 _ (by omega)]
        refine ⟨fun c2 => no ?_, fun c2 => yes ?_⟩
        · unfold P_does; rw [if_neg (by omega), if_neg (by omega), if_neg (by omega), if_pos c, if_neg (fun z => c2 z.2.2)]
        · unfold P_does; rw [if_neg (by omega), if_neg (by omega), if_neg (by omega), if_pos c, if_pos ⟨hb, by omega, c2⟩]
    · rw [bl_out hb (by omega), if_neg (by decide)]
      refine ⟨fun _ => no ?_, fun z => absurd rfl z⟩
      unfold P_does; rw [if_neg (by omega), if_neg (by omega), if_neg (by omega), if_pos c, if_neg (fun z => hb z.1)]
  · unfold P_does; rw [if_neg (by omega), if_neg (by omega), if_neg (by omega), if_neg (by omega), if_pos c, if_neg (by omega)]
  · unfold P_does; rw [if_neg (by omega), if_neg (by omega), if_neg (by omega), if_neg (by omega), if_pos c, if_neg (by omega)]
  · refine ⟨tg_0, 77, f03, t77, 77 + 18, X.2.2.2.2.1, t_S18 h77, by rw [l_S18 h77]; exact vp_in_nI (by omega) (by omega), ?_⟩
    rw [nI_clamp (by omega), w3 _ (by omega)]
    refine ⟨fun c3 => no ?_, fun c3 => yes ?_⟩
    · unfold P_does; rw [if_neg (by omega), if_neg (by omega), if_neg (by omega), if_neg (by omega), if_pos c, if_neg (fun z => c3 z.2.2)]
    · unfold P_does; rw [if_neg (by omega), if_neg (by omega), if_neg (by omega), if_neg (by omega), if_pos c, if_pos ⟨by omega, c2, c3⟩]
  · unfold P_does; rw [if_neg (by omega), if_neg (by omega), if_neg (by omega), if_neg (by omega), if_neg (by omega), if_pos c, if_neg (by omega)]
  · unfold P_does; rw [if_neg (by omega), if_neg (by omega), if_neg (by omega), if_neg (by omega), if_neg (by omega), if_pos c, if_neg (by omega)]
  · refine ⟨tg_0, 77, f03, t77, 77 + 1, X.2.1, t_S1 h77, ?_⟩
    rw [w2]
    refine ⟨fun c3 => no ?_, fun c3 => yes ?_⟩
    · unfold P_does; rw [if_neg (by omega), if_neg (by omega), if_neg (by omega), if_neg (by omega), if_neg (by omega), if_pos c, if_neg (fun z => c3 z.2.2)]
    · unfold P_does; rw [if_neg (by omega), if_neg (by omega), if_neg (by omega), if_neg (by omega), if_neg (by omega), if_pos c, if_pos ⟨c1, c2, c3⟩]
  · unfold P_does; rw [if_neg (by omega), if_neg (by omega), if_neg (by omega), if_neg (by omega), if_neg (by omega), if_neg (by omega), if_pos c, if_neg (fun z => c1 z.2.1)]
  · by_cases hb : s / 10000 % 10 < bd_nh B
    · rw [bl_in hb (by omega), if_pos rfl]
      obtain ⟨u1, u2, u3⟩ := w4 _ hb (by omega)
      refine ⟨fun z => absurd z (by decide), fun _ => ⟨tg_0, 77, f03, t77, 77 + 16, X.2.2.1, t_S16 h77, by rw [l_S16 h77]; exact vp_in_nI (by omega) (by omega), 77 + 19 + 2 * (s / 10000 % 10), by rw [nI_clamp (by omega)]; exact X.2.2.2.2.2.2.2.1 _ (by omega), t_SH h77 (by omega), ?_⟩⟩
      rw [u1]
      refine ⟨fun c2 => no ?_, fun c2 => yes ?_⟩
      · unfold P_does; rw [if_neg (by omega), if_neg (by omega), if_neg (by omega), if_neg (by omega), if_neg (by omega), if_neg (by omega), if_pos c, if_neg (fun z => c2 z.2.2)]
      · unfold P_does; rw [if_neg (by omega), if_neg (by omega), if_neg (by omega), if_neg (by omega), if_neg (by omega), if_neg (by omega), if_pos c, if_pos ⟨hb, c1, c2⟩]
    · rw [bl_out hb (by omega), if_neg (by decide)]
      refine ⟨fun _ => no ?_, fun z => absurd rfl z⟩
      unfold P_does; rw [if_neg (by omega), if_neg (by omega), if_neg (by omega), if_neg (by omega), if_neg (by omega), if_neg (by omega), if_pos c, if_neg (fun z => hb z.1)]
  · unfold P_does; rw [if_neg c.1, if_neg c.2.1, if_neg c.2.2.1, if_neg c.2.2.2.1, if_neg c.2.2.2.2.1, if_neg c.2.2.2.2.2.1, if_neg c.2.2.2.2.2.2]
/-- a power, as a long -/
theorem c_power {N : Nat} {a n : Nat} (ha : a < 2 ^ 31) (hn : n < 20) (hz : Z (some (.long (lN (a ^ n)))) M N) : jv_Ct g d mt_R_power [.int (nI a), .int (nI n)] M N 0 0 Z := by
  have l : ∀ k i, i + k = n → jv_J g d mt_R_power 5 [some (.int (nI a)), some (.int (nI n)), some (.long (lN (a ^ i))), none, some (.int (nI i))] [] M N 0 0 Z := by
    intro k
    induction k with
    | zero =>
      intro i hi
      have hi : i = n := by omega
      subst hi
      refine b_R_power_5 ⟨fun _ => hz, fun c => absurd (nI_le (Nat.le_refl _) (by omega)) c⟩
    | succ k ih =>
      intro i hi
      refine b_R_power_5 ⟨fun c => absurd ((nn_le (a := n) (n := i) (by omega) (by omega)).mp c) (by omega), fun _ => ?_⟩
      rw [nI_l ha, lN_mul, li, nI_add]
      exact ih (i + 1) (by omega)
  exact jv_ct rfl (Nat.le_of_ble_eq_true rfl) (b_R_power_0 (l n 0 (by omega)))
theorem R_judge (h : RC M T B p U K S e) (hB : BV2 B) (P8 : POA B 8 p) {x : Int32} {l : Int64} (hz : ∀ M', RC M' T B p U K S e → FRm M M' → Z (some (.int (s_judge B p x l))) M' 668) : jv_Ct g (d + 9) mt_R_judge [.ref 0, .int x, .long l] M 668 0 0 Z := by
  have h77 : 77 ∈ st_bases := by decide
  have t77 : jv_Tg 6 77 668 := t_S0 h77
  have f03 := h.1.1.2.2.2.1
  have f02 := h.1.1.2.2.1
  unfold s_judge at hz
  refine jv_ct rfl (Nat.le_of_ble_eq_true rfl) (b_R_judge_0 ?_)
  by_cases hb : br x 1 3 = true
  · obtain ⟨n, hn1, hn2, ex⟩ := br_of hb (by omega)
    subst ex
    rw [nx_n (by omega)] at hz
    refine ⟨fun c => absurd ((nn_lt (a := n) (n := 1) (by omega) (by omega)).mp c) (by omega), fun _ => ⟨fun c => absurd ((nn_lt (a := 3) (n := n) (by omega) (by omega)).mp c) (by omega), fun _ => ?_⟩⟩
    have hcz : lg_cmp l 0 < 0 ↔ l.toInt < 0 := cmp_lt l 0
    have hle : (0 ≤ lg_cmp l 0) ↔ ¬ lg_cmp l 0 < 0 := by rw [Int32.not_lt]
    have hpw : 1000000 ^ n < 2 ^ 63 := by
      rcases (by omega : n = 1 ∨ n = 2 ∨ n = 3) with rfl | rfl | rfl <;> decide
    refine ⟨fun c => ?_, fun c => ?_⟩
    · rw [hle, hcz] at c
      obtain ⟨r, hr, er⟩ := pk_lOf (x := l) (fun z => c (Int64.lt_iff_toInt_lt.mp z))
      subst er
      rw [pk_lT hr, Int.toNat_natCast] at hz
      refine c_power (a := 1000000) (n := n) (by omega) (by omega) (jv_rl_i ?_)
      rw [cmp_lt, pk_lT hr, pk_lT hpw]
      refine ⟨fun c1 => ?_, fun c1 => ?_⟩
      · rw [if_pos ⟨hb, by omega, Int.ofNat_lt.mp c1⟩] at hz
        refine ⟨tg_0, 77, f03, tg_0, 44, f02, t77, c_trial h hB (fun M1 E1 Q1 => jv_rv_i ?_)⟩
        have go : ∀ k i M2 q, i + k = n → RC M2 T B p U K S e → EXC M M2 77 → SQ M2 77 B (nI 63) (nI 0) q → POA B 8 q → J_run B n r n 0 p = J_run B n r k i q → jv_J g (d + 9) mt_R_judge 51 [some (.ref 0), some (.int (nI n)), some (.long (lN r)), none, some (.long (lN (1000000 ^ (n - i)))), none, some (.int (nI i))] [] M2 668 0 0 Z := by
          intro k
          induction k with
          | zero =>
            intro i M2 q hi h2 E2 Q2 P2 ej
            have hi : i = n := by omega
            subst hi
            rw [ej] at hz
            exact b_R_judge_51 ⟨fun _ => hz M2 h2 (E2.frm h77), fun c => absurd (nI_le (Nat.le_refl _) (by omega)) c⟩
          | succ k ih =>
            intro i M2 q hi h2 E2 Q2 P2 ej
            have hd : lN (1000000 ^ (n - i)) / 1000000 = lN (1000000 ^ (n - (i + 1))) := by
              show lN (1000000 ^ (n - i)) / lN 1000000 = _
              have hpi : 1000000 ^ (n - i) < 2 ^ 63 := Nat.lt_of_le_of_lt (Nat.pow_le_pow_right (by omega) (by omega)) hpw
              rw [pk_lDiv hpi (by omega) (by omega), show n - i = (n - (i + 1)) + 1 by omega, Nat.pow_succ, Nat.mul_div_cancel _ (by omega)]
            have hpi : 1000000 ^ (n - (i + 1)) < 2 ^ 63 := Nat.lt_of_le_of_lt (Nat.pow_le_pow_right (by omega) (by omega)) hpw
            have hpos : 0 < 1000000 ^ (n - (i + 1)) := Nat.pow_pos (by omega)
            refine b_R_judge_51 ⟨fun c => absurd ((nn_le (a := n) (n := i) (by omega) (by omega)).mp c) (by omega), fun _ => ?_⟩
            rw [hd]
            refine ⟨fun z => ?_, tg_0, ?_⟩
            · have := (pk_lEQ hpi (show 0 < 2 ^ 63 by omega)).mp z
              omega
            · have hst : (Int64.toInt32 ((lN r / lN (1000000 ^ (n - (i + 1)))) - (lN r / lN (1000000 ^ (n - (i + 1)))) / 1000000 * 1000000)) = nI (r / 1000000 ^ (n - 1 - i) % 1000000) := by
                rw [pk_lDiv hr hpos hpi]
                have := pk_lRem (a := r / 1000000 ^ (n - (i + 1))) (b := 1000000) (Nat.lt_of_le_of_lt (Nat.div_le_self _ _) hr) (by omega) (by omega)
                rw [show n - 1 - i = n - (i + 1) by omega]
                exact (congrArg Int64.toInt32 this).trans (lN_i _)
              rw [hst]
              have ej2 : J_run B n r (k + 1) i q = match P_does B q (r / 1000000 ^ (n - 1 - i) % 1000000) with | none => nI i | some p' => J_run B n r k (i + 1) p' := rfl
              refine c_holds h2 hB Q2 P2 (Nat.mod_lt _ (by omega)) (fun hn M3 E3 => jv_ri_i ⟨fun z => absurd rfl z, fun _ => ?_⟩) (fun q' hq M3 E3 Q3 => jv_ri_i ⟨fun _ => ?_, fun z => absurd z (by decide)⟩)
              · rw [ej, ej2, hn] at hz
                exact hz M3 (h2.trial E3) ((E2.trans E3).frm h77)
              · rw [li, nI_add]
                refine ih (i + 1) M3 q' (by omega) (h2.trial E3) (E2.trans E3) Q3 (P_does_OK P2 hB hq).1 ?_
                rw [ej, ej2, hq]
        exact go n 0 M1 p (by omega) (h.trial E1) E1 Q1 P8 rfl
      · rw [if_neg (fun z => c1 (Int.ofNat_lt.mpr z.2.2))] at hz
        exact hz M h FRm.rf
    · rw [hle, hcz] at c
      rw [if_neg (fun z => c (by omega))] at hz
      exact hz M h FRm.rf
  · rw [if_neg (fun z => hb z.1)] at hz
    have hf : ¬ (((1 : Nat) : Int) ≤ x.toInt ∧ x.toInt ≤ ((3 : Nat) : Int)) := fun z => hb (decide_eq_true z)
    refine ⟨fun _ => hz M h FRm.rf, fun c => ⟨fun _ => hz M h FRm.rf, fun c2 => ?_⟩⟩
    exfalso
    have c' : ¬ x < nI 1 := c
    have c2' : ¬ nI 3 < x := c2
    rw [nlt (by omega)] at c'
    rw [lt_i, nI_toInt (by omega)] at c2'
    omega
end RO
