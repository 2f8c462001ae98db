/-! ===== acts ===== -/
abbrev Ac : Type := Int32 × Ut × Pg
def P_abs (p : Pg) : Nat → Bool
  | 0 => false
  | n + 1 => P_abs p n || decide (nI 2 < p (81 + 7 * n))
def P_app (p : Pg) (o h r v : Int32) : Pg := pu (pu (pu (pu (pu (pu (pu (pu p (81 + 7 * nx (p 80)) o) (81 + 7 * nx (p 80) + 1) h) (81 + 7 * nx (p 80) + 2) (nI 0)) (81 + 7 * nx (p 80) + 3) (nI 0)) (81 + 7 * nx (p 80) + 4) r) (81 + 7 * nx (p 80) + 5) v) (81 + 7 * nx (p 80) + 6) (nI 0)) 80 (p 80 + nI 1)
def P_send (p : Pg) (o h r v : Int32) : Pg := if nI 2 < o ∧ ¬ p 76 = nI 0 then p else if nI 2 < o ∧ P_abs p (nx (p 80)) = true then pu p 76 (nI 1) else P_app p o h r v
def P_set (p : Pg) (t : Nat) (a b c n ch : Int32) : Pg := pu (pu (pu (pu (pu (pu p (40 + 6 * t) a) (40 + 6 * t + 1) b) (40 + 6 * t + 2) c) (40 + 6 * t + 3) n) (40 + 6 * t + 4) n) (40 + 6 * t + 5) ch
def BVb (b : Nat) : Bool := decide (b < 900 ∧ (b / 100 = 0 → b = 0) ∧ (b / 100 = 1 → b / 10 % 10 ≤ 3) ∧ (b / 100 = 2 → b / 10 % 10 ≤ 3 ∧ b % 10 = 0) ∧ (b / 100 = 3 → b / 10 % 10 ≤ 3 ∧ b % 10 ≤ 3) ∧ (b / 100 = 4 ∨ b / 100 = 5 → b / 10 % 10 ≤ 3 ∧ b % 10 ≤ 7) ∧ (b / 100 = 6 → b / 10 % 10 ≤ 3) ∧ (b / 100 = 7 ∨ b / 100 = 8 → b % 100 = 0))
theorem BVb_iff {b : Nat} : BVb b = true ↔ BV b := decide_eq_true_iff
def tb (x : Int32) : Bool := if bl x 900 = true then BVb (nx x) else false
def s_tick (B : Bd) (U : Ut) (p : Pg) (x : Int32) : Ac := if br x 1 99 = true then (nI (ones (P_hset (PT B (nI 63) (nx x) p) (bd_nh B))), U_note U p, PT B (nI 63) (nx x) p) else (-2, U, p)
def s_clear (U : Ut) (p : Pg) : Ac := (p 76, U_note U p, pu p 76 (nI 0))
def s_poke (U : Ut) (p : Pg) (x1 x2 : Int32) : Ac := if bl x1 8 = true ∧ bl x2 1000 = true then (p (32 + nx x1), U_note U p, pu p (32 + nx x1) x2) else (-2, U, p)
def s_buf (U : Ut) (p : Pg) (x1 x2 : Int32) : Ac := if bl x1 2 = true ∧ tb x2 = true then (p (78 + nx x1), U_note U p, pu p (78 + nx x1) x2) else (-2, U, p)
def s_set (B : Bd) (U : Ut) (p : Pg) (x1 x2 x3 x4 x5 x6 : Int32) : Ac := if bl x1 (bd_nt B) = true then (if bl x2 2 = true ∧ bl x3 (if x2 = nI 0 then 16 else 4) = true ∧ bl x4 (if x2 = nI 0 then 1 else 1000) = true ∧ br x5 1 9 = true then (p (40 + 6 * nx x1), U_note U p, P_set p (nx x1) x2 x3 x4 x5 x6) else (-2, U, p)) else (-1, U, p)
def s_send (B : Bd) (U : Ut) (p : Pg) (x1 x2 x3 x4 : Int32) : Ac := if bl x1 6 = true then (if bl x2 (bd_nh B) = true then (if bl x3 (if x1 = nI 3 ∨ x1 = nI 4 then 4 else 1) = true ∧ bl x4 (if x1 = nI 4 then 1000 else 1) = true then (if nx (p 80) = 8 then (-4, U, p) else (P_send p x1 x2 x3 x4 76, U_note U p, P_send p x1 x2 x3 x4)) else (-2, U, p)) else (-1, U, p)) else (-2, U, p)
def s_undo (U : Ut) (p : Pg) : Ac := if U.1 = 0 then (-3, U, p) else (nI (U.1 - 1), (U.1 - 1, U.2), U.2 (U.1 - 1))
section PA
variable {B : Bd} {p : Pg} {m : Nat}
theorem POK.p80 (P : POK B m p) : p 80 = nI m := by
  obtain ⟨n, e, o⟩ := P.2.1 80
  rw [e, o.2.2.2.2.2.1 rfl]
theorem P_app_at (e : p 80 = nI m) (hm : m < 12) (o h r v : Int32) (j : Nat) : P_app p o h r v j = if j = 80 then nI (m + 1) else if j = 81 + 7 * m then o else if j = 81 + 7 * m + 1 then h else if j = 81 + 7 * m + 2 then nI 0 else if j = 81 + 7 * m + 3 then nI 0 else if j = 81 + 7 * m + 4 then r else if j = 81 + 7 * m + 5 then v else if j = 81 + 7 * m + 6 then nI 0 else p j := by
  unfold P_app
  rw [e, nx_n (by omega), nI_add]
  unfold pu
  (repeat' split) <;> first | rfl | (exfalso; omega)
theorem POK.app (P : POK B m p) (A : AG B m p) (hm : m < 12) (hB : BV2 B) {o h r v : Nat} (ho : o ≤ 5) (hh : h < bd_nh B) (hr : r < 4) (hv : v < 1000) : POK B (m + 1) (P_app p (nI o) (nI h) (nI r) (nI v)) ∧ AG B (m + 1) (P_app p (nI o) (nI h) (nI r) (nI v)) := by
  have e := P.p80
  have hq := P_app_at e hm (nI o) (nI h) (nI r) (nI v)
  have h4 := hB.1.2.1
  have h6 := hB.1.2.2.1
  obtain ⟨hm1, os, r1, r2, r3⟩ := P
  have out : ∀ j, j ≠ 80 → (j < 81 + 7 * m ∨ 81 + 7 * m + 7 ≤ j) → P_app p (nI o) (nI h) (nI r) (nI v) j = p j := fun j h1 h2 => by rw [hq, if_neg h1, if_neg (by omega), if_neg (by omega), if_neg (by omega), if_neg (by omega), if_neg (by omega), if_neg (by omega), if_neg (by omega)]
  refine ⟨⟨by omega, fun j => ?_, fun i hi => ?_, fun t ht => ?_, fun i hi => ?_⟩, fun i hi => ?_⟩
  · by_cases h80 : j = 80
    · rw [hq, if_pos h80]; exact ⟨m + 1, rfl, by unfold OKn; omega⟩
    · by_cases hin : 81 + 7 * m ≤ j ∧ j < 81 + 7 * m + 7
      · rcases (by omega : j = 81 + 7 * m ∨ j = 81 + 7 * m + 1 ∨ j = 81 + 7 * m + 2 ∨ j = 81 + 7 * m + 3 ∨ j = 81 + 7 * m + 4 ∨ j = 81 + 7 * m + 5 ∨ j = 81 + 7 * m + 6) with q | q | q | q | q | q | q
        · rw [hq, if_neg h80, if_pos q]; exact ⟨o, rfl, by unfold OKn; omega⟩
        · rw [hq, if_neg h80, if_neg (by omega), if_pos q]; exact ⟨h, rfl, by unfold OKn; omega⟩
        · rw [hq, if_neg h80, if_neg (by omega), if_neg (by omega), if_pos q]; exact ⟨0, rfl, by unfold OKn; omega⟩
        · rw [hq, if_neg h80, if_neg (by omega), if_neg (by omega), if_neg (by omega), if_pos q]; exact ⟨0, rfl, by unfold OKn; omega⟩
        · rw [hq, if_neg h80, if_neg (by omega), if_neg (by omega), if_neg (by omega), if_neg (by omega), if_pos q]; exact ⟨r, rfl, by unfold OKn; omega⟩
        · rw [hq, if_neg h80, if_neg (by omega), if_neg (by omega), if_neg (by omega), if_neg (by omega), if_neg (by omega), if_pos q]; exact ⟨v, rfl, by unfold OKn; omega⟩
        · rw [hq, if_neg h80, if_neg (by omega), if_neg (by omega), if_neg (by omega), if_neg (by omega), if_neg (by omega), if_neg (by omega), if_pos q]; exact ⟨0, rfl, by unfold OKn; omega⟩
      · rw [out j h80 (by omega)]
        obtain ⟨n, en, on⟩ := os j
        exact ⟨n, en, on.1, on.2.1, on.2.2.1, on.2.2.2.1, on.2.2.2.2.1, fun q => absurd q h80, fun q1 q2 => on.2.2.2.2.2.2 q1 (by omega)⟩
  · rw [out _ (by omega) (by omega), out _ (by omega) (by omega)]; exact r1 i hi
  · rw [out _ (by omega) (by omega), out _ (by omega) (by omega)]; exact r2 t ht
  · by_cases him : i = m
    · subst him
      intro z
      exact absurd (by rw [hq, if_neg (by omega), if_neg (by omega), if_neg (by omega), if_neg (by omega), if_pos rfl]) z
    · rw [out _ (by omega) (by omega), out _ (by omega) (by omega)]; exact r3 i (by omega)
  · by_cases him : i = m
    · subst him
      exact ⟨0, by omega, by rw [hq, if_neg (by omega), if_neg (by omega), if_neg (by omega), if_pos rfl]⟩
    · rw [out _ (by omega) (by omega)]; exact A i (by omega)
theorem P_abs_at {i : Nat} : ∀ n, i < n → nI 2 < p (81 + 7 * i) → P_abs p n = true
  | 0, h, _ => absurd h (by omega)
  | n + 1, h, hk => by
    show (P_abs p n || decide _) = true
    by_cases hi : i = n
    · subst hi; rw [decide_eq_true hk, Bool.or_true]
    · rw [P_abs_at n (by omega) hk, Bool.true_or]
theorem POK.err (P : POK B m p) (hB : BV2 B) {n : Nat} (hn : n ≤ 4) : POK B m (pu p 76 (nI n)) := ⟨P.1, P.2.1.upd ⟨n, rfl, by have := hB.1.2.2.1; unfold OKn; omega⟩, P.2.2.low (by omega) hB.1⟩
end PA
section SC
variable {g : jv_G} {d : Nat} {M : jv_Mem} {Z : Option Value → jv_Mem → Nat → Prop} {B : Bd} {p : Pg} {σ : Nat} {V : SV} {π : Nat → Nat} {pr : Int32}
theorem SR.cnt (S : SR B pr V π p) : ∃ m, V 1 2 = nI m ∧ p 80 = nI m ∧ m ≤ 12 ∧ POK B m p ∧ AG B m p := by
  obtain ⟨m, P, A, R, Q, C, I, ab⟩ := S
  exact ⟨m, C, P.p80, P.1, P, A⟩
theorem c_append (X : SX M σ) (hB : BV2 B) (S : SR B pr V π p) {m : Nat} (em : p 80 = nI m) (hm : m < 12) {k h r v : Nat} (hk : k ≤ 5) (hh : h < bd_nh B) (hr : r < 4) (hv : v < 1000) (hz : ∀ V', SR B pr V' π (P_app p (nI k) (nI h) (nI r) (nI v)) → V' 0 6 = V 0 6 → Z none (sw M σ V' π) 668) : jv_Ct g d mt_D_append [.ref (σ + 1), .int (nI k), .int (nI h), .int (nI r), .int (nI v)] (sw M σ V π) 668 0 0 Z := by
  have X0 := X
  obtain ⟨hσ, r0, r1, r2, r3, r4, r5, r6, r7, r8⟩ := X
  have tS0 := t_S0 hσ
  have tS1 := t_S1 hσ
  have tS2 := t_S2 hσ
  have lS2 := l_S2 hσ
  have tS3 := t_S3 hσ
  have lS3 := l_S3 hσ
  have tS16 := t_S16 hσ
  have lS16 := l_S16 hσ
  have tS17 := t_S17 hσ
  have lS17 := l_S17 hσ
  have tS18 := t_S18 hσ
  have lS18 := l_S18 hσ
  obtain ⟨m', P, A, R, Qo, C, I, ab⟩ := S
  have hmm : m' = m := by
    have := P.p80
    have := P.1
    exact nI_inj (by omega) (by omega) (by rw [← em, P.p80])
  subst hmm
  have hq := I.1 m' (by omega)
  have tSo := t_SO hσ hq
  obtain ⟨q1, q2⟩ := P.app A hm hB hk hh hr hv
  have at_ := P_app_at em hm (nI k) (nI h) (nI r) (nI v)
  refine jv_ct rfl (Nat.le_of_ble_eq_true rfl) (b_D_append_0 ?_)
  have h12 : Int32.ofNat 12 = nI 12 := rfl
  simp (disch := omega) only [li, ne_eq, nI_add, pk_mul, nI_clamp, vin, true_and, nn_eq, nn_le, nn_lt, pk_div, rm2, or0, sw_0, sw_1, sw_3, sw_18, sw_o, sw_h, sw_r, sw_t, wi_0, wi_1, wi_3, wi_18, wi_o, wi_h, wi_r, wi_t, sw_q, sw_ref, wr_q, tS0, tS1, tS2, lS2, tS3, lS3, tS16, lS16, tS17, lS17, tS18, lS18, r0, r1, r2, r3, r4, r5, Option.some.injEq, exists_eq_left', C, tSo, h12, vu_k]
  refine ⟨fun _ => hz _ ⟨m' + 1, q1, q2, ?_, fun i hi => ?_, vu_s _ _ _ _, I, ?_⟩ ?_, fun c => absurd hm c⟩
  · refine (R.same hB.1 ?_ (fun k' j' hk' => ?_) (fun j' => ?_) ?_ (fun j hj => ?_))
    · simp (disch := omega) only [vu_k]; exact ⟨trivial, trivial⟩
    · simp (disch := omega) only [vu_k]
    · simp (disch := omega) only [vu_k]
    · refine ⟨?_, ?_⟩
      · rw [vu_j _ _ (by omega)]; simp (disch := omega) only [vu_k]
      · rw [vu_j _ _ (by omega)]; simp (disch := omega) only [vu_k]
    · rw [at_, if_neg (by omega), if_neg (by omega), if_neg (by omega), if_neg (by omega), if_neg (by omega), if_neg (by omega), if_neg (by omega), if_neg (by omega)]
  · by_cases him : i = m'
    · subst him
      have p0 : P_app p (nI k) (nI h) (nI r) (nI v) (81 + 7 * i) = nI k := by rw [at_, if_neg (by omega), if_pos rfl]
      have p1 : P_app p (nI k) (nI h) (nI r) (nI v) (81 + 7 * i + 1) = nI h := by rw [at_, if_neg (by omega), if_neg (by omega), if_pos rfl]
      have p2 : P_app p (nI k) (nI h) (nI r) (nI v) (81 + 7 * i + 2) = nI 0 := by rw [at_, if_neg (by omega), if_neg (by omega), if_neg (by omega), if_pos rfl]
      have p3 : P_app p (nI k) (nI h) (nI r) (nI v) (81 + 7 * i + 3) = nI 0 := by rw [at_, if_neg (by omega), if_neg (by omega), if_neg (by omega), if_neg (by omega), if_pos rfl]
      have p4 : P_app p (nI k) (nI h) (nI r) (nI v) (81 + 7 * i + 4) = nI r := by rw [at_, if_neg (by omega), if_neg (by omega), if_neg (by omega), if_neg (by omega), if_neg (by omega), if_pos rfl]
      have p5 : P_app p (nI k) (nI h) (nI r) (nI v) (81 + 7 * i + 5) = nI v := by rw [at_, if_neg (by omega), if_neg (by omega), if_neg (by omega), if_neg (by omega), if_neg (by omega), if_neg (by omega), if_pos rfl]
      have p6 : P_app p (nI k) (nI h) (nI r) (nI v) (81 + 7 * i + 6) = nI 0 := by rw [at_, if_neg (by omega), if_neg (by omega), if_neg (by omega), if_neg (by omega), if_neg (by omega), if_neg (by omega), if_neg (by omega), if_pos rfl]
      refine ⟨?_, ?_, ?_, ?_, ?_, ?_, ?_⟩ <;> simp (disch := omega) only [p0, p1, p2, p3, p4, p5, p6, vu_k, vu_j, vu_s]
    · have hne : π i ≠ π m' := fun z => him (I.2 i m' (by omega) (by omega) z)
      refine (Qo i (by omega)).same (fun f => ?_) (fun j h1 h2 => ?_)
      · simp (disch := omega) only [vu_k]
      · rw [at_, if_neg (by omega), if_neg (by omega), if_neg (by omega), if_neg (by omega), if_neg (by omega), if_neg (by omega), if_neg (by omega), if_neg (by omega)]
  · simp (disch := omega) only [vu_k]; exact ab
  · simp (disch := omega) only [vu_k]
theorem c_hasAbstract (X : SX M σ) (hB : BV2 B) (S : SR B pr V π p) {m : Nat} (em : p 80 = nI m) (hm : m ≤ 12) (hz : Z (some (.int (if P_abs p m = true then nI 1 else nI 0))) (sw M σ V π) 668) : jv_Ct g (d + 1) mt_D_hasAbstract [.ref (σ + 1)] (sw M σ V π) 668 0 0 Z := by
  have X0 := X
  obtain ⟨hσ, r0, r1, r2, r3, r4, r5, r6, r7, r8⟩ := X
  have tS0 := t_S0 hσ
  have tS1 := t_S1 hσ
  have tS2 := t_S2 hσ
  have lS2 := l_S2 hσ
  have tS3 := t_S3 hσ
  have lS3 := l_S3 hσ
  have tS16 := t_S16 hσ
  have lS16 := l_S16 hσ
  have tS17 := t_S17 hσ
  have lS17 := l_S17 hσ
  have tS18 := t_S18 hσ
  have lS18 := l_S18 hσ
  obtain ⟨m', P, A, R, Qo, C, I, ab⟩ := S
  have hm' := P.1
  have hm1000 : m' < 1000 := by omega
  have hmm : m' = m := by
    exact nI_inj (by omega) (by omega) (by rw [← em, P.p80])
  subst hmm
  have l : ∀ n i, i + n = m' → P_abs p i = false → jv_J g (d + 1) mt_D_hasAbstract 2 [some (.ref (σ + 1)), some (.int (nI i))] [] (sw M σ V π) 668 0 0 Z := by
    intro n
    induction n with
    | zero =>
      intro i hi hf
      have hi : i = m' := by omega
      subst hi
      rw [hf, if_neg (by decide)] at hz
      refine b_D_hasAbstract_2 ?_
      simp (disch := omega) only [li, ne_eq, nI_add, pk_mul, nI_clamp, vin, true_and, nn_eq, nn_le, nn_lt, pk_div, rm2, or0, sw_0, sw_1, sw_3, sw_18, sw_o, sw_h, sw_r, sw_t, wi_0, wi_1, wi_3, wi_18, wi_o, wi_h, wi_r, wi_t, sw_q, sw_ref, wr_q, tS0, tS1, tS2, lS2, tS3, lS3, tS16, lS16, tS17, lS17, tS18, lS18, r0, r1, r2, r3, r4, r5, Option.some.injEq, exists_eq_left', C]
      exact ⟨fun _ => hz, fun c => absurd (Nat.le_refl _) c⟩
    | succ n ih =>
      intro i hi hf
      have hq := I.1 i (by omega)
      have tSo := t_SO hσ hq
      obtain ⟨⟨n0, h0, e0⟩, -⟩ := P.ord (i := i) (by omega)
      have q0 := (Qo i (by omega)).1
      rw [e0] at q0
      refine b_D_hasAbstract_2 ?_
      simp (disch := omega) only [li, ne_eq, nI_add, pk_mul, nI_clamp, vin, true_and, nn_eq, nn_le, nn_lt, pk_div, rm2, or0, sw_0, sw_1, sw_3, sw_18, sw_o, sw_h, sw_r, sw_t, wi_0, wi_1, wi_3, wi_18, wi_o, wi_h, wi_r, wi_t, sw_q, sw_ref, wr_q, tS0, tS1, tS2, lS2, tS3, lS3, tS16, lS16, tS17, lS17, tS18, lS18, r0, r1, r2, r3, r4, r5, Option.some.injEq, exists_eq_left', C, tSo]
      refine ⟨fun c => absurd c (by omega), fun _ => ?_⟩
      refine jv_ct rfl (Nat.le_of_ble_eq_true rfl) (b_O_isAbstract_0 ?_)
      simp (disch := omega) only [li, ne_eq, nI_add, pk_mul, nI_clamp, vin, true_and, nn_eq, nn_le, nn_lt, pk_div, rm2, or0, sw_0, sw_1, sw_3, sw_18, sw_o, sw_h, sw_r, sw_t, wi_0, wi_1, wi_3, wi_18, wi_o, wi_h, wi_r, wi_t, sw_q, sw_ref, wr_q, tS0, tS1, tS2, lS2, tS3, lS3, tS16, lS16, tS17, lS17, tS18, lS18, r0, r1, r2, r3, r4, r5, Option.some.injEq, exists_eq_left', tSo, q0]
      refine ⟨fun c => jv_ri_i ⟨fun _ => ih (i + 1) (by omega) ?_, fun c1 => absurd rfl c1⟩, fun c => jv_ri_i ⟨fun c1 => absurd c1 (by decide), fun _ => ?_⟩⟩
      · show (P_abs p i || decide _) = false
        rw [hf, e0, Bool.false_or]
        exact decide_eq_false (by rw [nn_lt (by omega) (by omega)]; omega)
      · rw [P_abs_at m' (i := i) (by omega) (by rw [e0, nn_lt (by omega) (by omega)]; omega), if_pos rfl] at hz
        exact hz
  exact jv_ct rfl (Nat.le_of_ble_eq_true rfl) (b_D_hasAbstract_0 (l m' 0 (by omega) rfl))
theorem c_accept (X : SX M σ) (hB : BV2 B) (S : SR B pr V π p) {m : Nat} (em : p 80 = nI m) (hm : m < 12) {k h r v : Nat} (hk : k ≤ 5) (hh : h < bd_nh B) (hr : r < 4) (hv : v < 1000) (hz : ∀ V', SR B pr V' π (P_send p (nI k) (nI h) (nI r) (nI v)) → V' 0 6 = V 0 6 → Z none (sw M σ V' π) 668) : jv_Ct g (d + 2) mt_D_accept [.ref (σ + 1), .int (nI k), .int (nI h), .int (nI r), .int (nI v)] (sw M σ V π) 668 0 0 Z := by
  have X0 := X
  obtain ⟨hσ, r0, r1, r2, r3, r4, r5, r6, r7, r8⟩ := X
  have tS0 := t_S0 hσ
  have tS1 := t_S1 hσ
  have tS2 := t_S2 hσ
  have lS2 := l_S2 hσ
  have tS3 := t_S3 hσ
  have lS3 := l_S3 hσ
  have tS16 := t_S16 hσ
  have lS16 := l_S16 hσ
  have tS17 := t_S17 hσ
  have lS17 := l_S17 hσ
  have tS18 := t_S18 hσ
  have lS18 := l_S18 hσ
  have S0 := S
  obtain ⟨m', P, A, R, Qo, C, I, ab⟩ := S
  have hE := R.2.2.2.2.1.1
  obtain ⟨ne, ee, he⟩ := P.2.1.at 76
  rw [ee] at hE
  unfold P_send at hz
  rw [em, nx_n (by omega), ee] at hz
  refine jv_ct rfl (Nat.le_of_ble_eq_true rfl) (b_D_accept_0 ?_)
  simp (disch := omega) only [li, ne_eq, nI_add, pk_mul, nI_clamp, vin, true_and, nn_eq, nn_le, nn_lt, pk_div, rm2, or0, sw_0, sw_1, sw_3, sw_18, sw_o, sw_h, sw_r, sw_t, wi_0, wi_1, wi_3, wi_18, wi_o, wi_h, wi_r, wi_t, sw_q, sw_ref, wr_q, tS0, tS1, tS2, lS2, tS3, lS3, tS16, lS16, tS17, lS17, tS18, lS18, r0, r1, r2, r3, r4, r5, Option.some.injEq, exists_eq_left', hE]
  have h2 : (nI 2 < nI k) = (2 < k) := nn_lt (by omega) (by omega)
  have h0 : (nI ne = nI 0) = (ne = 0) := nn_eq (by omega) (by omega)
  simp only [h2, h0] at hz
  have app : (¬ (2 < k ∧ ¬ ne = 0)) → ¬ (2 < k ∧ P_abs p m = true) → ∀ {d1}, jv_Ct g d1 mt_D_append [.ref (σ + 1), .int (nI k), .int (nI h), .int (nI r), .int (nI v)] (sw M σ V π) 668 0 0 (fun v M3 N3 => jv_rv v (Z none M3 N3)) := by
    intro q1 q2 d1
    rw [if_neg q1, if_neg q2] at hz
    exact c_append X0 hB S0 em hm hk hh hr hv (fun V' S' a' => jv_rv_i (hz V' S' a'))
  refine ⟨fun c => ⟨fun _ => app (by omega) (by omega), fun c1 => absurd c c1⟩, fun c => ⟨fun c1 => ⟨fun c2 => absurd c2 c, fun _ => ?_⟩, fun c1 => ?_⟩⟩
  · refine c_hasAbstract X0 hB S0 em (by omega) (jv_ri_i ?_)
    by_cases ha : P_abs p m = true
    · rw [if_neg (by omega), if_pos ⟨by omega, ha⟩] at hz
      rw [if_pos ha]
      refine ⟨fun c2 => absurd c2 (by decide), fun _ => ?_⟩
      simp (disch := omega) only [li, ne_eq, nI_add, pk_mul, nI_clamp, vin, true_and, nn_eq, nn_le, nn_lt, pk_div, rm2, or0, sw_0, sw_1, sw_3, sw_18, sw_o, sw_h, sw_r, sw_t, wi_0, wi_1, wi_3, wi_18, wi_o, wi_h, wi_r, wi_t, sw_q, sw_ref, wr_q, tS0, tS1, tS2, lS2, tS3, lS3, tS16, lS16, tS17, lS17, tS18, lS18, r0, r1, r2, r3, r4, r5, Option.some.injEq, exists_eq_left']
      refine hz _ ⟨m', P.err hB (by omega), fun i hi => ?_, R.err hB.1 _, fun i hi => ?_, ?_, I, ?_⟩ ?_
      · rw [pu_n _ _ (by omega)]; exact A i hi
      · exact (Qo i hi).same (fun f => vu_k _ _ (by omega)) (fun j h1 h2 => pu_n _ _ (by omega))
      · rw [vu_j _ _ (by omega)]; exact C
      · rw [vu_k _ _ (by omega)]; exact ab
      · rw [vu_k _ _ (by omega)]
    · rw [if_neg ha]
      refine ⟨fun _ => ⟨tS1, app (by omega) (fun z => ha z.2)⟩, fun c2 => absurd rfl c2⟩
  · rw [if_pos ⟨by omega, c1⟩] at hz
    exact hz V S0 rfl
end SC
section RO
variable {g : jv_G} {d : Nat} {M M' : jv_Mem} {Z : Option Value → jv_Mem → Nat → Prop} {T T' : Tt} {B : Bd} {p p' : Pg} {U : Ut} {K : Kt} {S S' : St} {e e' : Int64}
/-- the present State put to another one -/
theorem RC.put {V : SV} {π : Nat → Nat} (h : RC M T B p U K S e) {σ : Nat} (eσ : σ = 44) (S1 : SR B (nI 63) V π p') (h6 : V 0 6 = nI 0) : RC (sw M σ V π) T B p' U K S e ∧ FRm M (sw M σ V π) := by
  subst eσ
  exact ⟨h.present (EXC.sw S1.pi) (SP.mk S1 h6), (EXC.sw S1.pi).frm (by decide)⟩
theorem R_tick (h : RC M T B p U K S e) (hB : BV2 B) (hU : U.1 ≤ 14) {x : Int32} (hz : ∀ M', RC M' T B (s_tick B U p x).2.2 (s_tick B U p x).2.1 K S e → FRm M M' → Z (some (.int (s_tick B U p x).1)) M' 668) : jv_Ct g (d + 9) mt_R_tick [.ref 0, .int x] M 668 0 0 Z := by
  unfold s_tick at hz
  have f02 := h.1.1.2.2.1
  have f04 := h.1.1.2.2.2.2.1
  refine jv_ct rfl (Nat.le_of_ble_eq_true rfl) (b_R_tick_0 ?_)
  by_cases hb : br x 1 99 = true
  · rw [if_pos hb] at hz
    obtain ⟨j, h1, h2, ex⟩ := br_of hb (by omega)
    subst ex
    rw [nx_n (by omega)] at hz
    simp (disch := omega) only [li, nn_lt, nn_le, tg_0, tg_110, f02, f04, true_and, Option.some.injEq, exists_eq_left']
    refine ⟨fun c => absurd c (by omega), fun _ => ⟨fun _ => ?_, fun c => absurd h2 c⟩⟩
    refine h.past hB hU (fun M1 q1 F1 => jv_rv_i ?_)
    have g02 := q1.1.1.2.2.1
    have g01 := q1.1.1.2.1
    simp (disch := omega) only [tg_0, g02, g01, true_and, t_S0 (show 44 ∈ st_bases by decide), Option.some.injEq, exists_eq_left']
    refine q_pass q1.1 q1.prg hB (by decide) q1.2.2.1 (by omega) (fun M2 E2 Q2 => jv_rv_i ?_)
    have q2 := q1.present E2 Q2
    have k02 := q2.1.1.2.2.1
    simp (disch := omega) only [tg_0, k02, true_and, t_S0 (show 44 ∈ st_bases by decide), Option.some.injEq, exists_eq_left']
    exact q_hcount q2.1 hB (by decide) Q2 (jv_ri_i (hz M2 q2 (F1.trans (E2.frm (by decide)))))
  · rw [if_neg hb] at hz
    have hf : ¬ (((1 : Nat) : Int) ≤ x.toInt ∧ x.toInt ≤ ((99 : Nat) : Int)) := fun z => hb (decide_eq_true z)
    refine ⟨fun _ => hz M h FRm.rf, fun c => ⟨fun c2 => ?_, fun _ => hz M h FRm.rf⟩⟩
    exfalso
    have c' : ¬ x < nI 1 := c
    have c2' : x ≤ nI 99 := c2
    rw [nlt (by omega)] at c'
    rw [nle (by omega)] at c2'
    omega
theorem R_clear (h : RC M T B p U K S e) (hB : BV2 B) (hU : U.1 ≤ 14) (hz : ∀ M', RC M' T B (s_clear U p).2.2 (s_clear U p).2.1 K S e → FRm M M' → Z (some (.int (s_clear U p).1)) M' 668) : jv_Ct g (d + 9) mt_R_clear [.ref 0] M 668 0 0 Z := by
  have f02 := h.1.1.2.2.1
  have f04 := h.1.1.2.2.2.2.1
  refine jv_ct rfl (Nat.le_of_ble_eq_true rfl) (b_R_clear_0 ?_)
  simp (disch := omega) only [li, tg_0, tg_110, f02, f04, true_and, Option.some.injEq, exists_eq_left']
  refine h.past hB hU (fun M1 h1 F1 => jv_rv_i ?_)
  obtain ⟨σ, eσ, hσ, f02, X, V, π, ee, SR1, ab6⟩ := h1.pres
  have X0 := X
  obtain ⟨-, r0, r1, r2, r3, r4, r5, r6, r7, r8⟩ := X
  have tS0 := t_S0 hσ
  have tS1 := t_S1 hσ
  have tS2 := t_S2 hσ
  have lS2 := l_S2 hσ
  have tS3 := t_S3 hσ
  have lS3 := l_S3 hσ
  have tS16 := t_S16 hσ
  have lS16 := l_S16 hσ
  have tS17 := t_S17 hσ
  have lS17 := l_S17 hσ
  have tS18 := t_S18 hσ
  have lS18 := l_S18 hσ
  obtain ⟨m, P, A, R, Qo, C, I, AB1⟩ := id SR1
  have b4 := hB.1.2.1
  have b6 := hB.1.2.2.1
  rw [← ee]
  have hE := R.2.2.2.2.1.1
  simp (disch := omega) only [li, ne_eq, nI_add, pk_mul, nI_clamp, vin, true_and, nn_eq, nn_le, nn_lt, pk_div, rm2, or0, sw_0, sw_1, sw_3, sw_18, sw_o, sw_h, sw_r, sw_t, wi_0, wi_1, wi_3, wi_18, wi_o, wi_h, wi_r, wi_t, sw_q, sw_ref, wr_q, tS0, tS1, tS2, lS2, tS3, lS3, tS16, lS16, tS17, lS17, tS18, lS18, r0, r1, r2, r3, r4, r5, Option.some.injEq, exists_eq_left', f02, tg_0, hE]
  have S2 : SR B (nI 63) (vu V 1 3 (nI 0)) π (pu p 76 (nI 0)) := ⟨m, P.err hB (by omega), fun i hi => by rw [pu_n _ _ (by omega)]; exact A i hi, R.err hB.1 _, fun i hi => (Qo i hi).same (fun f => vu_k _ _ (by omega)) (fun j _ _ => pu_n _ _ (by omega)), by rw [vu_j _ _ (by omega)]; exact C, I, by rw [vu_k _ _ (by omega)]; exact AB1⟩
  obtain ⟨rc, fr⟩ := h1.put eσ S2 (by rw [vu_k _ _ (by omega)]; exact ab6)
  exact hz _ rc (F1.trans fr)
theorem R_poke (h : RC M T B p U K S e) (hB : BV2 B) (hU : U.1 ≤ 14) {x1 x2 : Int32} (hz : ∀ M', RC M' T B (s_poke U p x1 x2).2.2 (s_poke U p x1 x2).2.1 K S e → FRm M M' → Z (some (.int (s_poke U p x1 x2).1)) M' 668) : jv_Ct g (d + 9) mt_R_poke [.ref 0, .int x1, .int x2] M 668 0 0 Z := by
  have f02 := h.1.1.2.2.1
  have f04 := h.1.1.2.2.2.2.1
  unfold s_poke at hz
  refine jv_ct rfl (Nat.le_of_ble_eq_true rfl) (b_R_poke_0 ?_)
  simp only [li, ne_eq]
  refine c_isBelow (by omega) (jv_ri_i ?_)
  by_cases hb1 : bl x1 8 = true
  · rw [if_pos hb1]
    refine ⟨fun c => absurd c (by decide), fun _ => c_isBelow (by omega) (jv_ri_i ?_)⟩
    by_cases hb2 : bl x2 1000 = true
    · rw [if_pos ⟨hb1, hb2⟩] at hz
      rw [if_pos hb2]
      obtain ⟨j, hj, ex⟩ := bl_of hb1 (by omega)
      obtain ⟨v, hv, ev⟩ := bl_of hb2 (by omega)
      subst ex ev
      rw [nx_n (by omega)] at hz
      refine ⟨fun _ => ?_, fun c => absurd c (by decide)⟩
      simp (disch := omega) only [tg_0, tg_110, f02, f04, true_and, Option.some.injEq, exists_eq_left']
      refine h.past hB hU (fun M1 h1 F1 => jv_rv_i ?_)
      obtain ⟨σ, eσ, hσ, f02, X, V, π, ee, SR1, ab6⟩ := h1.pres
      have X0 := X
      obtain ⟨-, r0, r1, r2, r3, r4, r5, r6, r7, r8⟩ := X
      have tS0 := t_S0 hσ
      have tS1 := t_S1 hσ
      have tS2 := t_S2 hσ
      have lS2 := l_S2 hσ
      have tS3 := t_S3 hσ
      have lS3 := l_S3 hσ
      have tS16 := t_S16 hσ
      have lS16 := l_S16 hσ
      have tS17 := t_S17 hσ
      have lS17 := l_S17 hσ
      have tS18 := t_S18 hσ
      have lS18 := l_S18 hσ
      obtain ⟨m, P, A, R, Qo, C, I, AB1⟩ := id SR1
      have b4 := hB.1.2.1
      have b6 := hB.1.2.2.1
      rw [← ee]
      have hE := R.2.2.1 j hj
      simp (disch := omega) only [li, ne_eq, nI_add, pk_mul, nI_clamp, vin, true_and, nn_eq, nn_le, nn_lt, pk_div, rm2, or0, sw_0, sw_1, sw_3, sw_18, sw_o, sw_h, sw_r, sw_t, wi_0, wi_1, wi_3, wi_18, wi_o, wi_h, wi_r, wi_t, sw_q, sw_ref, wr_q, tS0, tS1, tS2, lS2, tS3, lS3, tS16, lS16, tS17, lS17, tS18, lS18, r0, r1, r2, r3, r4, r5, Option.some.injEq, exists_eq_left', f02, tg_0, hE]
      have S2 : SR B (nI 63) (vu V 18 j (nI v)) π (pu p (32 + j) (nI v)) := ⟨m, P.cell hB.1 hj hv, fun i hi => by rw [pu_n _ _ (by omega)]; exact A i hi, R.cell hB.1 hj _, fun i hi => (Qo i hi).same (fun f => vu_k _ _ (by have := I.1 i (by have := P.1; omega); omega)) (fun j _ _ => pu_n _ _ (by omega)), by rw [vu_k _ _ (by omega)]; exact C, I, by rw [vu_k _ _ (by omega)]; exact AB1⟩
      obtain ⟨rc, fr⟩ := h1.put eσ S2 (by rw [vu_k _ _ (by omega)]; exact ab6)
      exact hz _ rc (F1.trans fr)
    · rw [if_neg (fun z => hb2 z.2)] at hz
      rw [if_neg hb2]
      exact ⟨fun c => absurd rfl c, fun _ => hz M h FRm.rf⟩
  · rw [if_neg (fun z => hb1 z.1)] at hz
    rw [if_neg hb1]
    exact ⟨fun _ => hz M h FRm.rf, fun c => absurd rfl c⟩
theorem R_undo (h : RC M T B p U K S e) (hB : BV2 B) (hU : U.1 ≤ 14) (hz : ∀ M', RC M' T B (s_undo U p).2.2 (s_undo U p).2.1 K S e → FRm M M' → Z (some (.int (s_undo U p).1)) M' 668) : jv_Ct g (d + 9) mt_R_undo [.ref 0] M 668 0 0 Z := by
  have f02 := h.1.1.2.2.1
  have f04 := h.1.1.2.2.2.2.1
  unfold s_undo at hz
  refine jv_ct rfl (Nat.le_of_ble_eq_true rfl) (b_R_undo_0 ?_)
  simp (disch := omega) only [li, tg_0, tg_110, f02, f04, true_and, Option.some.injEq, exists_eq_left']
  refine h.pop hB hU (fun h0 => jv_ri_i ?_) (fun h0 M1 h1 F1 => jv_ri_i ?_)
  · rw [if_pos h0] at hz
    exact ⟨fun _ => hz M h FRm.rf, fun c => absurd rfl c⟩
  · rw [if_neg h0] at hz
    have g04 := h1.1.1.2.2.2.2.1
    have gs := h1.2.1.2.2.1
    refine ⟨fun c => absurd c (by decide), fun _ => ?_⟩
    simp (disch := omega) only [tg_0, tg_110, g04, gs, true_and, Option.some.injEq, exists_eq_left']
    exact hz M1 h1 F1
def bvals (k : Nat) : Nat := [1, 10, 1, 4, 8, 8, 10, 1, 1].getD k 1
theorem bvals_eq : ∀ k, k < 9 → (if nI 1 < (if jv_second k < nI 10 then jv_second k else nI 10) then (if jv_second k < nI 10 then jv_second k else nI 10) else nI 1) = nI (bvals k) := by decide
def bregs (k : Nat) : Nat := [1, 4, 4, 4, 4, 4, 4, 1, 1].getD k 1
theorem bregs_eq : ∀ k, k < 9 → bregs k = if 1 ≤ k ∧ k ≤ 6 then 4 else 1 := by decide
theorem BV_vals {n k : Nat} (hk : k = n / 100) (h9 : k < 9) : BV n ↔ (n / 10 % 10 < bregs k ∧ n % 10 < bvals k) := by
  unfold BV
  rcases (by omega : k = 0 ∨ k = 1 ∨ k = 2 ∨ k = 3 ∨ k = 4 ∨ k = 5 ∨ k = 6 ∨ k = 7 ∨ k = 8) with q | q | q | q | q | q | q | q | q
  · rw [show bvals k = 1 by rw [q]; rfl, show bregs k = 1 by rw [q]; rfl]; omega
  · rw [show bvals k = 10 by rw [q]; rfl, show bregs k = 4 by rw [q]; rfl]; omega
  · rw [show bvals k = 1 by rw [q]; rfl, show bregs k = 4 by rw [q]; rfl]; omega
  · rw [show bvals k = 4 by rw [q]; rfl, show bregs k = 4 by rw [q]; rfl]; omega
  · rw [show bvals k = 8 by rw [q]; rfl, show bregs k = 4 by rw [q]; rfl]; omega
  · rw [show bvals k = 8 by rw [q]; rfl, show bregs k = 4 by rw [q]; rfl]; omega
  · rw [show bvals k = 10 by rw [q]; rfl, show bregs k = 4 by rw [q]; rfl]; omega
  · rw [show bvals k = 1 by rw [q]; rfl, show bregs k = 1 by rw [q]; rfl]; omega
  · rw [show bvals k = 1 by rw [q]; rfl, show bregs k = 1 by rw [q]; rfl]; omega
theorem c_isBuffered {N : Nat} {x : Int32} (hz : Z (some (.int (if tb x = true then nI 1 else nI 0))) M N) : jv_Ct g (d + 2) mt_R_isBuffered [.int x] M N 0 0 Z := by
  refine jv_ct rfl (Nat.le_of_ble_eq_true rfl) (b_R_isBuffered_0 ?_)
  unfold tb at hz
  by_cases h0 : x < 0
  · have h0' : x < nI 0 := h0
    rw [nlt (by omega)] at h0'
    have : bl x 900 = false := decide_eq_false (by omega)
    rw [this, if_neg (show ¬ (if false = true then BVb (nx x) else false) = true by simp)] at hz
    exact ⟨fun _ => hz, fun c => absurd h0 c⟩
  · obtain ⟨n, hn, ex⟩ := nI_of h0
    subst ex
    refine ⟨fun c => absurd c h0, fun _ => ?_⟩
    simp (disch := omega) only [li, pk_div, nn_le, nI_clamp]
    refine ⟨fun c => ?_, fun c => ?_⟩
    · rw [bl_in (show n < 900 by omega) (by omega), if_pos rfl, nx_n hn] at hz
      have hbv := BV_vals (n := n) rfl (show n / 100 < 9 by omega)
      refine ⟨vp_in_nI (by omega) (by omega), ?_⟩
      refine jv_ct rfl (Nat.le_of_ble_eq_true rfl) (b_P_hasRegister_0 ?_)
      simp (disch := omega) only [li, nn_lt]
      have fin : ∀ y, y = bregs (n / 100) → jv_J g (d + 2) mt_R_isBuffered 51 [some (.int (nI n)), none, some (.int (nI (bvals (n / 100))))] [.int (nI y), .int (nI (n / 10 % 10))] M N 0 0 Z := by
        intro y hy
        refine b_R_isBuffered_51 ?_
        have hv : bvals (n / 100) ≤ 10 := (by decide : ∀ k, k < 9 → bvals k ≤ 10) _ (by omega)
        have hy4 : y ≤ 4 := by rw [hy, bregs_eq _ (by omega)]; split <;> omega
        simp (disch := omega) only [li, pk_div, pk_mul, rm2, nn_le]
        refine ⟨fun c1 => ?_, fun c1 => ⟨fun c2 => ?_, fun c2 => ?_⟩⟩
        · have : BVb n = false := by rw [← Bool.not_eq_true, BVb_iff, hbv]; omega
          rw [this] at hz; exact hz
        · have : BVb n = false := by rw [← Bool.not_eq_true, BVb_iff, hbv]; omega
          rw [this] at hz; exact hz
        · have : BVb n = true := by rw [BVb_iff, hbv]; omega
          rw [this] at hz; exact hz
      have bv := bvals_eq (n / 100) (by omega)
      rw [← bv] at fin
      simp (disch := omega) only [pk_mul, rm2]
      refine ⟨fun c1 => jv_ri_i ?_, fun c1 => ⟨fun c2 => jv_ri_i ?_, fun c2 => jv_ri_i ?_⟩⟩
      · exact ⟨fun _ => fin 1 (by rw [bregs_eq _ (by omega), if_neg (by omega)]), fun c => absurd rfl c⟩
      · exact ⟨fun _ => fin 1 (by rw [bregs_eq _ (by omega), if_neg (by omega)]), fun c => absurd rfl c⟩
      · exact ⟨fun c => absurd c (by decide), fun _ => fin 4 (by rw [bregs_eq _ (by omega), if_pos (by omega)])⟩
    · rw [bl_out (show ¬ n < 900 by omega) hn, if_neg (show ¬ (if false = true then BVb (nx (nI n)) else false) = true by simp)] at hz
      exact hz
theorem R_buffer (h : RC M T B p U K S e) (hB : BV2 B) (hU : U.1 ≤ 14) {x1 x2 : Int32} (hz : ∀ M', RC M' T B (s_buf U p x1 x2).2.2 (s_buf U p x1 x2).2.1 K S e → FRm M M' → Z (some (.int (s_buf U p x1 x2).1)) M' 668) : jv_Ct g (d + 9) mt_R_buffer [.ref 0, .int x1, .int x2] M 668 0 0 Z := by
  have f02 := h.1.1.2.2.1
  have f04 := h.1.1.2.2.2.2.1
  unfold s_buf at hz
  refine jv_ct rfl (Nat.le_of_ble_eq_true rfl) (b_R_buffer_0 ?_)
  simp only [li, ne_eq]
  refine c_isBelow (by omega) (jv_ri_i ?_)
  by_cases hb1 : bl x1 2 = true
  · rw [if_pos hb1]
    refine ⟨fun c => absurd c (by decide), fun _ => c_isBuffered (jv_ri_i ?_)⟩
    by_cases hb2 : tb x2 = true
    · rw [if_pos ⟨hb1, hb2⟩] at hz
      rw [if_pos hb2]
      obtain ⟨j, hj, ex⟩ := bl_of hb1 (by omega)
      have hb3 : bl x2 900 = true := by
        unfold tb at hb2
        by_cases q : bl x2 900 = true
        · exact q
        · rw [if_neg q] at hb2; exact absurd hb2 (by decide)
      unfold tb at hb2
      rw [if_pos hb3] at hb2
      obtain ⟨v, hv, ev⟩ := bl_of hb3 (by omega)
      subst ex ev
      rw [nx_n (by omega)] at hz hb2
      have hbv := BVb_iff.mp hb2
      refine ⟨fun _ => ?_, fun c => absurd c (by decide)⟩
      simp (disch := omega) only [tg_0, tg_110, f02, f04, true_and, Option.some.injEq, exists_eq_left']
      refine h.past hB hU (fun M1 h1 F1 => jv_rv_i ?_)
      obtain ⟨σ, eσ, hσ, f02, X, V, π, ee, SR1, ab6⟩ := h1.pres
      have X0 := X
      obtain ⟨-, r0, r1, r2, r3, r4, r5, r6, r7, r8⟩ := X
      have tS0 := t_S0 hσ
      have tS1 := t_S1 hσ
      have tS2 := t_S2 hσ
      have lS2 := l_S2 hσ
      have tS3 := t_S3 hσ
      have lS3 := l_S3 hσ
      have tS16 := t_S16 hσ
      have lS16 := l_S16 hσ
      have tS17 := t_S17 hσ
      have lS17 := l_S17 hσ
      have tS18 := t_S18 hσ
      have lS18 := l_S18 hσ
      obtain ⟨m, P, A, R, Qo, C, I, AB1⟩ := id SR1
      have b4 := hB.1.2.1
      have b6 := hB.1.2.2.1
      rw [← ee]
      have hE := R.2.2.2.2.2 j hj
      simp (disch := omega) only [li, ne_eq, nI_add, pk_mul, nI_clamp, vin, true_and, nn_eq, nn_le, nn_lt, pk_div, rm2, or0, sw_0, sw_1, sw_3, sw_18, sw_o, sw_h, sw_r, sw_t, wi_0, wi_1, wi_3, wi_18, wi_o, wi_h, wi_r, wi_t, sw_q, sw_ref, wr_q, tS0, tS1, tS2, lS2, tS3, lS3, tS16, lS16, tS17, lS17, tS18, lS18, r0, r1, r2, r3, r4, r5, Option.some.injEq, exists_eq_left', f02, tg_0, hE]
      have P2 : POK B m (pu p (78 + j) (nI v)) := ⟨P.1, P.2.1.upd ⟨v, rfl, by omega, by omega, by omega, by omega, fun _ => hbv, by omega, by omega⟩, P.2.2.low (by omega) hB.1⟩
      have S2 : SR B (nI 63) (vu V 3 j (nI v)) π (pu p (78 + j) (nI v)) := ⟨m, P2, fun i hi => by rw [pu_n _ _ (by omega)]; exact A i hi, R.buf hB.1 hj _, fun i hi => (Qo i hi).same (fun f => vu_k _ _ (by omega)) (fun j _ _ => pu_n _ _ (by omega)), by rw [vu_k _ _ (by omega)]; exact C, I, by rw [vu_k _ _ (by omega)]; exact AB1⟩
      obtain ⟨rc, fr⟩ := h1.put eσ S2 (by rw [vu_k _ _ (by omega)]; exact ab6)
      exact hz _ rc (F1.trans fr)
    · rw [if_neg (fun z => hb2 z.2)] at hz
      rw [if_neg hb2]
      exact ⟨fun c => absurd rfl c, fun _ => hz M h FRm.rf⟩
  · rw [if_neg (fun z => hb1 z.1)] at hz
    rw [if_neg hb1]
    exact ⟨fun _ => hz M h FRm.rf, fun c => absurd rfl c⟩
end RO
