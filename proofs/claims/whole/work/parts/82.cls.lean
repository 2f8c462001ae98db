def sv_val (p : Pg) (h : Nat) (wh : Int32) : Int32 := if wh = nI 0 then p (8 * h) else if wh = nI 1 then p (8 * h + 1) else p (8 * h + 4)
def W_ok (S : St) (p : Pg) (h n : Nat) : Nat → Bool
  | 0 => true
  | k + 1 => W_ok S p h n k && (!(decide (S.2.1 k = nI n)) || decide (sv_val p h (S.2.2.1 k) = S.2.2.2 k))
def W_all (B : Bd) (S : St) (p : Pg) (h : Nat) : Nat → Bool
  | 0 => true
  | n + 1 => W_all B S p h n && W_ok S (PT B (nI 63) n p) h n S.1
def msk (c : Nat → Bool) : Nat → Nat
  | 0 => 0
  | n + 1 => msk c n + (if c n = true then 2 ^ n else 0)
def s_which (B : Bd) (S : St) (p : Pg) : Int32 := nI (msk (fun h => W_all B S p h 10) (bd_nh B))
theorem msk_congr {c c' : Nat → Bool} : ∀ n, (∀ i, i < n → c i = c' i) → msk c n = msk c' n
  | 0, _ => rfl
  | n + 1, h => by
    show msk c n + (if c n = true then 2 ^ n else 0) = msk c' n + (if c' n = true then 2 ^ n else 0)
    rw [msk_congr n (fun i hi => h i (by omega)), h n (by omega)]
def m4 (b0 b1 b2 b3 : Bool) : Nat := (if b0 = true then 1 else 0) + (if b1 = true then 2 else 0) + (if b2 = true then 4 else 0) + (if b3 = true then 8 else 0)
theorem msk_4 (c : Nat → Bool) {n : Nat} (hn : n ≤ 4) : msk c n = m4 (decide (0 < n) && c 0) (decide (1 < n) && c 1) (decide (2 < n) && c 2) (decide (3 < n) && c 3) := by
  rcases (by omega : n = 0 ∨ n = 1 ∨ n = 2 ∨ n = 3 ∨ n = 4) with rfl | rfl | rfl | rfl | rfl <;> simp [msk, m4]
theorem clr4 : ∀ b0 b1 b2 b3 : Bool, ∀ h, h < 4 → nI (m4 b0 b1 b2 b3) &&& ((nI 1 <<< (nI h &&& nI 31)) ^^^ (-1)) = nI (m4 (if 0 = h then false else b0) (if 1 = h then false else b1) (if 2 = h then false else b2) (if 3 = h then false else b3)) := by decide +kernel
theorem msk_clr (c : Nat → Bool) {n h : Nat} (hn : n ≤ 4) (hh : h < n) : nI (msk c n) &&& ((nI 1 <<< (nI h &&& nI 31)) ^^^ (-1)) = nI (msk (fun i => if i = h then false else c i) n) := by
  rw [msk_4 c hn, clr4 _ _ _ _ h (by omega), msk_4 _ hn]
  have e : ∀ i : Nat, (if i = h then false else (decide (i < n) && c i)) = (decide (i < n) && (if i = h then false else c i)) := by
    intro i
    by_cases hi : i = h
    · rw [if_pos hi, if_pos hi, Bool.and_false]
    · rw [if_neg hi, if_neg hi]
  rw [e 0, e 1, e 2, e 3]
theorem msk_full : ∀ n, msk (fun _ => true) n = 2 ^ n - 1
  | 0 => rfl
  | n + 1 => by
    have := Nat.one_le_two_pow (n := n)
    show msk _ n + (if true = true then 2 ^ n else 0) = _
    rw [msk_full n, if_pos rfl, Nat.pow_succ]
    omega
theorem msk_lt (c : Nat → Bool) : ∀ n, msk c n < 2 ^ n
  | 0 => by show 0 < 1; omega
  | n + 1 => by
    have := msk_lt c n
    show msk c n + (if c n = true then 2 ^ n else 0) < 2 ^ (n + 1)
    rw [Nat.pow_succ]
    split <;> omega
theorem W_ok_f {S : St} {p : Pg} {h n i : Nat} : ∀ k, i < k → S.2.1 i = nI n → ¬ sv_val p h (S.2.2.1 i) = S.2.2.2 i → W_ok S p h n k = false
  | 0, hk, _, _ => absurd hk (by omega)
  | k + 1, hk, h1, h2 => by
    show (W_ok S p h n k && _) = false
    by_cases hi : i = k
    · subst hi; rw [decide_eq_true h1, decide_eq_false h2]; simp
    · rw [W_ok_f k (by omega) h1 h2, Bool.false_and]
section RO
variable {g : jv_G} {d : Nat} {M M' : jv_Mem} {Z : Option Value → jv_Mem → Nat → Prop} {T T' : Tt} {B : Bd} {p p' q : Pg} {U : Ut} {K : Kt} {S S' : St} {e e' : Int64} {ab pr : Int32} {σ : Nat}
theorem c_allow (h : RC M T B p U K S e) (hB : BV2 B) (hS : S.1 ≤ 6) (hσ : σ ∈ st_bases) (Q : SQ M σ B pr ab q) {n j : Nat} (hn : n < 10) (hj : j < bd_nh B) (hz : Z (some (.int (if W_ok S q j n S.1 = true then nI 1 else nI 0))) M 668) : jv_Ct g (d + 1) mt_G_allow [.ref 576, .int (nI n), .ref (σ + 19 + 2 * j)] M 668 0 0 Z := by
  have f60 := h.1.2.2.2.2.2.1.1
  have f61 := h.1.2.2.2.2.2.1.2.1
  have f62 := h.1.2.2.2.2.2.1.2.2
  obtain ⟨o7, o8⟩ := h.2.1.2.2.2.2.1
  have b4 := hB.1.2.1
  have X := (h.1.2.2.2.2.2.2 σ hσ).1
  obtain ⟨w0, w1, w2, w3, w4⟩ := Q.view
  obtain ⟨u1, u2, u3⟩ := w4 j hj (by omega)
  have l : ∀ k i, i + k = S.1 → W_ok S q j n i = true → jv_J g (d + 1) mt_G_allow 2 [some (.ref 576), some (.int (nI n)), some (.ref (σ + 19 + 2 * j)), some (.int (nI i))] [] M 668 0 0 Z := by
    intro k
    induction k with
    | zero =>
      intro i hi hw
      have hi : i = S.1 := by omega
      subst hi
      rw [hw, if_pos rfl] at hz
      refine b_G_allow_2 ⟨tg_576, ?_⟩
      rw [o7]
      exact ⟨fun _ => hz, fun c => absurd (nI_le (Nat.le_refl _) (by omega)) c⟩
    | succ k ih =>
      intro i hi hw
      obtain ⟨p1, p2, p3⟩ := o8 i (by omega)
      refine b_G_allow_2 ⟨tg_576, ?_⟩
      rw [o7]
      refine ⟨fun c => absurd ((nn_le (a := S.1) (n := i) (by omega) (by omega)).mp c) (by omega), fun _ => ⟨tg_576, 577, f60, tg_577, by rw [sl_577]; exact vp_in_nI (by omega) (by omega), ?_⟩⟩
      rw [nI_clamp (by omega), p1, li, nI_add]
      refine ⟨fun c => ih (i + 1) (by omega) ?_, fun c => ⟨tg_576, 578, f61, tg_578, by rw [sl_578]; exact vp_in_nI (by omega) (by omega), ?_⟩⟩
      · show (W_ok S q j n i && _) = true
        rw [hw, decide_eq_false c]; rfl
      · rw [p2]
        have fin : jv_ri (some (.int (sv_val q j (S.2.2.1 i)))) (fun r12 => jv_Tg 5 576 668 ∧ ∃ b15, M.2.1 576 2 = some b15 ∧ jv_Tg 11 b15 668 ∧ vp_in (nI i) (jv_sh b15).2 ∧ (r12 = M.1 b15 i → jv_J g (d + 1) mt_G_allow 2 [some (.ref 576), some (.int (nI n)), some (.ref (σ + 19 + 2 * j)), some (.int (nI (i + 1)))] [] M 668 0 0 Z) ∧ (¬ (r12 = M.1 b15 i) → Z (some (.int 0)) M 668)) := by
          refine jv_ri_i ⟨tg_576, 579, f62, tg_579, by rw [sl_579]; exact vp_in_nI (by omega) (by omega), ?_⟩
          rw [p3]
          refine ⟨fun c2 => ih (i + 1) (by omega) ?_, fun c2 => ?_⟩
          · show (W_ok S q j n i && _) = true
            rw [hw, decide_eq_true c2, Bool.or_true]; rfl
          · rw [W_ok_f S.1 (i := i) (by omega) c c2, if_neg (by decide)] at hz
            exact hz
        refine jv_ct rfl (Nat.le_of_ble_eq_true rfl) (b_G_seen_0 ?_)
        unfold sv_val at fin
        refine ⟨fun c2 => ⟨t_SH hσ (by omega), ?_⟩, fun c2 => ⟨t_SH hσ (by omega), ?_⟩, fun c2 => ⟨t_SH hσ (by omega), σ + 20 + 2 * j, X.2.2.2.2.2.2.2.2.2 j (by omega), t_SR hσ (by omega), by rw [l_SR hσ (by omega)]; exact vp_in_nI (n := 0) (by omega) (by omega), ?_⟩⟩
        · rw [if_pos (show S.2.2.1 i = nI 0 from c2)] at fin; rw [u1]; exact fin
        · rw [if_neg (by rw [show S.2.2.1 i = nI 1 from c2]; decide), if_pos (show S.2.2.1 i = nI 1 from c2)] at fin; rw [u2]; exact fin
        · rw [if_neg (show ¬ S.2.2.1 i = nI 0 from c2.1), if_neg (show ¬ S.2.2.1 i = nI 1 from c2.2)] at fin
          have : M.1 (σ + 20 + 2 * j) (Int32.toNatClampNeg 0) = q (8 * j + 4) := u3 0 (by omega)
          rw [this]; exact fin
  exact jv_ct rfl (Nat.le_of_ble_eq_true rfl) (b_G_allow_0 (l S.1 0 (by omega) rfl))
theorem R_which (h : RC M T B p U K S e) (hB : BV2 B) (hS : S.1 ≤ 6) (hz : ∀ M', RC M' T B p U K S e → FRm M M' → Z (some (.int (s_which B S p))) M' 668) : jv_Ct g (d + 9) mt_R_which [.ref 0] M 668 0 0 Z := by
  have h77 : 77 ∈ st_bases := by decide
  have h44 : 44 ∈ st_bases := by decide
  have t77 : jv_Tg 6 77 668 := t_S0 h77
  have f03 := h.1.1.2.2.2.1
  have f02 := h.1.1.2.2.1
  have b4 := hB.1.2.1
  unfold s_which at hz
  -- the harts of round n, from hart j on
  have l45 : ∀ n, n < 10 → (∀ M2, RC M2 T B p U K S e → EXC M M2 77 → SQ M2 77 B (nI 63) (nI 0) (PT B (nI 63) n p) → jv_J g (d + 9) mt_R_which 21 [some (.ref 0), some (.int (nI (msk (fun h => W_all B S p h (n + 1)) (bd_nh B)))), some (.int (nI (n + 1))), none] [] M2 668 0 0 Z) → ∀ k j M1 c, j + k = bd_nh B → (∀ i, c i = if i < j then W_all B S p i (n + 1) else W_all B S p i n) → RC M1 T B p U K S e → EXC M M1 77 → SQ M1 77 B (nI 63) (nI 0) (PT B (nI 63) n p) → jv_J g (d + 9) mt_R_which 45 [some (.ref 0), some (.int (nI (msk c (bd_nh B)))), some (.int (nI n)), some (.int (nI j))] [] M1 668 0 0 Z := by
    intro n hn nxt k
    induction k with
    | zero =>
      intro j M1 c hj hc h1 E1 Q1
      have hj : j = bd_nh B := by omega
      have g03 := h1.1.1.2.2.2.1
      refine b_R_which_45 ⟨tg_0, 77, g03, t77, ?_⟩
      rw [Q1.view.1]
      refine ⟨fun _ => ?_, fun z => absurd (nI_le (show bd_nh B ≤ j by omega) (by omega)) z⟩
      rw [li, nI_add, msk_congr (bd_nh B) (c' := fun h => W_all B S p h (n + 1)) (fun i hi => by rw [hc i, if_pos (by omega)])]
      exact nxt M1 h1 E1 Q1
    | succ k ih =>
      intro j M1 c hj hc h1 E1 Q1
      have g03 := h1.1.1.2.2.2.1
      have g07 := h1.1.1.2.2.2.2.2.2.2.1
      have X := (h1.1.2.2.2.2.2.2 77 h77).1
      refine b_R_which_45 ⟨tg_0, 77, g03, t77, ?_⟩
      rw [Q1.view.1]
      refine ⟨fun z => absurd ((nn_le (a := bd_nh B) (n := j) (by omega) (by omega)).mp z) (by omega), fun _ => ⟨tg_0, 576, g07, tg_0, 77, g03, t77, 77 + 16, X.2.2.1, t_S16 h77, by rw [l_S16 h77]; exact vp_in_nI (by omega) (by omega), 77 + 19 + 2 * j, by rw [nI_clamp (by omega)]; exact X.2.2.2.2.2.2.2.1 _ (by omega), tg_576, ?_⟩⟩
      refine c_allow h1 hB hS h77 Q1 hn (show j < bd_nh B by omega) (jv_ri_i ?_)
      rw [show (nI j + 1 : Int32) = nI (j + 1) from nI_add j 1]
      by_cases hw : W_ok S (PT B (nI 63) n p) j n S.1 = true
      · rw [if_pos hw]
        refine ⟨fun _ => ih (j + 1) M1 c (by omega) (fun i => ?_) h1 E1 Q1, fun z => absurd z (by decide)⟩
        rw [hc i]
        by_cases hij : i = j
        · subst hij
          rw [if_neg (by omega), if_pos (by omega)]
          show _ = (W_all B S p i n && _)
          rw [hw, Bool.and_true]
        · by_cases hlt : i < j
          · rw [if_pos hlt, if_pos (by omega)]
          · rw [if_neg hlt, if_neg (by omega)]
      · rw [if_neg hw]
        refine ⟨fun z => absurd rfl z, fun _ => ?_⟩
        have hcl := msk_clr c b4 (show j < bd_nh B by omega)
        have hcl2 : nI (msk c (bd_nh B)) &&& ((1 <<< (nI j &&& 31)) ^^^ (-1)) = nI (msk (fun i => if i = j then false else c i) (bd_nh B)) := hcl
        rw [hcl2]
        refine ih (j + 1) M1 _ (by omega) (fun i => ?_) h1 E1 Q1
        show (if i = j then false else c i) = _
        by_cases hij : i = j
        · subst hij
          rw [if_pos rfl, if_pos (by omega)]
          show _ = (W_all B S p i n && _)
          rw [Bool.not_eq_true] at hw
          rw [hw, Bool.and_false]
        · rw [if_neg hij, hc i]
          by_cases hlt : i < j
          · rw [if_pos hlt, if_pos (by omega)]
          · rw [if_neg hlt, if_neg (by omega)]
  -- the rounds from n on, the trial behind n - 1 ticks
  have l21 : ∀ k n M1, n + k = 10 → 1 ≤ n → RC M1 T B p U K S e → EXC M M1 77 → SQ M1 77 B (nI 63) (nI 0) (PT B (nI 63) (n - 1) p) → jv_J g (d + 9) mt_R_which 21 [some (.ref 0), some (.int (nI (msk (fun h => W_all B S p h n) (bd_nh B)))), some (.int (nI n)), none] [] M1 668 0 0 Z := by
    intro k
    induction k with
    | zero =>
      intro n M1 hn h1n h1 E1 Q1
      have hn : n = 10 := by omega
      subst hn
      exact b_R_which_21 ⟨fun _ => hz M1 h1 (E1.frm h77), fun z => absurd ((nn_lt (a := 9) (n := 10) (by omega) (by omega)).mpr (by omega)) z⟩
    | succ k ih =>
      intro n M1 hn h1n h1 E1 Q1
      have g03 := h1.1.1.2.2.2.1
      have g01 := h1.1.1.2.1
      refine b_R_which_21 ⟨fun z => absurd ((nn_lt (a := 9) (n := n) (by omega) (by omega)).mp z) (by omega), fun _ => ⟨fun z => absurd ((nn_le (a := n) (n := 0) (by omega) (by omega)).mp z) (by omega), fun _ => ⟨tg_0, 77, g03, tg_0, 40, g01, t77, ?_⟩⟩⟩
      refine q_pass h1.1 h1.prg hB h77 Q1 (show 1 < 1000 by omega) (fun M2 E2 Q2 => jv_rv_i ?_)
      have Q2' : SQ M2 77 B (nI 63) (nI 0) (PT B (nI 63) n p) := by
        obtain ⟨n', rfl⟩ : ∃ n', n = n' + 1 := ⟨n - 1, by omega⟩
        rw [PT_succ]
        exact Q2
      exact l45 n (by omega) (fun M3 h3 E3 Q3 => ih (n + 1) M3 (by omega) (by omega) h3 E3 (by rw [Nat.add_sub_cancel]; exact Q3)) (bd_nh B) 0 M2 _ (by omega) (fun i => by rw [if_neg (by omega)]) (h1.trial E2) (E1.trans E2) Q2'
  refine jv_ct rfl (Nat.le_of_ble_eq_true rfl) (b_R_which_0 ⟨tg_0, 44, f02, t_S0 h44, c_everyHart h.nh.1 hB h44 (jv_ri_i ⟨tg_0, 77, f03, tg_0, 44, f02, t77, c_trial h hB (fun M1 E1 Q1 => jv_rv_i ?_)⟩)⟩)
  rw [← msk_full]
  refine b_R_which_21 ⟨fun z => absurd ((nn_lt (a := 9) (n := 0) (by omega) (by omega)).mp z) (by omega), fun _ => ⟨fun _ => ?_, fun z => absurd ((nn_le (a := 0) (n := 0) (by omega) (by omega)).mpr (by omega)) z⟩⟩
  exact l45 0 (by omega) (fun M3 h3 E3 Q3 => l21 9 1 M3 (by omega) (by omega) h3 E3 Q3) (bd_nh B) 0 M1 _ (by omega) (fun i => by rw [if_neg (by omega)]; rfl) (h.trial E1) E1 Q1
end RO
/-! drawn orders -/
def d_next (e : Int64) : Int64 := e * 6364136223846793005 + 1442695040888963407
def d_v (e : Int64) : Nat := e.toUInt64.toNat / 2 ^ 33
def d_step (B : Bd) (s : Int64 × Pg × Nat) : Int64 × Pg × Nat :=
  if bd_nh B = 0 then (d_next s.1, s.2.1, s.2.2) else
    (d_next s.1, (P_tick B (nI 63) (if nx (s.2.1 80) < 8 then P_send s.2.1 (nI (d_v (d_next s.1) % 3)) (nI (d_v (d_next s.1) / 4 % bd_nh B)) (nI 0) (nI 0) else s.2.1)).1,
     s.2.2 + ones (P_hset (P_tick B (nI 63) (if nx (s.2.1 80) < 8 then P_send s.2.1 (nI (d_v (d_next s.1) % 3)) (nI (d_v (d_next s.1) / 4 % bd_nh B)) (nI 0) (nI 0) else s.2.1)).1 (bd_nh B)))
def d_run (B : Bd) (n : Nat) (s : Int64 × Pg × Nat) : Int64 × Pg × Nat := itN (fun _ s => d_step B s) n s
def s_drawn (B : Bd) (p : Pg) (e : Int64) (x : Int32) : Int32 × Int64 := if br x 1 20 = true then (nI (d_run B (nx x) (e, p, 0)).2.2, (d_run B (nx x) (e, p, 0)).1) else (-2, e)
theorem d_v_lt (e : Int64) : d_v e < 2 ^ 31 := by
  unfold d_v
  have := e.toUInt64.toNat_lt
  omega
theorem d_v_eq (e : Int64) : Int64.toInt32 ((e.toUInt64 >>> ((33 : Int32).toInt64.toUInt64 &&& Int64.toUInt64 63)).toInt64) = nI (d_v e) := by
  have h1 : ((33 : Int32).toInt64.toUInt64 &&& Int64.toUInt64 63) = 33 := by decide +kernel
  rw [h1]
  have h2 : e.toUInt64 >>> 33 = UInt64.ofNat (d_v e) := by
    apply UInt64.toNat_inj.mp
    rw [UInt64.toNat_shiftRight]
    have := d_v_lt e
    have e33 : (33 : UInt64).toNat % 64 = 33 := rfl
    rw [e33]
    have e2 : (UInt64.ofNat (d_v e)).toNat = d_v e := by
      show d_v e % 2 ^ 64 = d_v e
      exact Nat.mod_eq_of_lt (by omega)
    rw [e2, Nat.shiftRight_eq_div_pow]
    rfl
  rw [h2]
  have h3 : (UInt64.ofNat (d_v e)).toInt64 = lN (d_v e) := rfl
  rw [h3, lN_i]
theorem itN_succ {α : Type} (f : α → α) : ∀ (n : Nat) (a : α), itN (fun _ s => f s) (n + 1) a = itN (fun _ s => f s) n (f a)
  | 0, _ => rfl
  | n + 1, a => by
    show f (itN _ (n + 1) a) = f (itN _ n (f a))
    rw [itN_succ f n a]
theorem d_run_bound (B : Bd) (hB : BV2 B) : ∀ n s, (d_run B n s).2.2 ≤ s.2.2 + 8 * n
  | 0, s => Nat.le_refl _
  | n + 1, s => by
    show (d_step B (d_run B n s)).2.2 ≤ _
    have := d_run_bound B hB n s
    unfold d_step
    split
    · show (d_run B n s).2.2 ≤ _; omega
    · show (d_run B n s).2.2 + ones _ ≤ _
      have h2 := pcn_le ((P_hset (P_tick B (nI 63) (if nx ((d_run B n s).2.1 80) < 8 then P_send (d_run B n s).2.1 (nI (d_v (d_next (d_run B n s).1) % 3)) (nI (d_v (d_next (d_run B n s).1) / 4 % bd_nh B)) (nI 0) (nI 0) else (d_run B n s).2.1)).1 (bd_nh B)).toNatClampNeg) 8
      unfold ones
      omega
theorem d_send_OK {B : Bd} {p : Pg} (P : POA B 8 p) (hB : BV2 B) (v : Nat) (h0 : bd_nh B ≠ 0) : POA B 8 (if nx (p 80) < 8 then P_send p (nI (v % 3)) (nI (v / 4 % bd_nh B)) (nI 0) (nI 0) else p) ∧ ∀ j, 165 ≤ j → (if nx (p 80) < 8 then P_send p (nI (v % 3)) (nI (v / 4 % bd_nh B)) (nI 0) (nI 0) else p) j = p j := by
  split
  · rename_i h8
    exact P_send_OK P hB h8 (by omega) (Nat.mod_lt _ (by omega)) (by omega) (by omega)
  · exact ⟨P, fun _ _ => rfl⟩
theorem d_step_OK {B : Bd} {s : Int64 × Pg × Nat} (P : POA B 8 s.2.1) (hB : BV2 B) : POA B 8 (d_step B s).2.1 ∧ ∀ j, 165 ≤ j → (d_step B s).2.1 j = s.2.1 j := by
  unfold d_step
  split
  · exact ⟨P, fun _ _ => rfl⟩
  · rename_i h0
    obtain ⟨q1, q2⟩ := d_send_OK P hB (d_v (d_next s.1)) h0
    exact ⟨P_tick_OK q1 hB _, fun j hj => (P_tick_hi q1 hB _ hj).trans (q2 j hj)⟩
section RO
variable {g : jv_G} {d : Nat} {M M' : jv_Mem} {Z : Option Value → jv_Mem → Nat → Prop} {T T' : Tt} {B : Bd} {p p' q : Pg} {U : Ut} {K : Kt} {S S' : St} {e e' : Int64} {ab pr : Int32} {σ : Nat}
theorem RC.sl (h : RC M T B p U K S e) (l : Int64) : RC (jv_sl M 0 l) T B p U K S l ∧ FRm M (jv_sl M 0 l) := by
  obtain ⟨⟨o1, o2⟩, ⟨o3, o4⟩, o5, o6, ⟨o7, o8⟩, o9⟩ := h.2.1
  have n2 : NS M (jv_sl M 0 l) := ⟨fun _ _ _ => rfl, rfl, fun b hb => by show (if b = 0 then l else _) = _; rw [if_neg hb]⟩
  exact ⟨h.ns n2 rfl ⟨⟨o1, o2⟩, ⟨o3, o4⟩, o5, o6, ⟨o7, o8⟩, by show (if (0 : Nat) = 0 then l else M.2.2 0) = l; rw [if_pos rfl]⟩, n2.frm⟩
theorem R_drawn (h : RC M T B p U K S e) (hB : BV2 B) (P8 : POA B 8 p) {x : Int32} (hz : ∀ M', RC M' T B p U K S (s_drawn B p e x).2 → FRm M M' → Z (some (.int (s_drawn B p e x).1)) M' 668) : jv_Ct g (d + 9) mt_R_drawn [.ref 0, .int x] M 668 0 0 Z := by
  have h77 : 77 ∈ st_bases := by decide
  have t77 : jv_Tg 6 77 668 := t_S0 h77
  have f03 := h.1.1.2.2.2.1
  have f02 := h.1.1.2.2.1
  have b4 := hB.1.2.1
  unfold s_drawn at hz
  refine jv_ct rfl (Nat.le_of_ble_eq_true rfl) (b_R_drawn_0 ?_)
  by_cases hb : br x 1 20 = true
  · rw [if_pos hb] at hz
    obtain ⟨n, hn1, hn2, ex⟩ := br_of hb (by omega)
    subst ex
    rw [nx_n (by omega)] at hz
    refine ⟨fun c => absurd ((nn_lt (a := n) (n := 1) (by omega) (by omega)).mp c) (by omega), fun _ => ⟨fun _ => ⟨tg_0, 77, f03, tg_0, 44, f02, t77, c_trial h hB (fun M1 E1 Q1 => jv_rv_i ?_)⟩, fun c => absurd ((nn_le (a := n) (n := 20) (by omega) (by omega)).mpr (by omega)) c⟩⟩
    have l : ∀ k i M2 s, i + k = n → d_run B n (e, p, 0) = d_run B k s → s.2.2 ≤ 8 * i → POA B 8 s.2.1 → RC M2 T B p U K S s.1 → FRm M M2 → SQ M2 77 B (nI 63) (nI 0) s.2.1 → jv_J g (d + 9) mt_R_drawn 29 [some (.ref 0), some (.int (nI n)), some (.int (nI s.2.2)), some (.int (nI i)), none] [] M2 668 0 0 Z := by
      intro k
      induction k with
      | zero =>
        intro i M2 s hi er hs P2 h2 F2 Q2
        rw [er] at hz
        exact b_R_drawn_29 ⟨fun _ => hz M2 h2 F2, fun c => absurd (nI_le (show n ≤ i by omega) (by omega)) c⟩
      | succ k ih =>
        intro i M2 s hi er hs P2 h2 F2 Q2
        have er2 : d_run B n (e, p, 0) = d_run B k (d_step B s) := by rw [er]; exact itN_succ (d_step B) k s
        have hse : M2.2.2 0 = s.1 := h2.2.1.2.2.2.2.2
        have hen : M2.2.2 0 * 6364136223846793005 + 1442695040888963407 = d_next s.1 := by rw [hse]; rfl
        obtain ⟨h3, F3⟩ := h2.sl (d_next s.1)
        have Q3 : SQ (jv_sl M2 0 (d_next s.1)) 77 B (nI 63) (nI 0) s.2.1 := Q2.congr (fun _ _ _ => rfl) (fun _ => rfl)
        have k03 := h3.1.1.2.2.2.1
        have X := (h3.1.2.2.2.2.2.2 77 h77).1
        obtain ⟨w0, w1, -⟩ := Q3.view
        obtain ⟨m, hm, Pm, Am⟩ := id P2
        have e80 := Pm.p80
        have hl0 : (jv_sl M2 0 (d_next s.1)).2.2 0 = d_next s.1 := h3.2.1.2.2.2.2.2
        refine b_R_drawn_29 ⟨fun c => absurd ((nn_le (a := n) (n := i) (by omega) (by omega)).mp c) (by omega), fun _ => ?_⟩
        rw [hen]
        refine ⟨tg_0, tg_0, tg_0, 77, k03, t77, ?_⟩
        rw [w0]
        refine ⟨fun c => ?_, fun c => ?_⟩
        · have c := (nn_le (a := bd_nh B) (n := 0) (by omega) (by omega)).mp c
          have es : d_step B s = (d_next s.1, s.2.1, s.2.2) := by unfold d_step; rw [if_pos (by omega)]
          rw [es] at er2
          rw [show (nI i + 1 : Int32) = nI (i + 1) from nI_add i 1]
          exact ih (i + 1) _ (d_next s.1, s.2.1, s.2.2) (by omega) er2 (show s.2.2 ≤ 8 * (i + 1) by omega) P2 h3 (F2.trans F3) Q3
        · have c : ¬ bd_nh B ≤ 0 := fun z => c ((nn_le (a := bd_nh B) (n := 0) (by omega) (by omega)).mpr z)
          obtain ⟨pv, epv⟩ : ∃ pv, pv = (if nx (s.2.1 80) < 8 then P_send s.2.1 (nI (d_v (d_next s.1) % 3)) (nI (d_v (d_next s.1) / 4 % bd_nh B)) (nI 0) (nI 0) else s.2.1) := ⟨_, rfl⟩
          have es : d_step B s = (d_next s.1, (P_tick B (nI 63) pv).1, s.2.2 + ones (P_hset (P_tick B (nI 63) pv).1 (bd_nh B))) := by unfold d_step; rw [if_neg (by omega), epv]
          rw [es] at er2
          have Pv : POA B 8 pv := by rw [epv]; exact (d_send_OK P2 hB _ (by omega)).1
          have l113 : ∀ M4, RC M4 T B p U K S (d_next s.1) → FRm M M4 → SQ M4 77 B (nI 63) (nI 0) pv → jv_J g (d + 9) mt_R_drawn 113 [some (.ref 0), some (.int (nI n)), some (.int (nI s.2.2)), some (.int (nI i)), none] [] M4 668 0 0 Z := by
            intro M4 h4 F4 Q4
            have l03 := h4.1.1.2.2.2.1
            have l01 := h4.1.1.2.1
            refine b_R_drawn_113 ⟨tg_0, 77, l03, tg_0, 40, l01, t77, ?_⟩
            refine q_pass h4.1 h4.prg hB h77 Q4 (show 1 < 1000 by omega) (fun M5 E5 Q5 => jv_rv_i ?_)
            have h5 := h4.trial E5
            refine ⟨tg_0, 77, h5.1.1.2.2.2.1, t77, q_hcount h5.1 hB h77 Q5 (jv_ri_i ?_)⟩
            rw [nI_add, show (nI i + 1 : Int32) = nI (i + 1) from nI_add i 1]
            have ho := pcn_le ((P_hset (P_tick B (nI 63) pv).1 (bd_nh B)).toNatClampNeg) 8
            refine ih (i + 1) M5 (d_next s.1, (P_tick B (nI 63) pv).1, s.2.2 + ones (P_hset (P_tick B (nI 63) pv).1 (bd_nh B))) (by omega) er2 ?_ (P_tick_OK Pv hB _) h5 (F4.trans (E5.frm h77)) Q5
            show s.2.2 + ones _ ≤ 8 * (i + 1)
            unfold ones
            omega
          refine ⟨tg_0, tg_0, 77, k03, t77, 77 + 1, X.2.1, t_S1 h77, ?_⟩
          rw [w1, e80]
          refine ⟨fun c8 => l113 _ h3 (F2.trans F3) ?_, fun c8 => ?_⟩
          · have c8 := (nn_le (a := 8) (n := m) (by omega) (by omega)).mp c8
            rw [epv, e80, nx_n (by omega), if_neg (by omega)]
            exact Q3
          · have c8 : ¬ 8 ≤ m := fun z => c8 ((nn_le (a := 8) (n := m) (by omega) (by omega)).mpr z)
            refine ⟨tg_0, 77, k03, t77, 77 + 1, X.2.1, tg_0, 77, k03, t77, ?_, t_S1 h77, ?_⟩
            · rw [w0]
              intro z
              have := (nn_eq (a := bd_nh B) (n := 0) (by omega) (by omega)).mp z
              omega
            · have hdv := d_v_lt (d_next s.1)
              have hmod : (d_v (d_next s.1) / 4) % bd_nh B < bd_nh B := Nat.mod_lt _ (by omega)
              rw [hl0, d_v_eq, w0]
              have a1 : nI (d_v (d_next s.1)) - nI (d_v (d_next s.1)) / 3 * 3 = nI (d_v (d_next s.1) % 3) := pk_rem (d := 3) hdv (by omega) (by omega)
              have a2 : nI (d_v (d_next s.1)) / 4 = nI (d_v (d_next s.1) / 4) := pk_div (d := 4) hdv (by omega) (by omega)
              rw [a1, a2, pk_rem (by omega) (by omega) (by omega)]
              refine q_accept h3.1 hB h77 Q3 e80 (by omega) (show d_v (d_next s.1) % 3 ≤ 5 by omega) hmod (show 0 < 4 by omega) (show 0 < 1000 by omega) (fun M4 E4 Q4 => jv_rv_i (l113 M4 (h3.trial E4) ((F2.trans F3).trans (E4.frm h77)) ?_))
              rw [epv, e80, nx_n (by omega), if_pos (by omega)]
              exact Q4
    exact l n 0 M1 (e, p, 0) (by omega) rfl (Nat.le_refl 0) P8 (h.trial E1) (E1.frm h77) Q1
  · rw [if_neg hb] at hz
    have hf : ¬ (((1 : Nat) : Int) ≤ x.toInt ∧ x.toInt ≤ ((20 : Nat) : Int)) := fun z => hb (decide_eq_true z)
    refine ⟨fun _ => hz M h FRm.rf, fun c => ⟨fun c2 => ?_, fun _ => hz M h FRm.rf⟩⟩
    exfalso
    have c' : ¬ x < nI 1 := c
    have c2' : x ≤ nI 20 := c2
    rw [nlt (by omega)] at c'
    rw [nle (by omega)] at c2'
    omega
end RO
