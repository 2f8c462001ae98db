/-! ===== the reference's calls: judge, which, drawn ===== -/
section MC
variable {g : jv_G} {d : Nat} {M M' : jv_Mem} {Z : Option Value → jv_Mem → Nat → Prop} {N : Nat} {T T' : Tt} {B : Bd} {p p' q : Pg} {U U' : Ut} {K K' : Kt} {S S' : St} {e e' : Int64} {D : Dt} {a : Nat} {f : Pg}
theorem c_longPower {a n : Nat} (hn : n < 20) (hz : Z (some (.long (lN (a ^ n)))) M N) : jv_Ct g d mt_M_longPower [.long (lN a), .int (nI n)] M N 0 0 Z := by
  have l : ∀ k i, i + k = n → jv_J g d mt_M_longPower 5 [some (.long (lN a)), none, some (.int (nI n)), some (.long (lN (a ^ i))), none, some (.int (nI i))] [] M N 0 0 Z := by
    intro k
    induction k with
    | zero =>
      intro i hi
      have hi : i = n := by omega
      subst hi
      refine b_M_longPower_5 ⟨fun _ => hz, fun c => absurd (nI_le (Nat.le_refl _) (by omega)) c⟩
    | succ k ih =>
      intro i hi
      refine b_M_longPower_5 ⟨fun c => absurd ((nn_le (a := n) (n := i) (by omega) (by omega)).mp c) (by omega), fun _ => ?_⟩
      rw [lN_mul, li, nI_add]
      exact ih (i + 1) (by omega)
  exact jv_ct rfl (Nat.le_of_ble_eq_true rfl) (b_M_longPower_0 (l n 0 (by omega)))
theorem c_does (h : RM M T B p U K S e D) (hB : BV2 B) (P8 : POA B 8 (M.1 659)) {s : Nat} (hs : s < 1000000) (hz0 : P_does B (M.1 659) s = none → ∀ M', SCR M M' → Z (some (.int (nI 0))) M' 668) (hz1 : ∀ q', P_does B (M.1 659) s = some q' → ∀ M', SCR M M' → M'.1 659 = q' → Z (some (.int (nI 1))) M' 668) : jv_Ct g (d + 6) mt_M_does [.ref 647, .int (nI s)] M 668 0 0 Z := by
  have b4 := hB.1.2.1
  obtain ⟨q, eq⟩ : ∃ q, q = M.1 659 := ⟨_, rfl⟩
  rw [← eq] at P8 hz0 hz1
  have e9 : M.1 659 = q := eq.symm
  obtain ⟨m, hm, Pm, Am⟩ := id P8
  have e80 := Pm.p80
  have no : P_does B q s = none → Z (some (.int (nI 0))) M 668 := fun hn => hz0 hn M SCR.rf
  have yes : P_does B q s = some q → Z (some (.int (nI 1))) M 668 := fun hn => hz1 q hn M SCR.rf e9
  have nh := h.1.2.2.1
  have r := h.1.1
  refine jv_ct rfl (Nat.le_of_ble_eq_true rfl) (b_M_does_0 ?_)
  simp (disch := omega) only [li, ne_eq, pk_div, pk_mul, rm2, nI_add, nn_eq, nn_le, nn_lt, nh, r, mr_20, tg_m, tg_659, sl_659, vin, nI_clamp, true_and, Option.some.injEq, exists_eq_left', e9, e80]
  refine ⟨fun c => ⟨fun c1 => no ?_, fun c1 => ⟨fun c2 => ?_, fun c2 => no ?_⟩⟩, fun c => ⟨fun c1 => no ?_, fun c1 => ⟨fun c2 => no ?_, fun c2 => ⟨fun c3 => no ?_, fun c3 => ⟨fun c4 => ?_, fun c4 => no ?_⟩⟩⟩⟩, fun c => ⟨fun c1 => no ?_, fun c1 => ⟨fun c2 => no ?_, fun c2 => ⟨fun c3 => no ?_, fun c3 => ⟨fun c4 => no ?_, fun c4 => yes ?_⟩⟩⟩⟩, fun c => ⟨fun c1 => no ?_, fun c1 => ⟨fun c2 => no ?_, fun c2 => ⟨fun c4 => no ?_, fun c4 => yes ?_⟩⟩⟩, fun c => ⟨fun c1 => no ?_, fun c1 => ⟨fun c2 => no ?_, fun c2 => ⟨fun c4 => no ?_, fun c4 => yes ?_⟩⟩⟩, fun c => ⟨fun c1 => no ?_, fun c1 => ⟨fun c2 => no ?_, fun c2 => ⟨fun c4 => no ?_, fun c4 => yes ?_⟩⟩⟩, fun c => ⟨fun c1 => no ?_, fun c1 => ⟨fun c2 => no ?_, fun c2 => ⟨fun c4 => no ?_, fun c4 => yes ?_⟩⟩⟩, fun c => no ?_⟩
  · unfold P_does; rw [if_pos c, if_pos (by omega)]
  · rw [Nat.mul_comm 10 (s / 10000 % 10)]
    refine q_tm h hB (Or.inl rfl) (by rw [e9]; exact P8.le (by omega)) (by omega) (fun M6 E6 e6 => jv_rv_i (hz1 _ ?_ M6 E6 e6))
    rw [e9]
    unfold P_does; rw [if_pos c, if_neg (by omega)]
  · unfold P_does; rw [if_pos c, if_pos (by omega)]
  · unfold P_does; rw [if_neg (by omega), if_pos c, if_pos (by omega)]
  · unfold P_does; rw [if_neg (by omega), if_pos c, if_pos (by omega)]
  · unfold P_does; rw [if_neg (by omega), if_pos c, if_pos (by omega)]
  · refine q_so (Or.inl rfl) (m := m) (by rw [e9]; exact e80) (by omega) (fun M6 E6 e6 => jv_rv_i (hz1 _ ?_ M6 E6 e6))
    rw [e9]
    unfold P_does; rw [if_neg (by omega), if_pos c, e80, nx_n (by omega), if_neg (by omega)]
  · unfold P_does; rw [if_neg (by omega), if_pos c, e80, nx_n (by omega), if_pos (by omega)]
  · unfold P_does; rw [if_neg (by omega), if_neg (by omega), if_pos c, if_neg (by omega)]
  · obtain ⟨-, ⟨n, hn, en⟩, -⟩ := Pm.hartp (h := s / 10000 % 10) (by omega)
    unfold P_does; rw [if_neg (by omega), if_neg (by omega), if_pos c, if_neg (fun z => ?_)]
    have z2 := z.2.2
    rw [en] at z2
    have := nI_inj (by omega) (by omega) z2
    omega
  · unfold P_does; rw [if_neg (by omega), if_neg (by omega), if_pos c, if_neg (by omega)]
  · unfold P_does; rw [if_neg (by omega), if_neg (by omega), if_pos c, if_neg (fun z => c4 z.2.2)]
  · unfold P_does; rw [if_neg (by omega), if_neg (by omega), if_pos c, if_pos ⟨by omega, c3, c4⟩]
  · unfold P_does; rw [if_neg (by omega), if_neg (by omega), if_neg (by omega), if_pos c, if_neg (by omega)]
  · unfold P_does; rw [if_neg (by omega), if_neg (by omega), if_neg (by omega), if_pos c, if_neg (by omega)]
  · unfold P_does; rw [if_neg (by omega), if_neg (by omega), if_neg (by omega), if_pos c, if_neg (fun z => c4 z.2.2)]
  · unfold P_does; rw [if_neg (by omega), if_neg (by omega), if_neg (by omega), if_pos c, if_pos ⟨by omega, by omega, c4⟩]
  · unfold P_does; rw [if_neg (by omega), if_neg (by omega), if_neg (by omega), if_neg (by omega), if_pos c, if_neg (by omega)]
  · unfold P_does; rw [if_neg (by omega), if_neg (by omega), if_neg (by omega), if_neg (by omega), if_pos c, if_neg (by omega)]
  · unfold P_does; rw [if_neg (by omega), if_neg (by omega), if_neg (by omega), if_neg (by omega), if_pos c, if_neg (fun z => c4 z.2.2)]
  · unfold P_does; rw [if_neg (by omega), if_neg (by omega), if_neg (by omega), if_neg (by omega), if_pos c, if_pos ⟨by omega, c2, c4⟩]
  · unfold P_does; rw [if_neg (by omega), if_neg (by omega), if_neg (by omega), if_neg (by omega), if_neg (by omega), if_pos c, if_neg (by omega)]
  · unfold P_does; rw [if_neg (by omega), if_neg (by omega), if_neg (by omega), if_neg (by omega), if_neg (by omega), if_pos c, if_neg (by omega)]
  · unfold P_does; rw [if_neg (by omega), if_neg (by omega), if_neg (by omega), if_neg (by omega), if_neg (by omega), if_pos c, if_neg (fun z => c4 z.2.2)]
  · unfold P_does; rw [if_neg (by omega), if_neg (by omega), if_neg (by omega), if_neg (by omega), if_neg (by omega), if_pos c, if_pos ⟨c1, c2, c4⟩]
  · unfold P_does; rw [if_neg (by omega), if_neg (by omega), if_neg (by omega), if_neg (by omega), if_neg (by omega), if_neg (by omega), if_pos c, if_neg (by omega)]
  · unfold P_does; rw [if_neg (by omega), if_neg (by omega), if_neg (by omega), if_neg (by omega), if_neg (by omega), if_neg (by omega), if_pos c, if_neg (fun z => c2 z.2.1)]
  · rw [Nat.mul_comm 10 (s / 1000 % 10)] at c4
    unfold P_does; rw [if_neg (by omega), if_neg (by omega), if_neg (by omega), if_neg (by omega), if_neg (by omega), if_neg (by omega), if_pos c, if_neg (fun z => c4 z.2.2)]
  · rw [Nat.mul_comm 10 (s / 1000 % 10)] at c4
    unfold P_does; rw [if_neg (by omega), if_neg (by omega), if_neg (by omega), if_neg (by omega), if_neg (by omega), if_neg (by omega), if_pos c, if_pos ⟨by omega, c2, c4⟩]
  · unfold P_does; rw [if_neg c.1, if_neg c.2.1, if_neg c.2.2.1, if_neg c.2.2.2.1, if_neg c.2.2.2.2.1, if_neg c.2.2.2.2.2.1, if_neg c.2.2.2.2.2.2]
theorem M_judge (h : RM M T B p U K S e D) (hB : BV2 B) (P8 : POA B 8 p) (hp : PZ p) {x : Int32} {l : Int64} (hz : ∀ M', RM M' T B p U K S e D → FRc M M' → Z (some (.int (s_judge B p x l))) M' 668) : jv_Ct g (d + 9) mt_M_judge [.ref 647, .int x, .long l] M 668 0 0 Z := by
  unfold s_judge at hz
  have h3 := h.t0 0
  have F3 : FRc M (jv_si M 647 0 0) := FRc.si (by omega)
  refine jv_ct rfl (Nat.le_of_ble_eq_true rfl) (b_M_judge_0 ⟨tg_m, ?_⟩)
  generalize jv_si M 647 0 0 = M3 at h3 F3 ⊢
  refine c_in2 1 3 rfl rfl (by omega) (by omega) (fun hb => jv_ri_i (re1 ?_)) (fun hb => jv_ri_i (re0 ?_))
  · obtain ⟨n, hn1, hn2, ex⟩ := br_of hb (by omega)
    subst ex
    rw [nx_n (by omega)] at hz
    have hpw : 1000000 ^ n < 2 ^ 63 := by
      rcases (by omega : n = 1 ∨ n = 2 ∨ n = 3) with rfl | rfl | rfl <;> decide
    have hpos0 : 0 < 1000000 ^ n := Nat.pow_pos (by omega)
    refine c_longPower (a := 1000000) (n := n) (by omega) (jv_rl_i ?_)
    have hsub : lN (1000000 ^ n) - 1 = lN (1000000 ^ n - 1) := lN_sub (a := 1000000 ^ n) (b := 1) hpos0
    rw [hsub]
    have e0 : (0 : Int64).toInt = 0 := rfl
    have eP : (lN (1000000 ^ n - 1)).toInt = ((1000000 ^ n - 1 : Nat) : Int) := pk_lT (by omega)
    refine c_in0 (fun c => jv_ri_i (rn1 ?_)) (fun c => jv_ri_i (rn0 ?_))
    · rw [e0, eP] at c
      obtain ⟨r, hr, er⟩ := pk_lOf (x := l) (fun z => by have := Int64.lt_iff_toInt_lt.mp z; rw [e0] at this; omega)
      subst er
      rw [pk_lT hr] at c
      rw [pk_lT hr, Int.toNat_natCast, if_pos ⟨hb, by omega, by omega⟩] at hz
      refine ⟨tg_m, 659, (h3.1.1 20).trans mr_20, tg_m, 658, (h3.1.1 19).trans mr_19, q_lay h3 hp (Or.inl rfl) (fun M4 E4 e4 => jv_rv_i ?_)⟩
      have go : ∀ k i M2, i + k = n → SCR M3 M2 → POA B 8 (M2.1 659) → J_run B n r n 0 p = J_run B n r k i (M2.1 659) → jv_J g (d + 9) mt_M_judge 51 [some (.ref 647), some (.int (nI n)), some (.long (lN r)), none, some (.int (nI i))] [] M2 668 0 0 Z := by
        intro k
        induction k with
        | zero =>
          intro i M2 hi E2 P2 ej
          have hi : i = n := by omega
          subst hi
          rw [ej] at hz
          exact b_M_judge_51 ⟨fun _ => hz M2 (h3.scr E2) (F3.trans E2.frc), fun c => absurd (nI_le (Nat.le_refl _) (by omega)) c⟩
        | succ k ih =>
          intro i M2 hi E2 P2 ej
          have h2 := h3.scr E2
          have hpi : 1000000 ^ (n - 1 - i) < 2 ^ 63 := Nat.lt_of_le_of_lt (Nat.pow_le_pow_right (by omega) (by omega)) hpw
          have hpos : 0 < 1000000 ^ (n - 1 - i) := Nat.pow_pos (by omega)
          refine b_M_judge_51 ⟨fun c => absurd ((nn_le (a := n) (n := i) (by omega) (by omega)).mp c) (by omega), fun _ => ?_⟩
          have ee : (nI n - 1 - nI i : Int32) = nI (n - 1 - i) := by
            rw [show (nI n - 1 : Int32) = nI (n - 1) from pk_sub (a := n) (b := 1) (by omega), pk_sub (by omega)]
          rw [ee]
          refine c_longPower (a := 1000000) (by omega) (jv_rl_i ⟨fun z => ?_, tg_m, ?_⟩)
          · have := (pk_lEQ hpi (show 0 < 2 ^ 63 by omega)).mp z
            omega
          · have hst : (Int64.toInt32 ((lN r / lN (1000000 ^ (n - 1 - i))) - (lN r / lN (1000000 ^ (n - 1 - i))) / 1000000 * 1000000)) = nI (r / 1000000 ^ (n - 1 - i) % 1000000) := by
              rw [pk_lDiv hr hpos hpi]
              have := pk_lRem (a := r / 1000000 ^ (n - 1 - i)) (b := 1000000) (Nat.lt_of_le_of_lt (Nat.div_le_self _ _) hr) (by omega) (by omega)
              exact (congrArg Int64.toInt32 this).trans (lN_i _)
            rw [hst]
            have ej2 : J_run B n r (k + 1) i (M2.1 659) = match P_does B (M2.1 659) (r / 1000000 ^ (n - 1 - i) % 1000000) with | none => nI i | some p' => J_run B n r k (i + 1) p' := rfl
            refine c_does h2 hB P2 (Nat.mod_lt _ (by omega)) (fun hn M5 E5 => jv_ri_i (rn0 ?_)) (fun q' hq M5 E5 e5 => jv_ri_i (rn1 ?_))
            · rw [ej, ej2, hn] at hz
              exact hz M5 (h2.scr E5) ((F3.trans E2.frc).trans E5.frc)
            · rw [show (nI i + 1 : Int32) = nI (i + 1) from nI_add i 1]
              refine ih (i + 1) M5 (by omega) (E2.trans E5) (by rw [e5]; exact (P_does_OK P2 hB hq).1) ?_
              rw [ej, ej2, hq, e5]
      exact go n 0 M4 (by omega) E4 (by rw [e4]; exact P8) (by rw [e4])
    · rw [e0, eP] at c
      rw [if_neg (fun z => c ⟨z.2.1, by omega⟩)] at hz
      exact hz _ h3 F3
  · rw [if_neg (fun z => hb z.1)] at hz
    exact hz _ h3 F3
theorem msk_15 (c : Nat → Bool) {n : Nat} (hn : n ≤ 4) : nI (msk c n) &&& 15 = nI (msk c n) := by
  have h := msk_lt c n
  have h4 : 2 ^ n ≤ 2 ^ 4 := Nat.pow_le_pow_right (by omega) hn
  rw [pk_andN (n := msk c n) (by omega) (m := 15) 4 (by decide), Nat.mod_eq_of_lt (by omega)]
theorem M_which (h : RM M T B p U K S e D) (hB : BV2 B) (P8 : POA B 8 p) (hp : PZ p) (hS : S.1 ≤ 6) (hS2 : ∀ i, i < S.1 → ∃ n, n ≤ 2 ∧ S.2.2.1 i = nI n) (hz : ∀ M', RM M' T B p U K S e D → FRc M M' → Z (some (.int (s_which B S p))) M' 668) : jv_Ct g (d + 9) mt_M_which [.ref 647] M 668 0 0 Z := by
  unfold s_which at hz
  have b4 := hB.1.2.1
  have h3 := h.t0 0
  have F3 : FRc M (jv_si M 647 0 0) := FRc.si (by omega)
  refine jv_ct rfl (Nat.le_of_ble_eq_true rfl) (b_M_which_0 ⟨tg_m, tg_m, ?_⟩)
  generalize jv_si M 647 0 0 = M3 at h3 F3 ⊢
  rw [h3.1.2.2.1, show (((1 : Int32) <<< (nI (bd_nh B) &&& 31)) - 1) = nI (2 ^ bd_nh B - 1) from every (bd_nh B) b4, ← msk_full]
  -- the harts, from hart j on, for the sight k of round n
  have l46 : ∀ n k M1, n < 10 → k < S.1 → SCR M3 M1 → M1.1 659 = PT B (nI 63) n p → jv_J g (d + 9) mt_M_which 35 [some (.ref 647), some (.int (nI (msk (fun i => W_all B S p i n && W_ok S (PT B (nI 63) n p) i n (k + 1)) (bd_nh B)))), some (.int (nI n)), some (.int (nI (k + 1))), none, none] [] M1 668 0 0 Z → ∀ f j c, j + f = bd_nh B → (∀ i, c i = if i < j then (W_all B S p i n && W_ok S (PT B (nI 63) n p) i n (k + 1)) else (W_all B S p i n && W_ok S (PT B (nI 63) n p) i n k)) → jv_J g (d + 9) mt_M_which 46 [some (.ref 647), some (.int (nI (msk c (bd_nh B)))), some (.int (nI n)), some (.int (nI k)), some (.int (nI j)), none] [] M1 668 0 0 Z := by
    intro n k M1 hn hk E1 e1 nxt f
    have h1 := h3.scr E1
    have nh := h1.1.2.2.1
    have r := h1.1.1
    obtain ⟨s1, s2⟩ := h1.2.2.2.2.2.2.1
    obtain ⟨k1, k2, k3⟩ := s2 k hk
    obtain ⟨w, hw, ew⟩ := hS2 k hk
    have nxt2 := nxt
    rw [show nI (k + 1) = nI k + 1 from (nI_add k 1).symm] at nxt2
    have wo : ∀ i, W_ok S (PT B (nI 63) n p) i n (k + 1) = (W_ok S (PT B (nI 63) n p) i n k && (!(decide (S.2.1 k = nI n)) || decide (sv_val (PT B (nI 63) n p) i (S.2.2.1 k) = S.2.2.2 k))) := fun i => rfl
    induction f with
    | zero =>
      intro j c hj hc
      have hj : j = bd_nh B := by omega
      refine b_M_which_46 ⟨tg_m, ?_⟩
      rw [nh]
      refine ⟨fun _ => ?_, fun z => absurd (nI_le (show bd_nh B ≤ j by omega) (by omega)) z⟩
      rw [msk_congr (bd_nh B) (c := c) (c' := fun i => W_all B S p i n && W_ok S (PT B (nI 63) n p) i n (k + 1)) (fun i hi => by rw [hc i, if_pos (by omega)])]
      exact nxt2
    | succ f ih =>
      intro j c hj hc
      have hj4 : j < bd_nh B := by omega
      refine b_M_which_46 ⟨tg_m, ?_⟩
      rw [nh]
      refine ⟨fun z => absurd ((nn_le (a := bd_nh B) (n := j) (by omega) (by omega)).mp z) (by omega), fun _ => ⟨tg_m, 664, (r 27).trans mr_27, tg_664, by rw [sl_664]; exact vp_in_nI (by omega) (by omega), ?_⟩⟩
      rw [nI_clamp (by omega), k1]
      refine ⟨fun c1 => ?_, fun c1 => ⟨tg_m, 665, (r 28).trans mr_28, tg_665, by rw [sl_665]; exact vp_in_nI (by omega) (by omega), ?_⟩⟩
      · have e2 : ∀ i, W_ok S (PT B (nI 63) n p) i n (k + 1) = W_ok S (PT B (nI 63) n p) i n k := fun i => by rw [wo i, decide_eq_false c1]; simp
        rw [msk_congr (bd_nh B) (c := c) (c' := fun i => W_all B S p i n && W_ok S (PT B (nI 63) n p) i n (k + 1)) (fun i hi => by rw [hc i]; simp only [e2]; split <;> rfl)]
        exact nxt2
      · rw [k2, ew]
        have wj : ∀ i, W_ok S (PT B (nI 63) n p) i n (k + 1) = (W_ok S (PT B (nI 63) n p) i n k && decide (sv_val (PT B (nI 63) n p) i (nI w) = S.2.2.2 k)) := fun i => by rw [wo i, decide_eq_true c1, ew]; simp
        have go : ∀ v, sv_val (PT B (nI 63) n p) j (nI w) = v → (v ≠ S.2.2.2 k → jv_J g (d + 9) mt_M_which 46 [some (.ref 647), some (.int (nI (msk c (bd_nh B)) &&& ((1 <<< (nI j &&& 31)) ^^^ (-1)))), some (.int (nI n)), some (.int (nI k)), some (.int (nI (j + 1))), none] [] M1 668 0 0 Z) ∧ (v = S.2.2.2 k → jv_J g (d + 9) mt_M_which 46 [some (.ref 647), some (.int (nI (msk c (bd_nh B)) &&& 15)), some (.int (nI n)), some (.int (nI k)), some (.int (nI (j + 1))), none] [] M1 668 0 0 Z) := by
          intro v ev
          refine ⟨fun c2 => ?_, fun c2 => ?_⟩
          · have hcl : nI (msk c (bd_nh B)) &&& ((1 <<< (nI j &&& 31)) ^^^ (-1)) = nI (msk (fun i => if i = j then false else c i) (bd_nh B)) := msk_clr c b4 hj4
            rw [hcl]
            refine ih (j + 1) _ (by omega) (fun i => ?_)
            show (if i = j then false else c i) = _
            by_cases hij : i = j
            · subst hij
              rw [if_pos rfl, if_pos (by omega), wj, ev, decide_eq_false c2]
              simp
            · rw [if_neg hij, hc i]
              by_cases hlt : i < j
              · rw [if_pos hlt, if_pos (by omega)]
              · rw [if_neg hlt, if_neg (by omega)]
          · rw [msk_15 c b4]
            refine ih (j + 1) c (by omega) (fun i => ?_)
            rw [hc i]
            by_cases hij : i = j
            · subst hij
              rw [if_neg (by omega), if_pos (by omega), wj, ev, decide_eq_true c2, Bool.and_true]
            · by_cases hlt : i < j
              · rw [if_pos hlt, if_pos (by omega)]
              · rw [if_neg hlt, if_neg (by omega)]
        refine ⟨fun c2 => ?_, fun c2 => ?_⟩
        · have c2 : w ≠ 2 := fun z => c2 (by rw [z]; rfl)
          simp (disch := omega) only [li, pk_mul, nI_add, nI_clamp, vin, r, mr_20, mr_28, mr_29, tg_m, tg_659, tg_665, tg_666, sl_659, sl_665, sl_666, k2, k3, ew, true_and, Option.some.injEq, exists_eq_left', e1]
          refine go _ ?_
          unfold sv_val
          rcases (by omega : w = 0 ∨ w = 1) with rfl | rfl
          · rw [if_pos rfl]; rfl
          · rw [if_neg (by decide), if_pos rfl]
        · have c2 : w = 2 := (nn_eq (a := w) (n := 2) (by omega) (by omega)).mp c2
          simp (disch := omega) only [li, pk_mul, nI_add, nI_clamp, vin, r, mr_20, mr_29, tg_m, tg_659, tg_666, sl_659, sl_666, k3, true_and, Option.some.injEq, exists_eq_left', e1]
          refine go _ ?_
          subst c2
          unfold sv_val
          rw [if_neg (by decide), if_neg (by decide)]
  -- the sights, from k on
  have l35 : ∀ n, n < 10 → (∀ M1, SCR M3 M1 → M1.1 659 = PT B (nI 63) (n + 1) p → jv_J g (d + 9) mt_M_which 27 [some (.ref 647), some (.int (nI (msk (fun i => W_all B S p i (n + 1)) (bd_nh B)))), some (.int (nI (n + 1))), none, none, none] [] M1 668 0 0 Z) → ∀ f k M1, k + f = S.1 → SCR M3 M1 → M1.1 659 = PT B (nI 63) n p → jv_J g (d + 9) mt_M_which 35 [some (.ref 647), some (.int (nI (msk (fun i => W_all B S p i n && W_ok S (PT B (nI 63) n p) i n k) (bd_nh B)))), some (.int (nI n)), some (.int (nI k)), none, none] [] M1 668 0 0 Z := by
    intro n hn nxt f
    induction f with
    | zero =>
      intro k M1 hk E1 e1
      have hk : k = S.1 := by omega
      subst hk
      have h1 := h3.scr E1
      refine b_M_which_35 ⟨tg_m, ?_⟩
      rw [h1.2.2.2.2.2.2.1.1]
      refine ⟨fun _ => ⟨tg_m, 659, (h1.1.1 20).trans mr_20, tg_m, q_to h1 hB (Or.inl rfl) (by rw [e1]; exact (PT_OK hB _ _ _ P8).le (by omega)) (fun M6 E6 e6 => jv_rv_i ?_)⟩, fun z => absurd (nI_le (Nat.le_refl _) (by omega)) z⟩
      rw [show (nI n + 1 : Int32) = nI (n + 1) from nI_add n 1]
      exact nxt M6 (E1.trans E6) (by rw [e6, e1, PT_succ])
    | succ f ih =>
      intro k M1 hk E1 e1
      have h1 := h3.scr E1
      refine b_M_which_35 ⟨tg_m, ?_⟩
      rw [h1.2.2.2.2.2.2.1.1]
      refine ⟨fun z => absurd ((nn_le (a := S.1) (n := k) (by omega) (by omega)).mp z) (by omega), fun _ => ?_⟩
      exact l46 n k M1 hn (by omega) E1 e1 (ih (k + 1) M1 (by omega) E1 e1) (bd_nh B) 0 _ (by omega) (fun i => by rw [if_neg (by omega)])
  have l27 : ∀ f n M1, n + f = 10 → SCR M3 M1 → M1.1 659 = PT B (nI 63) n p → jv_J g (d + 9) mt_M_which 27 [some (.ref 647), some (.int (nI (msk (fun i => W_all B S p i n) (bd_nh B)))), some (.int (nI n)), none, none, none] [] M1 668 0 0 Z := by
    intro f
    induction f with
    | zero =>
      intro n M1 hn E1 e1
      have hn : n = 10 := by omega
      subst hn
      exact b_M_which_27 ⟨fun _ => hz _ (h3.scr E1) (F3.trans E1.frc), fun z => absurd (nI_le (Nat.le_refl 10) (by omega)) z⟩
    | succ f ih =>
      intro n M1 hn E1 e1
      refine b_M_which_27 ⟨fun z => absurd ((nn_le (a := 10) (n := n) (by omega) (by omega)).mp z) (by omega), fun _ => ?_⟩
      have := l35 n (by omega) (fun M2 E2 e2 => ih (n + 1) M2 (by omega) E2 e2) S.1 0 M1 (by omega) E1 e1
      rw [msk_congr (bd_nh B) (c := fun i => W_all B S p i n && W_ok S (PT B (nI 63) n p) i n 0) (c' := fun i => W_all B S p i n) (fun i _ => by show (W_all B S p i n && true) = _; rw [Bool.and_true])] at this
      exact this
  exact ⟨tg_m, 659, (h3.1.1 20).trans mr_20, tg_m, 658, (h3.1.1 19).trans mr_19, q_lay h3 hp (Or.inl rfl) (fun M4 E4 e4 => jv_rv_i (l27 10 0 M4 rfl E4 e4))⟩
theorem M_drawn (h : RM M T B p U K S e D) (hB : BV2 B) (P8 : POA B 8 p) (hp : PZ p) {x : Int32} (hz : ∀ M', RM M' T B p U K S (s_drawn B p e x).2 D → FRc M M' → Z (some (.int (s_drawn B p e x).1)) M' 668) : jv_Ct g (d + 9) mt_M_drawn [.ref 647, .int x] M 668 0 0 Z := by
  unfold s_drawn at hz
  have b4 := hB.1.2.1
  have h3 := h.t0 0
  have F3 : FRc M (jv_si M 647 0 0) := FRc.si (by omega)
  refine jv_ct rfl (Nat.le_of_ble_eq_true rfl) (b_M_drawn_0 ⟨tg_m, ?_⟩)
  generalize jv_si M 647 0 0 = M3 at h3 F3 ⊢
  refine c_in2 1 20 rfl rfl (by omega) (by omega) (fun hb => jv_ri_i (rn1 ?_)) (fun hb => jv_ri_i (rn0 ?_))
  · rw [if_pos hb] at hz
    obtain ⟨n, hn1, hn2, ex⟩ := br_of hb (by omega)
    subst ex
    rw [nx_n (by omega)] at hz
    refine ⟨tg_m, 660, (h3.1.1 21).trans mr_21, tg_m, 658, (h3.1.1 19).trans mr_19, q_lay h3 hp (Or.inr rfl) (fun M4 E4 e4 => jv_rv_i ?_)⟩
    have l : ∀ k i M2 s, i + k = n → d_run B n (e, p, 0) = d_run B k s → s.2.2 ≤ 8 * i → POA B 8 s.2.1 → RM M2 T B p U K S s.1 D → FRc M M2 → M2.1 660 = s.2.1 → jv_J g (d + 9) mt_M_drawn 35 [some (.ref 647), some (.int (nI n)), some (.int (nI s.2.2)), some (.int (nI i)), none] [] M2 668 0 0 Z := by
      intro k
      induction k with
      | zero =>
        intro i M2 s hi er hs P2 h2 F2 Q2
        rw [er] at hz
        exact b_M_drawn_35 ⟨fun _ => hz M2 h2 F2, fun c => absurd (nI_le (show n ≤ i by omega) (by omega)) c⟩
      | succ k ih =>
        intro i M2 s hi er hs P2 h2 F2 Q2
        have er2 : d_run B n (e, p, 0) = d_run B k (d_step B s) := by rw [er]; exact itN_succ (d_step B) k s
        have hse : M2.2.2 647 = s.1 := h2.2.2.2.2.2.2.2.1
        have hen : M2.2.2 647 * 6364136223846793005 + 1442695040888963407 = d_next s.1 := by rw [hse]; rfl
        have h5 : RM (jv_sl M2 647 (d_next s.1)) T B p U K S (d_next s.1) D := h2.sl
        have F5 : FRc M2 (jv_sl M2 647 (d_next s.1)) := FRc.sl (by omega)
        have Q5 : (jv_sl M2 647 (d_next s.1)).1 660 = s.2.1 := Q2
        have hl0 : (jv_sl M2 647 (d_next s.1)).2.2 647 = d_next s.1 := h5.2.2.2.2.2.2.2.1
        obtain ⟨m, hm, Pm, Am⟩ := id P2
        have e80 := Pm.p80
        refine b_M_drawn_35 ⟨fun c => absurd ((nn_le (a := n) (n := i) (by omega) (by omega)).mp c) (by omega), fun _ => ?_⟩
        rw [hen]
        generalize jv_sl M2 647 (d_next s.1) = M5 at h5 F5 Q5 hl0 ⊢
        have nh := h5.1.2.2.1
        refine ⟨tg_m, tg_m, tg_m, tg_m, ?_⟩
        rw [nh]
        refine ⟨fun c => ?_, fun c => ?_⟩
        · have c := (nn_le (a := bd_nh B) (n := 0) (by omega) (by omega)).mp c
          have es : d_step B s = (d_next s.1, s.2.1, s.2.2) := by unfold d_step; rw [if_pos (by omega)]
          rw [es] at er2
          rw [show (nI i + 1 : Int32) = nI (i + 1) from nI_add i 1]
          exact ih (i + 1) _ (d_next s.1, s.2.1, s.2.2) (by omega) er2 (show s.2.2 ≤ 8 * (i + 1) by omega) P2 h5 (F2.trans F5) Q5
        · have c : ¬ bd_nh B ≤ 0 := fun z => c ((nn_le (a := bd_nh B) (n := 0) (by omega) (by omega)).mpr z)
          obtain ⟨pv, epv⟩ : ∃ pv, pv = (if nx (s.2.1 80) < 8 then P_send s.2.1 (nI (d_v (d_next s.1) % 3)) (nI (d_v (d_next s.1) / 4 % bd_nh B)) (nI 0) (nI 0) else s.2.1) := ⟨_, rfl⟩
          have es : d_step B s = (d_next s.1, (P_tick B (nI 63) pv).1, s.2.2 + ones (P_hset (P_tick B (nI 63) pv).1 (bd_nh B))) := by unfold d_step; rw [if_neg (by omega), epv]
          rw [es] at er2
          have Pv : POA B 8 pv := by rw [epv]; exact (d_send_OK P2 hB _ (by omega)).1
          have l107 : ∀ M4, RM M4 T B p U K S (d_next s.1) D → FRc M M4 → M4.1 660 = pv → jv_J g (d + 9) mt_M_drawn 107 [some (.ref 647), some (.int (nI n)), some (.int (nI s.2.2)), some (.int (nI i)), none] [] M4 668 0 0 Z := by
            intro M4 h4 F4 Q4
            refine b_M_drawn_107 ⟨tg_m, 660, (h4.1.1 21).trans mr_21, tg_m, q_to h4 hB (Or.inr rfl) (by rw [Q4]; exact Pv.le (by omega)) (fun M6 E6 e6 => jv_rv_i ?_)⟩
            have h6 := h4.scr E6
            refine ⟨tg_m, 660, (h6.1.1 21).trans mr_21, tg_m, ?_⟩
            rw [h6.1.2.2.1]
            refine q_hof (h6.mx hB (by omega) (by omega)) b4 (jv_ri_i ?_)
            rw [Q4] at e6
            rw [e6]
            obtain ⟨a, ha, ea, eo⟩ := ones_hset (P_tick B (nI 63) pv).1 hB
            rw [ea]
            refine c_M_ones (by omega) (jv_ri_i ?_)
            rw [nI_add, show (nI i + 1 : Int32) = nI (i + 1) from nI_add i 1, ← eo]
            have ho := pcn_le ((P_hset (P_tick B (nI 63) pv).1 (bd_nh B)).toNatClampNeg) 8
            refine ih (i + 1) M6 (d_next s.1, (P_tick B (nI 63) pv).1, s.2.2 + ones (P_hset (P_tick B (nI 63) pv).1 (bd_nh B))) (by omega) er2 ?_ (P_tick_OK Pv hB _) h6 (F4.trans E6.frc) e6
            show s.2.2 + ones _ ≤ 8 * (i + 1)
            unfold ones
            omega
          refine ⟨tg_m, 660, (h5.1.1 21).trans mr_21, tg_660, by rw [sl_660]; exact vp_in_nI (n := 80) (by omega) (by omega), ?_⟩
          rw [show M5.1 660 (Int32.toNatClampNeg 80) = nI m by rw [Q5]; exact e80]
          refine ⟨fun c8 => l107 _ h5 (F2.trans F5) ?_, fun c8 => ?_⟩
          · have c8 := (nn_le (a := 8) (n := m) (by omega) (by omega)).mp c8
            rw [epv, e80, nx_n (by omega), if_neg (by omega)]
            exact Q5
          · have c8 : ¬ 8 ≤ m := fun z => c8 ((nn_le (a := 8) (n := m) (by omega) (by omega)).mpr z)
            refine ⟨tg_m, 660, (h5.1.1 21).trans mr_21, tg_m, ?_, ?_⟩
            · intro z
              have := (nn_eq (a := bd_nh B) (n := 0) (by omega) (by omega)).mp z
              omega
            · have hdv := d_v_lt (d_next s.1)
              have hmod : (d_v (d_next s.1) / 4) % bd_nh B < bd_nh B := Nat.mod_lt _ (by omega)
              rw [hl0, d_v_eq]
              have a1 : nI (d_v (d_next s.1)) - nI (d_v (d_next s.1)) / 3 * 3 = nI (d_v (d_next s.1) % 3) := pk_rem (d := 3) hdv (by omega) (by omega)
              have a2 : nI (d_v (d_next s.1)) / 4 = nI (d_v (d_next s.1) / 4) := pk_div (d := 4) hdv (by omega) (by omega)
              rw [a1, a2, pk_rem (by omega) (by omega) (by omega)]
              refine q_so (Or.inr rfl) (m := m) (by rw [Q5]; exact e80) (by omega) (o := nI (d_v (d_next s.1) % 3)) (h := nI (d_v (d_next s.1) / 4 % bd_nh B)) (r := nI 0) (v := nI 0) (fun M6 E6 e6 => jv_rv_i (l107 M6 (h5.scr E6) ((F2.trans F5).trans E6.frc) ?_))
              rw [e6, epv, e80, nx_n (by omega), if_pos (by omega), Q5]
    exact l n 0 M4 (e, p, 0) (by omega) rfl (Nat.le_refl 0) P8 (h3.scr E4) (F3.trans E4.frc) e4
  · rw [if_neg hb] at hz
    exact hz _ h3 F3
end MC
