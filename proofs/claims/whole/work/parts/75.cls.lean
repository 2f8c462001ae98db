/-! ===== what the calls answer ===== -/
def s_write (T : Tt) (x : Int32) : Int32 × Tt := if bl x 256 = true then (if T.1 = 150 then (-4, T) else (nI (T.1 + 1), (T.1 + 1, pu T.2 T.1 x))) else (-2, T)
def P_ht (p : Pg) (h w : Nat) : Int32 := if w = 0 then p (8 * h) else if w = 1 then p (8 * h + 1) else if w = 2 then p (8 * h + 3) else if w = 3 then (if p (8 * h + 1) = nI 1 then nI 1 else p (8 * h + 2)) else p (8 * h + w)
def P_tell (B : Bd) (p : Pg) (h w : Nat) : Int32 := if w < 8 then P_ht p h w else if w = 8 then bd_group B h else bd_first B h
def s_hart (B : Bd) (p : Pg) (x1 x2 : Int32) : Int32 := if bl x1 (bd_nh B) = true then (if bl x2 10 = true then P_tell B p (nx x1) (nx x2) else -2) else -1
def s_trig (B : Bd) (p : Pg) (x1 x2 : Int32) : Int32 := if bl x1 (bd_nt B) = true then (if bl x2 7 = true then (if nx x2 = 0 then nI (bd_whose B (nx x1)) else p (40 + 6 * nx x1 + nx x2 - 1)) else -2) else -1
def s_cell (p : Pg) (x : Int32) : Int32 := if bl x 8 = true then p (32 + nx x) else -2
def s_order (p : Pg) (x1 x2 : Int32) : Int32 := if bl x1 (nx (p 80)) = true then (if bl x2 4 = true then p (81 + 7 * nx x1 + nx x2) else -2) else -1
def s_see (S : St) (x1 x2 x3 : Int32) : Int32 × St := if bl x1 10 = true ∧ bl x2 3 = true ∧ bl x3 (if x2 = nI 0 then 16 else if x2 = nI 1 then 3 else 1000) = true then (if S.1 = 6 then (-4, S) else (nI (S.1 + 1), (S.1 + 1, pu S.2.1 S.1 x1, pu S.2.2.1 S.1 x2, pu S.2.2.2 S.1 x3))) else (-2, S)
def s_count (T : Tt) (B : Bd) (p : Pg) (U : Ut) (S : St) (x : Int32) : Int32 := if x = nI 0 then nI T.1 else if x = nI 1 then nI (bd_nc B) else if x = nI 2 then nI (bd_nh B) else if x = nI 3 then nI (bd_nt B) else if x = nI 4 then P_hset p (bd_nh B) else if x = nI 5 then p 80 else if x = nI 6 then p 76 else if x = nI 7 then p 77 else if x = nI 8 then p 78 else if x = nI 9 then p 79 else if x = nI 10 then nI U.1 else if x = nI 11 then nI S.1 else -2
theorem nlt {x : Int32} {n : Nat} (hn : n < 2 ^ 31) : x < nI n ↔ x.toInt < n := by rw [lt_i, nI_toInt hn]
theorem nle {x : Int32} {n : Nat} (hn : n < 2 ^ 31) : x ≤ nI n ↔ x.toInt ≤ n := by rw [le_i, nI_toInt hn]
theorem bl_f {x : Int32} {n : Nat} (h : ¬ bl x n = true) : ¬ (0 ≤ x.toInt ∧ x.toInt < n) := fun z => h (decide_eq_true z)
theorem bl_ne {x : Int32} {n j : Nat} (h : ¬ bl x n = true) (hj : j < n) (hn : n < 2 ^ 31) : ¬ x = nI j := fun z => h (by rw [z]; exact bl_in hj hn)
theorem bl_sub {x : Int32} {a n k : Nat} (h : ¬ bl x n = true) (hk : a + k ≤ n) (hn : n < 2 ^ 31) : bl (x - nI a) k = false := by
  rw [← Bool.not_eq_true]
  intro z
  obtain ⟨j, hj, e⟩ := bl_of z (by omega)
  refine h ?_
  rw [show x = (x - nI a) + nI a by rw [Int32.sub_add_cancel], e, nI_add]
  exact bl_in (by omega) hn
section RO
variable {g : jv_G} {d : Nat} {M M' : jv_Mem} {Z : Option Value → jv_Mem → Nat → Prop} {T T' : Tt} {B : Bd} {p p' : Pg} {U : Ut} {K : Kt} {S S' : St} {e e' : Int64}
theorem RC.ns (h : RC M T B p U K S e) (n : NS M M') (hp : M'.1 110 1 = M.1 110 1) (o : RCo M' T' B U K S' e') : RC M' T' B p U K S' e' := by
  obtain ⟨H, -, q1, ⟨k, hk, q2, q3⟩, kq, z⟩ := h
  exact ⟨H.ns n, o, q1.ns n (by decide), ⟨k, hk, by rw [hp, q2], fun i hi => (q3 i hi).ns n (pst_in _ _ _)⟩, fun i hi q => (kq i hi q).ns n (sl_in i hi), z.ns n⟩
theorem RC.nh (h : RC M T B p U K S e) : M.1 44 4 = nI (bd_nh B) ∧ M.1 44 5 = nI (bd_nt B) := by
  obtain ⟨V, π, v1, v2, ⟨m, P, A, R, -⟩, a6⟩ := h.2.2.1
  exact ⟨(v1 0 4 (by omega)).trans R.1.1, (v1 0 5 (by omega)).trans R.1.2⟩
theorem c_isHart (h : RC M T B p U K S e) (hB : BV2 B) {x : Int32} (hz : Z (some (.int (if bl x (bd_nh B) = true then nI 1 else nI 0))) M 668) : jv_Ct g (d + 1) mt_R_isHart [.ref 0, .int x] M 668 0 0 Z := by
  have b4 := hB.1.2.1
  have f02 := h.1.1.2.2.1
  have nh := h.nh.1
  have h44 : jv_Tg 6 44 668 := t_S0 (by decide)
  refine jv_ct rfl (Nat.le_of_ble_eq_true rfl) (b_R_isHart_0 ?_)
  simp only [tg_0, f02, true_and, h44, Option.some.injEq, exists_eq_left', nh]
  refine c_isBelow (by omega) (jv_ri_i ⟨?_, hz⟩)
  split
  · exact Or.inr rfl
  · exact Or.inl rfl
theorem c_isTrigger (h : RC M T B p U K S e) (hB : BV2 B) {x : Int32} (hz : Z (some (.int (if bl x (bd_nt B) = true then nI 1 else nI 0))) M 668) : jv_Ct g (d + 1) mt_R_isTrigger [.ref 0, .int x] M 668 0 0 Z := by
  have b6 := hB.1.2.2.1
  have f02 := h.1.1.2.2.1
  have nt := h.nh.2
  have h44 : jv_Tg 6 44 668 := t_S0 (by decide)
  refine jv_ct rfl (Nat.le_of_ble_eq_true rfl) (b_R_isTrigger_0 ?_)
  simp only [tg_0, f02, true_and, h44, Option.some.injEq, exists_eq_left', nt]
  refine c_isBelow (by omega) (jv_ri_i ⟨?_, hz⟩)
  split
  · exact Or.inr rfl
  · exact Or.inl rfl
theorem R_write (h : RC M T B p U K S e) (hT : T.1 ≤ 150) {x : Int32} (hz : ∀ M', RC M' (s_write T x).2 B p U K S e → FRm M M' → Z (some (.int (s_write T x).1)) M' 668) : jv_Ct g (d + 9) mt_R_write [.ref 0, .int x] M 668 0 0 Z := by
  have f00 := h.1.1.1
  have f10 := h.1.2.1.1
  have t1 := h.2.1.1.1
  have ot := h.2.1
  refine jv_ct rfl (Nat.le_of_ble_eq_true rfl) (b_R_write_0 ?_)
  unfold s_write at hz
  by_cases hb : bl x 256 = true
  · rw [if_pos hb] at hz
    obtain ⟨j, hj, ex⟩ := bl_of hb (by omega)
    simp (disch := omega) only [li, tg_0, tg_1, f00, true_and, Option.some.injEq, exists_eq_left']
    subst ex
    refine ⟨fun c => absurd ((nn_lt (by omega) (by omega)).mp c) (by omega), fun _ => ⟨fun _ => ?_, fun c => absurd ((nn_lt (by omega) (by omega)).mpr hj) c⟩⟩
    refine jv_ct rfl (Nat.le_of_ble_eq_true rfl) (b_T_append_0 ?_)
    simp (disch := omega) only [li, tg_1, tg_2, sl_2, f10, t1, nn_lt, true_and, nI_clamp, si_b, nI_add, Option.some.injEq, exists_eq_left']
    refine ⟨fun c => ?_, fun c => ?_⟩
    · rw [if_neg (by omega)] at hz
      refine ⟨vp_in_nI (by omega) (by omega), jv_ri_i ⟨fun c => absurd c (by decide), fun _ => ?_⟩⟩
      have n2 : NS M (jv_si (jv_si M 2 T.1 (nI j)) 1 1 (nI (T.1 + 1))) := (NS.si (by decide)).trans (NS.si (by decide))
      simp only [si_r, f00, true_and, tg_0, tg_1, si_at, Option.some.injEq, exists_eq_left']
      obtain ⟨⟨o1, o2⟩, ⟨o3, o4⟩, o5, o6, ⟨o7, o8⟩, o9⟩ := ot
      refine hz _ (h.ns n2 (by rw [si_b _ _ (by omega), si_b _ _ (by omega)]) ⟨⟨si_at _ _ _ _, fun i hi => ?_⟩, ⟨o3, o4⟩, o5, o6, ⟨o7, o8⟩, o9⟩) n2.frm
      rw [si_b _ _ (by omega)]
      show (if 2 = 2 ∧ i = T.1 then _ else _) = if i = T.1 then _ else _
      by_cases hi2 : i = T.1
      · rw [if_pos ⟨rfl, hi2⟩, if_pos hi2]
      · rw [if_neg (fun z => hi2 z.2), if_neg hi2]
        exact o2 i (by have hi : i < T.1 + 1 := hi; omega)
    · rw [if_pos (by omega)] at hz
      exact jv_ri_i ⟨fun _ => hz M h FRm.rf, fun c => absurd rfl c⟩
  · rw [if_neg hb] at hz
    have hf := bl_f hb
    refine ⟨fun _ => hz M h FRm.rf, fun c => ⟨fun c2 => ?_, fun _ => hz M h FRm.rf⟩⟩
    exfalso
    have c' : ¬ x < nI 0 := c
    have c2' : x < nI 256 := c2
    rw [nlt (by omega)] at c' c2'
    omega
theorem R_wipe (h : RC M T B p U K S e) (hz : ∀ M', RC M' (0, T.2) B p U K S e → FRm M M' → Z (some (.int (nI T.1))) M' 668) : jv_Ct g (d + 9) mt_R_wipe [.ref 0] M 668 0 0 Z := by
  have f00 := h.1.1.1
  have t1 := h.2.1.1.1
  refine jv_ct rfl (Nat.le_of_ble_eq_true rfl) (b_R_wipe_0 ?_)
  simp (disch := omega) only [li, tg_0, tg_1, f00, t1, true_and, Option.some.injEq, exists_eq_left']
  have n2 : NS M (jv_si M 1 1 (nI 0)) := NS.si (by decide)
  obtain ⟨⟨o1, o2⟩, ⟨o3, o4⟩, o5, o6, ⟨o7, o8⟩, o9⟩ := h.2.1
  exact hz _ (h.ns n2 (by rw [si_b _ _ (by omega)]) ⟨⟨si_at _ _ _ _, fun i hi => absurd (show i < 0 from hi) (by omega)⟩, ⟨o3, o4⟩, o5, o6, ⟨o7, o8⟩, o9⟩) n2.frm
theorem R_seed (h : RC M T B p U K S e) {l : Int64} (hz : ∀ M', RC M' T B p U K S l → FRm M M' → Z (some (.long e)) M' 668) : jv_Ct g (d + 9) mt_R_seed [.ref 0, .long l] M 668 0 0 Z := by
  refine jv_ct rfl (Nat.le_of_ble_eq_true rfl) (b_R_seed_0 ?_)
  obtain ⟨⟨o1, o2⟩, ⟨o3, o4⟩, o5, o6, ⟨o7, o8⟩, o9⟩ := h.2.1
  simp only [tg_0, true_and, o9]
  have n2 : NS M (jv_sl M 0 l) := ⟨fun _ _ _ => rfl, rfl, fun b hb => by show (if b = 0 then l else _) = _; rw [if_neg hb]⟩
  exact hz _ (h.ns n2 rfl ⟨⟨o1, o2⟩, ⟨o3, o4⟩, o5, o6, ⟨o7, o8⟩, by show (if (0 : Nat) = 0 then l else M.2.2 0) = l; rw [if_pos rfl]⟩) n2.frm
theorem R_unsee (h : RC M T B p U K S e) (hz : ∀ M', RC M' T B p U K (0, S.2) e → FRm M M' → Z (some (.int (nI S.1))) M' 668) : jv_Ct g (d + 9) mt_R_unsee [.ref 0] M 668 0 0 Z := by
  have f07 := h.1.1.2.2.2.2.2.2.2.1
  obtain ⟨⟨o1, o2⟩, ⟨o3, o4⟩, o5, o6, ⟨o7, o8⟩, o9⟩ := h.2.1
  refine jv_ct rfl (Nat.le_of_ble_eq_true rfl) (b_R_unsee_0 ?_)
  simp (disch := omega) only [li, tg_0, tg_576, f07, o7, true_and, Option.some.injEq, exists_eq_left']
  have n2 : NS M (jv_si M 576 3 (nI 0)) := NS.si (by decide)
  exact hz _ (h.ns n2 (by rw [si_b _ _ (by omega)]) ⟨⟨o1, o2⟩, ⟨o3, o4⟩, o5, o6, ⟨si_at _ _ _ _, fun i hi => absurd (show i < 0 from hi) (by omega)⟩, o9⟩) n2.frm
theorem R_see (h : RC M T B p U K S e) (hS : S.1 ≤ 6) {x1 x2 x3 : Int32} (hz : ∀ M', RC M' T B p U K (s_see S x1 x2 x3).2 e → FRm M M' → Z (some (.int (s_see S x1 x2 x3).1)) M' 668) : jv_Ct g (d + 9) mt_R_see [.ref 0, .int x1, .int x2, .int x3] M 668 0 0 Z := by
  have f07 := h.1.1.2.2.2.2.2.2.2.1
  have f60 := h.1.2.2.2.2.2.1.1
  have f61 := h.1.2.2.2.2.2.1.2.1
  have f62 := h.1.2.2.2.2.2.1.2.2
  obtain ⟨⟨o1, o2⟩, ⟨o3, o4⟩, o5, o6, ⟨o7, o8⟩, o9⟩ := h.2.1
  unfold s_see at hz
  refine jv_ct rfl (Nat.le_of_ble_eq_true rfl) (b_R_see_0 ?_)
  simp (disch := omega) only [li, ne_eq]
  refine c_isBelow (by omega) (jv_ri_i ?_)
  by_cases h1 : bl x1 10 = true
  · rw [if_pos h1]
    refine ⟨fun c => absurd c (by decide), fun _ => c_isBelow (by omega) (jv_ri_i ?_)⟩
    by_cases h2 : bl x2 3 = true
    · rw [if_pos h2]
      refine ⟨fun c => absurd c (by decide), fun _ => ?_⟩
      refine jv_ct rfl (Nat.le_of_ble_eq_true rfl) (b_G_range_0 ?_)
      simp only [li, ne_eq]
      obtain ⟨r, er⟩ : ∃ r, r = (if x2 = nI 0 then 16 else if x2 = nI 1 then 3 else 1000) := ⟨_, rfl⟩
      have hr : r < 2 ^ 31 := by rw [er]; (repeat' split) <;> omega
      rw [← er] at hz
      have go : jv_Ct g (d + 8) mt_R_isBelow [.int x3, .int (nI r)] M 668 0 0 (fun v M8 N8 => jv_ri v (fun r7 => (¬ r7 = nI 0 → jv_Tg 9 0 N8 ∧ ∃ b10, M8.2.1 0 7 = some b10 ∧ jv_Tg 5 b10 N8 ∧ jv_Ct g (d + 8) mt_G_append [.ref b10, .int x1, .int x2, .int x3] M8 N8 0 0 (fun v M14 N14 => jv_ri v (fun r13 => (r13 = nI 0 → Z (some (.int (-nI 4))) M14 N14) ∧ (¬ (r13 = nI 0) → jv_Tg 9 0 N14 ∧ ∃ b16, M14.2.1 0 7 = some b16 ∧ jv_Tg 5 b16 N14 ∧ Z (some (.int (M14.1 b16 3))) M14 N14)))) ∧ (r7 = nI 0 → Z (some (.int (-nI 2))) M8 N8))) := by
        refine c_isBelow hr (jv_ri_i ?_)
        by_cases h3 : bl x3 r = true
        · rw [if_pos ⟨h1, h2, h3⟩] at hz
          rw [if_pos h3]
          refine ⟨fun _ => ⟨tg_0, 576, f07, tg_576, ?_⟩, fun c => absurd c (by decide)⟩
          refine jv_ct rfl (Nat.le_of_ble_eq_true rfl) (b_G_append_0 ?_)
          simp (disch := omega) only [li, tg_576, tg_577, tg_578, tg_579, sl_577, sl_578, sl_579, f60, f61, f62, o7, si_r, nn_lt, true_and, nI_clamp, si_b, nI_add, Option.some.injEq, exists_eq_left']
          refine ⟨fun c => ?_, fun c => ?_⟩
          · rw [if_neg (by omega)] at hz
            simp (disch := omega) only [vin, true_and]
            refine jv_ri_i ⟨fun c => absurd c (by decide), fun _ => ⟨tg_0, 576, f07, tg_576, ?_⟩⟩
            rw [si_at]
            refine hz _ (h.ns (((NS.si (by decide)).trans (NS.si (by decide))).trans ((NS.si (by decide)).trans (NS.si (by decide)))) (by rw [si_b _ _ (by omega), si_b _ _ (by omega), si_b _ _ (by omega), si_b _ _ (by omega)]) ⟨⟨o1, o2⟩, ⟨o3, o4⟩, o5, o6, ⟨si_at _ _ _ _, fun i hi => ?_⟩, o9⟩) (NS.frm (((NS.si (by decide)).trans (NS.si (by decide))).trans ((NS.si (by decide)).trans (NS.si (by decide)))))
            have hi : i < S.1 + 1 := hi
            by_cases hi2 : i = S.1
            · subst hi2
              simp (disch := omega) only [si_b, si_at, pu_s]
              exact ⟨trivial, trivial, trivial⟩
            · simp (disch := omega) only [si_b, si_k, pu_n]
              exact o8 i (by omega)
          · rw [if_pos (by omega)] at hz
            exact jv_ri_i ⟨fun _ => hz M h FRm.rf, fun c => absurd rfl c⟩
        · rw [if_neg (fun z => h3 z.2.2)] at hz
          rw [if_neg h3]
          exact ⟨fun c => absurd rfl c, fun _ => hz M h FRm.rf⟩
      refine ⟨fun c => jv_ri_i ?_, fun c => jv_ri_i ?_, fun c => jv_ri_i ?_⟩
      · rw [if_pos c] at er; rw [er] at go; exact go
      · rw [if_neg (by rw [c]; decide), if_pos c] at er; rw [er] at go; exact go
      · rw [if_neg c.1, if_neg c.2] at er; rw [er] at go; exact go
    · rw [if_neg (fun z => h2 z.2.1)] at hz
      rw [if_neg h2]
      exact ⟨fun _ => hz M h FRm.rf, fun c => absurd rfl c⟩
  · rw [if_neg (fun z => h1 z.1)] at hz
    rw [if_neg h1]
    exact ⟨fun _ => hz M h FRm.rf, fun c => absurd rfl c⟩
theorem c_property {σ h : Nat} {V : SV} {π : Nat → Nat} {m : Nat} (X : SX M σ) (hB : BV2 B) (P : POK B m p) (R : RL B V p) (hh : h < bd_nh B) {x2 : Int32} (hz : Z (some (.int (if bl x2 10 = true then P_tell B p h (nx x2) else -2))) (sw M σ V π) 668) : jv_Ct g (d + 1) mt_H_property [.ref (σ + 19 + 2 * h), .int x2] (sw M σ V π) 668 0 0 Z := by
  have X0 := X
  obtain ⟨hσ, r0, r1, r2, r3, r4, r5, r6, r7, r8⟩ := X
  have tS0 := t_S0 hσ
  have tS1 := t_S1 hσ
  have tS2 := t_S2 hσ
  have lS2 := l_S2 hσ
  have tS3 := t_S3 hσ
  have lS3 := l_S3 hσ
  have tS16 := t_S16 hσ
  have lS16 := l_S16 hσ
  have tS17 := t_S17 hσ
  have lS17 := l_S17 hσ
  have tS18 := t_S18 hσ
  have lS18 := l_S18 hσ
  have b4 := hB.1.2.1
  obtain ⟨a1, a2, a3, a4, a5, a6, a7⟩ := R.2.1 h hh
  have tSh := t_SH hσ (show h < 4 by omega)
  have tSr := t_SR hσ (show h < 4 by omega)
  have lSr := l_SR hσ (show h < 4 by omega)
  have e8 := r8 h (by omega)
  refine jv_ct rfl (Nat.le_of_ble_eq_true rfl) (b_H_property_0 ?_)
  simp (disch := omega) only [li, ne_eq, nI_add, pk_mul, nI_clamp, vin, true_and, nn_eq, nn_le, nn_lt, pk_div, rm2, or0, sw_0, sw_1, sw_3, sw_18, sw_o, sw_h, sw_r, sw_t, wi_0, wi_1, wi_3, wi_18, wi_o, wi_h, wi_r, wi_t, sw_q, sw_ref, wr_q, tS0, tS1, tS2, lS2, tS3, lS3, tS16, lS16, tS17, lS17, tS18, lS18, r0, r1, r2, r3, r4, r5, Option.some.injEq, exists_eq_left', tSh, e8, tSr, lSr, a1, a2, a3, a4, a5]
  by_cases hb : bl x2 10 = true
  · rw [if_pos hb] at hz
    obtain ⟨w, hw, ex⟩ := bl_of hb (by omega)
    subst ex
    rw [nx_n (by omega)] at hz
    simp (disch := omega) only [nn_eq]
    unfold P_tell P_ht at hz
    refine ⟨fun c => ?_, fun c => ?_, fun c => ?_, fun c => ⟨fun c2 => ?_, fun c2 => ?_⟩, fun c => ?_, fun c => ?_, fun c => ?_⟩
    · subst c; exact hz
    · subst c; exact hz
    · subst c; exact hz
    · subst c
      rw [a6] at c2
      have hz : Z (some (.int (if p (8 * h + 1) = nI 1 then nI 1 else p (8 * h + 2)))) (sw M σ V π) 668 := hz
      rw [c2] at hz
      exact hz
    · subst c
      have hz : Z (some (.int (if p (8 * h + 1) = nI 1 then nI 1 else p (8 * h + 2)))) (sw M σ V π) 668 := hz
      rw [a6] at c2
      have : (if p (8 * h + 1) = nI 1 then nI 1 else p (8 * h + 2)) = nI 1 := by
        by_cases q : p (8 * h + 1) = nI 1
        · rw [if_pos q]
        · rw [if_neg q] at c2 ⊢
          obtain ⟨-, -, ⟨n, hn, en⟩⟩ := P.hartp (h := h) (by omega)
          rw [en] at c2 ⊢
          rcases (by omega : n = 0 ∨ n = 1) with rfl | rfl
          · exact absurd rfl c2
          · rfl
      rw [this] at hz
      exact hz
    · subst c; exact hz
    · subst c; exact hz
    · rw [pk_sub (by omega)]
      refine c_isBelow (by omega) (jv_ri_i ?_)
      rw [bl_in (show w - 4 < 4 by omega) (by omega), if_pos rfl]
      refine ⟨fun c => absurd c (by decide), fun _ => ?_⟩
      simp (disch := omega) only [li, ne_eq, nI_add, pk_mul, nI_clamp, vin, true_and, nn_eq, nn_le, nn_lt, pk_div, rm2, or0, sw_0, sw_1, sw_3, sw_18, sw_o, sw_h, sw_r, sw_t, wi_0, wi_1, wi_3, wi_18, wi_o, wi_h, wi_r, wi_t, sw_q, sw_ref, wr_q, tS0, tS1, tS2, lS2, tS3, lS3, tS16, lS16, tS17, lS17, tS18, lS18, r0, r1, r2, r3, r4, r5, Option.some.injEq, exists_eq_left', tSh, e8, tSr, lSr]
      rw [if_pos (by omega), if_neg (by omega), if_neg (by omega), if_neg (by omega), if_neg (by omega)] at hz
      rw [a7 (w - 4) (by omega), show 8 * h + 4 + (w - 4) = 8 * h + w by omega]
      exact hz
  · rw [if_neg hb] at hz
    refine ⟨fun c => absurd c (bl_ne hb (by omega) (by omega)), fun c => absurd c (bl_ne hb (by omega) (by omega)), fun c => absurd c (bl_ne hb (by omega) (by omega)), fun c => absurd c (bl_ne hb (by omega) (by omega)), fun c => absurd c (bl_ne hb (by omega) (by omega)), fun c => absurd c (bl_ne hb (by omega) (by omega)), fun _ => ?_⟩
    refine c_isBelow (by omega) (jv_ri_i ?_)
    rw [bl_sub hb (by omega) (by omega), if_neg (by decide)]
    exact ⟨fun _ => hz, fun c => absurd rfl c⟩
theorem R_hart (h : RC M T B p U K S e) (hB : BV2 B) {x1 x2 : Int32} (hz : Z (some (.int (s_hart B p x1 x2))) M 668) : jv_Ct g (d + 9) mt_R_hart [.ref 0, .int x1, .int x2] M 668 0 0 Z := by
  obtain ⟨σ, eσ, hσ, f02, X, V, π, ee, SR1, ab6⟩ := h.pres
  have X0 := X
  obtain ⟨-, r0, r1, r2, r3, r4, r5, r6, r7, r8⟩ := X
  have tS0 := t_S0 hσ
  have tS1 := t_S1 hσ
  have tS2 := t_S2 hσ
  have lS2 := l_S2 hσ
  have tS3 := t_S3 hσ
  have lS3 := l_S3 hσ
  have tS16 := t_S16 hσ
  have lS16 := l_S16 hσ
  have tS17 := t_S17 hσ
  have lS17 := l_S17 hσ
  have tS18 := t_S18 hσ
  have lS18 := l_S18 hσ
  obtain ⟨m, P, A, R, Qo, C, I, AB1⟩ := id SR1
  have b4 := hB.1.2.1
  have b6 := hB.1.2.2.1
  unfold s_hart at hz
  refine jv_ct rfl (Nat.le_of_ble_eq_true rfl) (b_R_hart_0 ⟨tg_0, c_isHart h hB (jv_ri_i ?_)⟩)
  by_cases h1 : bl x1 (bd_nh B) = true
  · rw [if_pos h1] at hz ⊢
    obtain ⟨j, hj, ex⟩ := bl_of h1 (by omega)
    subst ex
    rw [nx_n (by omega)] at hz
    refine ⟨fun c => absurd c (by decide), fun _ => ?_⟩
    have e6 := r6 j (by omega)
    have tSh := t_SH hσ (show j < 4 by omega)
    rw [← ee] at hz ⊢
    simp (disch := omega) only [li, ne_eq, nI_add, pk_mul, nI_clamp, vin, true_and, nn_eq, nn_le, nn_lt, pk_div, rm2, or0, sw_0, sw_1, sw_3, sw_18, sw_o, sw_h, sw_r, sw_t, wi_0, wi_1, wi_3, wi_18, wi_o, wi_h, wi_r, wi_t, sw_q, sw_ref, wr_q, tS0, tS1, tS2, lS2, tS3, lS3, tS16, lS16, tS17, lS17, tS18, lS18, r0, r1, r2, r3, r4, r5, Option.some.injEq, exists_eq_left', f02, tg_0, e6, tSh]
    exact c_property X0 hB P R hj (jv_ri_i hz)
  · rw [if_neg h1] at hz ⊢
    exact ⟨fun _ => hz, fun c => absurd rfl c⟩
theorem R_trigger (h : RC M T B p U K S e) (hB : BV2 B) {x1 x2 : Int32} (hz : Z (some (.int (s_trig B p x1 x2))) M 668) : jv_Ct g (d + 9) mt_R_trigger [.ref 0, .int x1, .int x2] M 668 0 0 Z := by
  obtain ⟨σ, eσ, hσ, f02, X, V, π, ee, SR1, ab6⟩ := h.pres
  have X0 := X
  obtain ⟨-, r0, r1, r2, r3, r4, r5, r6, r7, r8⟩ := X
  have tS0 := t_S0 hσ
  have tS1 := t_S1 hσ
  have tS2 := t_S2 hσ
  have lS2 := l_S2 hσ
  have tS3 := t_S3 hσ
  have lS3 := l_S3 hσ
  have tS16 := t_S16 hσ
  have lS16 := l_S16 hσ
  have tS17 := t_S17 hσ
  have lS17 := l_S17 hσ
  have tS18 := t_S18 hσ
  have lS18 := l_S18 hσ
  obtain ⟨m, P, A, R, Qo, C, I, AB1⟩ := id SR1
  have b4 := hB.1.2.1
  have b6 := hB.1.2.2.1
  unfold s_trig at hz
  refine jv_ct rfl (Nat.le_of_ble_eq_true rfl) (b_R_trigger_0 ⟨tg_0, c_isTrigger h hB (jv_ri_i ?_)⟩)
  by_cases h1 : bl x1 (bd_nt B) = true
  · rw [if_pos h1] at hz ⊢
    obtain ⟨j, hj, ex⟩ := bl_of h1 (by omega)
    subst ex
    rw [nx_n (by omega)] at hz
    refine ⟨fun c => absurd c (by decide), fun _ => ?_⟩
    have e7 := r7 j (by omega)
    have tSt := t_ST hσ (show j < 6 by omega)
    obtain ⟨c1, c2⟩ := R.2.2.2.1 j hj
    obtain ⟨-, -, -, -, ⟨n5, h5, e5⟩⟩ := P.trig hj
    have k0 : V (27 + j) 1 = _ := c2 0 (by omega)
    have k1 : V (27 + j) 2 = _ := c2 1 (by omega)
    have k2 : V (27 + j) 3 = _ := c2 2 (by omega)
    have k3 : V (27 + j) 4 = _ := c2 3 (by omega)
    have k4 : V (27 + j) 5 = _ := c2 4 (by omega)
    have k5 : V (27 + j) 6 = _ := c2 5 (by omega)
    rw [← ee] at hz ⊢
    simp (disch := omega) only [li, ne_eq, nI_add, pk_mul, nI_clamp, vin, true_and, nn_eq, nn_le, nn_lt, pk_div, rm2, or0, sw_0, sw_1, sw_3, sw_18, sw_o, sw_h, sw_r, sw_t, wi_0, wi_1, wi_3, wi_18, wi_o, wi_h, wi_r, wi_t, sw_q, sw_ref, wr_q, tS0, tS1, tS2, lS2, tS3, lS3, tS16, lS16, tS17, lS17, tS18, lS18, r0, r1, r2, r3, r4, r5, Option.some.injEq, exists_eq_left', f02, tg_0, e7, tSt]
    refine jv_ct rfl (Nat.le_of_ble_eq_true rfl) (b_U_property_0 ?_)
    simp (disch := omega) only [li, ne_eq, nI_add, pk_mul, nI_clamp, vin, true_and, nn_eq, nn_le, nn_lt, pk_div, rm2, or0, sw_0, sw_1, sw_3, sw_18, sw_o, sw_h, sw_r, sw_t, wi_0, wi_1, wi_3, wi_18, wi_o, wi_h, wi_r, wi_t, sw_q, sw_ref, wr_q, tS0, tS1, tS2, lS2, tS3, lS3, tS16, lS16, tS17, lS17, tS18, lS18, r0, r1, r2, r3, r4, r5, Option.some.injEq, exists_eq_left', f02, tg_0, tSt, c1, k0, k1, k2, k3, k4, k5, e5]
    by_cases hb : bl x2 7 = true
    · rw [if_pos hb] at hz
      obtain ⟨w, hw, ex⟩ := bl_of hb (by omega)
      subst ex
      rw [nx_n (by omega)] at hz
      simp (disch := omega) only [nn_eq]
      refine ⟨fun c => jv_ri_i ?_, fun c => jv_ri_i ?_, fun c => jv_ri_i ?_, fun c => jv_ri_i ?_, fun c => jv_ri_i ?_, fun c => jv_ri_i ?_, fun c => ⟨fun c2 => jv_ri_i ?_, fun c2 => jv_ri_i ?_⟩, fun c => absurd hw (by omega)⟩
      · rw [if_pos c] at hz; exact hz
      · rw [if_neg (by omega)] at hz; rw [show 40 + 6 * j + 0 = 40 + 6 * j + w - 1 by omega]; exact hz
      · rw [if_neg (by omega)] at hz; rw [show 40 + 6 * j + 1 = 40 + 6 * j + w - 1 by omega]; exact hz
      · rw [if_neg (by omega)] at hz; rw [show 40 + 6 * j + 2 = 40 + 6 * j + w - 1 by omega]; exact hz
      · rw [if_neg (by omega)] at hz; rw [show 40 + 6 * j + 3 = 40 + 6 * j + w - 1 by omega]; exact hz
      · rw [if_neg (by omega)] at hz; rw [show 40 + 6 * j + 4 = 40 + 6 * j + w - 1 by omega]; exact hz
      · rw [if_neg (by omega), show 40 + 6 * j + w - 1 = 40 + 6 * j + 5 by omega, e5, c2] at hz; exact hz
      · rw [if_neg (by omega), show 40 + 6 * j + w - 1 = 40 + 6 * j + 5 by omega, e5, show n5 = 1 by omega] at hz; exact hz
    · rw [if_neg hb] at hz
      exact ⟨fun c => absurd c (bl_ne hb (by omega) (by omega)), fun c => absurd c (bl_ne hb (by omega) (by omega)), fun c => absurd c (bl_ne hb (by omega) (by omega)), fun c => absurd c (bl_ne hb (by omega) (by omega)), fun c => absurd c (bl_ne hb (by omega) (by omega)), fun c => absurd c (bl_ne hb (by omega) (by omega)), fun c => absurd c (bl_ne hb (by omega) (by omega)), fun _ => jv_ri_i hz⟩
  · rw [if_neg h1] at hz ⊢
    exact ⟨fun _ => hz, fun c => absurd rfl c⟩
theorem R_cell (h : RC M T B p U K S e) (hB : BV2 B) {x : Int32} (hz : Z (some (.int (s_cell p x))) M 668) : jv_Ct g (d + 9) mt_R_cell [.ref 0, .int x] M 668 0 0 Z := by
  obtain ⟨σ, eσ, hσ, f02, X, V, π, ee, SR1, ab6⟩ := h.pres
  have X0 := X
  obtain ⟨-, r0, r1, r2, r3, r4, r5, r6, r7, r8⟩ := X
  have tS0 := t_S0 hσ
  have tS1 := t_S1 hσ
  have tS2 := t_S2 hσ
  have lS2 := l_S2 hσ
  have tS3 := t_S3 hσ
  have lS3 := l_S3 hσ
  have tS16 := t_S16 hσ
  have lS16 := l_S16 hσ
  have tS17 := t_S17 hσ
  have lS17 := l_S17 hσ
  have tS18 := t_S18 hσ
  have lS18 := l_S18 hσ
  obtain ⟨m, P, A, R, Qo, C, I, AB1⟩ := id SR1
  have b4 := hB.1.2.1
  have b6 := hB.1.2.2.1
  unfold s_cell at hz
  refine jv_ct rfl (Nat.le_of_ble_eq_true rfl) (b_R_cell_0 ?_)
  simp only [li]
  refine c_isBelow (by omega) (jv_ri_i ?_)
  by_cases h1 : bl x 8 = true
  · rw [if_pos h1] at hz ⊢
    obtain ⟨j, hj, ex⟩ := bl_of h1 (by omega)
    subst ex
    rw [nx_n (by omega)] at hz
    refine ⟨fun c => absurd c (by decide), fun _ => ?_⟩
    have e4 := R.2.2.1 j hj
    rw [← ee] at hz ⊢
    simp (disch := omega) only [li, ne_eq, nI_add, pk_mul, nI_clamp, vin, true_and, nn_eq, nn_le, nn_lt, pk_div, rm2, or0, sw_0, sw_1, sw_3, sw_18, sw_o, sw_h, sw_r, sw_t, wi_0, wi_1, wi_3, wi_18, wi_o, wi_h, wi_r, wi_t, sw_q, sw_ref, wr_q, tS0, tS1, tS2, lS2, tS3, lS3, tS16, lS16, tS17, lS17, tS18, lS18, r0, r1, r2, r3, r4, r5, Option.some.injEq, exists_eq_left', f02, tg_0, e4]
    exact hz
  · rw [if_neg h1] at hz ⊢
    exact ⟨fun _ => hz, fun c => absurd rfl c⟩
theorem R_order (h : RC M T B p U K S e) (hB : BV2 B) {x1 x2 : Int32} (hz : Z (some (.int (s_order p x1 x2))) M 668) : jv_Ct g (d + 9) mt_R_order [.ref 0, .int x1, .int x2] M 668 0 0 Z := by
  obtain ⟨σ, eσ, hσ, f02, X, V, π, ee, SR1, ab6⟩ := h.pres
  have X0 := X
  obtain ⟨-, r0, r1, r2, r3, r4, r5, r6, r7, r8⟩ := X
  have tS0 := t_S0 hσ
  have tS1 := t_S1 hσ
  have tS2 := t_S2 hσ
  have lS2 := l_S2 hσ
  have tS3 := t_S3 hσ
  have lS3 := l_S3 hσ
  have tS16 := t_S16 hσ
  have lS16 := l_S16 hσ
  have tS17 := t_S17 hσ
  have lS17 := l_S17 hσ
  have tS18 := t_S18 hσ
  have lS18 := l_S18 hσ
  obtain ⟨m, P, A, R, Qo, C, I, AB1⟩ := id SR1
  have b4 := hB.1.2.1
  have b6 := hB.1.2.2.1
  have hm := P.1
  obtain ⟨n80, e80, o80⟩ := P.2.1 80
  have o80 := o80.2.2.2.2.2.1 rfl
  subst o80
  unfold s_order at hz
  rw [e80, nx_n (by omega)] at hz
  refine jv_ct rfl (Nat.le_of_ble_eq_true rfl) (b_R_order_0 ?_)
  rw [← ee] at hz ⊢
  simp (disch := omega) only [li, ne_eq, nI_add, pk_mul, nI_clamp, vin, true_and, nn_eq, nn_le, nn_lt, pk_div, rm2, or0, sw_0, sw_1, sw_3, sw_18, sw_o, sw_h, sw_r, sw_t, wi_0, wi_1, wi_3, wi_18, wi_o, wi_h, wi_r, wi_t, sw_q, sw_ref, wr_q, tS0, tS1, tS2, lS2, tS3, lS3, tS16, lS16, tS17, lS17, tS18, lS18, r0, r1, r2, r3, r4, r5, Option.some.injEq, exists_eq_left', f02, tg_0, C]
  refine c_isBelow (by omega) (jv_ri_i ?_)
  by_cases h1 : bl x1 n80 = true
  · rw [if_pos h1] at hz ⊢
    obtain ⟨j, hj, ex⟩ := bl_of h1 (by omega)
    subst ex
    rw [nx_n (by omega)] at hz
    refine ⟨fun c => absurd c (by decide), fun _ => ?_⟩
    have hq := I.1 j (by omega)
    have tSo := t_SO hσ hq
    obtain ⟨q0, q1, q2, q3, q4, q5, q6⟩ := Qo j hj
    simp (disch := omega) only [li, ne_eq, nI_add, pk_mul, nI_clamp, vin, true_and, nn_eq, nn_le, nn_lt, pk_div, rm2, or0, sw_0, sw_1, sw_3, sw_18, sw_o, sw_h, sw_r, sw_t, wi_0, wi_1, wi_3, wi_18, wi_o, wi_h, wi_r, wi_t, sw_q, sw_ref, wr_q, tS0, tS1, tS2, lS2, tS3, lS3, tS16, lS16, tS17, lS17, tS18, lS18, r0, r1, r2, r3, r4, r5, Option.some.injEq, exists_eq_left', f02, tg_0, tSo]
    refine jv_ct rfl (Nat.le_of_ble_eq_true rfl) (b_O_property_0 ?_)
    simp (disch := omega) only [li, ne_eq, nI_add, pk_mul, nI_clamp, vin, true_and, nn_eq, nn_le, nn_lt, pk_div, rm2, or0, sw_0, sw_1, sw_3, sw_18, sw_o, sw_h, sw_r, sw_t, wi_0, wi_1, wi_3, wi_18, wi_o, wi_h, wi_r, wi_t, sw_q, sw_ref, wr_q, tS0, tS1, tS2, lS2, tS3, lS3, tS16, lS16, tS17, lS17, tS18, lS18, r0, r1, r2, r3, r4, r5, Option.some.injEq, exists_eq_left', f02, tg_0, tSo, q0, q1, q2, q3]
    by_cases hb : bl x2 4 = true
    · rw [if_pos hb] at hz
      obtain ⟨w, hw, ex⟩ := bl_of hb (by omega)
      subst ex
      rw [nx_n (by omega)] at hz
      simp (disch := omega) only [nn_eq]
      refine ⟨fun c => jv_ri_i ?_, fun c => jv_ri_i ?_, fun c => jv_ri_i ?_, fun c => jv_ri_i ?_, fun c => absurd hw (by omega)⟩
      · subst c; exact hz
      · subst c; exact hz
      · subst c; exact hz
      · subst c; exact hz
    · rw [if_neg hb] at hz
      exact ⟨fun c => absurd c (bl_ne hb (by omega) (by omega)), fun c => absurd c (bl_ne hb (by omega) (by omega)), fun c => absurd c (bl_ne hb (by omega) (by omega)), fun c => absurd c (bl_ne hb (by omega) (by omega)), fun _ => jv_ri_i hz⟩
  · rw [if_neg h1] at hz ⊢
    exact ⟨fun _ => hz, fun c => absurd rfl c⟩
end RO
