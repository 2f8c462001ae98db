/-! ===== the reference's calls: small ones ===== -/
theorem pu_cp (s h : Pg) (o i : Nat) : pu (fun j => if o ≤ j ∧ j < o + i then s (j - o) else h j) (o + i) (s i) = fun j => if o ≤ j ∧ j < o + (i + 1) then s (j - o) else h j := by
  funext j
  show (if j = o + i then s i else if o ≤ j ∧ j < o + i then s (j - o) else h j) = if o ≤ j ∧ j < o + (i + 1) then s (j - o) else h j
  by_cases h1 : j = o + i
  · subst h1; rw [if_pos rfl, if_pos (by omega), show o + i - o = i by omega]
  · rw [if_neg h1]
    by_cases h2 : o ≤ j ∧ j < o + i
    · rw [if_pos h2, if_pos (by omega)]
    · rw [if_neg h2, if_neg (by omega)]
section MC
variable {g : jv_G} {d : Nat} {M M' : jv_Mem} {Z : Option Value → jv_Mem → Nat → Prop} {N : Nat} {T T' : Tt} {B : Bd} {p p' q : Pg} {U U' : Ut} {K K' : Kt} {S S' : St} {e e' : Int64} {D : Dt} {a : Nat} {f : Pg}
theorem RM.s658 (h : RM M T B p U K S e D) (k : Nat) (x : Int32) : RM (jv_si M 658 k x) T B (pu p k x) U K S e D := by
  rw [si_as, h.p1]
  exact h.p658
theorem M_write (h : RM M T B p U K S e D) (hT : T.1 ≤ 150) {x : Int32} (hz : ∀ M', RM M' (s_write T x).2 B p U K S e D → FRc M M' → Z (some (.int (s_write T x).1)) M' 668) : jv_Ct g (d + 9) mt_M_write [.ref 647, .int x] M 668 0 0 Z := by
  unfold s_write at hz
  have h3 := h.t0 0
  have F3 : FRc M (jv_si M 647 0 0) := FRc.si (by omega)
  refine jv_ct rfl (Nat.le_of_ble_eq_true rfl) (b_M_write_0 ⟨tg_m, ?_⟩)
  generalize jv_si M 647 0 0 = M3 at h3 F3 ⊢
  refine c_in1 255 rfl rfl (by omega) (fun hb => jv_ri_i (rn1 ?_)) (fun hb => jv_ri_i (rn0 ?_))
  · rw [if_pos hb] at hz
    have t1 := h3.2.1.1
    have r := h3.1.1
    simp (disch := omega) only [li, ne_eq, nI_add, nI_clamp, true_and, nn_eq, r, mr_1, t1, tg_m, tg_648, sl_648, si_at, si_b, Option.some.injEq, exists_eq_left']
    refine ⟨fun c => ?_, fun c => ?_⟩
    · rw [if_neg c] at hz
      refine ⟨vp_in_nI (by omega) (by omega), ?_⟩
      have h4 : RM (jv_si M3 648 T.1 x) T B p U K S e D := by
        rw [si_as]
        exact h3.p648 (fun i hi => (pu_n _ _ (by omega)).trans (h3.2.1.2 i hi))
      refine hz _ (h4.f2 (T' := (T.1 + 1, pu T.2 T.1 x)) (fun i hi => ?_)) (F3.trans ((FRc.si (by omega)).trans (FRc.si (by omega))))
      have hi : i < T.1 + 1 := hi
      show (jv_si M3 648 T.1 x).1 648 i = pu T.2 T.1 x i
      by_cases hc : i = T.1
      · rw [hc, si_at, pu_s]
      · rw [si_k _ _ hc, pu_n _ _ hc, h3.2.1.2 i (by omega)]
    · rw [if_pos c] at hz
      exact hz _ h3 F3
  · rw [if_neg hb] at hz
    exact hz _ h3 F3
theorem M_wipe (h : RM M T B p U K S e D) (hz : ∀ M', RM M' (0, T.2) B p U K S e D → FRc M M' → Z (some (.int (nI T.1))) M' 668) : jv_Ct g (d + 9) mt_M_wipe [.ref 647] M 668 0 0 Z := by
  have h3 := h.t0 0
  have F3 : FRc M (jv_si M 647 0 0) := FRc.si (by omega)
  refine jv_ct rfl (Nat.le_of_ble_eq_true rfl) (b_M_wipe_0 ⟨tg_m, tg_m, tg_m, ?_⟩)
  generalize jv_si M 647 0 0 = M3 at h3 F3 ⊢
  rw [h3.2.1.1]
  exact hz _ (h3.f2 (T' := (0, T.2)) (fun i hi => absurd hi (Nat.not_lt_zero i))) (F3.trans (FRc.si (by omega)))
theorem M_seed (h : RM M T B p U K S e D) {l : Int64} (hz : ∀ M', RM M' T B p U K S l D → FRc M M' → Z (some (.long e)) M' 668) : jv_Ct g (d + 9) mt_M_seed [.ref 647, .long l] M 668 0 0 Z := by
  have h3 := h.t0 0
  have F3 : FRc M (jv_si M 647 0 0) := FRc.si (by omega)
  refine jv_ct rfl (Nat.le_of_ble_eq_true rfl) (b_M_seed_0 ⟨tg_m, tg_m, tg_m, ?_⟩)
  generalize jv_si M 647 0 0 = M3 at h3 F3 ⊢
  rw [h3.2.2.2.2.2.2.2.1]
  exact hz _ h3.sl (F3.trans (FRc.sl (by omega)))
theorem M_unsee (h : RM M T B p U K S e D) (hz : ∀ M', RM M' T B p U K (0, S.2) e D → FRc M M' → Z (some (.int (nI S.1))) M' 668) : jv_Ct g (d + 9) mt_M_unsee [.ref 647] M 668 0 0 Z := by
  have h3 := h.t0 0
  have F3 : FRc M (jv_si M 647 0 0) := FRc.si (by omega)
  refine jv_ct rfl (Nat.le_of_ble_eq_true rfl) (b_M_unsee_0 ⟨tg_m, tg_m, tg_m, ?_⟩)
  generalize jv_si M 647 0 0 = M3 at h3 F3 ⊢
  rw [h3.2.2.2.2.2.2.1.1]
  exact hz _ (h3.f26 (S' := (0, S.2)) (fun i hi => absurd hi (Nat.not_lt_zero i))) (F3.trans (FRc.si (by omega)))
theorem M_hart (h : RM M T B p U K S e D) (hB : BV2 B) {x1 x2 : Int32} (hz : ∀ M', RM M' T B p U K S e D → FRc M M' → Z (some (.int (s_hart B p x1 x2))) M' 668) : jv_Ct g (d + 9) mt_M_hart [.ref 647, .int x1, .int x2] M 668 0 0 Z := by
  unfold s_hart at hz
  have b4 := hB.1.2.1
  have h3 := h.t0 0
  have F3 : FRc M (jv_si M 647 0 0) := FRc.si (by omega)
  refine jv_ct rfl (Nat.le_of_ble_eq_true rfl) (b_M_hart_0 ⟨tg_m, tg_m, ?_⟩)
  generalize jv_si M 647 0 0 = M3 at h3 F3 ⊢
  refine c_noHart h3.1.2.2.1 b4 (fun h1 => jv_ri_i (re0 ?_)) (fun h1 => jv_ri_i (re1 ?_))
  · rw [if_pos h1] at hz
    refine c_in1 9 rfl rfl (by omega) (fun h2 => jv_ri_i (re1 ?_)) (fun h2 => jv_ri_i (re0 ?_))
    · rw [if_pos h2] at hz
      obtain ⟨j, hj, ex⟩ := bl_of h1 (by omega)
      obtain ⟨w, hw, ew⟩ := bl_of h2 (by omega)
      subst ex ew
      rw [nx_n (by omega), nx_n (by omega)] at hz
      refine ⟨tg_m, 658, (h3.1.1 19).trans mr_19, tg_m, c_tellHart (h3.mx hB (by omega) (by omega)) (by omega) hw (jv_ri_i ?_)⟩
      rw [h3.p1]
      exact hz _ h3 F3
    · rw [if_neg h2] at hz
      exact hz _ h3 F3
  · rw [if_neg h1] at hz
    exact hz _ h3 F3
theorem M_trigger (h : RM M T B p U K S e D) (hB : BV2 B) {x1 x2 : Int32} (hz : ∀ M', RM M' T B p U K S e D → FRc M M' → Z (some (.int (s_trig B p x1 x2))) M' 668) : jv_Ct g (d + 9) mt_M_trigger [.ref 647, .int x1, .int x2] M 668 0 0 Z := by
  unfold s_trig at hz
  have b6 := hB.1.2.2.1
  have h3 := h.t0 0
  have F3 : FRc M (jv_si M 647 0 0) := FRc.si (by omega)
  refine jv_ct rfl (Nat.le_of_ble_eq_true rfl) (b_M_trigger_0 ⟨tg_m, tg_m, ?_⟩)
  generalize jv_si M 647 0 0 = M3 at h3 F3 ⊢
  rw [h3.1.2.2.2.1]
  refine c_inb1 rfl (by omega) (fun h1 => jv_ri_i (rn1 ?_)) (fun h1 => jv_ri_i (rn0 ?_))
  · rw [if_pos h1] at hz
    refine c_in1 6 rfl rfl (by omega) (fun h2 => jv_ri_i (rn1 ?_)) (fun h2 => jv_ri_i (rn0 ?_))
    · rw [if_pos h2] at hz
      obtain ⟨j, hj, ex⟩ := bl_of h1 (by omega)
      obtain ⟨w, hw, ew⟩ := bl_of h2 (by omega)
      subst ex ew
      rw [nx_n (by omega), nx_n (by omega)] at hz
      have r := h3.1.1
      have pg := h3.2.2.1
      have wh := h3.1.2.2.2.2.2.2.2.2
      simp (disch := omega) only [li, ne_eq, nI_add, pk_mul, pk_sub, nI_clamp, vin, true_and, nn_eq, r, mr_10, mr_19, tg_m, tg_658, tg_652, sl_658, sl_652, pg, wh, Option.some.injEq, exists_eq_left']
      refine ⟨fun c => ?_, fun c => ?_⟩
      · rw [if_neg c] at hz; exact hz _ h3 F3
      · rw [if_pos c] at hz; exact hz _ h3 F3
    · rw [if_neg h2] at hz
      exact hz _ h3 F3
  · rw [if_neg h1] at hz
    exact hz _ h3 F3
theorem M_cell (h : RM M T B p U K S e D) {x : Int32} (hz : ∀ M', RM M' T B p U K S e D → FRc M M' → Z (some (.int (s_cell p x))) M' 668) : jv_Ct g (d + 9) mt_M_cell [.ref 647, .int x] M 668 0 0 Z := by
  unfold s_cell at hz
  have h3 := h.t0 0
  have F3 : FRc M (jv_si M 647 0 0) := FRc.si (by omega)
  refine jv_ct rfl (Nat.le_of_ble_eq_true rfl) (b_M_cell_0 ⟨tg_m, ?_⟩)
  generalize jv_si M 647 0 0 = M3 at h3 F3 ⊢
  refine c_in1 7 rfl rfl (by omega) (fun h1 => jv_ri_i (re1 ?_)) (fun h1 => jv_ri_i (re0 ?_))
  · rw [if_pos h1] at hz
    obtain ⟨j, hj, ex⟩ := bl_of h1 (by omega)
    subst ex
    rw [nx_n (by omega)] at hz
    have r := h3.1.1
    have pg := h3.2.2.1
    simp (disch := omega) only [li, nI_add, nI_clamp, vin, true_and, r, mr_19, tg_m, tg_658, sl_658, pg, Option.some.injEq, exists_eq_left']
    exact hz _ h3 F3
  · rw [if_neg h1] at hz
    exact hz _ h3 F3
theorem M_order (h : RM M T B p U K S e D) (P8 : POA B 8 p) {x1 x2 : Int32} (hz : ∀ M', RM M' T B p U K S e D → FRc M M' → Z (some (.int (s_order p x1 x2))) M' 668) : jv_Ct g (d + 9) mt_M_order [.ref 647, .int x1, .int x2] M 668 0 0 Z := by
  unfold s_order at hz
  obtain ⟨m, hm, Pm, Am⟩ := P8
  have e80 := Pm.p80
  have h3 := h.t0 0
  have F3 : FRc M (jv_si M 647 0 0) := FRc.si (by omega)
  refine jv_ct rfl (Nat.le_of_ble_eq_true rfl) (b_M_order_0 ⟨tg_m, tg_m, 658, (h3.1.1 19).trans mr_19, tg_658, by rw [sl_658]; exact vp_in_nI (n := 80) (by omega) (by omega), ?_⟩)
  generalize jv_si M 647 0 0 = M3 at h3 F3 ⊢
  have e80' : M3.1 658 (Int32.toNatClampNeg 80) = nI m := (h3.2.2.1 80).trans e80
  rw [e80']
  rw [e80, nx_n (by omega)] at hz
  refine c_inb1 rfl (by omega) (fun h1 => jv_ri_i (rn1 ?_)) (fun h1 => jv_ri_i (rn0 ?_))
  · rw [if_pos h1] at hz
    refine c_in1 3 rfl rfl (by omega) (fun h2 => jv_ri_i (re1 ?_)) (fun h2 => jv_ri_i (re0 ?_))
    · rw [if_pos h2] at hz
      obtain ⟨j, hj, ex⟩ := bl_of h1 (by omega)
      obtain ⟨w, hw, ew⟩ := bl_of h2 (by omega)
      subst ex ew
      rw [nx_n (by omega), nx_n (by omega)] at hz
      have r := h3.1.1
      have pg := h3.2.2.1
      simp (disch := omega) only [li, ne_eq, nI_add, pk_mul, pk_sub, nI_clamp, vin, true_and, nn_eq, r, mr_19, tg_m, tg_658, sl_658, pg, Option.some.injEq, exists_eq_left']
      exact hz _ h3 F3
    · rw [if_neg h2] at hz
      exact hz _ h3 F3
  · rw [if_neg h1] at hz
    exact hz _ h3 F3
theorem M_see (h : RM M T B p U K S e D) (hS : S.1 ≤ 6) {x1 x2 x3 : Int32} (hz : ∀ M', RM M' T B p U K (s_see S x1 x2 x3).2 e D → FRc M M' → Z (some (.int (s_see S x1 x2 x3).1)) M' 668) : jv_Ct g (d + 9) mt_M_see [.ref 647, .int x1, .int x2, .int x3] M 668 0 0 Z := by
  unfold s_see at hz
  have h3 := h.t0 0
  have F3 : FRc M (jv_si M 647 0 0) := FRc.si (by omega)
  refine jv_ct rfl (Nat.le_of_ble_eq_true rfl) (b_M_see_0 ⟨tg_m, ?_⟩)
  generalize jv_si M 647 0 0 = M3 at h3 F3 ⊢
  have no : ¬ (bl x1 10 = true ∧ bl x2 3 = true ∧ bl x3 (if x2 = nI 0 then 16 else if x2 = nI 1 then 3 else 1000) = true) → Z (some (.int (-2))) M3 668 := fun c => by
    rw [if_neg c] at hz
    exact hz _ h3 F3
  refine c_in1 9 rfl rfl (by omega) (fun h1 => jv_ri_i (re1 ?_)) (fun h1 => jv_ri_i (re0 (no (fun z => h1 z.1))))
  refine c_in1 2 rfl rfl (by omega) (fun h2 => jv_ri_i (re1 ?_)) (fun h2 => jv_ri_i (re0 (no (fun z => h2 z.2.1))))
  have go : ∀ b, b < 2 ^ 30 → (if x2 = nI 0 then 16 else if x2 = nI 1 then 3 else 1000) = b + 1 → jv_J g (d + 9) mt_M_see 56 [some (.ref 647), some (.int x1), some (.int x2), some (.int x3)] [.long (lN b), .long 0, .long (Int32.toInt64 x3)] M3 668 0 0 Z := by
    intro b hb eb
    rw [eb] at hz no
    refine b_M_see_56 (c_in1 b rfl rfl (by omega) (fun h3x => jv_ri_i (rn1 ?_)) (fun h3x => jv_ri_i (rn0 (no (fun z => h3x z.2.2)))))
    rw [if_pos ⟨h1, h2, h3x⟩] at hz
    have r := h3.1.1
    have s1 := h3.2.2.2.2.2.2.1.1
    have s2 := h3.2.2.2.2.2.2.1.2
    simp (disch := omega) only [li, ne_eq, nI_add, nI_clamp, true_and, nn_eq, r, mr_27, mr_28, mr_29, s1, tg_m, tg_664, tg_665, tg_666, sl_664, sl_665, sl_666, si_at, si_b, si_r, Option.some.injEq, exists_eq_left']
    refine ⟨fun c => ?_, fun c => ?_⟩
    · rw [if_neg c] at hz
      have v6 : vp_in (nI S.1) 6 := vp_in_nI (by omega) (by omega)
      refine ⟨v6, v6, v6, ?_⟩
      have h4 : RM (jv_si M3 664 S.1 x1) T B p U K S e D := by
        rw [si_as]; exact h3.p664 (fun i hi => (pu_n _ _ (by omega)).trans (s2 i hi).1)
      have h5 : RM (jv_si (jv_si M3 664 S.1 x1) 665 S.1 x2) T B p U K S e D := by
        rw [si_as]; exact h4.p665 (fun i hi => (pu_n _ _ (by omega)).trans (h4.2.2.2.2.2.2.1.2 i hi).2.1)
      have h6 : RM (jv_si (jv_si (jv_si M3 664 S.1 x1) 665 S.1 x2) 666 S.1 x3) T B p U K S e D := by
        rw [si_as]; exact h5.p666 (fun i hi => (pu_n _ _ (by omega)).trans (h5.2.2.2.2.2.2.1.2 i hi).2.2)
      refine hz _ (h6.f26 (S' := (S.1 + 1, pu S.2.1 S.1 x1, pu S.2.2.1 S.1 x2, pu S.2.2.2 S.1 x3)) (fun i hi => ?_)) (F3.trans (((FRc.si (by omega)).trans ((FRc.si (by omega)).trans (FRc.si (by omega)))).trans (FRc.si (by omega))))
      have hi : i < S.1 + 1 := hi
      show _ = pu S.2.1 S.1 x1 i ∧ _ = pu S.2.2.1 S.1 x2 i ∧ _ = pu S.2.2.2 S.1 x3 i
      by_cases hc : i = S.1
      · subst hc
        rw [si_b _ _ (by omega), si_b _ _ (by omega), si_at, si_b _ _ (by omega), si_at, si_at, pu_s, pu_s, pu_s]
        exact ⟨rfl, rfl, rfl⟩
      · rw [pu_n _ _ hc, pu_n _ _ hc, pu_n _ _ hc]
        exact h6.2.2.2.2.2.2.1.2 i (by omega)
    · rw [if_pos c] at hz
      exact hz _ h3 F3
  refine ⟨fun c0 => ⟨fun c1 => go 999 (by omega) ?_, fun c1 => go 2 (by omega) ?_⟩, fun c0 => go 15 (by omega) ?_⟩
  · rw [if_neg (show ¬ x2 = nI 0 from c0), if_neg (show ¬ x2 = nI 1 from c1)]
  · rw [if_neg (show ¬ x2 = nI 0 from c0), if_pos (show x2 = nI 1 from c1)]
  · rw [if_pos (show x2 = nI 0 from c0)]
/-- the page noted at the book's end -/
theorem c_note52 (h : RM M T B p U K S e D) (hn : U.1 ≤ 13) (e1 : U'.1 = U.1 + 1) (e2 : ∀ i, i < U.1 → U'.2 i = U.2 i) (e3 : U'.2 U.1 = p) (hz : ∀ M', RM M' T B p U' K S e D → FRc M M' → Z none M' 668) : jv_J g d mt_M_note 52 [some (.ref 647), some (.int (nI 0))] [] M 668 0 0 Z := by
  have r := h.1.1
  have pg := h.2.2.1
  have u1 := h.2.2.2.1.1
  have u2 := h.2.2.2.1.2
  have l : ∀ n i, i + n = 165 → jv_J g d mt_M_note 52 [some (.ref 647), some (.int (nI i))] [] (jv_pg M 661 (fun j => if 165 * U.1 ≤ j ∧ j < 165 * U.1 + i then p (j - 165 * U.1) else M.1 661 j)) 668 0 0 Z := by
    intro n
    induction n with
    | zero =>
      intro i hi
      have hi : i = 165 := by omega
      subst hi
      refine b_M_note_52 ⟨fun _ => ⟨tg_m, tg_m, ?_⟩, fun c => absurd (nI_le (Nat.le_refl 165) (by omega)) c⟩
      rw [pg_ne _ _ _ (by omega), u1, show (nI U.1 + 1 : Int32) = nI (U.1 + 1) from nI_add U.1 1, ← e1]
      refine hz _ (h.nt (fun i k hi hk => ?_)) ((FRc.pg (by omega)).trans (FRc.si (by omega)))
      by_cases hc : i = U.1
      · subst hc
        rw [if_pos (by omega), show 165 * U.1 + k - 165 * U.1 = k by omega, e3]
      · rw [if_neg (by omega), e2 i (by omega)]
        exact u2 i k (by omega) hk
    | succ n ih =>
      intro i hi
      have ih := ih (i + 1) (by omega)
      rw [← pu_cp] at ih
      refine b_M_note_52 ?_
      simp (disch := omega) only [li, nn_le, nI_add, pk_mul, nI_clamp, vin, true_and, pg_r, pg_ne, ne_eq, not_false_eq_true, r, mr_19, mr_22, u1, pg, tg_m, tg_658, tg_661, sl_658, sl_661, si_pg, Option.some.injEq, exists_eq_left']
      exact ⟨fun c => absurd c (by omega), fun _ => ih⟩
  have l0 := l 165 0 rfl
  have e0 : (fun j => if 165 * U.1 ≤ j ∧ j < 165 * U.1 + 0 then p (j - 165 * U.1) else M.1 661 j) = M.1 661 := by
    funext j
    rw [if_neg (by omega)]
  rw [e0, pg_self] at l0
  exact l0
theorem c_note (h : RM M T B p U K S e D) (hU : U.1 ≤ 14) (hz : ∀ M', RM M' T B p (U_note U p) K S e D → FRc M M' → Z none M' 668) : jv_Ct g d mt_M_note [.ref 647] M 668 0 0 Z := by
  have r := h.1.1
  have u1 := h.2.2.2.1.1
  have u2 := h.2.2.2.1.2
  unfold U_note at hz
  refine jv_ct rfl (Nat.le_of_ble_eq_true rfl) (b_M_note_0 ⟨tg_m, ?_⟩)
  rw [u1]
  by_cases h14 : U.1 = 14
  · rw [if_pos h14] at hz
    refine ⟨fun c => absurd (by rw [h14]; rfl) c, fun _ => ?_⟩
    have l : ∀ n i, i + n = 2145 → jv_J g d mt_M_note 11 [some (.ref 647), some (.int (nI i))] [] (jv_pg M 661 (fun j => if j < i then M.1 661 (j + 165) else M.1 661 j)) 668 0 0 Z := by
      intro n
      induction n with
      | zero =>
        intro i hi
        have hi : i = 2145 := by omega
        subst hi
        refine b_M_note_11 ⟨fun _ => ⟨tg_m, tg_m, ?_⟩, fun c => absurd (nI_le (Nat.le_refl 2145) (by omega)) c⟩
        rw [pg_ne _ _ _ (by omega), u1, h14, show (nI 14 - 1 : Int32) = nI 13 from rfl]
        have h5 := h.nt (U' := (13, fun i => U.2 (i + 1))) (f := fun j => if j < 2145 then M.1 661 (j + 165) else M.1 661 j) (fun i k hi hk => by
          have hi : i < 13 := hi
          show (if 165 * i + k < 2145 then M.1 661 (165 * i + k + 165) else M.1 661 (165 * i + k)) = U.2 (i + 1) k
          rw [if_pos (by omega), ← u2 (i + 1) k (by omega) hk, show 165 * i + k + 165 = 165 * (i + 1) + k by omega])
        exact c_note52 (U' := (14, fun i => if i < 13 then U.2 (i + 1) else p)) h5 (Nat.le_refl 13) rfl (fun i (hi : i < 13) => if_pos hi) (show (if 13 < 13 then U.2 14 else p) = p from if_neg (Nat.lt_irrefl 13)) (fun M' h' F' => hz M' h' (((FRc.pg (by omega)).trans (FRc.si (by omega))).trans F'))
      | succ n ih =>
        intro i hi
        have ih := ih (i + 1) (by omega)
        rw [← pu_lt (fun j => M.1 661 (j + 165))] at ih
        refine b_M_note_11 ?_
        have hn : ¬ i + 165 < i := by omega
        simp (disch := omega) only [li, nn_le, nI_add, nI_clamp, vin, true_and, pg_r, pg_at, hn, if_false, r, mr_22, tg_m, tg_661, sl_661, si_pg, Option.some.injEq, exists_eq_left']
        exact ⟨fun c => absurd c (by omega), fun _ => ih⟩
    have l0 := l 2145 0 rfl
    have e0 : (fun j => if j < 0 then M.1 661 (j + 165) else M.1 661 j) = M.1 661 := by
      funext j
      rw [if_neg (by omega)]
    rw [e0, pg_self] at l0
    exact l0
  · rw [if_neg h14] at hz
    refine ⟨fun _ => ?_, fun c => absurd ((nn_eq (a := U.1) (n := 14) (by omega) (by omega)).mp c) h14⟩
    exact c_note52 h (by omega) rfl (fun i hi => if_neg (by omega)) (if_pos rfl) hz
theorem M_clear (h : RM M T B p U K S e D) (hU : U.1 ≤ 14) (hz : ∀ M', RM M' T B (s_clear U p).2.2 (s_clear U p).2.1 K S e D → FRc M M' → Z (some (.int (s_clear U p).1)) M' 668) : jv_Ct g (d + 9) mt_M_clear [.ref 647] M 668 0 0 Z := by
  have h3 := h.t0 0
  have F3 : FRc M (jv_si M 647 0 0) := FRc.si (by omega)
  refine jv_ct rfl (Nat.le_of_ble_eq_true rfl) (b_M_clear_0 ⟨tg_m, tg_m, ?_⟩)
  generalize jv_si M 647 0 0 = M3 at h3 F3 ⊢
  refine c_note h3 hU (fun M4 h4 F4 => jv_rv_i ?_)
  have r := h4.1.1
  have pg := h4.2.2.1
  simp (disch := omega) only [li, nI_clamp, vin, true_and, r, mr_19, tg_m, tg_658, sl_658, pg, Option.some.injEq, exists_eq_left']
  exact hz _ (h4.s658 76 (nI 0)) ((F3.trans F4).trans (FRc.si (by omega)))
theorem M_poke (h : RM M T B p U K S e D) (hU : U.1 ≤ 14) {x1 x2 : Int32} (hz : ∀ M', RM M' T B (s_poke U p x1 x2).2.2 (s_poke U p x1 x2).2.1 K S e D → FRc M M' → Z (some (.int (s_poke U p x1 x2).1)) M' 668) : jv_Ct g (d + 9) mt_M_poke [.ref 647, .int x1, .int x2] M 668 0 0 Z := by
  unfold s_poke at hz
  have h3 := h.t0 0
  have F3 : FRc M (jv_si M 647 0 0) := FRc.si (by omega)
  refine jv_ct rfl (Nat.le_of_ble_eq_true rfl) (b_M_poke_0 ⟨tg_m, ?_⟩)
  generalize jv_si M 647 0 0 = M3 at h3 F3 ⊢
  have no : ¬ (bl x1 8 = true ∧ bl x2 1000 = true) → Z (some (.int (-2))) M3 668 := fun c => by
    rw [if_neg c] at hz
    exact hz _ h3 F3
  refine c_in1 7 rfl rfl (by omega) (fun h1 => jv_ri_i (re1 ?_)) (fun h1 => jv_ri_i (re0 (no (fun z => h1 z.1))))
  refine c_in1 999 rfl rfl (by omega) (fun h2 => jv_ri_i (rn1 ?_)) (fun h2 => jv_ri_i (rn0 (no (fun z => h2 z.2))))
  rw [if_pos ⟨h1, h2⟩] at hz
  obtain ⟨j, hj, ex⟩ := bl_of h1 (by omega)
  subst ex
  rw [nx_n (by omega)] at hz
  refine ⟨tg_m, c_note h3 hU (fun M4 h4 F4 => jv_rv_i ?_)⟩
  have r := h4.1.1
  have pg := h4.2.2.1
  simp (disch := omega) only [li, nI_clamp, nI_add, vin, true_and, r, mr_19, tg_m, tg_658, sl_658, pg, Option.some.injEq, exists_eq_left']
  exact hz _ (h4.s658 (32 + j) x2) ((F3.trans F4).trans (FRc.si (by omega)))
theorem M_tick (h : RM M T B p U K S e D) (hB : BV2 B) (P8 : POA B 8 p) (hU : U.1 ≤ 14) {x : Int32} (hz : ∀ M', RM M' T B (s_tick B U p x).2.2 (s_tick B U p x).2.1 K S e D → FRc M M' → Z (some (.int (s_tick B U p x).1)) M' 668) : jv_Ct g (d + 9) mt_M_tick [.ref 647, .int x] M 668 0 0 Z := by
  unfold s_tick at hz
  have b4 := hB.1.2.1
  have h3 := h.t0 0
  have F3 : FRc M (jv_si M 647 0 0) := FRc.si (by omega)
  refine jv_ct rfl (Nat.le_of_ble_eq_true rfl) (b_M_tick_0 ⟨tg_m, ?_⟩)
  generalize jv_si M 647 0 0 = M3 at h3 F3 ⊢
  refine c_in2 1 99 rfl rfl (by omega) (by omega) (fun hb => jv_ri_i (rn1 ?_)) (fun hb => jv_ri_i (rn0 ?_))
  · rw [if_pos hb] at hz
    obtain ⟨n, hn1, hn2, ex⟩ := br_of hb (by omega)
    subst ex
    rw [nx_n (by omega)] at hz
    refine ⟨tg_m, c_note h3 hU (fun M4 h4 F4 => jv_rv_i ?_)⟩
    refine ⟨tg_m, 658, (h4.1.1 19).trans mr_19, tg_m, q_tickMany (h4.mx hB (by omega) (by omega)) hB (by rw [h4.p1]; exact P8.le (by omega)) (by omega) (fun w => jv_rv_i ?_)⟩
    have h5 : RM (jv_pw M4 658 (PT B (nI 63) n (M4.1 658)) w) T B (PT B (nI 63) n p) (U_note U p) K S e D := by
      rw [h4.p1]
      exact (h4.scr (SCR.si (k := 31) (x := w) (by omega))).p658
    have F5 : FRc M4 (jv_pw M4 658 (PT B (nI 63) n (M4.1 658)) w) := (FRc.si (by omega)).trans (FRc.pg (by omega))
    generalize jv_pw M4 658 (PT B (nI 63) n (M4.1 658)) w = M5 at h5 F5 ⊢
    rw [h5.1.2.2.1]
    refine ⟨tg_m, 658, (h5.1.1 19).trans mr_19, tg_m, q_hof (h5.mx hB (by omega) (by omega)) b4 (jv_ri_i ?_)⟩
    rw [h5.p1]
    obtain ⟨a, ha, ea, eo⟩ := ones_hset (PT B (nI 63) n p) hB
    rw [eo] at hz
    rw [ea]
    exact c_M_ones (by omega) (jv_ri_i (hz _ h5 ((F3.trans F4).trans F5)))
  · rw [if_neg hb] at hz
    exact hz _ h3 F3
end MC
