/-! ===== the reference's calls: acts, slots ===== -/
section MC
variable {g : jv_G} {d : Nat} {M M' : jv_Mem} {Z : Option Value → jv_Mem → Nat → Prop} {N : Nat} {T T' : Tt} {B : Bd} {p p' q : Pg} {U U' : Ut} {K K' : Kt} {S S' : St} {e e' : Int64} {D : Dt} {a : Nat} {f : Pg}
theorem M_undo (h : RM M T B p U K S e D) (hp : PZ p) (hU : U.1 ≤ 14) (hu : ∀ i, i < U.1 → PZ (U.2 i)) (hz : ∀ M', RM M' T B (s_undo U p).2.2 (s_undo U p).2.1 K S e D → FRc M M' → Z (some (.int (s_undo U p).1)) M' 668) : jv_Ct g (d + 9) mt_M_undo [.ref 647] M 668 0 0 Z := by
  unfold s_undo at hz
  have h3 := h.t0 0
  have F3 : FRc M (jv_si M 647 0 0) := FRc.si (by omega)
  refine jv_ct rfl (Nat.le_of_ble_eq_true rfl) (b_M_undo_0 ⟨tg_m, tg_m, ?_⟩)
  generalize jv_si M 647 0 0 = M3 at h3 F3 ⊢
  rw [h3.2.2.2.1.1]
  by_cases h0 : U.1 = 0
  · rw [if_pos h0] at hz
    exact ⟨fun c => absurd (by rw [h0]; rfl) c, fun _ => hz _ h3 F3⟩
  · rw [if_neg h0] at hz
    refine ⟨fun _ => ⟨tg_m, tg_m, ?_⟩, fun c => absurd ((nn_eq (a := U.1) (n := 0) (by omega) (by omega)).mp c) h0⟩
    obtain ⟨n, en⟩ : ∃ n, U.1 = n + 1 := ⟨U.1 - 1, by omega⟩
    rw [en, show (nI (n + 1) - 1 : Int32) = nI n from nI_pred n]
    rw [en, show n + 1 - 1 = n by omega] at hz
    have u2 := h3.2.2.2.1.2
    have h4 := h3.f23 (U' := (n, U.2)) (fun i k (hi : i < n) hk => u2 i k (by omega) hk)
    have F4 : FRc M (jv_si M3 647 23 (nI n)) := F3.trans (FRc.si (by omega))
    have bk : ∀ k, k < 165 → (jv_si M3 647 23 (nI n)).1 661 (165 * n + k) = U.2 n k := fun k hk => by rw [si_b _ _ (by omega)]; exact u2 n k (by omega) hk
    generalize jv_si M3 647 23 (nI n) = M4 at h4 F4 bk ⊢
    have r := h4.1.1
    have u1 : M4.1 647 23 = nI n := h4.2.2.2.1.1
    have pg := h4.2.2.1
    have l : ∀ k i, i + k = 165 → jv_J g (d + 9) mt_M_undo 27 [some (.ref 647), some (.int (nI i))] [] (jv_pg M4 658 (fun j => if j < i then U.2 n j else p j)) 668 0 0 Z := by
      intro k
      induction k with
      | zero =>
        intro i hi
        have hi : i = 165 := by omega
        subst hi
        refine b_M_undo_27 ⟨fun _ => ⟨tg_m, ?_⟩, fun c => absurd (nI_le (Nat.le_refl 165) (by omega)) c⟩
        rw [pg_ne _ _ _ (by omega), u1]
        have ef : (fun j => if j < 165 then U.2 n j else p j) = U.2 n := by
          funext j
          by_cases hj : j < 165
          · rw [if_pos hj]
          · rw [if_neg hj, hp j (by omega), hu n (by omega) j (by omega)]
        rw [ef]
        exact hz _ h4.p658 (F4.trans (FRc.pg (by omega)))
      | succ k ih =>
        intro i hi
        have ih := ih (i + 1) (by omega)
        rw [← pu_lt (U.2 n)] at ih
        have bi := bk i (by omega)
        refine b_M_undo_27 ?_
        simp (disch := omega) only [li, nn_le, nI_add, pk_mul, nI_clamp, vin, true_and, pg_r, pg_ne, ne_eq, not_false_eq_true, r, mr_19, mr_22, u1, bi, tg_m, tg_658, tg_661, sl_658, sl_661, si_pg, Option.some.injEq, exists_eq_left']
        exact ⟨fun c => absurd c (by omega), fun _ => ih⟩
    have l0 := l 165 0 rfl
    have e0 : (fun j => if j < 0 then U.2 n j else p j) = M4.1 658 := by
      funext j
      rw [if_neg (by omega), pg]
    rw [e0, pg_self] at l0
    exact l0
theorem M_again (h : RM M T B p U K S e D) (hp : PZ p) (hk : ∀ i, i < 2 → K.1 i = true → PZ (K.2 i)) {x : Int32} (hz : ∀ M', RM M' T B (s_again B U p K x).2.2 (s_again B U p K x).2.1 K S e D → FRc M M' → Z (some (.int (s_again B U p K x).1)) M' 668) : jv_Ct g (d + 9) mt_M_again [.ref 647, .int x] M 668 0 0 Z := by
  unfold s_again at hz
  have h3 := h.t0 0
  have F3 : FRc M (jv_si M 647 0 0) := FRc.si (by omega)
  refine jv_ct rfl (Nat.le_of_ble_eq_true rfl) (b_M_again_0 ⟨tg_m, ?_⟩)
  generalize jv_si M 647 0 0 = M3 at h3 F3 ⊢
  refine c_in1 1 rfl rfl (by omega) (fun h1 => jv_ri_i (rn1 ?_)) (fun h1 => jv_ri_i (rn0 ?_))
  · rw [if_pos h1] at hz
    obtain ⟨n, hn, ex⟩ := bl_of h1 (by omega)
    subst ex
    rw [nx_n (by omega)] at hz
    have r := h3.1.1
    have pg := h3.2.2.1
    have k1 := h3.2.2.2.2.1 n hn
    refine ⟨tg_m, 663, (r 25).trans mr_25, tg_663, by rw [sl_663]; exact vp_in_nI hn (by omega), ?_⟩
    rw [nI_clamp (by omega), k1]
    by_cases hK : K.1 n = true
    · rw [if_pos hK] at hz
      rw [if_pos hK]
      refine ⟨fun _ => ?_, fun c => absurd c (by decide)⟩
      have bk := fun k hj => h3.2.2.2.2.2.1 n k hn hK hj
      have l : ∀ k i, i + k = 165 → jv_J g (d + 9) mt_M_again 31 [some (.ref 647), some (.int (nI n)), some (.int (nI i))] [] (jv_pg M3 658 (fun j => if j < i then K.2 n j else p j)) 668 0 0 Z := by
        intro k
        induction k with
        | zero =>
          intro i hi
          have hi : i = 165 := by omega
          subst hi
          refine b_M_again_31 ⟨fun _ => ⟨tg_m, tg_m, ?_⟩, fun c => absurd (nI_le (Nat.le_refl 165) (by omega)) c⟩
          have ef : (fun j => if j < 165 then K.2 n j else p j) = K.2 n := by
            funext j
            by_cases hj : j < 165
            · rw [if_pos hj]
            · rw [if_neg hj, hp j (by omega), hk n hn hK j (by omega)]
          rw [ef]
          have h4 : RM (jv_pg M3 658 (K.2 n)) T B (K.2 n) U K S e D := h3.p658
          have h5 := h4.f23 (U' := (0, U.2)) (fun i k hi hk => absurd hi (Nat.not_lt_zero i))
          have e6 : (jv_si (jv_pg M3 658 (K.2 n)) 647 23 0).1 647 6 = nI (bd_nh B) := h5.1.2.2.1
          rw [e6]
          exact hz _ h5 (F3.trans ((FRc.pg (by omega)).trans (FRc.si (by omega))))
        | succ k ih =>
          intro i hi
          have ih := ih (i + 1) (by omega)
          rw [← pu_lt (K.2 n)] at ih
          have bi := bk i (by omega)
          refine b_M_again_31 ?_
          simp (disch := omega) only [li, nn_le, nI_add, pk_mul, nI_clamp, vin, true_and, pg_r, pg_ne, ne_eq, not_false_eq_true, r, mr_19, mr_24, bi, tg_m, tg_658, tg_662, sl_658, sl_662, si_pg, Option.some.injEq, exists_eq_left']
          exact ⟨fun c => absurd c (by omega), fun _ => ih⟩
      have l0 := l 165 0 rfl
      have e0 : (fun j => if j < 0 then K.2 n j else p j) = M3.1 658 := by
        funext j
        rw [if_neg (by omega), pg]
      rw [e0, pg_self] at l0
      exact l0
    · rw [if_neg hK] at hz
      rw [if_neg hK]
      exact ⟨fun c => absurd rfl c, fun _ => hz _ h3 F3⟩
  · rw [if_neg h1] at hz
    exact hz _ h3 F3
theorem M_keep (h : RM M T B p U K S e D) {x : Int32} (hz : ∀ M', RM M' T B p U (s_keep B p K x).2 S e D → FRc M M' → Z (some (.int (s_keep B p K x).1)) M' 668) : jv_Ct g (d + 9) mt_M_keep [.ref 647, .int x] M 668 0 0 Z := by
  unfold s_keep at hz
  have h3 := h.t0 0
  have F3 : FRc M (jv_si M 647 0 0) := FRc.si (by omega)
  refine jv_ct rfl (Nat.le_of_ble_eq_true rfl) (b_M_keep_0 ⟨tg_m, ?_⟩)
  generalize jv_si M 647 0 0 = M3 at h3 F3 ⊢
  refine c_in1 1 rfl rfl (by omega) (fun h1 => jv_ri_i (rn1 ?_)) (fun h1 => jv_ri_i (rn0 ?_))
  · rw [if_pos h1] at hz
    obtain ⟨n, hn, ex⟩ := bl_of h1 (by omega)
    subst ex
    rw [nx_n (by omega)] at hz
    have r := h3.1.1
    have pg := h3.2.2.1
    have nh := h3.1.2.2.1
    refine ⟨tg_m, 663, (r 25).trans mr_25, tg_663, by rw [sl_663]; exact vp_in_nI hn (by omega), ?_⟩
    rw [nI_clamp (by omega), si_as]
    obtain ⟨f3, ef3⟩ : ∃ f3, f3 = pu (M3.1 663) n 1 := ⟨_, rfl⟩
    rw [← ef3]
    have l : ∀ k i, i + k = 165 → jv_J g (d + 9) mt_M_keep 26 [some (.ref 647), some (.int (nI n)), some (.int (nI i))] [] (jv_pg (jv_pg M3 663 f3) 662 (fun j => if 165 * n ≤ j ∧ j < 165 * n + i then p (j - 165 * n) else M3.1 662 j)) 668 0 0 Z := by
      intro k
      induction k with
      | zero =>
        intro i hi
        have hi : i = 165 := by omega
        subst hi
        refine b_M_keep_26 ⟨fun _ => ⟨tg_m, ?_⟩, fun c => absurd (nI_le (Nat.le_refl 165) (by omega)) c⟩
        rw [pg_ne _ _ _ (by omega), pg_ne _ _ _ (by omega), nh]
        refine hz _ (h3.kp (fun i hi => ?_) (fun i k hi hK hk => ?_)) (F3.trans ((FRc.pg (by omega)).trans (FRc.pg (by omega))))
        · show f3 i = if (if i = n then true else K.1 i) = true then nI 1 else nI 0
          rw [ef3]
          by_cases hc : i = n
          · rw [hc, pu_s, if_pos rfl, if_pos rfl]; rfl
          · rw [pu_n _ _ hc, if_neg hc]; exact h3.2.2.2.2.1 i hi
        · show (if 165 * n ≤ 165 * i + k ∧ 165 * i + k < 165 * n + 165 then p (165 * i + k - 165 * n) else M3.1 662 (165 * i + k)) = (if i = n then p else K.2 i) k
          have hK : (if i = n then true else K.1 i) = true := hK
          by_cases hc : i = n
          · rw [if_pos (by omega), if_pos hc, hc, show 165 * n + k - 165 * n = k by omega]
          · rw [if_neg hc] at hK
            rw [if_neg (by omega), if_neg hc]
            exact h3.2.2.2.2.2.1 i k hi hK hk
      | succ k ih =>
        intro i hi
        have ih := ih (i + 1) (by omega)
        rw [← pu_cp] at ih
        refine b_M_keep_26 ?_
        simp (disch := omega) only [li, nn_le, nI_add, pk_mul, nI_clamp, vin, true_and, pg_r, pg_ne, ne_eq, not_false_eq_true, r, mr_19, mr_24, pg, tg_m, tg_658, tg_662, sl_658, sl_662, si_pg, Option.some.injEq, exists_eq_left']
        exact ⟨fun c => absurd c (by omega), fun _ => ih⟩
    have l0 := l 165 0 rfl
    have e0 : (fun j => if 165 * n ≤ j ∧ j < 165 * n + 0 then p (j - 165 * n) else M3.1 662 j) = (jv_pg M3 663 f3).1 662 := by
      funext j
      rw [if_neg (by omega), pg_ne _ _ _ (by omega)]
    rw [e0, pg_self] at l0
    exact l0
  · rw [if_neg h1] at hz
    exact hz _ h3 F3
theorem c_isTold {x : Int32} (hz : Z (some (.int (if tb x = true then nI 1 else nI 0))) M N) : jv_Ct g (d + 1) mt_M_isTold [.int x] M N 0 0 Z := by
  have hk : ∀ k : Nat, k < 10 → bl x 900 = true → (x / 100 = nI k ↔ nx x / 100 = k) := by
    intro k hk hb
    obtain ⟨n, hn, ex⟩ := bl_of hb (by omega)
    subst ex
    rw [nx_n (by omega), show (nI n / 100 : Int32) = nI (n / 100) from pk_div (d := 100) (by omega) (by omega) (by omega)]
    exact nI_eq (by omega) (by omega)
  have l46 : ∀ y : Nat, y ≤ 9 → (bl x 900 = true → y + 1 = bvals (nx x / 100)) → jv_J g (d + 1) mt_M_isTold 46 [some (.int x), some (.int (x / 100)), none] [.int (nI y)] M N 0 0 Z := by
    intro y hy hyb
    unfold tb at hz
    refine b_M_isTold_46 (c_in1 899 rfl rfl (by omega) (fun h1 => jv_ri_i (re1 ?_)) (fun h1 => jv_ri_i (re0 ?_)))
    · obtain ⟨n, hn, ex⟩ := bl_of h1 (by omega)
      subst ex
      have hyb := hyb h1
      rw [nx_n (by omega)] at hyb hz
      rw [if_pos h1] at hz
      have hbv := BV_vals (n := n) rfl (show n / 100 < 9 by omega)
      have l81 : ∀ r : Nat, r < 4 → r + 1 = bregs (n / 100) → jv_J g (d + 1) mt_M_isTold 81 [some (.int (nI n)), none, some (.int (nI y))] [.int (nI r), .int (nI (n / 10 % 10))] M N 0 0 Z := by
        intro r hr4 hr
        refine b_M_isTold_81 ?_
        simp (disch := omega) only [li, pk_div, pk_mul, rm2, nn_lt]
        refine ⟨fun c1 => ?_, fun c1 => ⟨fun c2 => ?_, fun c2 => ?_⟩⟩
        · have : BVb n = false := by rw [← Bool.not_eq_true, BVb_iff, hbv]; omega
          rw [this] at hz; exact hz
        · have : BVb n = false := by rw [← Bool.not_eq_true, BVb_iff, hbv]; omega
          rw [this] at hz; exact hz
        · have : BVb n = true := by rw [BVb_iff, hbv]; omega
          rw [this] at hz; exact hz
      simp (disch := omega) only [li, pk_div, pk_mul, rm2, nn_le]
      refine ⟨fun c1 => l81 0 (by omega) ?_, fun c1 => ⟨fun c2 => l81 0 (by omega) ?_, fun c2 => l81 3 (by omega) ?_⟩⟩
      · rw [bregs_eq _ (by omega), if_neg (by omega)]
      · rw [bregs_eq _ (by omega), if_neg (by omega)]
      · rw [bregs_eq _ (by omega), if_pos (by omega)]
    · rw [if_neg (show ¬ (if bl x 900 = true then BVb (nx x) else false) = true by rw [if_neg h1]; simp)] at hz
      exact hz
  have hb8 : bl x 900 = true → nx x / 100 < 9 := by
    intro hb
    obtain ⟨n, hn, ex⟩ := bl_of hb (by omega)
    subst ex
    rw [nx_n (by omega)]
    omega
  refine jv_ct rfl (Nat.le_of_ble_eq_true rfl) (b_M_isTold_0 ?_)
  refine ⟨fun c => l46 9 (by omega) (fun hb => ?_), fun c1 => ⟨fun c6 => ⟨fun c3 => ⟨fun c4 => l46 7 (by omega) (fun hb => ?_), fun c4 => ⟨fun c5 => l46 0 (by omega) (fun hb => ?_), fun c5 => l46 7 (by omega) (fun hb => ?_)⟩⟩, fun c3 => l46 3 (by omega) (fun hb => ?_)⟩, fun c6 => l46 9 (by omega) (fun hb => ?_)⟩⟩
  · rw [(hk 1 (by omega) hb).mp c]; rfl
  · rw [(hk 4 (by omega) hb).mp c4]; rfl
  · have h9 := hb8 hb
    have n1 : ¬ nx x / 100 = 1 := fun z => c1 ((hk 1 (by omega) hb).mpr z)
    have n3 : ¬ nx x / 100 = 3 := fun z => c3 ((hk 3 (by omega) hb).mpr z)
    have n4 : ¬ nx x / 100 = 4 := fun z => c4 ((hk 4 (by omega) hb).mpr z)
    have n5 : ¬ nx x / 100 = 5 := fun z => c5 ((hk 5 (by omega) hb).mpr z)
    have n6 : ¬ nx x / 100 = 6 := fun z => c6 ((hk 6 (by omega) hb).mpr z)
    generalize nx x / 100 = k at h9 n1 n3 n4 n5 n6 ⊢
    rcases (by omega : k = 0 ∨ k = 2 ∨ k = 7 ∨ k = 8) with q | q | q | q <;> subst q <;> rfl
  · rw [(hk 5 (by omega) hb).mp c5]; rfl
  · rw [(hk 3 (by omega) hb).mp c3]; rfl
  · rw [(hk 6 (by omega) hb).mp c6]; rfl
theorem M_buffer (h : RM M T B p U K S e D) (hU : U.1 ≤ 14) {x1 x2 : Int32} (hz : ∀ M', RM M' T B (s_buf U p x1 x2).2.2 (s_buf U p x1 x2).2.1 K S e D → FRc M M' → Z (some (.int (s_buf U p x1 x2).1)) M' 668) : jv_Ct g (d + 9) mt_M_buffer [.ref 647, .int x1, .int x2] M 668 0 0 Z := by
  unfold s_buf at hz
  have h3 := h.t0 0
  have F3 : FRc M (jv_si M 647 0 0) := FRc.si (by omega)
  refine jv_ct rfl (Nat.le_of_ble_eq_true rfl) (b_M_buffer_0 ⟨tg_m, ?_⟩)
  generalize jv_si M 647 0 0 = M3 at h3 F3 ⊢
  have no : ¬ (bl x1 2 = true ∧ tb x2 = true) → Z (some (.int (-2))) M3 668 := fun c => by
    rw [if_neg c] at hz
    exact hz _ h3 F3
  refine c_in1 1 rfl rfl (by omega) (fun h1 => jv_ri_i (re1 ?_)) (fun h1 => jv_ri_i (re0 (no (fun z => h1 z.1))))
  refine c_isTold (jv_ri_i ?_)
  by_cases h2 : tb x2 = true
  · rw [if_pos h2]
    refine rn1 ?_
    rw [if_pos ⟨h1, h2⟩] at hz
    obtain ⟨j, hj, ex⟩ := bl_of h1 (by omega)
    subst ex
    rw [nx_n (by omega)] at hz
    refine ⟨tg_m, c_note h3 hU (fun M4 h4 F4 => jv_rv_i ?_)⟩
    have r := h4.1.1
    have pg := h4.2.2.1
    simp (disch := omega) only [li, nI_clamp, nI_add, vin, true_and, r, mr_19, tg_m, tg_658, sl_658, pg, Option.some.injEq, exists_eq_left']
    exact hz _ (h4.s658 (78 + j) x2) ((F3.trans F4).trans (FRc.si (by omega)))
  · rw [if_neg h2]
    exact rn0 (no (fun z => h2 z.2))
theorem M_set (h : RM M T B p U K S e D) (hB : BV2 B) (hU : U.1 ≤ 14) {x1 x2 x3 x4 x5 x6 : Int32} (h6 : x6 = nI 0 ∨ x6 = nI 1) (hz : ∀ M', RM M' T B (s_set B U p x1 x2 x3 x4 x5 x6).2.2 (s_set B U p x1 x2 x3 x4 x5 x6).2.1 K S e D → FRc M M' → Z (some (.int (s_set B U p x1 x2 x3 x4 x5 x6).1)) M' 668) : jv_Ct g (d + 9) mt_M_set [.ref 647, .int x1, .int x2, .int x3, .int x4, .int x5, .int x6] M 668 0 0 Z := by
  unfold s_set at hz
  have b6 := hB.1.2.2.1
  have h3 := h.t0 0
  have F3 : FRc M (jv_si M 647 0 0) := FRc.si (by omega)
  refine jv_ct rfl (Nat.le_of_ble_eq_true rfl) (b_M_set_0 ⟨tg_m, tg_m, ?_⟩)
  generalize jv_si M 647 0 0 = M3 at h3 F3 ⊢
  rw [h3.1.2.2.2.1]
  refine c_inb1 rfl (by omega) (fun h1 => jv_ri_i (rn1 ?_)) (fun h1 => jv_ri_i (rn0 ?_))
  · rw [if_pos h1] at hz
    have no : ¬ (bl x2 2 = true ∧ bl x3 (if x2 = nI 0 then 16 else 4) = true ∧ bl x4 (if x2 = nI 0 then 1 else 1000) = true ∧ br x5 1 9 = true) → jv_J g (d + 9) mt_M_set 89 [none, none, none, none, none, none, none, none, none] [] M3 668 0 0 Z := fun c => by
      rw [if_neg c] at hz
      exact b_M_set_89 (hz _ h3 F3)
    refine c_in1 1 rfl rfl (by omega) (fun h2 => jv_ri_i (re1 ?_)) (fun h2 => jv_ri_i (re0 (no (fun z => h2 z.1))))
    obtain ⟨t, ht, ex⟩ := bl_of h1 (by omega)
    subst ex
    rw [nx_n (by omega)] at hz
    have go70 : ∀ b, b < 2 ^ 30 → bl x3 (if x2 = nI 0 then 16 else 4) = true → (if x2 = nI 0 then 1 else 1000) = b + 1 → jv_J g (d + 9) mt_M_set 70 [some (.ref 647), some (.int (nI t)), some (.int x2), some (.int x3), some (.int x4), some (.int x5), some (.int x6), none, none] [.long (lN b), .long 0, .long (Int32.toInt64 x4)] M3 668 0 0 Z := by
      intro b hb hx3 eb
      rw [eb] at hz no
      refine b_M_set_70 (c_in1 b rfl rfl (by omega) (fun h4 => jv_ri_i (re1 ?_)) (fun h4 => jv_ri_i (re0 (no (fun z => h4 z.2.2.1)))))
      refine c_in2 1 9 rfl rfl (by omega) (by omega) (fun h5 => jv_ri_i (rn1 ?_)) (fun h5 => jv_ri_i (rn0 (no (fun z => h5 z.2.2.2))))
      rw [if_pos ⟨h2, hx3, h4, h5⟩] at hz
      refine ⟨tg_m, c_note h3 hU (fun M4 h4 F4 => jv_rv_i ?_)⟩
      have r := h4.1.1
      have pg := h4.2.2.1
      simp (disch := omega) only [li, nI_clamp, nI_add, pk_mul, vin, true_and, r, si_r, mr_19, tg_m, tg_658, sl_658, pg, Option.some.injEq, exists_eq_left']
      have hs := fun ch => (((((h4.s658 (40 + 6 * t) x2).s658 (40 + 6 * t + 1) x3).s658 (40 + 6 * t + 2) x4).s658 (40 + 6 * t + 3) x5).s658 (40 + 6 * t + 4) x5).s658 (40 + 6 * t + 5) ch
      have fs : ∀ ch, FRc M4 (jv_si (jv_si (jv_si (jv_si (jv_si (jv_si M4 658 (40 + 6 * t) x2) 658 (40 + 6 * t + 1) x3) 658 (40 + 6 * t + 2) x4) 658 (40 + 6 * t + 3) x5) 658 (40 + 6 * t + 4) x5) 658 (40 + 6 * t + 5) ch) := fun ch => (FRc.si (by omega)).trans ((FRc.si (by omega)).trans ((FRc.si (by omega)).trans ((FRc.si (by omega)).trans ((FRc.si (by omega)).trans (FRc.si (by omega))))))
      rcases h6 with q | q
      · subst q
        exact ⟨fun _ => hz _ (hs _) ((F3.trans F4).trans (fs _)), fun c => absurd rfl c⟩
      · subst q
        exact ⟨fun c => absurd c (by decide), fun _ => hz _ (hs _) ((F3.trans F4).trans (fs _))⟩
    have go49 : ∀ b c, b < 2 ^ 30 → c < 2 ^ 30 → (if x2 = nI 0 then 16 else 4) = b + 1 → (if x2 = nI 0 then 1 else 1000) = c + 1 → (x2 ≠ 0 → c = 999) → (x2 = 0 → c = 0) → jv_J g (d + 9) mt_M_set 49 [some (.ref 647), some (.int (nI t)), some (.int x2), some (.int x3), some (.int x4), some (.int x5), some (.int x6), none, none] [.long (lN b), .long 0, .long (Int32.toInt64 x3)] M3 668 0 0 Z := by
      intro b c hb hc eb ec e1 e2
      refine b_M_set_49 (c_in1 b rfl rfl (by omega) (fun h4 => jv_ri_i (re1 ?_)) (fun h4 => jv_ri_i (re0 (no (fun z => h4 (eb ▸ z.2.1))))))
      refine ⟨fun c1 => ?_, fun c1 => ?_⟩
      · have := go70 c hc (by rw [eb]; exact h4) ec
        rw [e1 c1] at this
        exact this
      · have := go70 c hc (by rw [eb]; exact h4) ec
        rw [e2 c1] at this
        exact this
    refine ⟨fun c => go49 3 999 (by omega) (by omega) (if_neg c) (if_neg c) (fun _ => rfl) (fun z => absurd z c), fun c => go49 15 0 (by omega) (by omega) (if_pos c) (if_pos c) (fun z => absurd c z) (fun _ => rfl)⟩
  · rw [if_neg h1] at hz
    exact hz _ h3 F3
theorem M_count (h : RM M T B p U K S e D) (hB : BV2 B) {x : Int32} (hz : ∀ M', RM M' T B p U K S e D → FRc M M' → Z (some (.int (s_count T B p U S x))) M' 668) : jv_Ct g (d + 9) mt_M_count [.ref 647, .int x] M 668 0 0 Z := by
  have h3 := h.t0 0
  have F3 : FRc M (jv_si M 647 0 0) := FRc.si (by omega)
  have b4 := hB.1.2.1
  refine jv_ct rfl (Nat.le_of_ble_eq_true rfl) (b_M_count_0 ⟨tg_m, ?_⟩)
  generalize jv_si M 647 0 0 = M3 at h3 F3 ⊢
  have hz := hz _ h3 F3
  unfold s_count at hz
  have r := h3.1.1
  have pg := h3.2.2.1
  refine ⟨fun c => ?_, fun c => ?_, fun c => ?_, fun c => ?_, fun c => ?_, fun c => ?_, fun c => ?_, fun c => ?_, fun c => ?_, fun c => ?_, fun c => ?_, fun c => ?_, fun c => ?_⟩
  · subst c
    rw [if_pos (by decide)] at hz
    exact ⟨tg_m, by rw [h3.2.1.1]; exact hz⟩
  · subst c
    rw [if_neg (by decide), if_pos (by decide)] at hz
    exact ⟨tg_m, by rw [h3.1.2.1]; exact hz⟩
  · subst c
    rw [if_neg (by decide), if_neg (by decide), if_pos (by decide)] at hz
    exact ⟨tg_m, by rw [h3.1.2.2.1]; exact hz⟩
  · subst c
    rw [if_neg (by decide), if_neg (by decide), if_neg (by decide), if_pos (by decide)] at hz
    exact ⟨tg_m, by rw [h3.1.2.2.2.1]; exact hz⟩
  · subst c
    rw [if_neg (by decide), if_neg (by decide), if_neg (by decide), if_neg (by decide), if_pos (by decide)] at hz
    refine ⟨tg_m, 658, (r 19).trans mr_19, tg_m, ?_⟩
    rw [h3.1.2.2.1]
    refine q_hof (h3.mx hB (by omega) (by omega)) b4 (jv_ri_i ?_)
    rw [h3.p1]
    exact hz
  · subst c
    rw [if_neg (by decide), if_neg (by decide), if_neg (by decide), if_neg (by decide), if_neg (by decide), if_pos (by decide)] at hz
    simp (disch := omega) only [li, nI_clamp, vin, true_and, r, mr_19, tg_m, tg_658, sl_658, pg, Option.some.injEq, exists_eq_left']
    exact hz
  · subst c
    rw [if_neg (by decide), if_neg (by decide), if_neg (by decide), if_neg (by decide), if_neg (by decide), if_neg (by decide), if_pos (by decide)] at hz
    simp (disch := omega) only [li, nI_clamp, vin, true_and, r, mr_19, tg_m, tg_658, sl_658, pg, Option.some.injEq, exists_eq_left']
    exact hz
  · subst c
    rw [if_neg (by decide), if_neg (by decide), if_neg (by decide), if_neg (by decide), if_neg (by decide), if_neg (by decide), if_neg (by decide), if_pos (by decide)] at hz
    simp (disch := omega) only [li, nI_clamp, vin, true_and, r, mr_19, tg_m, tg_658, sl_658, pg, Option.some.injEq, exists_eq_left']
    exact hz
  · subst c
    rw [if_neg (by decide), if_neg (by decide), if_neg (by decide), if_neg (by decide), if_neg (by decide), if_neg (by decide), if_neg (by decide), if_neg (by decide), if_pos (by decide)] at hz
    have e8 : nI (78 + 8) - nI 8 = nI 78 := rfl
    simp (disch := omega) only [li, nI_clamp, nI_add, e8, vin, true_and, r, mr_19, tg_m, tg_658, sl_658, pg, Option.some.injEq, exists_eq_left']
    exact hz
  · subst c
    rw [if_neg (by decide), if_neg (by decide), if_neg (by decide), if_neg (by decide), if_neg (by decide), if_neg (by decide), if_neg (by decide), if_neg (by decide), if_neg (by decide), if_pos (by decide)] at hz
    have e8 : nI (78 + 9) - nI 8 = nI 79 := rfl
    simp (disch := omega) only [li, nI_clamp, nI_add, e8, vin, true_and, r, mr_19, tg_m, tg_658, sl_658, pg, Option.some.injEq, exists_eq_left']
    exact hz
  · subst c
    rw [if_neg (by decide), if_neg (by decide), if_neg (by decide), if_neg (by decide), if_neg (by decide), if_neg (by decide), if_neg (by decide), if_neg (by decide), if_neg (by decide), if_neg (by decide), if_pos (by decide)] at hz
    exact ⟨tg_m, by rw [h3.2.2.2.1.1]; exact hz⟩
  · subst c
    rw [if_neg (by decide), if_neg (by decide), if_neg (by decide), if_neg (by decide), if_neg (by decide), if_neg (by decide), if_neg (by decide), if_neg (by decide), if_neg (by decide), if_neg (by decide), if_neg (by decide), if_pos (by decide)] at hz
    exact ⟨tg_m, by rw [h3.2.2.2.2.2.2.1.1]; exact hz⟩
  · obtain ⟨c0, c1, c2, c3, c4, c5, c6, c7, c8, c9, c10, c11⟩ := c
    rw [if_neg (show ¬ x = nI 0 from c0), if_neg (show ¬ x = nI 1 from c1), if_neg (show ¬ x = nI 2 from c2), if_neg (show ¬ x = nI 3 from c3), if_neg (show ¬ x = nI 4 from c4), if_neg (show ¬ x = nI 5 from c5), if_neg (show ¬ x = nI 6 from c6), if_neg (show ¬ x = nI 7 from c7), if_neg (show ¬ x = nI 8 from c8), if_neg (show ¬ x = nI 9 from c9), if_neg (show ¬ x = nI 10 from c10), if_neg (show ¬ x = nI 11 from c11)] at hz
    exact hz
end MC
