/-! ===== blocks ===== -/
theorem b_D_init_0 {g : jv_G} {d : Nat} {M : jv_Mem} {N cr sr : Nat} {Z : Option Value → jv_Mem → Nat → Prop} {a0 : Nat} (h : jv_sh N = (14, 12) ∧ 1 ≤ cr ∧ 12 ≤ sr ∧ jv_Tg 0 a0 (N + 1) ∧ jv_sh (N + 1) = (11, 2) ∧ 1 ≤ (cr - 1) ∧ 2 ≤ (sr - 12) ∧ jv_Tg 0 a0 ((N + 1) + 1) ∧ jv_J g (d + 1) mt_D_init 22 [some (.ref a0), some (.int 0)] [] (jv_sr (jv_zero (jv_sr (jv_zero M N) a0 0 (some N)) (N + 1)) a0 1 (some (N + 1))) ((N + 1) + 1) ((cr - 1) - 1) ((sr - 12) - 2) Z) : jv_J g (d + 1) mt_D_init 0 [some (.ref a0), none] [] M N cr sr Z := by
  refine jv_aload_n d_D_init_0 rfl rfl ?_
  refine jv_objI d_D_init_1 oi_D_3 oi_w2 oi_w3 (Nat.le_of_ble_eq_true rfl) ?_
  refine jv_aload_n d_D_init_4 rfl rfl ?_
  refine jv_bipush (v := 12) d_D_init_5 (by decide) ?_
  obtain ⟨q1, q2, q3, h⟩ := h
  refine jv_newR (t := 14) (n := 12) _ d_D_init_7 (by decide) rfl cl_D_9 (by decide) (by decide) (by decide) q1 (Nat.sub_add_cancel q2) (Nat.sub_add_cancel q3) ?_
  obtain ⟨q4, h⟩ := h
  refine jv_putR d_D_init_10 fl_D_11 rfl (fun r hr => by cases hr; exact Or.inr ⟨rfl, rfl, rfl⟩) q4 ?_
  refine jv_aload_n d_D_init_13 rfl rfl ?_
  refine jv_iconst (v := 2) d_D_init_14 (by decide) ?_
  obtain ⟨q5, q6, q7, h⟩ := h
  refine jv_newI (n := 2) d_D_init_15 arr_int (by decide) (by decide) (by decide) q5 (Nat.sub_add_cancel q6) (Nat.sub_add_cancel q7) ?_
  obtain ⟨q8, h⟩ := h
  refine jv_putR d_D_init_17 fl_D_17 rfl (fun r hr => by cases hr; exact Or.inr ⟨rfl, rfl, rfl⟩) q8 ?_
  refine jv_iconst (v := 0) d_D_init_20 (by decide) ?_
  refine jv_istore_n (L' := [some (.ref a0), some (.int 0)]) d_D_init_21 rfl (Nat.le_of_ble_eq_true rfl) rfl ?_
  exact h
theorem b_D_init_22 {g : jv_G} {d : Nat} {M : jv_Mem} {N cr sr : Nat} {Z : Option Value → jv_Mem → Nat → Prop} {a0 : Nat} {x1 : Int32} (h : jv_Tg 0 a0 N ∧ ∃ b2, Prod.fst (Prod.snd M) a0 0 = some b2 ∧ jv_Tg 14 b2 N ∧ ((Int32.ofNat (jv_sh b2).2) ≤ x1 → Z none M N) ∧ (¬ ((Int32.ofNat (jv_sh b2).2) ≤ x1) → jv_Tg 0 a0 N ∧ ∃ b6, Prod.fst (Prod.snd M) a0 0 = some b6 ∧ jv_sh N = (2, 7) ∧ 1 ≤ cr ∧ 7 ≤ sr ∧ ∃ c12 s13 : Nat, c12 ≤ (cr - 1) ∧ s13 ≤ (sr - 7) ∧ jv_Ct g d mt_O_init [.ref N] (jv_zero M N) (N + 1) c12 s13 (fun v M16 N16 => jv_rv v (jv_Tg 14 b6 N16 ∧ vp_in x1 (jv_sh b6).2 ∧ jv_Tg 2 N N16 ∧ jv_J g (d + 1) mt_D_init 22 [some (.ref a0), some (.int (x1 + 1))] [] (jv_sr M16 b6 (Int32.toNatClampNeg x1) (some N)) N16 ((cr - 1) - c12) ((sr - 7) - s13) Z)))) : jv_J g (d + 1) mt_D_init 22 [some (.ref a0), some (.int x1)] [] M N cr sr Z := by
  refine jv_iload_n d_D_init_22 rfl rfl ?_
  refine jv_aload_n d_D_init_23 rfl rfl ?_
  obtain ⟨q1, h⟩ := h
  obtain ⟨b2, e3, h⟩ := h
  refine jv_getR d_D_init_24 fl_D_11 rfl q1 e3 ?_
  obtain ⟨q4, h⟩ := h
  refine jv_alen (t := 14) d_D_init_27 (by decide) q4 ?_
  refine jv_icmp_ge (tgt := 50) d_D_init_28 (by decide) ⟨fun c => ?_, fun c => ?_⟩
  · replace h := h.1 c
    exact jv_ret d_D_init_50 rfl h
  · replace h := h.2 c
    refine jv_aload_n d_D_init_31 rfl rfl ?_
    obtain ⟨q5, h⟩ := h
    obtain ⟨b6, e7, h⟩ := h
    refine jv_getR d_D_init_32 fl_D_11 rfl q5 e7 ?_
    refine jv_iload_n d_D_init_35 rfl rfl ?_
    obtain ⟨q8, q9, q10, h⟩ := h
    refine jv_new (t := 2) (n := 7) _ d_D_init_36 rfl rfl cl_D_9 ins_O ini_O q8 (Nat.sub_add_cancel q9) (Nat.sub_add_cancel q10) ?_
    refine jv_dup d_D_init_39 rfl ?_
    obtain ⟨c12, s13, q14, q15, h⟩ := h
    refine jv_invIN [] [.ref N, .int x1, .ref b6] d_D_init_40 ml_D_21 rfl (Nat.le_of_ble_eq_true rfl) (Nat.add_sub_cancel' q14) (Nat.add_sub_cancel' q15) (jv_Ct.mono h (fun v M16 N16 h => ?_))
    obtain ⟨rfl, h⟩ := h
    change jv_J g (d + 1) mt_D_init 43 [some (.ref a0), some (.int x1)] [.ref N, .int x1, .ref b6] M16 N16 ((cr - 1) - c12) ((sr - 7) - s13) Z
    obtain ⟨q17, q18, q19, h⟩ := h
    refine jv_aast (t := 14) d_D_init_43 (by decide) q17 q18 q19 ?_
    refine jv_iinc (v := (x1 + 1)) (L' := [some (.ref a0), some (.int (x1 + 1))]) d_D_init_44 rfl rfl (Nat.le_of_ble_eq_true rfl) rfl ?_
    refine jv_goto (tgt := 22) d_D_init_47 (by decide) ?_
    exact h
theorem b_A_init_0 {g : jv_G} {d : Nat} {M : jv_Mem} {N cr sr : Nat} {Z : Option Value → jv_Mem → Nat → Prop} {a0 : Nat} (h : jv_sh N = (15, 14) ∧ 1 ≤ cr ∧ 14 ≤ sr ∧ jv_Tg 3 a0 (N + 1) ∧ jv_J g (d + 1) mt_A_init 15 [some (.ref a0), some (.int 0)] [] (jv_sr (jv_zero M N) a0 0 (some N)) (N + 1) (cr - 1) (sr - 14) Z) : jv_J g (d + 1) mt_A_init 0 [some (.ref a0), none] [] M N cr sr Z := by
  refine jv_aload_n d_A_init_0 rfl rfl ?_
  refine jv_objI d_A_init_1 oi_A_3 oi_w2 oi_w3 (Nat.le_of_ble_eq_true rfl) ?_
  refine jv_aload_n d_A_init_4 rfl rfl ?_
  refine jv_bipush (v := 14) d_A_init_5 (by decide) ?_
  obtain ⟨q1, q2, q3, h⟩ := h
  refine jv_newR (t := 15) (n := 14) _ d_A_init_7 (by decide) rfl cl_A_9 (by decide) (by decide) (by decide) q1 (Nat.sub_add_cancel q2) (Nat.sub_add_cancel q3) ?_
  obtain ⟨q4, h⟩ := h
  refine jv_putR d_A_init_10 fl_A_11 rfl (fun r hr => by cases hr; exact Or.inr ⟨rfl, rfl, rfl⟩) q4 ?_
  refine jv_iconst (v := 0) d_A_init_13 (by decide) ?_
  refine jv_istore_n (L' := [some (.ref a0), some (.int 0)]) d_A_init_14 rfl (Nat.le_of_ble_eq_true rfl) rfl ?_
  exact h
theorem b_A_init_15 {g : jv_G} {d : Nat} {M : jv_Mem} {N cr sr : Nat} {Z : Option Value → jv_Mem → Nat → Prop} {a0 : Nat} {x1 : Int32} (h : (14 ≤ x1 → Z none M N) ∧ (¬ (14 ≤ x1) → jv_Tg 3 a0 N ∧ ∃ b2, Prod.fst (Prod.snd M) a0 0 = some b2 ∧ jv_sh N = (6, 8) ∧ 1 ≤ cr ∧ 8 ≤ sr ∧ ∃ c8 s9 : Nat, c8 ≤ (cr - 1) ∧ s9 ≤ (sr - 8) ∧ jv_Ct g d mt_S_init [.ref N] (jv_zero M N) (N + 1) c8 s9 (fun v M12 N12 => jv_rv v (jv_Tg 15 b2 N12 ∧ vp_in x1 (jv_sh b2).2 ∧ jv_Tg 6 N N12 ∧ jv_J g (d + 1) mt_A_init 15 [some (.ref a0), some (.int (x1 + 1))] [] (jv_sr M12 b2 (Int32.toNatClampNeg x1) (some N)) N12 ((cr - 1) - c8) ((sr - 8) - s9) Z)))) : jv_J g (d + 1) mt_A_init 15 [some (.ref a0), some (.int x1)] [] M N cr sr Z := by
  refine jv_iload_n d_A_init_15 rfl rfl ?_
  refine jv_bipush (v := 14) d_A_init_16 (by decide) ?_
  refine jv_icmp_ge (tgt := 40) d_A_init_18 (by decide) ⟨fun c => ?_, fun c => ?_⟩
  · replace h := h.1 c
    exact jv_ret d_A_init_40 rfl h
  · replace h := h.2 c
    refine jv_aload_n d_A_init_21 rfl rfl ?_
    obtain ⟨q1, h⟩ := h
    obtain ⟨b2, e3, h⟩ := h
    refine jv_getR d_A_init_22 fl_A_11 rfl q1 e3 ?_
    refine jv_iload_n d_A_init_25 rfl rfl ?_
    obtain ⟨q4, q5, q6, h⟩ := h
    refine jv_new (t := 6) (n := 8) _ d_A_init_26 rfl rfl cl_A_9 ins_S ini_S q4 (Nat.sub_add_cancel q5) (Nat.sub_add_cancel q6) ?_
    refine jv_dup d_A_init_29 rfl ?_
    obtain ⟨c8, s9, q10, q11, h⟩ := h
    refine jv_invI [] [.ref N, .int x1, .ref b2] d_A_init_30 ml_A_17 rfl (Nat.le_of_ble_eq_true rfl) (Nat.add_sub_cancel' q10) (Nat.add_sub_cancel' q11) (jv_Ct.mono h (fun v M12 N12 h => ?_))
    obtain ⟨rfl, h⟩ := h
    change jv_J g (d + 1) mt_A_init 33 [some (.ref a0), some (.int x1)] [.ref N, .int x1, .ref b2] M12 N12 ((cr - 1) - c8) ((sr - 8) - s9) Z
    obtain ⟨q13, q14, q15, h⟩ := h
    refine jv_aast (t := 15) d_A_init_33 (by decide) q13 q14 q15 ?_
    refine jv_iinc (v := (x1 + 1)) (L' := [some (.ref a0), some (.int (x1 + 1))]) d_A_init_34 rfl rfl (Nat.le_of_ble_eq_true rfl) rfl ?_
    refine jv_goto (tgt := 15) d_A_init_37 (by decide) ?_
    exact h
theorem b_D_copyFrom_0 {g : jv_G} {d : Nat} {M : jv_Mem} {N cr sr : Nat} {Z : Option Value → jv_Mem → Nat → Prop} {a0 : Nat} {a1 : Nat} (h : jv_J g (d + 1) mt_D_copyFrom 2 [some (.ref a0), some (.ref a1), some (.int 0)] [] M N cr sr Z) : jv_J g (d + 1) mt_D_copyFrom 0 [some (.ref a0), some (.ref a1), none] [] M N cr sr Z := by
  refine jv_iconst (v := 0) d_D_copyFrom_0 (by decide) ?_
  refine jv_istore_n (L' := [some (.ref a0), some (.ref a1), some (.int 0)]) d_D_copyFrom_1 rfl (Nat.le_of_ble_eq_true rfl) rfl ?_
  exact h
theorem b_D_copyFrom_2 {g : jv_G} {d : Nat} {M : jv_Mem} {N cr sr : Nat} {Z : Option Value → jv_Mem → Nat → Prop} {a0 : Nat} {a1 : Nat} {x2 : Int32} (h : jv_Tg 0 a1 N ∧ ((Prod.fst M a1 2) ≤ x2 → jv_Tg 0 a1 N ∧ ∃ b3, Prod.fst (Prod.snd M) a1 1 = some b3 ∧ jv_Tg 0 a0 N ∧ ∃ b6, Prod.fst (Prod.snd M) a0 1 = some b6 ∧ jv_Tg 11 b3 N ∧ jv_Tg 11 b6 N ∧ 2 ≤ (jv_sh b3).2 ∧ 2 ≤ (jv_sh b6).2 ∧ jv_Tg 0 a1 N ∧ jv_Tg 0 a0 N ∧ jv_Tg 0 a1 N ∧ jv_Tg 0 a0 N ∧ jv_Tg 0 a1 N ∧ jv_Tg 0 a0 N ∧ Z none (jv_si (jv_si (jv_si (jv_cp M b3 b6 0 0 2) a0 2 (Prod.fst (jv_cp M b3 b6 0 0 2) a1 2)) a0 3 (Prod.fst (jv_si (jv_cp M b3 b6 0 0 2) a0 2 (Prod.fst (jv_cp M b3 b6 0 0 2) a1 2)) a1 3)) a0 4 (Prod.fst (jv_si (jv_si (jv_cp M b3 b6 0 0 2) a0 2 (Prod.fst (jv_cp M b3 b6 0 0 2) a1 2)) a0 3 (Prod.fst (jv_si (jv_cp M b3 b6 0 0 2) a0 2 (Prod.fst (jv_cp M b3 b6 0 0 2) a1 2)) a1 3)) a1 4)) N) ∧ (¬ ((Prod.fst M a1 2) ≤ x2) → jv_Tg 0 a0 N ∧ ∃ b19, Prod.fst (Prod.snd M) a0 0 = some b19 ∧ jv_Tg 14 b19 N ∧ vp_in x2 (jv_sh b19).2 ∧ ∃ b23, Prod.fst (Prod.snd M) b19 (Int32.toNatClampNeg x2) = some b23 ∧ jv_Tg 0 a1 N ∧ ∃ b26, Prod.fst (Prod.snd M) a1 0 = some b26 ∧ jv_Tg 14 b26 N ∧ vp_in x2 (jv_sh b26).2 ∧ ∃ b30, Prod.fst (Prod.snd M) b26 (Int32.toNatClampNeg x2) = some b30 ∧ jv_Tg 2 b23 N ∧ jv_Ct g d mt_O_copyFrom [.ref b23, .ref b30] M N 0 0 (fun v M34 N34 => jv_rv v (jv_J g (d + 1) mt_D_copyFrom 2 [some (.ref a0), some (.ref a1), some (.int (x2 + 1))] [] M34 N34 cr sr Z)))) : jv_J g (d + 1) mt_D_copyFrom 2 [some (.ref a0), some (.ref a1), some (.int x2)] [] M N cr sr Z := by
  refine jv_iload_n d_D_copyFrom_2 rfl rfl ?_
  refine jv_aload_n d_D_copyFrom_3 rfl rfl ?_
  obtain ⟨q1, h⟩ := h
  refine jv_getI d_D_copyFrom_4 fl_D_22 rfl q1 ?_
  refine jv_icmp_ge (tgt := 31) d_D_copyFrom_7 (by decide) ⟨fun c => ?_, fun c => ?_⟩
  · replace h := h.1 c
    refine jv_aload_n d_D_copyFrom_31 rfl rfl ?_
    obtain ⟨q2, h⟩ := h
    obtain ⟨b3, e4, h⟩ := h
    refine jv_getR d_D_copyFrom_32 fl_D_17 rfl q2 e4 ?_
    refine jv_iconst (v := 0) d_D_copyFrom_35 (by decide) ?_
    refine jv_aload_n d_D_copyFrom_36 rfl rfl ?_
    obtain ⟨q5, h⟩ := h
    obtain ⟨b6, e7, h⟩ := h
    refine jv_getR d_D_copyFrom_37 fl_D_17 rfl q5 e7 ?_
    refine jv_iconst (v := 0) d_D_copyFrom_40 (by decide) ?_
    refine jv_iconst (v := 2) d_D_copyFrom_41 (by decide) ?_
    obtain ⟨q8, q9, q10, q11, h⟩ := h
    refine jv_copy0 (k := 2) d_D_copyFrom_42 ac_D_30 ac_w2 ac_w3 ac_w4 q8 q9 (by decide) (by decide) q10 q11 (Nat.le_of_ble_eq_true rfl) ?_
    refine jv_aload_n d_D_copyFrom_45 rfl rfl ?_
    refine jv_aload_n d_D_copyFrom_46 rfl rfl ?_
    obtain ⟨q12, h⟩ := h
    refine jv_getI d_D_copyFrom_47 fl_D_22 rfl q12 ?_
    obtain ⟨q13, h⟩ := h
    refine jv_putI d_D_copyFrom_50 fl_D_22 (fun r hr => by cases hr; rfl) rfl q13 ?_
    refine jv_aload_n d_D_copyFrom_53 rfl rfl ?_
    refine jv_aload_n d_D_copyFrom_54 rfl rfl ?_
    obtain ⟨q14, h⟩ := h
    refine jv_getI d_D_copyFrom_55 fl_D_36 rfl q14 ?_
    obtain ⟨q15, h⟩ := h
    refine jv_putI d_D_copyFrom_58 fl_D_36 (fun r hr => by cases hr; rfl) rfl q15 ?_
    refine jv_aload_n d_D_copyFrom_61 rfl rfl ?_
    refine jv_aload_n d_D_copyFrom_62 rfl rfl ?_
    obtain ⟨q16, h⟩ := h
    refine jv_getI d_D_copyFrom_63 fl_D_39 rfl q16 ?_
    obtain ⟨q17, h⟩ := h
    refine jv_putI d_D_copyFrom_66 fl_D_39 (fun r hr => by cases hr; rfl) rfl q17 ?_
    exact jv_ret d_D_copyFrom_69 rfl h
  · replace h := h.2 c
    refine jv_aload_n d_D_copyFrom_10 rfl rfl ?_
    obtain ⟨q18, h⟩ := h
    obtain ⟨b19, e20, h⟩ := h
    refine jv_getR d_D_copyFrom_11 fl_D_11 rfl q18 e20 ?_
    refine jv_iload_n d_D_copyFrom_14 rfl rfl ?_
    obtain ⟨q21, q22, b23, e24, h⟩ := h
    refine jv_aald (t := 14) d_D_copyFrom_15 (by decide) q21 q22 e24 ?_
    refine jv_aload_n d_D_copyFrom_16 rfl rfl ?_
    obtain ⟨q25, h⟩ := h
    obtain ⟨b26, e27, h⟩ := h
    refine jv_getR d_D_copyFrom_17 fl_D_11 rfl q25 e27 ?_
    refine jv_iload_n d_D_copyFrom_20 rfl rfl ?_
    obtain ⟨q28, q29, b30, e31, h⟩ := h
    refine jv_aald (t := 14) d_D_copyFrom_21 (by decide) q28 q29 e31 ?_
    obtain ⟨q32, h⟩ := h
    refine jv_invV [.ref b30] [] d_D_copyFrom_22 ml_D_26 q32 rfl (Nat.le_of_ble_eq_true rfl) (Nat.zero_add _) (Nat.zero_add _) (jv_Ct.mono h (fun v M34 N34 h => ?_))
    obtain ⟨rfl, h⟩ := h
    change jv_J g (d + 1) mt_D_copyFrom 25 [some (.ref a0), some (.ref a1), some (.int x2)] [] M34 N34 cr sr Z
    refine jv_iinc (v := (x2 + 1)) (L' := [some (.ref a0), some (.ref a1), some (.int (x2 + 1))]) d_D_copyFrom_25 rfl rfl (Nat.le_of_ble_eq_true rfl) rfl ?_
    refine jv_goto (tgt := 2) d_D_copyFrom_28 (by decide) ?_
    exact h
theorem b_A_forget_0 {g : jv_G} {d : Nat} {M : jv_Mem} {N cr sr : Nat} {Z : Option Value → jv_Mem → Nat → Prop} {a0 : Nat} (h : jv_Tg 3 a0 N ∧ Z none (jv_si M a0 2 0) N) : jv_J g d mt_A_forget 0 [some (.ref a0)] [] M N cr sr Z := by
  refine jv_aload_n d_A_forget_0 rfl rfl ?_
  refine jv_iconst (v := 0) d_A_forget_1 (by decide) ?_
  obtain ⟨q1, h⟩ := h
  refine jv_putI d_A_forget_2 fl_A_18 (fun r hr => by cases hr; rfl) rfl q1 ?_
  exact jv_ret d_A_forget_5 rfl h
theorem b_A_push_0 {g : jv_G} {d : Nat} {M : jv_Mem} {N cr sr : Nat} {Z : Option Value → jv_Mem → Nat → Prop} {a0 : Nat} {a1 : Nat} (h : jv_Tg 3 a0 N ∧ ∃ b2, Prod.fst (Prod.snd M) a0 0 = some b2 ∧ jv_Tg 3 a0 N ∧ jv_Tg 15 b2 N ∧ vp_in (Prod.fst M a0 1) (jv_sh b2).2 ∧ ∃ b7, Prod.fst (Prod.snd M) b2 (Int32.toNatClampNeg (Prod.fst M a0 1)) = some b7 ∧ jv_Tg 6 b7 N ∧ jv_Ct g d mt_S_copyFrom [.ref b7, .ref a1] M N 0 0 (fun v M11 N11 => jv_rv v (jv_Tg 3 a0 N11 ∧ jv_Tg 3 a0 N11 ∧ jv_Tg 3 a0 N11 ∧ jv_Tg 3 a0 N11 ∧ Z none (jv_si (jv_si M11 a0 1 (((Prod.fst M11 a0 1) + 1) - ((Prod.fst M11 a0 1) + 1) / 14 * 14)) a0 2 (if 14 < ((Prod.fst (jv_si M11 a0 1 (((Prod.fst M11 a0 1) + 1) - ((Prod.fst M11 a0 1) + 1) / 14 * 14)) a0 2) + 1) then 14 else ((Prod.fst (jv_si M11 a0 1 (((Prod.fst M11 a0 1) + 1) - ((Prod.fst M11 a0 1) + 1) / 14 * 14)) a0 2) + 1))) N11))) : jv_J g (d + 1) mt_A_push 0 [some (.ref a0), some (.ref a1)] [] M N cr sr Z := by
  refine jv_aload_n d_A_push_0 rfl rfl ?_
  obtain ⟨q1, h⟩ := h
  obtain ⟨b2, e3, h⟩ := h
  refine jv_getR d_A_push_1 fl_A_11 rfl q1 e3 ?_
  refine jv_aload_n d_A_push_4 rfl rfl ?_
  obtain ⟨q4, h⟩ := h
  refine jv_getI d_A_push_5 fl_A_22 rfl q4 ?_
  obtain ⟨q5, q6, b7, e8, h⟩ := h
  refine jv_aald (t := 15) d_A_push_8 (by decide) q5 q6 e8 ?_
  refine jv_aload_n d_A_push_9 rfl rfl ?_
  obtain ⟨q9, h⟩ := h
  refine jv_invV [.ref a1] [] d_A_push_10 ml_A_25 q9 rfl (Nat.le_of_ble_eq_true rfl) (Nat.zero_add _) (Nat.zero_add _) (jv_Ct.mono h (fun v M11 N11 h => ?_))
  obtain ⟨rfl, h⟩ := h
  change jv_J g (d + 1) mt_A_push 13 [some (.ref a0), some (.ref a1)] [] M11 N11 cr sr Z
  refine jv_aload_n d_A_push_13 rfl rfl ?_
  refine jv_aload_n d_A_push_14 rfl rfl ?_
  obtain ⟨q12, h⟩ := h
  refine jv_getI d_A_push_15 fl_A_22 rfl q12 ?_
  refine jv_iconst (v := 1) d_A_push_18 (by decide) ?_
  refine jv_iadd d_A_push_19 ?_
  refine jv_bipush (v := 14) d_A_push_20 (by decide) ?_
  refine jv_irem d_A_push_22 (by decide) ?_
  obtain ⟨q13, h⟩ := h
  refine jv_putI d_A_push_23 fl_A_22 (fun r hr => by cases hr; rfl) rfl q13 ?_
  refine jv_aload_n d_A_push_26 rfl rfl ?_
  refine jv_aload_n d_A_push_27 rfl rfl ?_
  obtain ⟨q14, h⟩ := h
  refine jv_getI d_A_push_28 fl_A_18 rfl q14 ?_
  refine jv_iconst (v := 1) d_A_push_31 (by decide) ?_
  refine jv_iadd d_A_push_32 ?_
  refine jv_bipush (v := 14) d_A_push_33 (by decide) ?_
  refine jv_mmin d_A_push_35 ml_A_29 (Nat.le_of_ble_eq_true rfl) ?_
  obtain ⟨q15, h⟩ := h
  refine jv_putI d_A_push_38 fl_A_18 (fun r hr => by cases hr; rfl) rfl q15 ?_
  exact jv_ret d_A_push_41 rfl h
theorem b_D_finish_0 {g : jv_G} {d : Nat} {M : jv_Mem} {N cr sr : Nat} {Z : Option Value → jv_Mem → Nat → Prop} {a0 : Nat} {a1 : Nat} (h : jv_Tg 2 a1 N ∧ ((Prod.fst M a1 5) = 0 → jv_Tg 2 a1 N ∧ ((Prod.fst M a1 0) ≠ 3 → Z none M N) ∧ ((Prod.fst M a1 0) = 3 → jv_Tg 2 a1 N ∧ jv_Tg 0 a0 N ∧ Z none (jv_si M a0 4 (Prod.fst M a1 6)) N)) ∧ (¬ ((Prod.fst M a1 5) = 0) → jv_Tg 0 a0 N ∧ ((Prod.fst M a0 3) ≠ 0 → jv_Tg 0 a0 N ∧ jv_Tg 0 a0 N ∧ Z none (jv_si M a0 3 (Prod.fst M a0 3)) N) ∧ ((Prod.fst M a0 3) = 0 → jv_Tg 2 a1 N ∧ jv_Tg 0 a0 N ∧ Z none (jv_si M a0 3 (Prod.fst M a1 5)) N))) : jv_J g d mt_D_finish 0 [some (.ref a0), some (.ref a1)] [] M N cr sr Z := by
  refine jv_aload_n d_D_finish_0 rfl rfl ?_
  obtain ⟨q1, h⟩ := h
  refine jv_getI d_D_finish_1 fl_D_68 rfl q1 ?_
  refine jv_if_eq (tgt := 32) d_D_finish_4 (by decide) ⟨fun c => ?_, fun c => ?_⟩
  · replace h := h.1 c
    refine jv_aload_n d_D_finish_32 rfl rfl ?_
    obtain ⟨q2, h⟩ := h
    refine jv_getI d_D_finish_33 fl_D_53 rfl q2 ?_
    refine jv_iconst (v := 3) d_D_finish_36 (by decide) ?_
    refine jv_icmp_ne (tgt := 48) d_D_finish_37 (by decide) ⟨fun c => ?_, fun c => ?_⟩
    · replace h := h.1 c
      exact jv_ret d_D_finish_48 rfl h
    · replace h := h.2 c
      refine jv_aload_n d_D_finish_40 rfl rfl ?_
      refine jv_aload_n d_D_finish_41 rfl rfl ?_
      obtain ⟨q3, h⟩ := h
      refine jv_getI d_D_finish_42 fl_D_71 rfl q3 ?_
      obtain ⟨q4, h⟩ := h
      refine jv_putI d_D_finish_45 fl_D_39 (fun r hr => by cases hr; rfl) rfl q4 ?_
      exact jv_ret d_D_finish_48 rfl h
  · replace h := h.2 c
    refine jv_aload_n d_D_finish_7 rfl rfl ?_
    refine jv_aload_n d_D_finish_8 rfl rfl ?_
    obtain ⟨q5, h⟩ := h
    refine jv_getI d_D_finish_9 fl_D_36 rfl q5 ?_
    refine jv_if_ne (tgt := 22) d_D_finish_12 (by decide) ⟨fun c => ?_, fun c => ?_⟩
    · replace h := h.1 c
      refine jv_aload_n d_D_finish_22 rfl rfl ?_
      obtain ⟨q6, h⟩ := h
      refine jv_getI d_D_finish_23 fl_D_36 rfl q6 ?_
      obtain ⟨q7, h⟩ := h
      refine jv_putI d_D_finish_26 fl_D_36 (fun r hr => by cases hr; rfl) rfl q7 ?_
      refine jv_goto (tgt := 48) d_D_finish_29 (by decide) ?_
      exact jv_ret d_D_finish_48 rfl h
    · replace h := h.2 c
      refine jv_aload_n d_D_finish_15 rfl rfl ?_
      obtain ⟨q8, h⟩ := h
      refine jv_getI d_D_finish_16 fl_D_68 rfl q8 ?_
      refine jv_goto (tgt := 26) d_D_finish_19 (by decide) ?_
      obtain ⟨q9, h⟩ := h
      refine jv_putI d_D_finish_26 fl_D_36 (fun r hr => by cases hr; rfl) rfl q9 ?_
      refine jv_goto (tgt := 48) d_D_finish_29 (by decide) ?_
      exact jv_ret d_D_finish_48 rfl h
theorem b_D_moveForward_0 {g : jv_G} {d : Nat} {M : jv_Mem} {N cr sr : Nat} {Z : Option Value → jv_Mem → Nat → Prop} {a0 : Nat} {x1 : Int32} {x2 : Int32} (h : jv_Tg 0 a0 N ∧ ∃ b2, Prod.fst (Prod.snd M) a0 0 = some b2 ∧ jv_Tg 14 b2 N ∧ vp_in x1 (jv_sh b2).2 ∧ ∃ b6, Prod.fst (Prod.snd M) b2 (Int32.toNatClampNeg x1) = some b6 ∧ jv_Tg 0 a0 N ∧ ∃ b9, Prod.fst (Prod.snd M) a0 0 = some b9 ∧ jv_Tg 0 a0 N ∧ ∃ b12, Prod.fst (Prod.snd M) a0 0 = some b12 ∧ jv_Tg 14 b12 N ∧ vp_in x2 (jv_sh b12).2 ∧ ∃ b16, Prod.fst (Prod.snd M) b12 (Int32.toNatClampNeg x2) = some b16 ∧ jv_Tg 14 b9 N ∧ vp_in x1 (jv_sh b9).2 ∧ jv_Tg 2 b16 N ∧ jv_Tg 0 a0 N ∧ ∃ b22, Prod.fst (Prod.snd (jv_sr M b9 (Int32.toNatClampNeg x1) (some b16))) a0 0 = some b22 ∧ jv_Tg 14 b22 N ∧ vp_in x2 (jv_sh b22).2 ∧ jv_Tg 2 b6 N ∧ Z none (jv_sr (jv_sr M b9 (Int32.toNatClampNeg x1) (some b16)) b22 (Int32.toNatClampNeg x2) (some b6)) N) : jv_J g d mt_D_moveForward 0 [some (.ref a0), some (.int x1), some (.int x2), none] [] M N cr sr Z := by
  refine jv_aload_n d_D_moveForward_0 rfl rfl ?_
  obtain ⟨q1, h⟩ := h
  obtain ⟨b2, e3, h⟩ := h
  refine jv_getR d_D_moveForward_1 fl_D_11 rfl q1 e3 ?_
  refine jv_iload_n d_D_moveForward_4 rfl rfl ?_
  obtain ⟨q4, q5, b6, e7, h⟩ := h
  refine jv_aald (t := 14) d_D_moveForward_5 (by decide) q4 q5 e7 ?_
  refine jv_astore_n (L' := [some (.ref a0), some (.int x1), some (.int x2), some (.ref b6)]) d_D_moveForward_6 rfl (Nat.le_of_ble_eq_true rfl) rfl ?_
  refine jv_aload_n d_D_moveForward_7 rfl rfl ?_
  obtain ⟨q8, h⟩ := h
  obtain ⟨b9, e10, h⟩ := h
  refine jv_getR d_D_moveForward_8 fl_D_11 rfl q8 e10 ?_
  refine jv_iload_n d_D_moveForward_11 rfl rfl ?_
  refine jv_aload_n d_D_moveForward_12 rfl rfl ?_
  obtain ⟨q11, h⟩ := h
  obtain ⟨b12, e13, h⟩ := h
  refine jv_getR d_D_moveForward_13 fl_D_11 rfl q11 e13 ?_
  refine jv_iload_n d_D_moveForward_16 rfl rfl ?_
  obtain ⟨q14, q15, b16, e17, h⟩ := h
  refine jv_aald (t := 14) d_D_moveForward_17 (by decide) q14 q15 e17 ?_
  obtain ⟨q18, q19, q20, h⟩ := h
  refine jv_aast (t := 14) d_D_moveForward_18 (by decide) q18 q19 q20 ?_
  refine jv_aload_n d_D_moveForward_19 rfl rfl ?_
  obtain ⟨q21, h⟩ := h
  obtain ⟨b22, e23, h⟩ := h
  refine jv_getR d_D_moveForward_20 fl_D_11 rfl q21 e23 ?_
  refine jv_iload_n d_D_moveForward_23 rfl rfl ?_
  refine jv_aload_n d_D_moveForward_24 rfl rfl ?_
  obtain ⟨q24, q25, q26, h⟩ := h
  refine jv_aast (t := 14) d_D_moveForward_25 (by decide) q24 q25 q26 ?_
  exact jv_ret d_D_moveForward_26 rfl h
theorem b_D_accept_0 {g : jv_G} {d : Nat} {M : jv_Mem} {N cr sr : Nat} {Z : Option Value → jv_Mem → Nat → Prop} {a0 : Nat} {x1 : Int32} {x2 : Int32} {x3 : Int32} {x4 : Int32} (h : (x1 < 3 → (x1 < 3 → jv_Tg 0 a0 N ∧ jv_Ct g d mt_D_append [.ref a0, .int x1, .int x2, .int x3, .int x4] M N 0 0 (fun v M3 N3 => jv_rv v (Z none M3 N3))) ∧ (¬ (x1 < 3) → jv_Tg 0 a0 N ∧ jv_Ct g d mt_D_hasAbstract [.ref a0] M N 0 0 (fun v M6 N6 => jv_ri v (fun r5 => (r5 = 0 → jv_Tg 0 a0 N6 ∧ jv_Ct g d mt_D_append [.ref a0, .int x1, .int x2, .int x3, .int x4] M6 N6 0 0 (fun v M9 N9 => jv_rv v (Z none M9 N9))) ∧ (¬ (r5 = 0) → jv_Tg 0 a0 N6 ∧ Z none (jv_si M6 a0 3 1) N6))))) ∧ (¬ (x1 < 3) → jv_Tg 0 a0 N ∧ ((Prod.fst M a0 3) = 0 → (x1 < 3 → jv_Tg 0 a0 N ∧ jv_Ct g d mt_D_append [.ref a0, .int x1, .int x2, .int x3, .int x4] M N 0 0 (fun v M14 N14 => jv_rv v (Z none M14 N14))) ∧ (¬ (x1 < 3) → jv_Tg 0 a0 N ∧ jv_Ct g d mt_D_hasAbstract [.ref a0] M N 0 0 (fun v M17 N17 => jv_ri v (fun r16 => (r16 = 0 → jv_Tg 0 a0 N17 ∧ jv_Ct g d mt_D_append [.ref a0, .int x1, .int x2, .int x3, .int x4] M17 N17 0 0 (fun v M20 N20 => jv_rv v (Z none M20 N20))) ∧ (¬ (r16 = 0) → jv_Tg 0 a0 N17 ∧ Z none (jv_si M17 a0 3 1) N17))))) ∧ (¬ ((Prod.fst M a0 3) = 0) → Z none M N))) : jv_J g (d + 1) mt_D_accept 0 [some (.ref a0), some (.int x1), some (.int x2), some (.int x3), some (.int x4)] [] M N cr sr Z := by
  refine jv_iload_n d_D_accept_0 rfl rfl ?_
  refine jv_iconst (v := 3) d_D_accept_1 (by decide) ?_
  refine jv_icmp_lt (tgt := 13) d_D_accept_2 (by decide) ⟨fun c => ?_, fun c => ?_⟩
  · replace h := h.1 c
    refine jv_iload_n d_D_accept_13 rfl rfl ?_
    refine jv_iconst (v := 3) d_D_accept_14 (by decide) ?_
    refine jv_icmp_lt (tgt := 31) d_D_accept_15 (by decide) ⟨fun c => ?_, fun c => ?_⟩
    · replace h := h.1 c
      refine jv_aload_n d_D_accept_31 rfl rfl ?_
      refine jv_iload_n d_D_accept_32 rfl rfl ?_
      refine jv_iload_n d_D_accept_33 rfl rfl ?_
      refine jv_iload_n d_D_accept_34 rfl rfl ?_
      refine jv_iload d_D_accept_35 rfl ?_
      obtain ⟨q1, h⟩ := h
      refine jv_invV [.int x1, .int x2, .int x3, .int x4] [] d_D_accept_37 ml_D_46 q1 rfl (Nat.le_of_ble_eq_true rfl) (Nat.zero_add _) (Nat.zero_add _) (jv_Ct.mono h (fun v M3 N3 h => ?_))
      obtain ⟨rfl, h⟩ := h
      change jv_J g (d + 1) mt_D_accept 40 [some (.ref a0), some (.int x1), some (.int x2), some (.int x3), some (.int x4)] [] M3 N3 cr sr Z
      exact jv_ret d_D_accept_40 rfl h
    · replace h := h.2 c
      refine jv_aload_n d_D_accept_18 rfl rfl ?_
      obtain ⟨q4, h⟩ := h
      refine jv_invV [] [] d_D_accept_19 ml_D_42 q4 rfl (Nat.le_of_ble_eq_true rfl) (Nat.zero_add _) (Nat.zero_add _) (jv_Ct.mono h (fun v M6 N6 h => ?_))
      obtain ⟨r5, rfl, h⟩ := h
      change jv_J g (d + 1) mt_D_accept 22 [some (.ref a0), some (.int x1), some (.int x2), some (.int x3), some (.int x4)] [.int r5] M6 N6 cr sr Z
      refine jv_if_eq (tgt := 31) d_D_accept_22 (by decide) ⟨fun c => ?_, fun c => ?_⟩
      · replace h := h.1 c
        refine jv_aload_n d_D_accept_31 rfl rfl ?_
        refine jv_iload_n d_D_accept_32 rfl rfl ?_
        refine jv_iload_n d_D_accept_33 rfl rfl ?_
        refine jv_iload_n d_D_accept_34 rfl rfl ?_
        refine jv_iload d_D_accept_35 rfl ?_
        obtain ⟨q7, h⟩ := h
        refine jv_invV [.int x1, .int x2, .int x3, .int x4] [] d_D_accept_37 ml_D_46 q7 rfl (Nat.le_of_ble_eq_true rfl) (Nat.zero_add _) (Nat.zero_add _) (jv_Ct.mono h (fun v M9 N9 h => ?_))
        obtain ⟨rfl, h⟩ := h
        change jv_J g (d + 1) mt_D_accept 40 [some (.ref a0), some (.int x1), some (.int x2), some (.int x3), some (.int x4)] [] M9 N9 cr sr Z
        exact jv_ret d_D_accept_40 rfl h
      · replace h := h.2 c
        refine jv_aload_n d_D_accept_25 rfl rfl ?_
        refine jv_iconst (v := 1) d_D_accept_26 (by decide) ?_
        obtain ⟨q10, h⟩ := h
        refine jv_putI d_D_accept_27 fl_D_36 (fun r hr => by cases hr; rfl) rfl q10 ?_
        exact jv_ret d_D_accept_30 rfl h
  · replace h := h.2 c
    refine jv_aload_n d_D_accept_5 rfl rfl ?_
    obtain ⟨q11, h⟩ := h
    refine jv_getI d_D_accept_6 fl_D_36 rfl q11 ?_
    refine jv_if_eq (tgt := 13) d_D_accept_9 (by decide) ⟨fun c => ?_, fun c => ?_⟩
    · replace h := h.1 c
      refine jv_iload_n d_D_accept_13 rfl rfl ?_
      refine jv_iconst (v := 3) d_D_accept_14 (by decide) ?_
      refine jv_icmp_lt (tgt := 31) d_D_accept_15 (by decide) ⟨fun c => ?_, fun c => ?_⟩
      · replace h := h.1 c
        refine jv_aload_n d_D_accept_31 rfl rfl ?_
        refine jv_iload_n d_D_accept_32 rfl rfl ?_
        refine jv_iload_n d_D_accept_33 rfl rfl ?_
        refine jv_iload_n d_D_accept_34 rfl rfl ?_
        refine jv_iload d_D_accept_35 rfl ?_
        obtain ⟨q12, h⟩ := h
        refine jv_invV [.int x1, .int x2, .int x3, .int x4] [] d_D_accept_37 ml_D_46 q12 rfl (Nat.le_of_ble_eq_true rfl) (Nat.zero_add _) (Nat.zero_add _) (jv_Ct.mono h (fun v M14 N14 h => ?_))
        obtain ⟨rfl, h⟩ := h
        change jv_J g (d + 1) mt_D_accept 40 [some (.ref a0), some (.int x1), some (.int x2), some (.int x3), some (.int x4)] [] M14 N14 cr sr Z
        exact jv_ret d_D_accept_40 rfl h
      · replace h := h.2 c
        refine jv_aload_n d_D_accept_18 rfl rfl ?_
        obtain ⟨q15, h⟩ := h
        refine jv_invV [] [] d_D_accept_19 ml_D_42 q15 rfl (Nat.le_of_ble_eq_true rfl) (Nat.zero_add _) (Nat.zero_add _) (jv_Ct.mono h (fun v M17 N17 h => ?_))
        obtain ⟨r16, rfl, h⟩ := h
        change jv_J g (d + 1) mt_D_accept 22 [some (.ref a0), some (.int x1), some (.int x2), some (.int x3), some (.int x4)] [.int r16] M17 N17 cr sr Z
        refine jv_if_eq (tgt := 31) d_D_accept_22 (by decide) ⟨fun c => ?_, fun c => ?_⟩
        · replace h := h.1 c
          refine jv_aload_n d_D_accept_31 rfl rfl ?_
          refine jv_iload_n d_D_accept_32 rfl rfl ?_
          refine jv_iload_n d_D_accept_33 rfl rfl ?_
          refine jv_iload_n d_D_accept_34 rfl rfl ?_
          refine jv_iload d_D_accept_35 rfl ?_
          obtain ⟨q18, h⟩ := h
          refine jv_invV [.int x1, .int x2, .int x3, .int x4] [] d_D_accept_37 ml_D_46 q18 rfl (Nat.le_of_ble_eq_true rfl) (Nat.zero_add _) (Nat.zero_add _) (jv_Ct.mono h (fun v M20 N20 h => ?_))
          obtain ⟨rfl, h⟩ := h
          change jv_J g (d + 1) mt_D_accept 40 [some (.ref a0), some (.int x1), some (.int x2), some (.int x3), some (.int x4)] [] M20 N20 cr sr Z
          exact jv_ret d_D_accept_40 rfl h
        · replace h := h.2 c
          refine jv_aload_n d_D_accept_25 rfl rfl ?_
          refine jv_iconst (v := 1) d_D_accept_26 (by decide) ?_
          obtain ⟨q21, h⟩ := h
          refine jv_putI d_D_accept_27 fl_D_36 (fun r hr => by cases hr; rfl) rfl q21 ?_
          exact jv_ret d_D_accept_30 rfl h
    · replace h := h.2 c
      exact jv_ret d_D_accept_12 rfl h
theorem b_D_hasAbstract_0 {g : jv_G} {d : Nat} {M : jv_Mem} {N cr sr : Nat} {Z : Option Value → jv_Mem → Nat → Prop} {a0 : Nat} (h : jv_J g (d + 1) mt_D_hasAbstract 2 [some (.ref a0), some (.int 0)] [] M N cr sr Z) : jv_J g (d + 1) mt_D_hasAbstract 0 [some (.ref a0), none] [] M N cr sr Z := by
  refine jv_iconst (v := 0) d_D_hasAbstract_0 (by decide) ?_
  refine jv_istore_n (L' := [some (.ref a0), some (.int 0)]) d_D_hasAbstract_1 rfl (Nat.le_of_ble_eq_true rfl) rfl ?_
  exact h
theorem b_D_hasAbstract_2 {g : jv_G} {d : Nat} {M : jv_Mem} {N cr sr : Nat} {Z : Option Value → jv_Mem → Nat → Prop} {a0 : Nat} {x1 : Int32} (h : jv_Tg 0 a0 N ∧ ((Prod.fst M a0 2) ≤ x1 → Z (some (.int 0)) M N) ∧ (¬ ((Prod.fst M a0 2) ≤ x1) → jv_Tg 0 a0 N ∧ ∃ b3, Prod.fst (Prod.snd M) a0 0 = some b3 ∧ jv_Tg 14 b3 N ∧ vp_in x1 (jv_sh b3).2 ∧ ∃ b7, Prod.fst (Prod.snd M) b3 (Int32.toNatClampNeg x1) = some b7 ∧ jv_Tg 2 b7 N ∧ jv_Ct g d mt_O_isAbstract [.ref b7] M N 0 0 (fun v M11 N11 => jv_ri v (fun r10 => (r10 = 0 → jv_J g (d + 1) mt_D_hasAbstract 2 [some (.ref a0), some (.int (x1 + 1))] [] M11 N11 cr sr Z) ∧ (¬ (r10 = 0) → Z (some (.int 1)) M11 N11))))) : jv_J g (d + 1) mt_D_hasAbstract 2 [some (.ref a0), some (.int x1)] [] M N cr sr Z := by
  refine jv_iload_n d_D_hasAbstract_2 rfl rfl ?_
  refine jv_aload_n d_D_hasAbstract_3 rfl rfl ?_
  obtain ⟨q1, h⟩ := h
  refine jv_getI d_D_hasAbstract_4 fl_D_22 rfl q1 ?_
  refine jv_icmp_ge (tgt := 30) d_D_hasAbstract_7 (by decide) ⟨fun c => ?_, fun c => ?_⟩
  · replace h := h.1 c
    refine jv_iconst (v := 0) d_D_hasAbstract_30 (by decide) ?_
    exact jv_iret d_D_hasAbstract_31 rfl (jv_nz (by decide)) h
  · replace h := h.2 c
    refine jv_aload_n d_D_hasAbstract_10 rfl rfl ?_
    obtain ⟨q2, h⟩ := h
    obtain ⟨b3, e4, h⟩ := h
    refine jv_getR d_D_hasAbstract_11 fl_D_11 rfl q2 e4 ?_
    refine jv_iload_n d_D_hasAbstract_14 rfl rfl ?_
    obtain ⟨q5, q6, b7, e8, h⟩ := h
    refine jv_aald (t := 14) d_D_hasAbstract_15 (by decide) q5 q6 e8 ?_
    obtain ⟨q9, h⟩ := h
    refine jv_invV [] [] d_D_hasAbstract_16 ml_D_50 q9 rfl (Nat.le_of_ble_eq_true rfl) (Nat.zero_add _) (Nat.zero_add _) (jv_Ct.mono h (fun v M11 N11 h => ?_))
    obtain ⟨r10, rfl, h⟩ := h
    change jv_J g (d + 1) mt_D_hasAbstract 19 [some (.ref a0), some (.int x1)] [.int r10] M11 N11 cr sr Z
    refine jv_if_eq (tgt := 24) d_D_hasAbstract_19 (by decide) ⟨fun c => ?_, fun c => ?_⟩
    · replace h := h.1 c
      refine jv_iinc (v := (x1 + 1)) (L' := [some (.ref a0), some (.int (x1 + 1))]) d_D_hasAbstract_24 rfl rfl (Nat.le_of_ble_eq_true rfl) rfl ?_
      refine jv_goto (tgt := 2) d_D_hasAbstract_27 (by decide) ?_
      exact h
    · replace h := h.2 c
      refine jv_iconst (v := 1) d_D_hasAbstract_22 (by decide) ?_
      exact jv_iret d_D_hasAbstract_23 rfl (jv_nz (by decide)) h
theorem b_D_append_0 {g : jv_G} {d : Nat} {M : jv_Mem} {N cr sr : Nat} {Z : Option Value → jv_Mem → Nat → Prop} {a0 : Nat} {x1 : Int32} {x2 : Int32} {x3 : Int32} {x4 : Int32} (h : jv_Tg 0 a0 N ∧ jv_Tg 0 a0 N ∧ ∃ b3, Prod.fst (Prod.snd M) a0 0 = some b3 ∧ jv_Tg 14 b3 N ∧ ((Prod.fst M a0 2) < (Int32.ofNat (jv_sh b3).2) → jv_Tg 0 a0 N ∧ ∃ b7, Prod.fst (Prod.snd M) a0 0 = some b7 ∧ jv_Tg 0 a0 N ∧ jv_Tg 14 b7 N ∧ vp_in (Prod.fst M a0 2) (jv_sh b7).2 ∧ ∃ b12, Prod.fst (Prod.snd M) b7 (Int32.toNatClampNeg (Prod.fst M a0 2)) = some b12 ∧ jv_Tg 2 b12 N ∧ jv_Tg 2 b12 N ∧ jv_Tg 2 b12 N ∧ jv_Tg 2 b12 N ∧ jv_Tg 2 b12 N ∧ jv_Tg 2 b12 N ∧ jv_Tg 2 b12 N ∧ jv_Tg 0 a0 N ∧ jv_Tg 0 a0 N ∧ Z none (jv_si (jv_si (jv_si (jv_si (jv_si (jv_si (jv_si (jv_si M b12 0 x1) b12 1 x2) b12 2 x3) b12 3 x4) b12 4 0) b12 5 0) b12 6 0) a0 2 ((Prod.fst (jv_si (jv_si (jv_si (jv_si (jv_si (jv_si (jv_si M b12 0 x1) b12 1 x2) b12 2 x3) b12 3 x4) b12 4 0) b12 5 0) b12 6 0) a0 2) + 1)) N) ∧ (¬ ((Prod.fst M a0 2) < (Int32.ofNat (jv_sh b3).2)) → Z none M N)) : jv_J g d mt_D_append 0 [some (.ref a0), some (.int x1), some (.int x2), some (.int x3), some (.int x4), none] [] M N cr sr Z := by
  refine jv_aload_n d_D_append_0 rfl rfl ?_
  obtain ⟨q1, h⟩ := h
  refine jv_getI d_D_append_1 fl_D_22 rfl q1 ?_
  refine jv_aload_n d_D_append_4 rfl rfl ?_
  obtain ⟨q2, h⟩ := h
  obtain ⟨b3, e4, h⟩ := h
  refine jv_getR d_D_append_5 fl_D_11 rfl q2 e4 ?_
  obtain ⟨q5, h⟩ := h
  refine jv_alen (t := 14) d_D_append_8 (by decide) q5 ?_
  refine jv_icmp_lt (tgt := 13) d_D_append_9 (by decide) ⟨fun c => ?_, fun c => ?_⟩
  · replace h := h.1 c
    refine jv_aload_n d_D_append_13 rfl rfl ?_
    obtain ⟨q6, h⟩ := h
    obtain ⟨b7, e8, h⟩ := h
    refine jv_getR d_D_append_14 fl_D_11 rfl q6 e8 ?_
    refine jv_aload_n d_D_append_17 rfl rfl ?_
    obtain ⟨q9, h⟩ := h
    refine jv_getI d_D_append_18 fl_D_22 rfl q9 ?_
    obtain ⟨q10, q11, b12, e13, h⟩ := h
    refine jv_aald (t := 14) d_D_append_21 (by decide) q10 q11 e13 ?_
    refine jv_astore (L' := [some (.ref a0), some (.int x1), some (.int x2), some (.int x3), some (.int x4), some (.ref b12)]) d_D_append_22 (Nat.le_of_ble_eq_true rfl) rfl ?_
    refine jv_aload d_D_append_24 rfl ?_
    refine jv_iload_n d_D_append_26 rfl rfl ?_
    obtain ⟨q14, h⟩ := h
    refine jv_putI d_D_append_27 fl_D_53 (fun r hr => by cases hr; rfl) rfl q14 ?_
    refine jv_aload d_D_append_30 rfl ?_
    refine jv_iload_n d_D_append_32 rfl rfl ?_
    obtain ⟨q15, h⟩ := h
    refine jv_putI d_D_append_33 fl_D_56 (fun r hr => by cases hr; rfl) rfl q15 ?_
    refine jv_aload d_D_append_36 rfl ?_
    refine jv_iload_n d_D_append_38 rfl rfl ?_
    obtain ⟨q16, h⟩ := h
    refine jv_putI d_D_append_39 fl_D_59 (fun r hr => by cases hr; rfl) rfl q16 ?_
    refine jv_aload d_D_append_42 rfl ?_
    refine jv_iload d_D_append_44 rfl ?_
    obtain ⟨q17, h⟩ := h
    refine jv_putI d_D_append_46 fl_D_62 (fun r hr => by cases hr; rfl) rfl q17 ?_
    refine jv_aload d_D_append_49 rfl ?_
    refine jv_iconst (v := 0) d_D_append_51 (by decide) ?_
    obtain ⟨q18, h⟩ := h
    refine jv_putI d_D_append_52 fl_D_65 (fun r hr => by cases hr; rfl) rfl q18 ?_
    refine jv_aload d_D_append_55 rfl ?_
    refine jv_iconst (v := 0) d_D_append_57 (by decide) ?_
    obtain ⟨q19, h⟩ := h
    refine jv_putI d_D_append_58 fl_D_68 (fun r hr => by cases hr; rfl) rfl q19 ?_
    refine jv_aload d_D_append_61 rfl ?_
    refine jv_iconst (v := 0) d_D_append_63 (by decide) ?_
    obtain ⟨q20, h⟩ := h
    refine jv_putI d_D_append_64 fl_D_71 (fun r hr => by cases hr; rfl) rfl q20 ?_
    refine jv_aload_n d_D_append_67 rfl rfl ?_
    refine jv_dup d_D_append_68 rfl ?_
    obtain ⟨q21, h⟩ := h
    refine jv_getI d_D_append_69 fl_D_22 rfl q21 ?_
    refine jv_iconst (v := 1) d_D_append_72 (by decide) ?_
    refine jv_iadd d_D_append_73 ?_
    obtain ⟨q22, h⟩ := h
    refine jv_putI d_D_append_74 fl_D_22 (fun r hr => by cases hr; rfl) rfl q22 ?_
    exact jv_ret d_D_append_77 rfl h
  · replace h := h.2 c
    exact jv_ret d_D_append_12 rfl h
theorem b_A_popInto_0 {g : jv_G} {d : Nat} {M : jv_Mem} {N cr sr : Nat} {Z : Option Value → jv_Mem → Nat → Prop} {a0 : Nat} {a1 : Nat} (h : jv_Tg 3 a0 N ∧ ((Prod.fst M a0 2) ≠ 0 → jv_Tg 3 a0 N ∧ jv_Tg 3 a0 N ∧ jv_Tg 3 a0 N ∧ jv_Tg 3 a0 N ∧ jv_Tg 3 a0 N ∧ ∃ b7, Prod.fst (Prod.snd (jv_si (jv_si M a0 1 ((((Prod.fst M a0 1) + 14) - 1) - (((Prod.fst M a0 1) + 14) - 1) / 14 * 14)) a0 2 ((Prod.fst (jv_si M a0 1 ((((Prod.fst M a0 1) + 14) - 1) - (((Prod.fst M a0 1) + 14) - 1) / 14 * 14)) a0 2) - 1))) a0 0 = some b7 ∧ jv_Tg 3 a0 N ∧ jv_Tg 15 b7 N ∧ vp_in (Prod.fst (jv_si (jv_si M a0 1 ((((Prod.fst M a0 1) + 14) - 1) - (((Prod.fst M a0 1) + 14) - 1) / 14 * 14)) a0 2 ((Prod.fst (jv_si M a0 1 ((((Prod.fst M a0 1) + 14) - 1) - (((Prod.fst M a0 1) + 14) - 1) / 14 * 14)) a0 2) - 1)) a0 1) (jv_sh b7).2 ∧ ∃ b12, Prod.fst (Prod.snd (jv_si (jv_si M a0 1 ((((Prod.fst M a0 1) + 14) - 1) - (((Prod.fst M a0 1) + 14) - 1) / 14 * 14)) a0 2 ((Prod.fst (jv_si M a0 1 ((((Prod.fst M a0 1) + 14) - 1) - (((Prod.fst M a0 1) + 14) - 1) / 14 * 14)) a0 2) - 1))) b7 (Int32.toNatClampNeg (Prod.fst (jv_si (jv_si M a0 1 ((((Prod.fst M a0 1) + 14) - 1) - (((Prod.fst M a0 1) + 14) - 1) / 14 * 14)) a0 2 ((Prod.fst (jv_si M a0 1 ((((Prod.fst M a0 1) + 14) - 1) - (((Prod.fst M a0 1) + 14) - 1) / 14 * 14)) a0 2) - 1)) a0 1)) = some b12 ∧ jv_Tg 6 a1 N ∧ jv_Ct g d mt_S_copyFrom [.ref a1, .ref b12] (jv_si (jv_si M a0 1 ((((Prod.fst M a0 1) + 14) - 1) - (((Prod.fst M a0 1) + 14) - 1) / 14 * 14)) a0 2 ((Prod.fst (jv_si M a0 1 ((((Prod.fst M a0 1) + 14) - 1) - (((Prod.fst M a0 1) + 14) - 1) / 14 * 14)) a0 2) - 1)) N 0 0 (fun v M16 N16 => jv_rv v (Z (some (.int 1)) M16 N16))) ∧ ((Prod.fst M a0 2) = 0 → Z (some (.int 0)) M N)) : jv_J g (d + 1) mt_A_popInto 0 [some (.ref a0), some (.ref a1)] [] M N cr sr Z := by
  refine jv_aload_n d_A_popInto_0 rfl rfl ?_
  obtain ⟨q1, h⟩ := h
  refine jv_getI d_A_popInto_1 fl_A_18 rfl q1 ?_
  refine jv_if_ne (tgt := 9) d_A_popInto_4 (by decide) ⟨fun c => ?_, fun c => ?_⟩
  · replace h := h.1 c
    refine jv_aload_n d_A_popInto_9 rfl rfl ?_
    refine jv_aload_n d_A_popInto_10 rfl rfl ?_
    obtain ⟨q2, h⟩ := h
    refine jv_getI d_A_popInto_11 fl_A_22 rfl q2 ?_
    refine jv_bipush (v := 14) d_A_popInto_14 (by decide) ?_
    refine jv_iadd d_A_popInto_16 ?_
    refine jv_iconst (v := 1) d_A_popInto_17 (by decide) ?_
    refine jv_isub d_A_popInto_18 ?_
    refine jv_bipush (v := 14) d_A_popInto_19 (by decide) ?_
    refine jv_irem d_A_popInto_21 (by decide) ?_
    obtain ⟨q3, h⟩ := h
    refine jv_putI d_A_popInto_22 fl_A_22 (fun r hr => by cases hr; rfl) rfl q3 ?_
    refine jv_aload_n d_A_popInto_25 rfl rfl ?_
    refine jv_dup d_A_popInto_26 rfl ?_
    obtain ⟨q4, h⟩ := h
    refine jv_getI d_A_popInto_27 fl_A_18 rfl q4 ?_
    refine jv_iconst (v := 1) d_A_popInto_30 (by decide) ?_
    refine jv_isub d_A_popInto_31 ?_
    obtain ⟨q5, h⟩ := h
    refine jv_putI d_A_popInto_32 fl_A_18 (fun r hr => by cases hr; rfl) rfl q5 ?_
    refine jv_aload_n d_A_popInto_35 rfl rfl ?_
    refine jv_aload_n d_A_popInto_36 rfl rfl ?_
    obtain ⟨q6, h⟩ := h
    obtain ⟨b7, e8, h⟩ := h
    refine jv_getR d_A_popInto_37 fl_A_11 rfl q6 e8 ?_
    refine jv_aload_n d_A_popInto_40 rfl rfl ?_
    obtain ⟨q9, h⟩ := h
    refine jv_getI d_A_popInto_41 fl_A_22 rfl q9 ?_
    obtain ⟨q10, q11, b12, e13, h⟩ := h
    refine jv_aald (t := 15) d_A_popInto_44 (by decide) q10 q11 e13 ?_
    obtain ⟨q14, h⟩ := h
    refine jv_invV [.ref b12] [] d_A_popInto_45 ml_A_25 q14 rfl (Nat.le_of_ble_eq_true rfl) (Nat.zero_add _) (Nat.zero_add _) (jv_Ct.mono h (fun v M16 N16 h => ?_))
    obtain ⟨rfl, h⟩ := h
    change jv_J g (d + 1) mt_A_popInto 48 [some (.ref a0), some (.ref a1)] [] M16 N16 cr sr Z
    refine jv_iconst (v := 1) d_A_popInto_48 (by decide) ?_
    exact jv_iret d_A_popInto_49 rfl (jv_nz (by decide)) h
  · replace h := h.2 c
    refine jv_iconst (v := 0) d_A_popInto_7 (by decide) ?_
    exact jv_iret d_A_popInto_8 rfl (jv_nz (by decide)) h
theorem b_D_lose_0 {g : jv_G} {d : Nat} {M : jv_Mem} {N cr sr : Nat} {Z : Option Value → jv_Mem → Nat → Prop} {a0 : Nat} {x1 : Int32} (h : jv_J g (d + 1) mt_D_lose 4 [some (.ref a0), some (.int x1), some (.int 0), some (.int 0)] [] M N cr sr Z) : jv_J g (d + 1) mt_D_lose 0 [some (.ref a0), some (.int x1), none, none] [] M N cr sr Z := by
  refine jv_iconst (v := 0) d_D_lose_0 (by decide) ?_
  refine jv_istore_n (L' := [some (.ref a0), some (.int x1), some (.int 0), none]) d_D_lose_1 rfl (Nat.le_of_ble_eq_true rfl) rfl ?_
  refine jv_iconst (v := 0) d_D_lose_2 (by decide) ?_
  refine jv_istore_n (L' := [some (.ref a0), some (.int x1), some (.int 0), some (.int 0)]) d_D_lose_3 rfl (Nat.le_of_ble_eq_true rfl) rfl ?_
  exact h
theorem b_D_lose_4 {g : jv_G} {d : Nat} {M : jv_Mem} {N cr sr : Nat} {Z : Option Value → jv_Mem → Nat → Prop} {a0 : Nat} {x1 : Int32} {x2 : Int32} {x3 : Int32} (h : jv_Tg 0 a0 N ∧ ((Prod.fst M a0 2) ≤ x3 → jv_Tg 0 a0 N ∧ Z none (jv_si M a0 2 x2) N) ∧ (¬ ((Prod.fst M a0 2) ≤ x3) → (((x1 >>> (x3 &&& 31)) &&& 1) ≠ 0 → jv_J g (d + 1) mt_D_lose 4 [some (.ref a0), some (.int x1), some (.int x2), some (.int (x3 + 1))] [] M N cr sr Z) ∧ (((x1 >>> (x3 &&& 31)) &&& 1) = 0 → jv_Tg 0 a0 N ∧ jv_Ct g d mt_D_moveForward [.ref a0, .int x3, .int x2] M N 0 0 (fun v M5 N5 => jv_rv v (jv_J g (d + 1) mt_D_lose 4 [some (.ref a0), some (.int x1), some (.int (x2 + 1)), some (.int (x3 + 1))] [] M5 N5 cr sr Z))))) : jv_J g (d + 1) mt_D_lose 4 [some (.ref a0), some (.int x1), some (.int x2), some (.int x3)] [] M N cr sr Z := by
  refine jv_iload_n d_D_lose_4 rfl rfl ?_
  refine jv_aload_n d_D_lose_5 rfl rfl ?_
  obtain ⟨q1, h⟩ := h
  refine jv_getI d_D_lose_6 fl_D_22 rfl q1 ?_
  refine jv_icmp_ge (tgt := 35) d_D_lose_9 (by decide) ⟨fun c => ?_, fun c => ?_⟩
  · replace h := h.1 c
    refine jv_aload_n d_D_lose_35 rfl rfl ?_
    refine jv_iload_n d_D_lose_36 rfl rfl ?_
    obtain ⟨q2, h⟩ := h
    refine jv_putI d_D_lose_37 fl_D_22 (fun r hr => by cases hr; rfl) rfl q2 ?_
    exact jv_ret d_D_lose_40 rfl h
  · replace h := h.2 c
    refine jv_iload_n d_D_lose_12 rfl rfl ?_
    refine jv_iload_n d_D_lose_13 rfl rfl ?_
    refine jv_ishr d_D_lose_14 ?_
    refine jv_iconst (v := 1) d_D_lose_15 (by decide) ?_
    refine jv_iand d_D_lose_16 ?_
    refine jv_if_ne (tgt := 29) d_D_lose_17 (by decide) ⟨fun c => ?_, fun c => ?_⟩
    · replace h := h.1 c
      refine jv_iinc (v := (x3 + 1)) (L' := [some (.ref a0), some (.int x1), some (.int x2), some (.int (x3 + 1))]) d_D_lose_29 rfl rfl (Nat.le_of_ble_eq_true rfl) rfl ?_
      refine jv_goto (tgt := 4) d_D_lose_32 (by decide) ?_
      exact h
    · replace h := h.2 c
      refine jv_aload_n d_D_lose_20 rfl rfl ?_
      refine jv_iload_n d_D_lose_21 rfl rfl ?_
      refine jv_iload_n d_D_lose_22 rfl rfl ?_
      obtain ⟨q3, h⟩ := h
      refine jv_invV [.int x3, .int x2] [] d_D_lose_23 ml_D_74 q3 rfl (Nat.le_of_ble_eq_true rfl) (Nat.zero_add _) (Nat.zero_add _) (jv_Ct.mono h (fun v M5 N5 h => ?_))
      obtain ⟨rfl, h⟩ := h
      change jv_J g (d + 1) mt_D_lose 26 [some (.ref a0), some (.int x1), some (.int x2), some (.int x3)] [] M5 N5 cr sr Z
      refine jv_iinc (v := (x2 + 1)) (L' := [some (.ref a0), some (.int x1), some (.int (x2 + 1)), some (.int x3)]) d_D_lose_26 rfl rfl (Nat.le_of_ble_eq_true rfl) rfl ?_
      refine jv_iinc (v := (x3 + 1)) (L' := [some (.ref a0), some (.int x1), some (.int (x2 + 1)), some (.int (x3 + 1))]) d_D_lose_29 rfl rfl (Nat.le_of_ble_eq_true rfl) rfl ?_
      refine jv_goto (tgt := 4) d_D_lose_32 (by decide) ?_
      exact h
