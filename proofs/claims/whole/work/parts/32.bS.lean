/-! ===== blocks ===== -/
theorem b_S_init_0 {g : jv_G} {d : Nat} {M : jv_Mem} {N cr sr : Nat} {Z : Option Value → jv_Mem → Nat → Prop} {a0 : Nat} (h : jv_sh N = (0, 5) ∧ 1 ≤ cr ∧ 5 ≤ sr ∧ ∃ c5 s6 : Nat, c5 ≤ (cr - 1) ∧ s6 ≤ (sr - 5) ∧ jv_Ct g d mt_D_init [.ref N] (jv_zero M N) (N + 1) c5 s6 (fun v M9 N9 => jv_rv v (jv_Tg 6 a0 N9 ∧ jv_sh N9 = (13, 4) ∧ 1 ≤ ((cr - 1) - c5) ∧ 4 ≤ ((sr - 5) - s6) ∧ jv_Tg 6 a0 (N9 + 1) ∧ jv_sh (N9 + 1) = (16, 6) ∧ 1 ≤ (((cr - 1) - c5) - 1) ∧ 6 ≤ (((sr - 5) - s6) - 4) ∧ jv_Tg 6 a0 ((N9 + 1) + 1) ∧ jv_sh ((N9 + 1) + 1) = (11, 8) ∧ 1 ≤ ((((cr - 1) - c5) - 1) - 1) ∧ 8 ≤ ((((sr - 5) - s6) - 4) - 6) ∧ jv_Tg 6 a0 (((N9 + 1) + 1) + 1) ∧ jv_J g (d + 1) mt_S_init 42 [some (.ref a0), some (.int 0)] [] (jv_sr (jv_zero (jv_sr (jv_zero (jv_sr (jv_zero (jv_sr M9 a0 0 (some N)) N9) a0 1 (some N9)) (N9 + 1)) a0 2 (some (N9 + 1))) ((N9 + 1) + 1)) a0 3 (some ((N9 + 1) + 1))) (((N9 + 1) + 1) + 1) (((((cr - 1) - c5) - 1) - 1) - 1) (((((sr - 5) - s6) - 4) - 6) - 8) Z))) : jv_J g (d + 1) mt_S_init 0 [some (.ref a0), none] [] M N cr sr Z := by
  refine jv_aload_n d_S_init_0 rfl rfl ?_
  refine jv_objI d_S_init_1 oi_S_3 oi_w2 oi_w3 (Nat.le_of_ble_eq_true rfl) ?_
  refine jv_aload_n d_S_init_4 rfl rfl ?_
  obtain ⟨q1, q2, q3, h⟩ := h
  refine jv_new (t := 0) (n := 5) _ d_S_init_5 rfl rfl cl_S_9 ins_D ini_D q1 (Nat.sub_add_cancel q2) (Nat.sub_add_cancel q3) ?_
  refine jv_dup d_S_init_8 rfl ?_
  obtain ⟨c5, s6, q7, q8, h⟩ := h
  refine jv_invI [] [.ref N, .ref a0] d_S_init_9 ml_S_11 rfl (Nat.le_of_ble_eq_true rfl) (Nat.add_sub_cancel' q7) (Nat.add_sub_cancel' q8) (jv_Ct.mono h (fun v M9 N9 h => ?_))
  obtain ⟨rfl, h⟩ := h
  change jv_J g (d + 1) mt_S_init 12 [some (.ref a0), none] [.ref N, .ref a0] M9 N9 ((cr - 1) - c5) ((sr - 5) - s6) Z
  obtain ⟨q10, h⟩ := h
  refine jv_putR d_S_init_12 fl_S_12 rfl (fun r hr => by cases hr; exact Or.inr ⟨rfl, rfl, rfl⟩) q10 ?_
  refine jv_aload_n d_S_init_15 rfl rfl ?_
  refine jv_iconst (v := 4) d_S_init_16 (by decide) ?_
  obtain ⟨q11, q12, q13, h⟩ := h
  refine jv_newR (t := 13) (n := 4) _ d_S_init_17 (by decide) rfl cl_S_18 (by decide) (by decide) (by decide) q11 (Nat.sub_add_cancel q12) (Nat.sub_add_cancel q13) ?_
  obtain ⟨q14, h⟩ := h
  refine jv_putR d_S_init_20 fl_S_20 rfl (fun r hr => by cases hr; exact Or.inr ⟨rfl, rfl, rfl⟩) q14 ?_
  refine jv_aload_n d_S_init_23 rfl rfl ?_
  refine jv_bipush (v := 6) d_S_init_24 (by decide) ?_
  obtain ⟨q15, q16, q17, h⟩ := h
  refine jv_newR (t := 16) (n := 6) _ d_S_init_26 (by decide) rfl cl_S_24 (by decide) (by decide) (by decide) q15 (Nat.sub_add_cancel q16) (Nat.sub_add_cancel q17) ?_
  obtain ⟨q18, h⟩ := h
  refine jv_putR d_S_init_29 fl_S_26 rfl (fun r hr => by cases hr; exact Or.inr ⟨rfl, rfl, rfl⟩) q18 ?_
  refine jv_aload_n d_S_init_32 rfl rfl ?_
  refine jv_bipush (v := 8) d_S_init_33 (by decide) ?_
  obtain ⟨q19, q20, q21, h⟩ := h
  refine jv_newI (n := 8) d_S_init_35 arr_int (by decide) (by decide) (by decide) q19 (Nat.sub_add_cancel q20) (Nat.sub_add_cancel q21) ?_
  obtain ⟨q22, h⟩ := h
  refine jv_putR d_S_init_37 fl_S_30 rfl (fun r hr => by cases hr; exact Or.inr ⟨rfl, rfl, rfl⟩) q22 ?_
  refine jv_iconst (v := 0) d_S_init_40 (by decide) ?_
  refine jv_istore_n (L' := [some (.ref a0), some (.int 0)]) d_S_init_41 rfl (Nat.le_of_ble_eq_true rfl) rfl ?_
  exact h
theorem b_S_init_42 {g : jv_G} {d : Nat} {M : jv_Mem} {N cr sr : Nat} {Z : Option Value → jv_Mem → Nat → Prop} {a0 : Nat} {x1 : Int32} (h : (4 ≤ x1 → jv_J g (d + 1) mt_S_init 68 [some (.ref a0), some (.int 0)] [] M N cr sr Z) ∧ (¬ (4 ≤ x1) → jv_Tg 6 a0 N ∧ ∃ b2, Prod.fst (Prod.snd M) a0 1 = some b2 ∧ jv_sh N = (1, 7) ∧ 1 ≤ cr ∧ 7 ≤ sr ∧ ∃ c8 s9 : Nat, c8 ≤ (cr - 1) ∧ s9 ≤ (sr - 7) ∧ jv_Ct g d mt_H_init [.ref N] (jv_zero M N) (N + 1) c8 s9 (fun v M12 N12 => jv_rv v (jv_Tg 13 b2 N12 ∧ vp_in x1 (jv_sh b2).2 ∧ jv_Tg 1 N N12 ∧ jv_J g (d + 1) mt_S_init 42 [some (.ref a0), some (.int (x1 + 1))] [] (jv_sr M12 b2 (Int32.toNatClampNeg x1) (some N)) N12 ((cr - 1) - c8) ((sr - 7) - s9) Z)))) : jv_J g (d + 1) mt_S_init 42 [some (.ref a0), some (.int x1)] [] M N cr sr Z := by
  refine jv_iload_n d_S_init_42 rfl rfl ?_
  refine jv_iconst (v := 4) d_S_init_43 (by decide) ?_
  refine jv_icmp_ge (tgt := 66) d_S_init_44 (by decide) ⟨fun c => ?_, fun c => ?_⟩
  · replace h := h.1 c
    refine jv_iconst (v := 0) d_S_init_66 (by decide) ?_
    refine jv_istore_n (L' := [some (.ref a0), some (.int 0)]) d_S_init_67 rfl (Nat.le_of_ble_eq_true rfl) rfl ?_
    exact h
  · replace h := h.2 c
    refine jv_aload_n d_S_init_47 rfl rfl ?_
    obtain ⟨q1, h⟩ := h
    obtain ⟨b2, e3, h⟩ := h
    refine jv_getR d_S_init_48 fl_S_20 rfl q1 e3 ?_
    refine jv_iload_n d_S_init_51 rfl rfl ?_
    obtain ⟨q4, q5, q6, h⟩ := h
    refine jv_new (t := 1) (n := 7) _ d_S_init_52 rfl rfl cl_S_18 ins_H ini_H q4 (Nat.sub_add_cancel q5) (Nat.sub_add_cancel q6) ?_
    refine jv_dup d_S_init_55 rfl ?_
    obtain ⟨c8, s9, q10, q11, h⟩ := h
    refine jv_invIN [] [.ref N, .int x1, .ref b2] d_S_init_56 ml_S_34 rfl (Nat.le_of_ble_eq_true rfl) (Nat.add_sub_cancel' q10) (Nat.add_sub_cancel' q11) (jv_Ct.mono h (fun v M12 N12 h => ?_))
    obtain ⟨rfl, h⟩ := h
    change jv_J g (d + 1) mt_S_init 59 [some (.ref a0), some (.int x1)] [.ref N, .int x1, .ref b2] M12 N12 ((cr - 1) - c8) ((sr - 7) - s9) Z
    obtain ⟨q13, q14, q15, h⟩ := h
    refine jv_aast (t := 13) d_S_init_59 (by decide) q13 q14 q15 ?_
    refine jv_iinc (v := (x1 + 1)) (L' := [some (.ref a0), some (.int (x1 + 1))]) d_S_init_60 rfl rfl (Nat.le_of_ble_eq_true rfl) rfl ?_
    refine jv_goto (tgt := 42) d_S_init_63 (by decide) ?_
    exact h
theorem b_S_init_68 {g : jv_G} {d : Nat} {M : jv_Mem} {N cr sr : Nat} {Z : Option Value → jv_Mem → Nat → Prop} {a0 : Nat} {x1 : Int32} (h : (6 ≤ x1 → Z none M N) ∧ (¬ (6 ≤ x1) → jv_Tg 6 a0 N ∧ ∃ b2, Prod.fst (Prod.snd M) a0 2 = some b2 ∧ jv_sh N = (8, 7) ∧ 1 ≤ cr ∧ 7 ≤ sr ∧ ∃ c8 s9 : Nat, c8 ≤ (cr - 1) ∧ s9 ≤ (sr - 7) ∧ jv_Ct g d mt_U_init [.ref N] (jv_zero M N) (N + 1) c8 s9 (fun v M12 N12 => jv_rv v (jv_Tg 16 b2 N12 ∧ vp_in x1 (jv_sh b2).2 ∧ jv_Tg 8 N N12 ∧ jv_J g (d + 1) mt_S_init 68 [some (.ref a0), some (.int (x1 + 1))] [] (jv_sr M12 b2 (Int32.toNatClampNeg x1) (some N)) N12 ((cr - 1) - c8) ((sr - 7) - s9) Z)))) : jv_J g (d + 1) mt_S_init 68 [some (.ref a0), some (.int x1)] [] M N cr sr Z := by
  refine jv_iload_n d_S_init_68 rfl rfl ?_
  refine jv_bipush (v := 6) d_S_init_69 (by decide) ?_
  refine jv_icmp_ge (tgt := 93) d_S_init_71 (by decide) ⟨fun c => ?_, fun c => ?_⟩
  · replace h := h.1 c
    exact jv_ret d_S_init_93 rfl h
  · replace h := h.2 c
    refine jv_aload_n d_S_init_74 rfl rfl ?_
    obtain ⟨q1, h⟩ := h
    obtain ⟨b2, e3, h⟩ := h
    refine jv_getR d_S_init_75 fl_S_26 rfl q1 e3 ?_
    refine jv_iload_n d_S_init_78 rfl rfl ?_
    obtain ⟨q4, q5, q6, h⟩ := h
    refine jv_new (t := 8) (n := 7) _ d_S_init_79 rfl rfl cl_S_24 ins_U ini_U q4 (Nat.sub_add_cancel q5) (Nat.sub_add_cancel q6) ?_
    refine jv_dup d_S_init_82 rfl ?_
    obtain ⟨c8, s9, q10, q11, h⟩ := h
    refine jv_invIN [] [.ref N, .int x1, .ref b2] d_S_init_83 ml_S_35 rfl (Nat.le_of_ble_eq_true rfl) (Nat.add_sub_cancel' q10) (Nat.add_sub_cancel' q11) (jv_Ct.mono h (fun v M12 N12 h => ?_))
    obtain ⟨rfl, h⟩ := h
    change jv_J g (d + 1) mt_S_init 86 [some (.ref a0), some (.int x1)] [.ref N, .int x1, .ref b2] M12 N12 ((cr - 1) - c8) ((sr - 7) - s9) Z
    obtain ⟨q13, q14, q15, h⟩ := h
    refine jv_aast (t := 16) d_S_init_86 (by decide) q13 q14 q15 ?_
    refine jv_iinc (v := (x1 + 1)) (L' := [some (.ref a0), some (.int (x1 + 1))]) d_S_init_87 rfl rfl (Nat.le_of_ble_eq_true rfl) rfl ?_
    refine jv_goto (tgt := 68) d_S_init_90 (by decide) ?_
    exact h
theorem b_S_addHart_0 {g : jv_G} {d : Nat} {M : jv_Mem} {N cr sr : Nat} {Z : Option Value → jv_Mem → Nat → Prop} {a0 : Nat} {x1 : Int32} {x2 : Int32} (h : jv_Tg 6 a0 N ∧ (4 ≤ (Prod.fst M a0 4) → Z none M N) ∧ (¬ (4 ≤ (Prod.fst M a0 4)) → jv_Tg 6 a0 N ∧ ∃ b3, Prod.fst (Prod.snd M) a0 1 = some b3 ∧ jv_Tg 6 a0 N ∧ jv_Tg 13 b3 N ∧ vp_in (Prod.fst M a0 4) (jv_sh b3).2 ∧ ∃ b8, Prod.fst (Prod.snd M) b3 (Int32.toNatClampNeg (Prod.fst M a0 4)) = some b8 ∧ jv_Tg 1 b8 N ∧ jv_Tg 1 b8 N ∧ jv_Tg 1 b8 N ∧ jv_Ct g d mt_H_restart [.ref b8] (jv_si (jv_si M b8 1 x1) b8 2 x2) N 0 0 (fun v M14 N14 => jv_rv v (jv_Tg 6 a0 N14 ∧ jv_Tg 6 a0 N14 ∧ Z none (jv_si M14 a0 4 ((Prod.fst M14 a0 4) + 1)) N14)))) : jv_J g (d + 1) mt_S_addHart 0 [some (.ref a0), some (.int x1), some (.int x2), none] [] M N cr sr Z := by
  refine jv_aload_n d_S_addHart_0 rfl rfl ?_
  obtain ⟨q1, h⟩ := h
  refine jv_getI d_S_addHart_1 fl_S_36 rfl q1 ?_
  refine jv_iconst (v := 4) d_S_addHart_4 (by decide) ?_
  refine jv_icmp_ge (tgt := 42) d_S_addHart_5 (by decide) ⟨fun c => ?_, fun c => ?_⟩
  · replace h := h.1 c
    exact jv_ret d_S_addHart_42 rfl h
  · replace h := h.2 c
    refine jv_aload_n d_S_addHart_8 rfl rfl ?_
    obtain ⟨q2, h⟩ := h
    obtain ⟨b3, e4, h⟩ := h
    refine jv_getR d_S_addHart_9 fl_S_20 rfl q2 e4 ?_
    refine jv_aload_n d_S_addHart_12 rfl rfl ?_
    obtain ⟨q5, h⟩ := h
    refine jv_getI d_S_addHart_13 fl_S_36 rfl q5 ?_
    obtain ⟨q6, q7, b8, e9, h⟩ := h
    refine jv_aald (t := 13) d_S_addHart_16 (by decide) q6 q7 e9 ?_
    refine jv_astore_n (L' := [some (.ref a0), some (.int x1), some (.int x2), some (.ref b8)]) d_S_addHart_17 rfl (Nat.le_of_ble_eq_true rfl) rfl ?_
    refine jv_aload_n d_S_addHart_18 rfl rfl ?_
    refine jv_iload_n d_S_addHart_19 rfl rfl ?_
    obtain ⟨q10, h⟩ := h
    refine jv_putI d_S_addHart_20 fl_S_40 (fun r hr => by cases hr; rfl) rfl q10 ?_
    refine jv_aload_n d_S_addHart_23 rfl rfl ?_
    refine jv_iload_n d_S_addHart_24 rfl rfl ?_
    obtain ⟨q11, h⟩ := h
    refine jv_putI d_S_addHart_25 fl_S_43 (fun r hr => by cases hr; rfl) rfl q11 ?_
    refine jv_aload_n d_S_addHart_28 rfl rfl ?_
    obtain ⟨q12, h⟩ := h
    refine jv_invV [] [] d_S_addHart_29 ml_S_46 q12 rfl (Nat.le_of_ble_eq_true rfl) (Nat.zero_add _) (Nat.zero_add _) (jv_Ct.mono h (fun v M14 N14 h => ?_))
    obtain ⟨rfl, h⟩ := h
    change jv_J g (d + 1) mt_S_addHart 32 [some (.ref a0), some (.int x1), some (.int x2), some (.ref b8)] [] M14 N14 cr sr Z
    refine jv_aload_n d_S_addHart_32 rfl rfl ?_
    refine jv_dup d_S_addHart_33 rfl ?_
    obtain ⟨q15, h⟩ := h
    refine jv_getI d_S_addHart_34 fl_S_36 rfl q15 ?_
    refine jv_iconst (v := 1) d_S_addHart_37 (by decide) ?_
    refine jv_iadd d_S_addHart_38 ?_
    obtain ⟨q16, h⟩ := h
    refine jv_putI d_S_addHart_39 fl_S_36 (fun r hr => by cases hr; rfl) rfl q16 ?_
    exact jv_ret d_S_addHart_42 rfl h
theorem b_S_addTrigger_0 {g : jv_G} {d : Nat} {M : jv_Mem} {N cr sr : Nat} {Z : Option Value → jv_Mem → Nat → Prop} {a0 : Nat} {x1 : Int32} (h : jv_Tg 6 a0 N ∧ jv_Tg 6 a0 N ∧ ∃ b3, Prod.fst (Prod.snd M) a0 2 = some b3 ∧ jv_Tg 16 b3 N ∧ vp_in (if 5 < (Prod.fst M a0 5) then 5 else (Prod.fst M a0 5)) (jv_sh b3).2 ∧ ∃ b7, Prod.fst (Prod.snd M) b3 (Int32.toNatClampNeg (if 5 < (Prod.fst M a0 5) then 5 else (Prod.fst M a0 5))) = some b7 ∧ jv_Tg 8 b7 N ∧ jv_Tg 6 a0 N ∧ jv_Tg 6 a0 N ∧ ∃ b12, Prod.fst (Prod.snd (jv_si (jv_si M b7 0 x1) a0 5 ((if 5 < (Prod.fst M a0 5) then 5 else (Prod.fst M a0 5)) + 1))) a0 2 = some b12 ∧ jv_Tg 16 b12 N ∧ vp_in (if 5 < (Prod.fst M a0 5) then 5 else (Prod.fst M a0 5)) (jv_sh b12).2 ∧ ∃ b16, Prod.fst (Prod.snd (jv_si (jv_si M b7 0 x1) a0 5 ((if 5 < (Prod.fst M a0 5) then 5 else (Prod.fst M a0 5)) + 1))) b12 (Int32.toNatClampNeg (if 5 < (Prod.fst M a0 5) then 5 else (Prod.fst M a0 5))) = some b16 ∧ Z (some (.ref b16)) (jv_si (jv_si M b7 0 x1) a0 5 ((if 5 < (Prod.fst M a0 5) then 5 else (Prod.fst M a0 5)) + 1)) N) : jv_J g (d + 1) mt_S_addTrigger 0 [some (.ref a0), some (.int x1), none] [] M N cr sr Z := by
  refine jv_aload_n d_S_addTrigger_0 rfl rfl ?_
  obtain ⟨q1, h⟩ := h
  refine jv_getI d_S_addTrigger_1 fl_S_49 rfl q1 ?_
  refine jv_iconst (v := 5) d_S_addTrigger_4 (by decide) ?_
  refine jv_mmin d_S_addTrigger_5 ml_S_52 (Nat.le_of_ble_eq_true rfl) ?_
  refine jv_istore_n (L' := [some (.ref a0), some (.int x1), some (.int (if 5 < (Prod.fst M a0 5) then 5 else (Prod.fst M a0 5)))]) d_S_addTrigger_8 rfl (Nat.le_of_ble_eq_true rfl) rfl ?_
  refine jv_aload_n d_S_addTrigger_9 rfl rfl ?_
  obtain ⟨q2, h⟩ := h
  obtain ⟨b3, e4, h⟩ := h
  refine jv_getR d_S_addTrigger_10 fl_S_26 rfl q2 e4 ?_
  refine jv_iload_n d_S_addTrigger_13 rfl rfl ?_
  obtain ⟨q5, q6, b7, e8, h⟩ := h
  refine jv_aald (t := 16) d_S_addTrigger_14 (by decide) q5 q6 e8 ?_
  refine jv_iload_n d_S_addTrigger_15 rfl rfl ?_
  obtain ⟨q9, h⟩ := h
  refine jv_putI d_S_addTrigger_16 fl_S_58 (fun r hr => by cases hr; rfl) rfl q9 ?_
  refine jv_aload_n d_S_addTrigger_19 rfl rfl ?_
  refine jv_iload_n d_S_addTrigger_20 rfl rfl ?_
  refine jv_iconst (v := 1) d_S_addTrigger_21 (by decide) ?_
  refine jv_iadd d_S_addTrigger_22 ?_
  obtain ⟨q10, h⟩ := h
  refine jv_putI d_S_addTrigger_23 fl_S_49 (fun r hr => by cases hr; rfl) rfl q10 ?_
  refine jv_aload_n d_S_addTrigger_26 rfl rfl ?_
  obtain ⟨q11, h⟩ := h
  obtain ⟨b12, e13, h⟩ := h
  refine jv_getR d_S_addTrigger_27 fl_S_26 rfl q11 e13 ?_
  refine jv_iload_n d_S_addTrigger_30 rfl rfl ?_
  obtain ⟨q14, q15, b16, e17, h⟩ := h
  refine jv_aald (t := 16) d_S_addTrigger_31 (by decide) q14 q15 e17 ?_
  exact jv_aret d_S_addTrigger_32 rfl h
theorem b_S_copyFrom_0 {g : jv_G} {d : Nat} {M : jv_Mem} {N cr sr : Nat} {Z : Option Value → jv_Mem → Nat → Prop} {a0 : Nat} {a1 : Nat} (h : jv_Tg 6 a0 N ∧ ∃ b2, Prod.fst (Prod.snd M) a0 0 = some b2 ∧ jv_Tg 6 a1 N ∧ ∃ b5, Prod.fst (Prod.snd M) a1 0 = some b5 ∧ jv_Tg 0 b2 N ∧ jv_Ct g d mt_D_copyFrom [.ref b2, .ref b5] M N 0 0 (fun v M9 N9 => jv_rv v (jv_J g (d + 1) mt_S_copyFrom 13 [some (.ref a0), some (.ref a1), some (.int 0)] [] M9 N9 cr sr Z))) : jv_J g (d + 1) mt_S_copyFrom 0 [some (.ref a0), some (.ref a1), none] [] M N cr sr Z := by
  refine jv_aload_n d_S_copyFrom_0 rfl rfl ?_
  obtain ⟨q1, h⟩ := h
  obtain ⟨b2, e3, h⟩ := h
  refine jv_getR d_S_copyFrom_1 fl_S_12 rfl q1 e3 ?_
  refine jv_aload_n d_S_copyFrom_4 rfl rfl ?_
  obtain ⟨q4, h⟩ := h
  obtain ⟨b5, e6, h⟩ := h
  refine jv_getR d_S_copyFrom_5 fl_S_12 rfl q4 e6 ?_
  obtain ⟨q7, h⟩ := h
  refine jv_invV [.ref b5] [] d_S_copyFrom_8 ml_S_61 q7 rfl (Nat.le_of_ble_eq_true rfl) (Nat.zero_add _) (Nat.zero_add _) (jv_Ct.mono h (fun v M9 N9 h => ?_))
  obtain ⟨rfl, h⟩ := h
  change jv_J g (d + 1) mt_S_copyFrom 11 [some (.ref a0), some (.ref a1), none] [] M9 N9 cr sr Z
  refine jv_iconst (v := 0) d_S_copyFrom_11 (by decide) ?_
  refine jv_istore_n (L' := [some (.ref a0), some (.ref a1), some (.int 0)]) d_S_copyFrom_12 rfl (Nat.le_of_ble_eq_true rfl) rfl ?_
  exact h
theorem b_S_copyFrom_13 {g : jv_G} {d : Nat} {M : jv_Mem} {N cr sr : Nat} {Z : Option Value → jv_Mem → Nat → Prop} {a0 : Nat} {a1 : Nat} {x2 : Int32} (h : jv_Tg 6 a1 N ∧ ((Prod.fst M a1 4) ≤ x2 → jv_J g (d + 1) mt_S_copyFrom 44 [some (.ref a0), some (.ref a1), some (.int 0)] [] M N cr sr Z) ∧ (¬ ((Prod.fst M a1 4) ≤ x2) → jv_Tg 6 a0 N ∧ ∃ b3, Prod.fst (Prod.snd M) a0 1 = some b3 ∧ jv_Tg 13 b3 N ∧ vp_in x2 (jv_sh b3).2 ∧ ∃ b7, Prod.fst (Prod.snd M) b3 (Int32.toNatClampNeg x2) = some b7 ∧ jv_Tg 6 a1 N ∧ ∃ b10, Prod.fst (Prod.snd M) a1 1 = some b10 ∧ jv_Tg 13 b10 N ∧ vp_in x2 (jv_sh b10).2 ∧ ∃ b14, Prod.fst (Prod.snd M) b10 (Int32.toNatClampNeg x2) = some b14 ∧ jv_Tg 1 b7 N ∧ jv_Ct g d mt_H_copyFrom [.ref b7, .ref b14] M N 0 0 (fun v M18 N18 => jv_rv v (jv_J g (d + 1) mt_S_copyFrom 13 [some (.ref a0), some (.ref a1), some (.int (x2 + 1))] [] M18 N18 cr sr Z)))) : jv_J g (d + 1) mt_S_copyFrom 13 [some (.ref a0), some (.ref a1), some (.int x2)] [] M N cr sr Z := by
  refine jv_iload_n d_S_copyFrom_13 rfl rfl ?_
  refine jv_aload_n d_S_copyFrom_14 rfl rfl ?_
  obtain ⟨q1, h⟩ := h
  refine jv_getI d_S_copyFrom_15 fl_S_36 rfl q1 ?_
  refine jv_icmp_ge (tgt := 42) d_S_copyFrom_18 (by decide) ⟨fun c => ?_, fun c => ?_⟩
  · replace h := h.1 c
    refine jv_iconst (v := 0) d_S_copyFrom_42 (by decide) ?_
    refine jv_istore_n (L' := [some (.ref a0), some (.ref a1), some (.int 0)]) d_S_copyFrom_43 rfl (Nat.le_of_ble_eq_true rfl) rfl ?_
    exact h
  · replace h := h.2 c
    refine jv_aload_n d_S_copyFrom_21 rfl rfl ?_
    obtain ⟨q2, h⟩ := h
    obtain ⟨b3, e4, h⟩ := h
    refine jv_getR d_S_copyFrom_22 fl_S_20 rfl q2 e4 ?_
    refine jv_iload_n d_S_copyFrom_25 rfl rfl ?_
    obtain ⟨q5, q6, b7, e8, h⟩ := h
    refine jv_aald (t := 13) d_S_copyFrom_26 (by decide) q5 q6 e8 ?_
    refine jv_aload_n d_S_copyFrom_27 rfl rfl ?_
    obtain ⟨q9, h⟩ := h
    obtain ⟨b10, e11, h⟩ := h
    refine jv_getR d_S_copyFrom_28 fl_S_20 rfl q9 e11 ?_
    refine jv_iload_n d_S_copyFrom_31 rfl rfl ?_
    obtain ⟨q12, q13, b14, e15, h⟩ := h
    refine jv_aald (t := 13) d_S_copyFrom_32 (by decide) q12 q13 e15 ?_
    obtain ⟨q16, h⟩ := h
    refine jv_invV [.ref b14] [] d_S_copyFrom_33 ml_S_65 q16 rfl (Nat.le_of_ble_eq_true rfl) (Nat.zero_add _) (Nat.zero_add _) (jv_Ct.mono h (fun v M18 N18 h => ?_))
    obtain ⟨rfl, h⟩ := h
    change jv_J g (d + 1) mt_S_copyFrom 36 [some (.ref a0), some (.ref a1), some (.int x2)] [] M18 N18 cr sr Z
    refine jv_iinc (v := (x2 + 1)) (L' := [some (.ref a0), some (.ref a1), some (.int (x2 + 1))]) d_S_copyFrom_36 rfl rfl (Nat.le_of_ble_eq_true rfl) rfl ?_
    refine jv_goto (tgt := 13) d_S_copyFrom_39 (by decide) ?_
    exact h
theorem b_S_copyFrom_44 {g : jv_G} {d : Nat} {M : jv_Mem} {N cr sr : Nat} {Z : Option Value → jv_Mem → Nat → Prop} {a0 : Nat} {a1 : Nat} {x2 : Int32} (h : jv_Tg 6 a1 N ∧ ((Prod.fst M a1 5) ≤ x2 → jv_Tg 6 a1 N ∧ ∃ b3, Prod.fst (Prod.snd M) a1 3 = some b3 ∧ jv_Tg 6 a0 N ∧ ∃ b6, Prod.fst (Prod.snd M) a0 3 = some b6 ∧ jv_Tg 11 b3 N ∧ jv_Tg 11 b6 N ∧ 8 ≤ (jv_sh b3).2 ∧ 8 ≤ (jv_sh b6).2 ∧ jv_Tg 6 a1 N ∧ jv_Tg 6 a0 N ∧ jv_Tg 6 a1 N ∧ jv_Tg 6 a0 N ∧ jv_Tg 6 a1 N ∧ jv_Tg 6 a0 N ∧ Z none (jv_si (jv_si (jv_si (jv_cp M b3 b6 0 0 8) a0 4 (Prod.fst (jv_cp M b3 b6 0 0 8) a1 4)) a0 5 (Prod.fst (jv_si (jv_cp M b3 b6 0 0 8) a0 4 (Prod.fst (jv_cp M b3 b6 0 0 8) a1 4)) a1 5)) a0 6 (Prod.fst (jv_si (jv_si (jv_cp M b3 b6 0 0 8) a0 4 (Prod.fst (jv_cp M b3 b6 0 0 8) a1 4)) a0 5 (Prod.fst (jv_si (jv_cp M b3 b6 0 0 8) a0 4 (Prod.fst (jv_cp M b3 b6 0 0 8) a1 4)) a1 5)) a1 6)) N) ∧ (¬ ((Prod.fst M a1 5) ≤ x2) → jv_Tg 6 a0 N ∧ ∃ b19, Prod.fst (Prod.snd M) a0 2 = some b19 ∧ jv_Tg 16 b19 N ∧ vp_in x2 (jv_sh b19).2 ∧ ∃ b23, Prod.fst (Prod.snd M) b19 (Int32.toNatClampNeg x2) = some b23 ∧ jv_Tg 6 a1 N ∧ ∃ b26, Prod.fst (Prod.snd M) a1 2 = some b26 ∧ jv_Tg 16 b26 N ∧ vp_in x2 (jv_sh b26).2 ∧ ∃ b30, Prod.fst (Prod.snd M) b26 (Int32.toNatClampNeg x2) = some b30 ∧ jv_Tg 8 b23 N ∧ jv_Ct g d mt_U_copyFrom [.ref b23, .ref b30] M N 0 0 (fun v M34 N34 => jv_rv v (jv_J g (d + 1) mt_S_copyFrom 44 [some (.ref a0), some (.ref a1), some (.int (x2 + 1))] [] M34 N34 cr sr Z)))) : jv_J g (d + 1) mt_S_copyFrom 44 [some (.ref a0), some (.ref a1), some (.int x2)] [] M N cr sr Z := by
  refine jv_iload_n d_S_copyFrom_44 rfl rfl ?_
  refine jv_aload_n d_S_copyFrom_45 rfl rfl ?_
  obtain ⟨q1, h⟩ := h
  refine jv_getI d_S_copyFrom_46 fl_S_49 rfl q1 ?_
  refine jv_icmp_ge (tgt := 73) d_S_copyFrom_49 (by decide) ⟨fun c => ?_, fun c => ?_⟩
  · replace h := h.1 c
    refine jv_aload_n d_S_copyFrom_73 rfl rfl ?_
    obtain ⟨q2, h⟩ := h
    obtain ⟨b3, e4, h⟩ := h
    refine jv_getR d_S_copyFrom_74 fl_S_30 rfl q2 e4 ?_
    refine jv_iconst (v := 0) d_S_copyFrom_77 (by decide) ?_
    refine jv_aload_n d_S_copyFrom_78 rfl rfl ?_
    obtain ⟨q5, h⟩ := h
    obtain ⟨b6, e7, h⟩ := h
    refine jv_getR d_S_copyFrom_79 fl_S_30 rfl q5 e7 ?_
    refine jv_iconst (v := 0) d_S_copyFrom_82 (by decide) ?_
    refine jv_bipush (v := 8) d_S_copyFrom_83 (by decide) ?_
    obtain ⟨q8, q9, q10, q11, h⟩ := h
    refine jv_copy0 (k := 8) d_S_copyFrom_85 ac_S_71 ac_w2 ac_w3 ac_w4 q8 q9 (by decide) (by decide) q10 q11 (Nat.le_of_ble_eq_true rfl) ?_
    refine jv_aload_n d_S_copyFrom_88 rfl rfl ?_
    refine jv_aload_n d_S_copyFrom_89 rfl rfl ?_
    obtain ⟨q12, h⟩ := h
    refine jv_getI d_S_copyFrom_90 fl_S_36 rfl q12 ?_
    obtain ⟨q13, h⟩ := h
    refine jv_putI d_S_copyFrom_93 fl_S_36 (fun r hr => by cases hr; rfl) rfl q13 ?_
    refine jv_aload_n d_S_copyFrom_96 rfl rfl ?_
    refine jv_aload_n d_S_copyFrom_97 rfl rfl ?_
    obtain ⟨q14, h⟩ := h
    refine jv_getI d_S_copyFrom_98 fl_S_49 rfl q14 ?_
    obtain ⟨q15, h⟩ := h
    refine jv_putI d_S_copyFrom_101 fl_S_49 (fun r hr => by cases hr; rfl) rfl q15 ?_
    refine jv_aload_n d_S_copyFrom_104 rfl rfl ?_
    refine jv_aload_n d_S_copyFrom_105 rfl rfl ?_
    obtain ⟨q16, h⟩ := h
    refine jv_getI d_S_copyFrom_106 fl_S_77 rfl q16 ?_
    obtain ⟨q17, h⟩ := h
    refine jv_putI d_S_copyFrom_109 fl_S_77 (fun r hr => by cases hr; rfl) rfl q17 ?_
    exact jv_ret d_S_copyFrom_112 rfl h
  · replace h := h.2 c
    refine jv_aload_n d_S_copyFrom_52 rfl rfl ?_
    obtain ⟨q18, h⟩ := h
    obtain ⟨b19, e20, h⟩ := h
    refine jv_getR d_S_copyFrom_53 fl_S_26 rfl q18 e20 ?_
    refine jv_iload_n d_S_copyFrom_56 rfl rfl ?_
    obtain ⟨q21, q22, b23, e24, h⟩ := h
    refine jv_aald (t := 16) d_S_copyFrom_57 (by decide) q21 q22 e24 ?_
    refine jv_aload_n d_S_copyFrom_58 rfl rfl ?_
    obtain ⟨q25, h⟩ := h
    obtain ⟨b26, e27, h⟩ := h
    refine jv_getR d_S_copyFrom_59 fl_S_26 rfl q25 e27 ?_
    refine jv_iload_n d_S_copyFrom_62 rfl rfl ?_
    obtain ⟨q28, q29, b30, e31, h⟩ := h
    refine jv_aald (t := 16) d_S_copyFrom_63 (by decide) q28 q29 e31 ?_
    obtain ⟨q32, h⟩ := h
    refine jv_invV [.ref b30] [] d_S_copyFrom_64 ml_S_68 q32 rfl (Nat.le_of_ble_eq_true rfl) (Nat.zero_add _) (Nat.zero_add _) (jv_Ct.mono h (fun v M34 N34 h => ?_))
    obtain ⟨rfl, h⟩ := h
    change jv_J g (d + 1) mt_S_copyFrom 67 [some (.ref a0), some (.ref a1), some (.int x2)] [] M34 N34 cr sr Z
    refine jv_iinc (v := (x2 + 1)) (L' := [some (.ref a0), some (.ref a1), some (.int (x2 + 1))]) d_S_copyFrom_67 rfl rfl (Nat.le_of_ble_eq_true rfl) rfl ?_
    refine jv_goto (tgt := 44) d_S_copyFrom_70 (by decide) ?_
    exact h
theorem b_S_pass_0 {g : jv_G} {d : Nat} {M : jv_Mem} {N cr sr : Nat} {Z : Option Value → jv_Mem → Nat → Prop} {a0 : Nat} {a1 : Nat} {x2 : Int32} (h : jv_J g (d + 1) mt_S_pass 2 [some (.ref a0), some (.ref a1), some (.int x2), some (.int 0), none, none] [] M N cr sr Z) : jv_J g (d + 1) mt_S_pass 0 [some (.ref a0), some (.ref a1), some (.int x2), none, none, none] [] M N cr sr Z := by
  refine jv_iconst (v := 0) d_S_pass_0 (by decide) ?_
  refine jv_istore_n (L' := [some (.ref a0), some (.ref a1), some (.int x2), some (.int 0), none, none]) d_S_pass_1 rfl (Nat.le_of_ble_eq_true rfl) rfl ?_
  exact h
theorem b_S_pass_2 {g : jv_G} {d : Nat} {M : jv_Mem} {N cr sr : Nat} {Z : Option Value → jv_Mem → Nat → Prop} {a0 : Nat} {a1 : Nat} {x2 : Int32} {x3 : Int32} (h : (x2 ≤ x3 → Z none M N) ∧ (¬ (x2 ≤ x3) → jv_Tg 6 a0 N ∧ jv_Ct g d mt_S_haltedSet [.ref a0] M N 0 0 (fun v M3 N3 => jv_ri v (fun r2 => jv_Tg 6 a0 N3 ∧ jv_Tg 6 a0 N3 ∧ jv_Ct g d mt_S_moveOrders [.ref a0] (jv_si M3 a0 7 0) N3 0 0 (fun v M7 N7 => jv_rv v (jv_J g (d + 1) mt_S_pass 25 [some (.ref a0), some (.ref a1), some (.int x2), some (.int x3), some (.int r2), some (.int 0)] [] M7 N7 cr sr Z)))))) : jv_J g (d + 1) mt_S_pass 2 [some (.ref a0), some (.ref a1), some (.int x2), some (.int x3), none, none] [] M N cr sr Z := by
  refine jv_iload_n d_S_pass_2 rfl rfl ?_
  refine jv_iload_n d_S_pass_3 rfl rfl ?_
  refine jv_icmp_ge (tgt := 77) d_S_pass_4 (by decide) ⟨fun c => ?_, fun c => ?_⟩
  · replace h := h.1 c
    exact jv_ret d_S_pass_77 rfl h
  · replace h := h.2 c
    refine jv_aload_n d_S_pass_7 rfl rfl ?_
    obtain ⟨q1, h⟩ := h
    refine jv_invV [] [] d_S_pass_8 ml_S_83 q1 rfl (Nat.le_of_ble_eq_true rfl) (Nat.zero_add _) (Nat.zero_add _) (jv_Ct.mono h (fun v M3 N3 h => ?_))
    obtain ⟨r2, rfl, h⟩ := h
    change jv_J g (d + 1) mt_S_pass 11 [some (.ref a0), some (.ref a1), some (.int x2), some (.int x3), none, none] [.int r2] M3 N3 cr sr Z
    refine jv_istore (L' := [some (.ref a0), some (.ref a1), some (.int x2), some (.int x3), some (.int r2), none]) d_S_pass_11 (Nat.le_of_ble_eq_true rfl) rfl ?_
    refine jv_aload_n d_S_pass_13 rfl rfl ?_
    refine jv_iconst (v := 0) d_S_pass_14 (by decide) ?_
    obtain ⟨q4, h⟩ := h
    refine jv_putZ d_S_pass_15 fl_S_93 (fun r hr => by cases hr; rfl) rfl q4 (by decide) ?_
    refine jv_aload_n d_S_pass_18 rfl rfl ?_
    obtain ⟨q5, h⟩ := h
    refine jv_invV [] [] d_S_pass_19 ml_S_97 q5 rfl (Nat.le_of_ble_eq_true rfl) (Nat.zero_add _) (Nat.zero_add _) (jv_Ct.mono h (fun v M7 N7 h => ?_))
    obtain ⟨rfl, h⟩ := h
    change jv_J g (d + 1) mt_S_pass 22 [some (.ref a0), some (.ref a1), some (.int x2), some (.int x3), some (.int r2), none] [] M7 N7 cr sr Z
    refine jv_iconst (v := 0) d_S_pass_22 (by decide) ?_
    refine jv_istore (L' := [some (.ref a0), some (.ref a1), some (.int x2), some (.int x3), some (.int r2), some (.int 0)]) d_S_pass_23 (Nat.le_of_ble_eq_true rfl) rfl ?_
    exact h
theorem b_S_pass_25 {g : jv_G} {d : Nat} {M : jv_Mem} {N cr sr : Nat} {Z : Option Value → jv_Mem → Nat → Prop} {a0 : Nat} {a1 : Nat} {x2 : Int32} {x3 : Int32} {x4 : Int32} {x5 : Int32} (h : jv_Tg 6 a0 N ∧ ((Prod.fst M a0 4) ≤ x5 → jv_Tg 6 a0 N ∧ jv_Ct g d mt_S_haltedSet [.ref a0] M N 0 0 (fun v M4 N4 => jv_ri v (fun r3 => jv_Tg 6 a0 N4 ∧ jv_Ct g d mt_S_spreadHalts [.ref a0, .int (r3 &&& (x4 ^^^ (-1)))] M4 N4 0 0 (fun v M7 N7 => jv_rv v (jv_Tg 6 a0 N7 ∧ ((Prod.fst M7 a0 7) = 0 → jv_J g (d + 1) mt_S_pass 2 [some (.ref a0), some (.ref a1), some (.int x2), some (.int (x3 + 1)), none, none] [] M7 N7 cr sr Z) ∧ (¬ ((Prod.fst M7 a0 7) = 0) → jv_Tg 6 a0 N7 ∧ jv_Ct g d mt_S_wakeAll [.ref a0] M7 N7 0 0 (fun v M11 N11 => jv_rv v (jv_J g (d + 1) mt_S_pass 2 [some (.ref a0), some (.ref a1), some (.int x2), some (.int (x3 + 1)), none, none] [] M11 N11 cr sr Z)))))))) ∧ (¬ ((Prod.fst M a0 4) ≤ x5) → jv_Tg 6 a0 N ∧ jv_Ct g d mt_S_step [.ref a0, .int x5, .ref a1] M N 0 0 (fun v M14 N14 => jv_rv v (jv_J g (d + 1) mt_S_pass 25 [some (.ref a0), some (.ref a1), some (.int x2), some (.int x3), some (.int x4), some (.int (x5 + 1))] [] M14 N14 cr sr Z)))) : jv_J g (d + 1) mt_S_pass 25 [some (.ref a0), some (.ref a1), some (.int x2), some (.int x3), some (.int x4), some (.int x5)] [] M N cr sr Z := by
  refine jv_iload d_S_pass_25 rfl ?_
  refine jv_aload_n d_S_pass_27 rfl rfl ?_
  obtain ⟨q1, h⟩ := h
  refine jv_getI d_S_pass_28 fl_S_36 rfl q1 ?_
  refine jv_icmp_ge (tgt := 47) d_S_pass_31 (by decide) ⟨fun c => ?_, fun c => ?_⟩
  · replace h := h.1 c
    refine jv_aload_n d_S_pass_47 rfl rfl ?_
    refine jv_aload_n d_S_pass_48 rfl rfl ?_
    obtain ⟨q2, h⟩ := h
    refine jv_invV [] [.ref a0] d_S_pass_49 ml_S_83 q2 rfl (Nat.le_of_ble_eq_true rfl) (Nat.zero_add _) (Nat.zero_add _) (jv_Ct.mono h (fun v M4 N4 h => ?_))
    obtain ⟨r3, rfl, h⟩ := h
    change jv_J g (d + 1) mt_S_pass 52 [some (.ref a0), some (.ref a1), some (.int x2), some (.int x3), some (.int x4), some (.int x5)] [.int r3, .ref a0] M4 N4 cr sr Z
    refine jv_iload d_S_pass_52 rfl ?_
    refine jv_iconst (v := (-1)) d_S_pass_54 (by decide) ?_
    refine jv_ixor d_S_pass_55 ?_
    refine jv_iand d_S_pass_56 ?_
    obtain ⟨q5, h⟩ := h
    refine jv_invV [.int (r3 &&& (x4 ^^^ (-1)))] [] d_S_pass_57 ml_S_104 q5 rfl (Nat.le_of_ble_eq_true rfl) (Nat.zero_add _) (Nat.zero_add _) (jv_Ct.mono h (fun v M7 N7 h => ?_))
    obtain ⟨rfl, h⟩ := h
    change jv_J g (d + 1) mt_S_pass 60 [some (.ref a0), some (.ref a1), some (.int x2), some (.int x3), some (.int x4), some (.int x5)] [] M7 N7 cr sr Z
    refine jv_aload_n d_S_pass_60 rfl rfl ?_
    obtain ⟨q8, h⟩ := h
    refine jv_getI d_S_pass_61 fl_S_93 rfl q8 ?_
    refine jv_if_eq (tgt := 71) d_S_pass_64 (by decide) ⟨fun c => ?_, fun c => ?_⟩
    · replace h := h.1 c
      refine jv_iinc (v := (x3 + 1)) (L' := [some (.ref a0), some (.ref a1), some (.int x2), some (.int (x3 + 1)), some (.int x4), some (.int x5)]) d_S_pass_71 rfl rfl (Nat.le_of_ble_eq_true rfl) rfl ?_
      refine jv_goto (tgt := 2) d_S_pass_74 (by decide) ?_
      refine jv_weak (L' := [some (.ref a0), some (.ref a1), some (.int x2), some (.int (x3 + 1)), none, none]) (by simp [jv_le]) ?_
      exact h
    · replace h := h.2 c
      refine jv_aload_n d_S_pass_67 rfl rfl ?_
      obtain ⟨q9, h⟩ := h
      refine jv_invV [] [] d_S_pass_68 ml_S_108 q9 rfl (Nat.le_of_ble_eq_true rfl) (Nat.zero_add _) (Nat.zero_add _) (jv_Ct.mono h (fun v M11 N11 h => ?_))
      obtain ⟨rfl, h⟩ := h
      change jv_J g (d + 1) mt_S_pass 71 [some (.ref a0), some (.ref a1), some (.int x2), some (.int x3), some (.int x4), some (.int x5)] [] M11 N11 cr sr Z
      refine jv_iinc (v := (x3 + 1)) (L' := [some (.ref a0), some (.ref a1), some (.int x2), some (.int (x3 + 1)), some (.int x4), some (.int x5)]) d_S_pass_71 rfl rfl (Nat.le_of_ble_eq_true rfl) rfl ?_
      refine jv_goto (tgt := 2) d_S_pass_74 (by decide) ?_
      refine jv_weak (L' := [some (.ref a0), some (.ref a1), some (.int x2), some (.int (x3 + 1)), none, none]) (by simp [jv_le]) ?_
      exact h
  · replace h := h.2 c
    refine jv_aload_n d_S_pass_34 rfl rfl ?_
    refine jv_iload d_S_pass_35 rfl ?_
    refine jv_aload_n d_S_pass_37 rfl rfl ?_
    obtain ⟨q12, h⟩ := h
    refine jv_invV [.int x5, .ref a1] [] d_S_pass_38 ml_S_100 q12 rfl (Nat.le_of_ble_eq_true rfl) (Nat.zero_add _) (Nat.zero_add _) (jv_Ct.mono h (fun v M14 N14 h => ?_))
    obtain ⟨rfl, h⟩ := h
    change jv_J g (d + 1) mt_S_pass 41 [some (.ref a0), some (.ref a1), some (.int x2), some (.int x3), some (.int x4), some (.int x5)] [] M14 N14 cr sr Z
    refine jv_iinc (v := (x5 + 1)) (L' := [some (.ref a0), some (.ref a1), some (.int x2), some (.int x3), some (.int x4), some (.int (x5 + 1))]) d_S_pass_41 rfl rfl (Nat.le_of_ble_eq_true rfl) rfl ?_
    refine jv_goto (tgt := 25) d_S_pass_44 (by decide) ?_
    exact h
theorem b_S_haltedSet_0 {g : jv_G} {d : Nat} {M : jv_Mem} {N cr sr : Nat} {Z : Option Value → jv_Mem → Nat → Prop} {a0 : Nat} (h : jv_J g d mt_S_haltedSet 4 [some (.ref a0), some (.int 0), some (.int 0)] [] M N cr sr Z) : jv_J g d mt_S_haltedSet 0 [some (.ref a0), none, none] [] M N cr sr Z := by
  refine jv_iconst (v := 0) d_S_haltedSet_0 (by decide) ?_
  refine jv_istore_n (L' := [some (.ref a0), some (.int 0), none]) d_S_haltedSet_1 rfl (Nat.le_of_ble_eq_true rfl) rfl ?_
  refine jv_iconst (v := 0) d_S_haltedSet_2 (by decide) ?_
  refine jv_istore_n (L' := [some (.ref a0), some (.int 0), some (.int 0)]) d_S_haltedSet_3 rfl (Nat.le_of_ble_eq_true rfl) rfl ?_
  exact h
theorem b_S_haltedSet_4 {g : jv_G} {d : Nat} {M : jv_Mem} {N cr sr : Nat} {Z : Option Value → jv_Mem → Nat → Prop} {a0 : Nat} {x1 : Int32} {x2 : Int32} (h : jv_Tg 6 a0 N ∧ ((Prod.fst M a0 4) ≤ x2 → Z (some (.int x1)) M N) ∧ (¬ ((Prod.fst M a0 4) ≤ x2) → jv_Tg 6 a0 N ∧ ∃ b3, Prod.fst (Prod.snd M) a0 1 = some b3 ∧ jv_Tg 13 b3 N ∧ vp_in x2 (jv_sh b3).2 ∧ ∃ b7, Prod.fst (Prod.snd M) b3 (Int32.toNatClampNeg x2) = some b7 ∧ jv_Tg 1 b7 N ∧ ((Prod.fst M b7 4) ≠ 2 → jv_J g d mt_S_haltedSet 4 [some (.ref a0), some (.int x1), some (.int (x2 + 1))] [] M N cr sr Z) ∧ ((Prod.fst M b7 4) = 2 → jv_J g d mt_S_haltedSet 4 [some (.ref a0), some (.int (x1 ||| (1 <<< (x2 &&& 31)))), some (.int (x2 + 1))] [] M N cr sr Z))) : jv_J g d mt_S_haltedSet 4 [some (.ref a0), some (.int x1), some (.int x2)] [] M N cr sr Z := by
  refine jv_iload_n d_S_haltedSet_4 rfl rfl ?_
  refine jv_aload_n d_S_haltedSet_5 rfl rfl ?_
  obtain ⟨q1, h⟩ := h
  refine jv_getI d_S_haltedSet_6 fl_S_36 rfl q1 ?_
  refine jv_icmp_ge (tgt := 37) d_S_haltedSet_9 (by decide) ⟨fun c => ?_, fun c => ?_⟩
  · replace h := h.1 c
    refine jv_iload_n d_S_haltedSet_37 rfl rfl ?_
    exact jv_iret d_S_haltedSet_38 rfl rfl h
  · replace h := h.2 c
    refine jv_aload_n d_S_haltedSet_12 rfl rfl ?_
    obtain ⟨q2, h⟩ := h
    obtain ⟨b3, e4, h⟩ := h
    refine jv_getR d_S_haltedSet_13 fl_S_20 rfl q2 e4 ?_
    refine jv_iload_n d_S_haltedSet_16 rfl rfl ?_
    obtain ⟨q5, q6, b7, e8, h⟩ := h
    refine jv_aald (t := 13) d_S_haltedSet_17 (by decide) q5 q6 e8 ?_
    obtain ⟨q9, h⟩ := h
    refine jv_getI d_S_haltedSet_18 fl_S_80 rfl q9 ?_
    refine jv_iconst (v := 2) d_S_haltedSet_21 (by decide) ?_
    refine jv_icmp_ne (tgt := 31) d_S_haltedSet_22 (by decide) ⟨fun c => ?_, fun c => ?_⟩
    · replace h := h.1 c
      refine jv_iinc (v := (x2 + 1)) (L' := [some (.ref a0), some (.int x1), some (.int (x2 + 1))]) d_S_haltedSet_31 rfl rfl (Nat.le_of_ble_eq_true rfl) rfl ?_
      refine jv_goto (tgt := 4) d_S_haltedSet_34 (by decide) ?_
      exact h
    · replace h := h.2 c
      refine jv_iload_n d_S_haltedSet_25 rfl rfl ?_
      refine jv_iconst (v := 1) d_S_haltedSet_26 (by decide) ?_
      refine jv_iload_n d_S_haltedSet_27 rfl rfl ?_
      refine jv_ishl d_S_haltedSet_28 ?_
      refine jv_ior d_S_haltedSet_29 ?_
      refine jv_istore_n (L' := [some (.ref a0), some (.int (x1 ||| (1 <<< (x2 &&& 31)))), some (.int x2)]) d_S_haltedSet_30 rfl (Nat.le_of_ble_eq_true rfl) rfl ?_
      refine jv_iinc (v := (x2 + 1)) (L' := [some (.ref a0), some (.int (x1 ||| (1 <<< (x2 &&& 31)))), some (.int (x2 + 1))]) d_S_haltedSet_31 rfl rfl (Nat.le_of_ble_eq_true rfl) rfl ?_
      refine jv_goto (tgt := 4) d_S_haltedSet_34 (by decide) ?_
      exact h
theorem b_S_moveOrders_0 {g : jv_G} {d : Nat} {M : jv_Mem} {N cr sr : Nat} {Z : Option Value → jv_Mem → Nat → Prop} {a0 : Nat} (h : jv_J g (d + 1) mt_S_moveOrders 4 [some (.ref a0), some (.int 0), some (.int 0), none] [] M N cr sr Z) : jv_J g (d + 1) mt_S_moveOrders 0 [some (.ref a0), none, none, none] [] M N cr sr Z := by
  refine jv_iconst (v := 0) d_S_moveOrders_0 (by decide) ?_
  refine jv_istore_n (L' := [some (.ref a0), some (.int 0), none, none]) d_S_moveOrders_1 rfl (Nat.le_of_ble_eq_true rfl) rfl ?_
  refine jv_iconst (v := 0) d_S_moveOrders_2 (by decide) ?_
  refine jv_istore_n (L' := [some (.ref a0), some (.int 0), some (.int 0), none]) d_S_moveOrders_3 rfl (Nat.le_of_ble_eq_true rfl) rfl ?_
  exact h
theorem b_S_moveOrders_4 {g : jv_G} {d : Nat} {M : jv_Mem} {N cr sr : Nat} {Z : Option Value → jv_Mem → Nat → Prop} {a0 : Nat} {x1 : Int32} {x2 : Int32} (h : jv_Tg 6 a0 N ∧ ∃ b2, Prod.fst (Prod.snd M) a0 0 = some b2 ∧ jv_Tg 0 b2 N ∧ ((Prod.fst M b2 2) ≤ x2 → jv_Tg 6 a0 N ∧ ∃ b6, Prod.fst (Prod.snd M) a0 0 = some b6 ∧ jv_Tg 0 b6 N ∧ Z none (jv_si M b6 2 x1) N) ∧ (¬ ((Prod.fst M b2 2) ≤ x2) → jv_Tg 6 a0 N ∧ ∃ b10, Prod.fst (Prod.snd M) a0 0 = some b10 ∧ jv_Tg 0 b10 N ∧ ∃ b13, Prod.fst (Prod.snd M) b10 0 = some b13 ∧ jv_Tg 14 b13 N ∧ vp_in x2 (jv_sh b13).2 ∧ ∃ b17, Prod.fst (Prod.snd M) b13 (Int32.toNatClampNeg x2) = some b17 ∧ jv_Tg 2 b17 N ∧ jv_Tg 2 b17 N ∧ jv_Tg 2 b17 N ∧ jv_Tg 2 b17 N ∧ ((Prod.fst (jv_si M b17 4 ((Prod.fst M b17 4) + 1)) b17 4) ≠ ((Prod.fst (jv_si M b17 4 ((Prod.fst M b17 4) + 1)) b17 1) + 1) → jv_Tg 2 b17 N ∧ jv_Tg 6 a0 N ∧ ((Prod.fst (jv_si M b17 4 ((Prod.fst M b17 4) + 1)) b17 4) ≠ ((Prod.fst (jv_si M b17 4 ((Prod.fst M b17 4) + 1)) a0 4) + 1) → jv_Tg 6 a0 N ∧ ∃ b26, Prod.fst (Prod.snd (jv_si M b17 4 ((Prod.fst M b17 4) + 1))) a0 0 = some b26 ∧ jv_Tg 0 b26 N ∧ jv_Ct g d mt_D_moveForward [.ref b26, .int x2, .int x1] (jv_si M b17 4 ((Prod.fst M b17 4) + 1)) N 0 0 (fun v M30 N30 => jv_rv v (jv_J g (d + 1) mt_S_moveOrders 4 [some (.ref a0), some (.int (x1 + 1)), some (.int (x2 + 1)), none] [] M30 N30 cr sr Z))) ∧ ((Prod.fst (jv_si M b17 4 ((Prod.fst M b17 4) + 1)) b17 4) = ((Prod.fst (jv_si M b17 4 ((Prod.fst M b17 4) + 1)) a0 4) + 1) → jv_Tg 6 a0 N ∧ ∃ b32, Prod.fst (Prod.snd (jv_si M b17 4 ((Prod.fst M b17 4) + 1))) a0 0 = some b32 ∧ jv_Tg 0 b32 N ∧ jv_Ct g d mt_D_finish [.ref b32, .ref b17] (jv_si M b17 4 ((Prod.fst M b17 4) + 1)) N 0 0 (fun v M36 N36 => jv_rv v (jv_J g (d + 1) mt_S_moveOrders 4 [some (.ref a0), some (.int x1), some (.int (x2 + 1)), none] [] M36 N36 cr sr Z)))) ∧ ((Prod.fst (jv_si M b17 4 ((Prod.fst M b17 4) + 1)) b17 4) = ((Prod.fst (jv_si M b17 4 ((Prod.fst M b17 4) + 1)) b17 1) + 1) → jv_Tg 6 a0 N ∧ jv_Ct g d mt_S_reach [.ref a0, .ref b17] (jv_si M b17 4 ((Prod.fst M b17 4) + 1)) N 0 0 (fun v M39 N39 => jv_rv v (jv_Tg 2 b17 N39 ∧ jv_Tg 6 a0 N39 ∧ ((Prod.fst M39 b17 4) ≠ ((Prod.fst M39 a0 4) + 1) → jv_Tg 6 a0 N39 ∧ ∃ b43, Prod.fst (Prod.snd M39) a0 0 = some b43 ∧ jv_Tg 0 b43 N39 ∧ jv_Ct g d mt_D_moveForward [.ref b43, .int x2, .int x1] M39 N39 0 0 (fun v M47 N47 => jv_rv v (jv_J g (d + 1) mt_S_moveOrders 4 [some (.ref a0), some (.int (x1 + 1)), some (.int (x2 + 1)), none] [] M47 N47 cr sr Z))) ∧ ((Prod.fst M39 b17 4) = ((Prod.fst M39 a0 4) + 1) → jv_Tg 6 a0 N39 ∧ ∃ b49, Prod.fst (Prod.snd M39) a0 0 = some b49 ∧ jv_Tg 0 b49 N39 ∧ jv_Ct g d mt_D_finish [.ref b49, .ref b17] M39 N39 0 0 (fun v M53 N53 => jv_rv v (jv_J g (d + 1) mt_S_moveOrders 4 [some (.ref a0), some (.int x1), some (.int (x2 + 1)), none] [] M53 N53 cr sr Z)))))))) : jv_J g (d + 1) mt_S_moveOrders 4 [some (.ref a0), some (.int x1), some (.int x2), none] [] M N cr sr Z := by
  refine jv_iload_n d_S_moveOrders_4 rfl rfl ?_
  refine jv_aload_n d_S_moveOrders_5 rfl rfl ?_
  obtain ⟨q1, h⟩ := h
  obtain ⟨b2, e3, h⟩ := h
  refine jv_getR d_S_moveOrders_6 fl_S_12 rfl q1 e3 ?_
  obtain ⟨q4, h⟩ := h
  refine jv_getI d_S_moveOrders_9 fl_S_111 rfl q4 ?_
  refine jv_icmp_ge (tgt := 95) d_S_moveOrders_12 (by decide) ⟨fun c => ?_, fun c => ?_⟩
  · replace h := h.1 c
    refine jv_aload_n d_S_moveOrders_95 rfl rfl ?_
    obtain ⟨q5, h⟩ := h
    obtain ⟨b6, e7, h⟩ := h
    refine jv_getR d_S_moveOrders_96 fl_S_12 rfl q5 e7 ?_
    refine jv_iload_n d_S_moveOrders_99 rfl rfl ?_
    obtain ⟨q8, h⟩ := h
    refine jv_putI d_S_moveOrders_100 fl_S_111 (fun r hr => by cases hr; rfl) rfl q8 ?_
    exact jv_ret d_S_moveOrders_103 rfl h
  · replace h := h.2 c
    refine jv_aload_n d_S_moveOrders_15 rfl rfl ?_
    obtain ⟨q9, h⟩ := h
    obtain ⟨b10, e11, h⟩ := h
    refine jv_getR d_S_moveOrders_16 fl_S_12 rfl q9 e11 ?_
    obtain ⟨q12, h⟩ := h
    obtain ⟨b13, e14, h⟩ := h
    refine jv_getR d_S_moveOrders_19 fl_S_114 rfl q12 e14 ?_
    refine jv_iload_n d_S_moveOrders_22 rfl rfl ?_
    obtain ⟨q15, q16, b17, e18, h⟩ := h
    refine jv_aald (t := 14) d_S_moveOrders_23 (by decide) q15 q16 e18 ?_
    refine jv_astore_n (L' := [some (.ref a0), some (.int x1), some (.int x2), some (.ref b17)]) d_S_moveOrders_24 rfl (Nat.le_of_ble_eq_true rfl) rfl ?_
    refine jv_aload_n d_S_moveOrders_25 rfl rfl ?_
    refine jv_dup d_S_moveOrders_26 rfl ?_
    obtain ⟨q19, h⟩ := h
    refine jv_getI d_S_moveOrders_27 fl_S_118 rfl q19 ?_
    refine jv_iconst (v := 1) d_S_moveOrders_30 (by decide) ?_
    refine jv_iadd d_S_moveOrders_31 ?_
    obtain ⟨q20, h⟩ := h
    refine jv_putI d_S_moveOrders_32 fl_S_118 (fun r hr => by cases hr; rfl) rfl q20 ?_
    refine jv_aload_n d_S_moveOrders_35 rfl rfl ?_
    obtain ⟨q21, h⟩ := h
    refine jv_getI d_S_moveOrders_36 fl_S_118 rfl q21 ?_
    refine jv_aload_n d_S_moveOrders_39 rfl rfl ?_
    obtain ⟨q22, h⟩ := h
    refine jv_getI d_S_moveOrders_40 fl_S_123 rfl q22 ?_
    refine jv_iconst (v := 1) d_S_moveOrders_43 (by decide) ?_
    refine jv_iadd d_S_moveOrders_44 ?_
    refine jv_icmp_ne (tgt := 53) d_S_moveOrders_45 (by decide) ⟨fun c => ?_, fun c => ?_⟩
    · replace h := h.1 c
      refine jv_aload_n d_S_moveOrders_53 rfl rfl ?_
      obtain ⟨q23, h⟩ := h
      refine jv_getI d_S_moveOrders_54 fl_S_118 rfl q23 ?_
      refine jv_aload_n d_S_moveOrders_57 rfl rfl ?_
      obtain ⟨q24, h⟩ := h
      refine jv_getI d_S_moveOrders_58 fl_S_36 rfl q24 ?_
      refine jv_iconst (v := 1) d_S_moveOrders_61 (by decide) ?_
      refine jv_iadd d_S_moveOrders_62 ?_
      refine jv_icmp_ne (tgt := 77) d_S_moveOrders_63 (by decide) ⟨fun c => ?_, fun c => ?_⟩
      · replace h := h.1 c
        refine jv_aload_n d_S_moveOrders_77 rfl rfl ?_
        obtain ⟨q25, h⟩ := h
        obtain ⟨b26, e27, h⟩ := h
        refine jv_getR d_S_moveOrders_78 fl_S_12 rfl q25 e27 ?_
        refine jv_iload_n d_S_moveOrders_81 rfl rfl ?_
        refine jv_iload_n d_S_moveOrders_82 rfl rfl ?_
        obtain ⟨q28, h⟩ := h
        refine jv_invV [.int x2, .int x1] [] d_S_moveOrders_83 ml_S_133 q28 rfl (Nat.le_of_ble_eq_true rfl) (Nat.zero_add _) (Nat.zero_add _) (jv_Ct.mono h (fun v M30 N30 h => ?_))
        obtain ⟨rfl, h⟩ := h
        change jv_J g (d + 1) mt_S_moveOrders 86 [some (.ref a0), some (.int x1), some (.int x2), some (.ref b17)] [] M30 N30 cr sr Z
        refine jv_iinc (v := (x1 + 1)) (L' := [some (.ref a0), some (.int (x1 + 1)), some (.int x2), some (.ref b17)]) d_S_moveOrders_86 rfl rfl (Nat.le_of_ble_eq_true rfl) rfl ?_
        refine jv_iinc (v := (x2 + 1)) (L' := [some (.ref a0), some (.int (x1 + 1)), some (.int (x2 + 1)), some (.ref b17)]) d_S_moveOrders_89 rfl rfl (Nat.le_of_ble_eq_true rfl) rfl ?_
        refine jv_goto (tgt := 4) d_S_moveOrders_92 (by decide) ?_
        refine jv_weak (L' := [some (.ref a0), some (.int (x1 + 1)), some (.int (x2 + 1)), none]) (by simp [jv_le]) ?_
        exact h
      · replace h := h.2 c
        refine jv_aload_n d_S_moveOrders_66 rfl rfl ?_
        obtain ⟨q31, h⟩ := h
        obtain ⟨b32, e33, h⟩ := h
        refine jv_getR d_S_moveOrders_67 fl_S_12 rfl q31 e33 ?_
        refine jv_aload_n d_S_moveOrders_70 rfl rfl ?_
        obtain ⟨q34, h⟩ := h
        refine jv_invV [.ref b17] [] d_S_moveOrders_71 ml_S_130 q34 rfl (Nat.le_of_ble_eq_true rfl) (Nat.zero_add _) (Nat.zero_add _) (jv_Ct.mono h (fun v M36 N36 h => ?_))
        obtain ⟨rfl, h⟩ := h
        change jv_J g (d + 1) mt_S_moveOrders 74 [some (.ref a0), some (.int x1), some (.int x2), some (.ref b17)] [] M36 N36 cr sr Z
        refine jv_goto (tgt := 89) d_S_moveOrders_74 (by decide) ?_
        refine jv_iinc (v := (x2 + 1)) (L' := [some (.ref a0), some (.int x1), some (.int (x2 + 1)), some (.ref b17)]) d_S_moveOrders_89 rfl rfl (Nat.le_of_ble_eq_true rfl) rfl ?_
        refine jv_goto (tgt := 4) d_S_moveOrders_92 (by decide) ?_
        refine jv_weak (L' := [some (.ref a0), some (.int x1), some (.int (x2 + 1)), none]) (by simp [jv_le]) ?_
        exact h
    · replace h := h.2 c
      refine jv_aload_n d_S_moveOrders_48 rfl rfl ?_
      refine jv_aload_n d_S_moveOrders_49 rfl rfl ?_
      obtain ⟨q37, h⟩ := h
      refine jv_invV [.ref b17] [] d_S_moveOrders_50 ml_S_126 q37 rfl (Nat.le_of_ble_eq_true rfl) (Nat.zero_add _) (Nat.zero_add _) (jv_Ct.mono h (fun v M39 N39 h => ?_))
      obtain ⟨rfl, h⟩ := h
      change jv_J g (d + 1) mt_S_moveOrders 53 [some (.ref a0), some (.int x1), some (.int x2), some (.ref b17)] [] M39 N39 cr sr Z
      refine jv_aload_n d_S_moveOrders_53 rfl rfl ?_
      obtain ⟨q40, h⟩ := h
      refine jv_getI d_S_moveOrders_54 fl_S_118 rfl q40 ?_
      refine jv_aload_n d_S_moveOrders_57 rfl rfl ?_
      obtain ⟨q41, h⟩ := h
      refine jv_getI d_S_moveOrders_58 fl_S_36 rfl q41 ?_
      refine jv_iconst (v := 1) d_S_moveOrders_61 (by decide) ?_
      refine jv_iadd d_S_moveOrders_62 ?_
      refine jv_icmp_ne (tgt := 77) d_S_moveOrders_63 (by decide) ⟨fun c => ?_, fun c => ?_⟩
      · replace h := h.1 c
        refine jv_aload_n d_S_moveOrders_77 rfl rfl ?_
        obtain ⟨q42, h⟩ := h
        obtain ⟨b43, e44, h⟩ := h
        refine jv_getR d_S_moveOrders_78 fl_S_12 rfl q42 e44 ?_
        refine jv_iload_n d_S_moveOrders_81 rfl rfl ?_
        refine jv_iload_n d_S_moveOrders_82 rfl rfl ?_
        obtain ⟨q45, h⟩ := h
        refine jv_invV [.int x2, .int x1] [] d_S_moveOrders_83 ml_S_133 q45 rfl (Nat.le_of_ble_eq_true rfl) (Nat.zero_add _) (Nat.zero_add _) (jv_Ct.mono h (fun v M47 N47 h => ?_))
        obtain ⟨rfl, h⟩ := h
        change jv_J g (d + 1) mt_S_moveOrders 86 [some (.ref a0), some (.int x1), some (.int x2), some (.ref b17)] [] M47 N47 cr sr Z
        refine jv_iinc (v := (x1 + 1)) (L' := [some (.ref a0), some (.int (x1 + 1)), some (.int x2), some (.ref b17)]) d_S_moveOrders_86 rfl rfl (Nat.le_of_ble_eq_true rfl) rfl ?_
        refine jv_iinc (v := (x2 + 1)) (L' := [some (.ref a0), some (.int (x1 + 1)), some (.int (x2 + 1)), some (.ref b17)]) d_S_moveOrders_89 rfl rfl (Nat.le_of_ble_eq_true rfl) rfl ?_
        refine jv_goto (tgt := 4) d_S_moveOrders_92 (by decide) ?_
        refine jv_weak (L' := [some (.ref a0), some (.int (x1 + 1)), some (.int (x2 + 1)), none]) (by simp [jv_le]) ?_
        exact h
      · replace h := h.2 c
        refine jv_aload_n d_S_moveOrders_66 rfl rfl ?_
        obtain ⟨q48, h⟩ := h
        obtain ⟨b49, e50, h⟩ := h
        refine jv_getR d_S_moveOrders_67 fl_S_12 rfl q48 e50 ?_
        refine jv_aload_n d_S_moveOrders_70 rfl rfl ?_
        obtain ⟨q51, h⟩ := h
        refine jv_invV [.ref b17] [] d_S_moveOrders_71 ml_S_130 q51 rfl (Nat.le_of_ble_eq_true rfl) (Nat.zero_add _) (Nat.zero_add _) (jv_Ct.mono h (fun v M53 N53 h => ?_))
        obtain ⟨rfl, h⟩ := h
        change jv_J g (d + 1) mt_S_moveOrders 74 [some (.ref a0), some (.int x1), some (.int x2), some (.ref b17)] [] M53 N53 cr sr Z
        refine jv_goto (tgt := 89) d_S_moveOrders_74 (by decide) ?_
        refine jv_iinc (v := (x2 + 1)) (L' := [some (.ref a0), some (.int x1), some (.int (x2 + 1)), some (.ref b17)]) d_S_moveOrders_89 rfl rfl (Nat.le_of_ble_eq_true rfl) rfl ?_
        refine jv_goto (tgt := 4) d_S_moveOrders_92 (by decide) ?_
        refine jv_weak (L' := [some (.ref a0), some (.int x1), some (.int (x2 + 1)), none]) (by simp [jv_le]) ?_
        exact h
theorem b_S_reach_0 {g : jv_G} {d : Nat} {M : jv_Mem} {N cr sr : Nat} {Z : Option Value → jv_Mem → Nat → Prop} {a0 : Nat} {a1 : Nat} (h : jv_Tg 6 a0 N ∧ ∃ b2, Prod.fst (Prod.snd M) a0 1 = some b2 ∧ jv_Tg 2 a1 N ∧ jv_Tg 13 b2 N ∧ vp_in (Prod.fst M a1 1) (jv_sh b2).2 ∧ ∃ b7, Prod.fst (Prod.snd M) b2 (Int32.toNatClampNeg (Prod.fst M a1 1)) = some b7 ∧ jv_Tg 2 a1 N ∧ jv_Ct g d mt_O_isAbstract [.ref a1] M N 0 0 (fun v M11 N11 => jv_ri v (fun r10 => (r10 = 0 → jv_J g (d + 1) mt_S_reach 31 [some (.ref a0), some (.ref a1), some (.ref b7)] [] M11 N11 cr sr Z) ∧ (¬ (r10 = 0) → jv_Tg 1 b7 N11 ∧ ((Prod.fst M11 b7 4) = 2 → jv_J g (d + 1) mt_S_reach 31 [some (.ref a0), some (.ref a1), some (.ref b7)] [] M11 N11 cr sr Z) ∧ (¬ ((Prod.fst M11 b7 4) = 2) → jv_Tg 2 a1 N11 ∧ Z none (jv_si M11 a1 5 4) N11))))) : jv_J g (d + 1) mt_S_reach 0 [some (.ref a0), some (.ref a1), none] [] M N cr sr Z := by
  refine jv_aload_n d_S_reach_0 rfl rfl ?_
  obtain ⟨q1, h⟩ := h
  obtain ⟨b2, e3, h⟩ := h
  refine jv_getR d_S_reach_1 fl_S_20 rfl q1 e3 ?_
  refine jv_aload_n d_S_reach_4 rfl rfl ?_
  obtain ⟨q4, h⟩ := h
  refine jv_getI d_S_reach_5 fl_S_123 rfl q4 ?_
  obtain ⟨q5, q6, b7, e8, h⟩ := h
  refine jv_aald (t := 13) d_S_reach_8 (by decide) q5 q6 e8 ?_
  refine jv_astore_n (L' := [some (.ref a0), some (.ref a1), some (.ref b7)]) d_S_reach_9 rfl (Nat.le_of_ble_eq_true rfl) rfl ?_
  refine jv_aload_n d_S_reach_10 rfl rfl ?_
  obtain ⟨q9, h⟩ := h
  refine jv_invV [] [] d_S_reach_11 ml_S_137 q9 rfl (Nat.le_of_ble_eq_true rfl) (Nat.zero_add _) (Nat.zero_add _) (jv_Ct.mono h (fun v M11 N11 h => ?_))
  obtain ⟨r10, rfl, h⟩ := h
  change jv_J g (d + 1) mt_S_reach 14 [some (.ref a0), some (.ref a1), some (.ref b7)] [.int r10] M11 N11 cr sr Z
  refine jv_if_eq (tgt := 31) d_S_reach_14 (by decide) ⟨fun c => ?_, fun c => ?_⟩
  · replace h := h.1 c
    exact h
  · replace h := h.2 c
    refine jv_aload_n d_S_reach_17 rfl rfl ?_
    obtain ⟨q12, h⟩ := h
    refine jv_getI d_S_reach_18 fl_S_80 rfl q12 ?_
    refine jv_iconst (v := 2) d_S_reach_21 (by decide) ?_
    refine jv_icmp_eq (tgt := 31) d_S_reach_22 (by decide) ⟨fun c => ?_, fun c => ?_⟩
    · replace h := h.1 c
      exact h
    · replace h := h.2 c
      refine jv_aload_n d_S_reach_25 rfl rfl ?_
      refine jv_iconst (v := 4) d_S_reach_26 (by decide) ?_
      obtain ⟨q13, h⟩ := h
      refine jv_putI d_S_reach_27 fl_S_141 (fun r hr => by cases hr; rfl) rfl q13 ?_
      exact jv_ret d_S_reach_30 rfl h
theorem b_S_reach_31 {g : jv_G} {d : Nat} {M : jv_Mem} {N cr sr : Nat} {Z : Option Value → jv_Mem → Nat → Prop} {a0 : Nat} {a1 : Nat} {a2 : Nat} (h : jv_Tg 2 a1 N ∧ ((Prod.fst M a1 0) = 0 → jv_Tg 1 a2 N ∧ jv_Ct g d mt_H_halt [.ref a2, .int 1] M N 0 0 (fun v M9 N9 => jv_rv v (Z none M9 N9))) ∧ ((Prod.fst M a1 0) = 1 → jv_Tg 1 a2 N ∧ jv_Ct g d mt_H_resume [.ref a2] M N 0 0 (fun v M12 N12 => jv_rv v (Z none M12 N12))) ∧ ((Prod.fst M a1 0) = 2 → jv_Tg 2 a1 N ∧ jv_Tg 6 a0 N ∧ jv_Ct g d mt_S_restart [.ref a0, .int (Prod.fst M a1 1)] M N 0 0 (fun v M16 N16 => jv_rv v (Z none M16 N16))) ∧ ((Prod.fst M a1 0) = 3 → jv_Tg 1 a2 N ∧ ∃ b18, Prod.fst (Prod.snd M) a2 0 = some b18 ∧ jv_Tg 2 a1 N ∧ jv_Tg 11 b18 N ∧ vp_in (Prod.fst M a1 2) (jv_sh b18).2 ∧ jv_Tg 2 a1 N ∧ Z none (jv_si M a1 6 (Prod.fst M b18 (Int32.toNatClampNeg (Prod.fst M a1 2)))) N) ∧ ((Prod.fst M a1 0) = 4 → jv_Tg 1 a2 N ∧ ∃ b25, Prod.fst (Prod.snd M) a2 0 = some b25 ∧ jv_Tg 2 a1 N ∧ jv_Tg 2 a1 N ∧ jv_Tg 11 b25 N ∧ vp_in (Prod.fst M a1 2) (jv_sh b25).2 ∧ Z none (jv_si M b25 (Int32.toNatClampNeg (Prod.fst M a1 2)) (Prod.fst M a1 3)) N) ∧ (((Prod.fst M a1 0) ≠ 0 ∧ (Prod.fst M a1 0) ≠ 1 ∧ (Prod.fst M a1 0) ≠ 2 ∧ (Prod.fst M a1 0) ≠ 3 ∧ (Prod.fst M a1 0) ≠ 4) → jv_Tg 6 a0 N ∧ jv_Ct g d mt_S_runBuffer [.ref a0, .ref a2] M N 0 0 (fun v M5 N5 => jv_ri v (fun r4 => jv_Tg 2 a1 N5 ∧ Z none (jv_si M5 a1 5 r4) N5)))) : jv_J g (d + 1) mt_S_reach 31 [some (.ref a0), some (.ref a1), some (.ref a2)] [] M N cr sr Z := by
  refine jv_aload_n d_S_reach_31 rfl rfl ?_
  obtain ⟨q1, h⟩ := h
  refine jv_getI d_S_reach_32 fl_S_144 rfl q1 ?_
  have hD2 : ((Prod.fst M a1 0) ≠ 0 ∧ (Prod.fst M a1 0) ≠ 1 ∧ (Prod.fst M a1 0) ≠ 2 ∧ (Prod.fst M a1 0) ≠ 3 ∧ (Prod.fst M a1 0) ≠ 4) → jv_J g (d + 1) mt_S_reach 126 [some (.ref a0), some (.ref a1), some (.ref a2)] [] M N cr sr Z := by
    intro c
    replace h := h.2.2.2.2.2 c
    refine jv_aload_n d_S_reach_126 rfl rfl ?_
    refine jv_aload_n d_S_reach_127 rfl rfl ?_
    refine jv_aload_n d_S_reach_128 rfl rfl ?_
    obtain ⟨q3, h⟩ := h
    refine jv_invV [.ref a2] [.ref a1] d_S_reach_129 ml_S_167 q3 rfl (Nat.le_of_ble_eq_true rfl) (Nat.zero_add _) (Nat.zero_add _) (jv_Ct.mono h (fun v M5 N5 h => ?_))
    obtain ⟨r4, rfl, h⟩ := h
    change jv_J g (d + 1) mt_S_reach 132 [some (.ref a0), some (.ref a1), some (.ref a2)] [.int r4, .ref a1] M5 N5 cr sr Z
    obtain ⟨q6, h⟩ := h
    refine jv_putI d_S_reach_132 fl_S_141 (fun r hr => by cases hr; rfl) rfl q6 ?_
    exact jv_ret d_S_reach_135 rfl h
  refine jv_tsw (dt := 126) [(0, 68), (1, 76), (2, 83), (3, 94), (4, 110)] d_S_reach_35 (by decide) (by decide) (by decide) (fun q hq hx => ?_) (fun hq => ?_)
  · simp only [List.mem_cons, List.not_mem_nil, or_false] at hq
    rcases hq with rfl | rfl | rfl | rfl | rfl
    · replace h := h.1 hx
      refine jv_aload_n d_S_reach_68 rfl rfl ?_
      refine jv_iconst (v := 1) d_S_reach_69 (by decide) ?_
      obtain ⟨q7, h⟩ := h
      refine jv_invV [.int 1] [] d_S_reach_70 ml_S_147 q7 rfl (Nat.le_of_ble_eq_true rfl) (Nat.zero_add _) (Nat.zero_add _) (jv_Ct.mono h (fun v M9 N9 h => ?_))
      obtain ⟨rfl, h⟩ := h
      change jv_J g (d + 1) mt_S_reach 73 [some (.ref a0), some (.ref a1), some (.ref a2)] [] M9 N9 cr sr Z
      refine jv_goto (tgt := 135) d_S_reach_73 (by decide) ?_
      exact jv_ret d_S_reach_135 rfl h
    · replace h := h.2.1 hx
      refine jv_aload_n d_S_reach_76 rfl rfl ?_
      obtain ⟨q10, h⟩ := h
      refine jv_invV [] [] d_S_reach_77 ml_S_150 q10 rfl (Nat.le_of_ble_eq_true rfl) (Nat.zero_add _) (Nat.zero_add _) (jv_Ct.mono h (fun v M12 N12 h => ?_))
      obtain ⟨rfl, h⟩ := h
      change jv_J g (d + 1) mt_S_reach 80 [some (.ref a0), some (.ref a1), some (.ref a2)] [] M12 N12 cr sr Z
      refine jv_goto (tgt := 135) d_S_reach_80 (by decide) ?_
      exact jv_ret d_S_reach_135 rfl h
    · replace h := h.2.2.1 hx
      refine jv_aload_n d_S_reach_83 rfl rfl ?_
      refine jv_aload_n d_S_reach_84 rfl rfl ?_
      obtain ⟨q13, h⟩ := h
      refine jv_getI d_S_reach_85 fl_S_123 rfl q13 ?_
      obtain ⟨q14, h⟩ := h
      refine jv_invV [.int (Prod.fst M a1 1)] [] d_S_reach_88 ml_S_153 q14 rfl (Nat.le_of_ble_eq_true rfl) (Nat.zero_add _) (Nat.zero_add _) (jv_Ct.mono h (fun v M16 N16 h => ?_))
      obtain ⟨rfl, h⟩ := h
      change jv_J g (d + 1) mt_S_reach 91 [some (.ref a0), some (.ref a1), some (.ref a2)] [] M16 N16 cr sr Z
      refine jv_goto (tgt := 135) d_S_reach_91 (by decide) ?_
      exact jv_ret d_S_reach_135 rfl h
    · replace h := h.2.2.2.1 hx
      refine jv_aload_n d_S_reach_94 rfl rfl ?_
      refine jv_aload_n d_S_reach_95 rfl rfl ?_
      obtain ⟨q17, h⟩ := h
      obtain ⟨b18, e19, h⟩ := h
      refine jv_getR d_S_reach_96 fl_S_155 rfl q17 e19 ?_
      refine jv_aload_n d_S_reach_99 rfl rfl ?_
      obtain ⟨q20, h⟩ := h
      refine jv_getI d_S_reach_100 fl_S_158 rfl q20 ?_
      obtain ⟨q21, q22, h⟩ := h
      refine jv_iald d_S_reach_103 q21 q22 ?_
      obtain ⟨q23, h⟩ := h
      refine jv_putI d_S_reach_104 fl_S_161 (fun r hr => by cases hr; rfl) rfl q23 ?_
      refine jv_goto (tgt := 135) d_S_reach_107 (by decide) ?_
      exact jv_ret d_S_reach_135 rfl h
    · replace h := h.2.2.2.2.1 hx
      refine jv_aload_n d_S_reach_110 rfl rfl ?_
      obtain ⟨q24, h⟩ := h
      obtain ⟨b25, e26, h⟩ := h
      refine jv_getR d_S_reach_111 fl_S_155 rfl q24 e26 ?_
      refine jv_aload_n d_S_reach_114 rfl rfl ?_
      obtain ⟨q27, h⟩ := h
      refine jv_getI d_S_reach_115 fl_S_158 rfl q27 ?_
      refine jv_aload_n d_S_reach_118 rfl rfl ?_
      obtain ⟨q28, h⟩ := h
      refine jv_getI d_S_reach_119 fl_S_164 rfl q28 ?_
      obtain ⟨q29, q30, h⟩ := h
      refine jv_iast d_S_reach_122 q29 q30 ?_
      refine jv_goto (tgt := 135) d_S_reach_123 (by decide) ?_
      exact jv_ret d_S_reach_135 rfl h
  · exact hD2 ⟨hq _ (List.mem_of_getElem? (i := 0) rfl), hq _ (List.mem_of_getElem? (i := 1) rfl), hq _ (List.mem_of_getElem? (i := 2) rfl), hq _ (List.mem_of_getElem? (i := 3) rfl), hq _ (List.mem_of_getElem? (i := 4) rfl)⟩
theorem b_S_restart_0 {g : jv_G} {d : Nat} {M : jv_Mem} {N cr sr : Nat} {Z : Option Value → jv_Mem → Nat → Prop} {a0 : Nat} {x1 : Int32} (h : jv_Tg 6 a0 N ∧ ∃ b2, Prod.fst (Prod.snd M) a0 1 = some b2 ∧ jv_Tg 13 b2 N ∧ vp_in x1 (jv_sh b2).2 ∧ ∃ b6, Prod.fst (Prod.snd M) b2 (Int32.toNatClampNeg x1) = some b6 ∧ jv_Tg 1 b6 N ∧ jv_Ct g d mt_H_restart [.ref b6] M N 0 0 (fun v M10 N10 => jv_rv v (jv_J g (d + 1) mt_S_restart 11 [some (.ref a0), some (.int x1), some (.int 0)] [] M10 N10 cr sr Z))) : jv_J g (d + 1) mt_S_restart 0 [some (.ref a0), some (.int x1), none] [] M N cr sr Z := by
  refine jv_aload_n d_S_restart_0 rfl rfl ?_
  obtain ⟨q1, h⟩ := h
  obtain ⟨b2, e3, h⟩ := h
  refine jv_getR d_S_restart_1 fl_S_20 rfl q1 e3 ?_
  refine jv_iload_n d_S_restart_4 rfl rfl ?_
  obtain ⟨q4, q5, b6, e7, h⟩ := h
  refine jv_aald (t := 13) d_S_restart_5 (by decide) q4 q5 e7 ?_
  obtain ⟨q8, h⟩ := h
  refine jv_invV [] [] d_S_restart_6 ml_S_46 q8 rfl (Nat.le_of_ble_eq_true rfl) (Nat.zero_add _) (Nat.zero_add _) (jv_Ct.mono h (fun v M10 N10 h => ?_))
  obtain ⟨rfl, h⟩ := h
  change jv_J g (d + 1) mt_S_restart 9 [some (.ref a0), some (.int x1), none] [] M10 N10 cr sr Z
  refine jv_iconst (v := 0) d_S_restart_9 (by decide) ?_
  refine jv_istore_n (L' := [some (.ref a0), some (.int x1), some (.int 0)]) d_S_restart_10 rfl (Nat.le_of_ble_eq_true rfl) rfl ?_
  exact h
theorem b_S_restart_11 {g : jv_G} {d : Nat} {M : jv_Mem} {N cr sr : Nat} {Z : Option Value → jv_Mem → Nat → Prop} {a0 : Nat} {x1 : Int32} {x2 : Int32} (h : jv_Tg 6 a0 N ∧ ((Prod.fst M a0 5) ≤ x2 → Z none M N) ∧ (¬ ((Prod.fst M a0 5) ≤ x2) → jv_Tg 6 a0 N ∧ ∃ b3, Prod.fst (Prod.snd M) a0 2 = some b3 ∧ jv_Tg 16 b3 N ∧ vp_in x2 (jv_sh b3).2 ∧ ∃ b7, Prod.fst (Prod.snd M) b3 (Int32.toNatClampNeg x2) = some b7 ∧ jv_Tg 8 b7 N ∧ ((Prod.fst M b7 0) ≠ x1 → jv_J g (d + 1) mt_S_restart 11 [some (.ref a0), some (.int x1), some (.int (x2 + 1))] [] M N cr sr Z) ∧ ((Prod.fst M b7 0) = x1 → jv_Tg 6 a0 N ∧ ∃ b11, Prod.fst (Prod.snd M) a0 2 = some b11 ∧ jv_Tg 16 b11 N ∧ vp_in x2 (jv_sh b11).2 ∧ ∃ b15, Prod.fst (Prod.snd M) b11 (Int32.toNatClampNeg x2) = some b15 ∧ jv_Tg 6 a0 N ∧ ∃ b18, Prod.fst (Prod.snd M) a0 2 = some b18 ∧ jv_Tg 16 b18 N ∧ vp_in x2 (jv_sh b18).2 ∧ ∃ b22, Prod.fst (Prod.snd M) b18 (Int32.toNatClampNeg x2) = some b22 ∧ jv_Tg 8 b22 N ∧ jv_Tg 8 b15 N ∧ jv_J g (d + 1) mt_S_restart 11 [some (.ref a0), some (.int x1), some (.int (x2 + 1))] [] (jv_si M b15 5 (Prod.fst M b22 4)) N cr sr Z))) : jv_J g (d + 1) mt_S_restart 11 [some (.ref a0), some (.int x1), some (.int x2)] [] M N cr sr Z := by
  refine jv_iload_n d_S_restart_11 rfl rfl ?_
  refine jv_aload_n d_S_restart_12 rfl rfl ?_
  obtain ⟨q1, h⟩ := h
  refine jv_getI d_S_restart_13 fl_S_49 rfl q1 ?_
  refine jv_icmp_ge (tgt := 56) d_S_restart_16 (by decide) ⟨fun c => ?_, fun c => ?_⟩
  · replace h := h.1 c
    exact jv_ret d_S_restart_56 rfl h
  · replace h := h.2 c
    refine jv_aload_n d_S_restart_19 rfl rfl ?_
    obtain ⟨q2, h⟩ := h
    obtain ⟨b3, e4, h⟩ := h
    refine jv_getR d_S_restart_20 fl_S_26 rfl q2 e4 ?_
    refine jv_iload_n d_S_restart_23 rfl rfl ?_
    obtain ⟨q5, q6, b7, e8, h⟩ := h
    refine jv_aald (t := 16) d_S_restart_24 (by decide) q5 q6 e8 ?_
    obtain ⟨q9, h⟩ := h
    refine jv_getI d_S_restart_25 fl_S_58 rfl q9 ?_
    refine jv_iload_n d_S_restart_28 rfl rfl ?_
    refine jv_icmp_ne (tgt := 50) d_S_restart_29 (by decide) ⟨fun c => ?_, fun c => ?_⟩
    · replace h := h.1 c
      refine jv_iinc (v := (x2 + 1)) (L' := [some (.ref a0), some (.int x1), some (.int (x2 + 1))]) d_S_restart_50 rfl rfl (Nat.le_of_ble_eq_true rfl) rfl ?_
      refine jv_goto (tgt := 11) d_S_restart_53 (by decide) ?_
      exact h
    · replace h := h.2 c
      refine jv_aload_n d_S_restart_32 rfl rfl ?_
      obtain ⟨q10, h⟩ := h
      obtain ⟨b11, e12, h⟩ := h
      refine jv_getR d_S_restart_33 fl_S_26 rfl q10 e12 ?_
      refine jv_iload_n d_S_restart_36 rfl rfl ?_
      obtain ⟨q13, q14, b15, e16, h⟩ := h
      refine jv_aald (t := 16) d_S_restart_37 (by decide) q13 q14 e16 ?_
      refine jv_aload_n d_S_restart_38 rfl rfl ?_
      obtain ⟨q17, h⟩ := h
      obtain ⟨b18, e19, h⟩ := h
      refine jv_getR d_S_restart_39 fl_S_26 rfl q17 e19 ?_
      refine jv_iload_n d_S_restart_42 rfl rfl ?_
      obtain ⟨q20, q21, b22, e23, h⟩ := h
      refine jv_aald (t := 16) d_S_restart_43 (by decide) q20 q21 e23 ?_
      obtain ⟨q24, h⟩ := h
      refine jv_getI d_S_restart_44 fl_S_171 rfl q24 ?_
      obtain ⟨q25, h⟩ := h
      refine jv_putI d_S_restart_47 fl_S_174 (fun r hr => by cases hr; rfl) rfl q25 ?_
      refine jv_iinc (v := (x2 + 1)) (L' := [some (.ref a0), some (.int x1), some (.int (x2 + 1))]) d_S_restart_50 rfl rfl (Nat.le_of_ble_eq_true rfl) rfl ?_
      refine jv_goto (tgt := 11) d_S_restart_53 (by decide) ?_
      exact h
theorem b_S_runBuffer_0 {g : jv_G} {d : Nat} {M : jv_Mem} {N cr sr : Nat} {Z : Option Value → jv_Mem → Nat → Prop} {a0 : Nat} {a1 : Nat} (h : jv_J g (d + 1) mt_S_runBuffer 2 [some (.ref a0), some (.ref a1), some (.int 0), none] [] M N cr sr Z) : jv_J g (d + 1) mt_S_runBuffer 0 [some (.ref a0), some (.ref a1), none, none] [] M N cr sr Z := by
  refine jv_iconst (v := 0) d_S_runBuffer_0 (by decide) ?_
  refine jv_istore_n (L' := [some (.ref a0), some (.ref a1), some (.int 0), none]) d_S_runBuffer_1 rfl (Nat.le_of_ble_eq_true rfl) rfl ?_
  exact h
theorem b_S_runBuffer_2 {g : jv_G} {d : Nat} {M : jv_Mem} {N cr sr : Nat} {Z : Option Value → jv_Mem → Nat → Prop} {a0 : Nat} {a1 : Nat} {x2 : Int32} (h : (2 ≤ x2 → Z (some (.int 0)) M N) ∧ (¬ (2 ≤ x2) → jv_Tg 6 a0 N ∧ ∃ b2, Prod.fst (Prod.snd M) a0 0 = some b2 ∧ jv_Tg 0 b2 N ∧ ∃ b5, Prod.fst (Prod.snd M) b2 1 = some b5 ∧ jv_Tg 11 b5 N ∧ vp_in x2 (jv_sh b5).2 ∧ ((Prod.fst M b5 (Int32.toNatClampNeg x2)) = 0 → Z (some (.int 0)) M N) ∧ (¬ ((Prod.fst M b5 (Int32.toNatClampNeg x2)) = 0) → jv_Tg 6 a0 N ∧ ∃ b10, Prod.fst (Prod.snd M) a0 0 = some b10 ∧ jv_Tg 0 b10 N ∧ ∃ b13, Prod.fst (Prod.snd M) b10 1 = some b13 ∧ jv_Tg 11 b13 N ∧ vp_in x2 (jv_sh b13).2 ∧ (((Prod.fst M b13 (Int32.toNatClampNeg x2)) / 100) < 6 → jv_Tg 6 a0 N ∧ jv_Ct g d mt_S_calculate [.ref a0, .ref a1, .int ((Prod.fst M b13 (Int32.toNatClampNeg x2)) / 100), .int (((Prod.fst M b13 (Int32.toNatClampNeg x2)) / 10) - ((Prod.fst M b13 (Int32.toNatClampNeg x2)) / 10) / 10 * 10), .int ((Prod.fst M b13 (Int32.toNatClampNeg x2)) - (Prod.fst M b13 (Int32.toNatClampNeg x2)) / 10 * 10)] M N 0 0 (fun v M19 N19 => jv_rv v (jv_J g (d + 1) mt_S_runBuffer 2 [some (.ref a0), some (.ref a1), some (.int (x2 + 1)), none] [] M19 N19 cr sr Z))) ∧ (¬ (((Prod.fst M b13 (Int32.toNatClampNeg x2)) / 100) < 6) → Z (some (.int 3)) M N)))) : jv_J g (d + 1) mt_S_runBuffer 2 [some (.ref a0), some (.ref a1), some (.int x2), none] [] M N cr sr Z := by
  refine jv_iload_n d_S_runBuffer_2 rfl rfl ?_
  refine jv_iconst (v := 2) d_S_runBuffer_3 (by decide) ?_
  refine jv_icmp_ge (tgt := 66) d_S_runBuffer_4 (by decide) ⟨fun c => ?_, fun c => ?_⟩
  · replace h := h.1 c
    refine jv_iconst (v := 0) d_S_runBuffer_66 (by decide) ?_
    exact jv_iret d_S_runBuffer_67 rfl rfl h
  · replace h := h.2 c
    refine jv_aload_n d_S_runBuffer_7 rfl rfl ?_
    obtain ⟨q1, h⟩ := h
    obtain ⟨b2, e3, h⟩ := h
    refine jv_getR d_S_runBuffer_8 fl_S_12 rfl q1 e3 ?_
    obtain ⟨q4, h⟩ := h
    obtain ⟨b5, e6, h⟩ := h
    refine jv_getR d_S_runBuffer_11 fl_S_177 rfl q4 e6 ?_
    refine jv_iload_n d_S_runBuffer_14 rfl rfl ?_
    obtain ⟨q7, q8, h⟩ := h
    refine jv_iald d_S_runBuffer_15 q7 q8 ?_
    refine jv_if_eq (tgt := 66) d_S_runBuffer_16 (by decide) ⟨fun c => ?_, fun c => ?_⟩
    · replace h := h.1 c
      refine jv_iconst (v := 0) d_S_runBuffer_66 (by decide) ?_
      exact jv_iret d_S_runBuffer_67 rfl rfl h
    · replace h := h.2 c
      refine jv_aload_n d_S_runBuffer_19 rfl rfl ?_
      obtain ⟨q9, h⟩ := h
      obtain ⟨b10, e11, h⟩ := h
      refine jv_getR d_S_runBuffer_20 fl_S_12 rfl q9 e11 ?_
      obtain ⟨q12, h⟩ := h
      obtain ⟨b13, e14, h⟩ := h
      refine jv_getR d_S_runBuffer_23 fl_S_177 rfl q12 e14 ?_
      refine jv_iload_n d_S_runBuffer_26 rfl rfl ?_
      obtain ⟨q15, q16, h⟩ := h
      refine jv_iald d_S_runBuffer_27 q15 q16 ?_
      refine jv_istore_n (L' := [some (.ref a0), some (.ref a1), some (.int x2), some (.int (Prod.fst M b13 (Int32.toNatClampNeg x2)))]) d_S_runBuffer_28 rfl (Nat.le_of_ble_eq_true rfl) rfl ?_
      refine jv_iload_n d_S_runBuffer_29 rfl rfl ?_
      refine jv_bipush (v := 100) d_S_runBuffer_30 (by decide) ?_
      refine jv_idiv d_S_runBuffer_32 (by decide) ?_
      refine jv_bipush (v := 6) d_S_runBuffer_33 (by decide) ?_
      refine jv_icmp_lt (tgt := 40) d_S_runBuffer_35 (by decide) ⟨fun c => ?_, fun c => ?_⟩
      · replace h := h.1 c
        refine jv_aload_n d_S_runBuffer_40 rfl rfl ?_
        refine jv_aload_n d_S_runBuffer_41 rfl rfl ?_
        refine jv_iload_n d_S_runBuffer_42 rfl rfl ?_
        refine jv_bipush (v := 100) d_S_runBuffer_43 (by decide) ?_
        refine jv_idiv d_S_runBuffer_45 (by decide) ?_
        refine jv_iload_n d_S_runBuffer_46 rfl rfl ?_
        refine jv_bipush (v := 10) d_S_runBuffer_47 (by decide) ?_
        refine jv_idiv d_S_runBuffer_49 (by decide) ?_
        refine jv_bipush (v := 10) d_S_runBuffer_50 (by decide) ?_
        refine jv_irem d_S_runBuffer_52 (by decide) ?_
        refine jv_iload_n d_S_runBuffer_53 rfl rfl ?_
        refine jv_bipush (v := 10) d_S_runBuffer_54 (by decide) ?_
        refine jv_irem d_S_runBuffer_56 (by decide) ?_
        obtain ⟨q17, h⟩ := h
        refine jv_invV [.ref a1, .int ((Prod.fst M b13 (Int32.toNatClampNeg x2)) / 100), .int (((Prod.fst M b13 (Int32.toNatClampNeg x2)) / 10) - ((Prod.fst M b13 (Int32.toNatClampNeg x2)) / 10) / 10 * 10), .int ((Prod.fst M b13 (Int32.toNatClampNeg x2)) - (Prod.fst M b13 (Int32.toNatClampNeg x2)) / 10 * 10)] [] d_S_runBuffer_57 ml_S_180 q17 rfl (Nat.le_of_ble_eq_true rfl) (Nat.zero_add _) (Nat.zero_add _) (jv_Ct.mono h (fun v M19 N19 h => ?_))
        obtain ⟨rfl, h⟩ := h
        change jv_J g (d + 1) mt_S_runBuffer 60 [some (.ref a0), some (.ref a1), some (.int x2), some (.int (Prod.fst M b13 (Int32.toNatClampNeg x2)))] [] M19 N19 cr sr Z
        refine jv_iinc (v := (x2 + 1)) (L' := [some (.ref a0), some (.ref a1), some (.int (x2 + 1)), some (.int (Prod.fst M b13 (Int32.toNatClampNeg x2)))]) d_S_runBuffer_60 rfl rfl (Nat.le_of_ble_eq_true rfl) rfl ?_
        refine jv_goto (tgt := 2) d_S_runBuffer_63 (by decide) ?_
        refine jv_weak (L' := [some (.ref a0), some (.ref a1), some (.int (x2 + 1)), none]) (by simp [jv_le]) ?_
        exact h
      · replace h := h.2 c
        refine jv_iconst (v := 3) d_S_runBuffer_38 (by decide) ?_
        exact jv_iret d_S_runBuffer_39 rfl rfl h
theorem b_S_calculate_0 {g : jv_G} {d : Nat} {M : jv_Mem} {N cr sr : Nat} {Z : Option Value → jv_Mem → Nat → Prop} {a0 : Nat} {a1 : Nat} {x2 : Int32} {x3 : Int32} {x4 : Int32} (h : jv_Tg 1 a1 N ∧ ∃ b2, Prod.fst (Prod.snd M) a1 0 = some b2 ∧ (x2 = 1 → jv_Tg 11 b2 N ∧ vp_in x3 (jv_sh b2).2 ∧ jv_Tg 11 b2 N ∧ vp_in x3 (jv_sh b2).2 ∧ Z none (jv_si M b2 (Int32.toNatClampNeg x3) (((Prod.fst M b2 (Int32.toNatClampNeg x3)) + x4) - ((Prod.fst M b2 (Int32.toNatClampNeg x3)) + x4) / 1000 * 1000)) N) ∧ (x2 = 2 → jv_Tg 11 b2 N ∧ vp_in x3 (jv_sh b2).2 ∧ ((Prod.fst M b2 (Int32.toNatClampNeg x3)) ≤ 0 → jv_Tg 11 b2 N ∧ vp_in x3 (jv_sh b2).2 ∧ Z none (jv_si M b2 (Int32.toNatClampNeg x3) 0) N) ∧ (¬ ((Prod.fst M b2 (Int32.toNatClampNeg x3)) ≤ 0) → jv_Tg 11 b2 N ∧ vp_in x3 (jv_sh b2).2 ∧ jv_Tg 11 b2 N ∧ vp_in x3 (jv_sh b2).2 ∧ Z none (jv_si M b2 (Int32.toNatClampNeg x3) ((Prod.fst M b2 (Int32.toNatClampNeg x3)) - 1)) N)) ∧ (x2 = 3 → jv_Tg 11 b2 N ∧ vp_in x4 (jv_sh b2).2 ∧ jv_Tg 11 b2 N ∧ vp_in x3 (jv_sh b2).2 ∧ Z none (jv_si M b2 (Int32.toNatClampNeg x3) (Prod.fst M b2 (Int32.toNatClampNeg x4))) N) ∧ (x2 = 4 → jv_Tg 6 a0 N ∧ ∃ b22, Prod.fst (Prod.snd M) a0 3 = some b22 ∧ jv_Tg 11 b22 N ∧ vp_in x4 (jv_sh b22).2 ∧ jv_Tg 11 b2 N ∧ vp_in x3 (jv_sh b2).2 ∧ Z none (jv_si M b2 (Int32.toNatClampNeg x3) (Prod.fst M b22 (Int32.toNatClampNeg x4))) N) ∧ (x2 = 5 → jv_Tg 6 a0 N ∧ ∃ b29, Prod.fst (Prod.snd M) a0 3 = some b29 ∧ jv_Tg 11 b2 N ∧ vp_in x3 (jv_sh b2).2 ∧ jv_Tg 11 b29 N ∧ vp_in x4 (jv_sh b29).2 ∧ jv_Tg 6 a0 N ∧ ((Prod.fst (jv_si M b29 (Int32.toNatClampNeg x4) (Prod.fst M b2 (Int32.toNatClampNeg x3))) a0 7) ≠ 0 → jv_Tg 6 a0 N ∧ Z none (jv_si (jv_si M b29 (Int32.toNatClampNeg x4) (Prod.fst M b2 (Int32.toNatClampNeg x3))) a0 7 1) N) ∧ ((Prod.fst (jv_si M b29 (Int32.toNatClampNeg x4) (Prod.fst M b2 (Int32.toNatClampNeg x3))) a0 7) = 0 → (x4 ≠ 7 → jv_Tg 6 a0 N ∧ Z none (jv_si (jv_si M b29 (Int32.toNatClampNeg x4) (Prod.fst M b2 (Int32.toNatClampNeg x3))) a0 7 0) N) ∧ (x4 = 7 → jv_Tg 6 a0 N ∧ Z none (jv_si (jv_si M b29 (Int32.toNatClampNeg x4) (Prod.fst M b2 (Int32.toNatClampNeg x3))) a0 7 1) N))) ∧ ((x2 ≠ 1 ∧ x2 ≠ 2 ∧ x2 ≠ 3 ∧ x2 ≠ 4 ∧ x2 ≠ 5) → Z none M N)) : jv_J g d mt_S_calculate 0 [some (.ref a0), some (.ref a1), some (.int x2), some (.int x3), some (.int x4), none] [] M N cr sr Z := by
  refine jv_aload_n d_S_calculate_0 rfl rfl ?_
  obtain ⟨q1, h⟩ := h
  obtain ⟨b2, e3, h⟩ := h
  refine jv_getR d_S_calculate_1 fl_S_155 rfl q1 e3 ?_
  refine jv_astore (L' := [some (.ref a0), some (.ref a1), some (.int x2), some (.int x3), some (.int x4), some (.ref b2)]) d_S_calculate_4 (Nat.le_of_ble_eq_true rfl) rfl ?_
  refine jv_iload_n d_S_calculate_6 rfl rfl ?_
  have hD4 : (x2 ≠ 1 ∧ x2 ≠ 2 ∧ x2 ≠ 3 ∧ x2 ≠ 4 ∧ x2 ≠ 5) → jv_J g d mt_S_calculate 145 [some (.ref a0), some (.ref a1), some (.int x2), some (.int x3), some (.int x4), some (.ref b2)] [] M N cr sr Z := by
    intro c
    replace h := h.2.2.2.2.2 c
    exact jv_ret d_S_calculate_145 rfl h
  refine jv_tsw (dt := 145) [(1, 40), (2, 58), (3, 82), (4, 94), (5, 108)] d_S_calculate_7 (by decide) (by decide) (by decide) (fun q hq hx => ?_) (fun hq => ?_)
  · simp only [List.mem_cons, List.not_mem_nil, or_false] at hq
    rcases hq with rfl | rfl | rfl | rfl | rfl
    · replace h := h.1 hx
      refine jv_aload d_S_calculate_40 rfl ?_
      refine jv_iload_n d_S_calculate_42 rfl rfl ?_
      refine jv_aload d_S_calculate_43 rfl ?_
      refine jv_iload_n d_S_calculate_45 rfl rfl ?_
      obtain ⟨q5, q6, h⟩ := h
      refine jv_iald d_S_calculate_46 q5 q6 ?_
      refine jv_iload d_S_calculate_47 rfl ?_
      refine jv_iadd d_S_calculate_49 ?_
      refine jv_sipush (v := 1000) d_S_calculate_50 (by decide) ?_
      refine jv_irem d_S_calculate_53 (by decide) ?_
      obtain ⟨q7, q8, h⟩ := h
      refine jv_iast d_S_calculate_54 q7 q8 ?_
      refine jv_goto (tgt := 145) d_S_calculate_55 (by decide) ?_
      exact jv_ret d_S_calculate_145 rfl h
    · replace h := h.2.1 hx
      refine jv_aload d_S_calculate_58 rfl ?_
      refine jv_iload_n d_S_calculate_60 rfl rfl ?_
      refine jv_aload d_S_calculate_61 rfl ?_
      refine jv_iload_n d_S_calculate_63 rfl rfl ?_
      obtain ⟨q9, q10, h⟩ := h
      refine jv_iald d_S_calculate_64 q9 q10 ?_
      refine jv_if_le (tgt := 77) d_S_calculate_65 (by decide) ⟨fun c => ?_, fun c => ?_⟩
      · replace h := h.1 c
        refine jv_iconst (v := 0) d_S_calculate_77 (by decide) ?_
        obtain ⟨q11, q12, h⟩ := h
        refine jv_iast d_S_calculate_78 q11 q12 ?_
        refine jv_goto (tgt := 145) d_S_calculate_79 (by decide) ?_
        exact jv_ret d_S_calculate_145 rfl h
      · replace h := h.2 c
        refine jv_aload d_S_calculate_68 rfl ?_
        refine jv_iload_n d_S_calculate_70 rfl rfl ?_
        obtain ⟨q13, q14, h⟩ := h
        refine jv_iald d_S_calculate_71 q13 q14 ?_
        refine jv_iconst (v := 1) d_S_calculate_72 (by decide) ?_
        refine jv_isub d_S_calculate_73 ?_
        refine jv_goto (tgt := 78) d_S_calculate_74 (by decide) ?_
        obtain ⟨q15, q16, h⟩ := h
        refine jv_iast d_S_calculate_78 q15 q16 ?_
        refine jv_goto (tgt := 145) d_S_calculate_79 (by decide) ?_
        exact jv_ret d_S_calculate_145 rfl h
    · replace h := h.2.2.1 hx
      refine jv_aload d_S_calculate_82 rfl ?_
      refine jv_iload_n d_S_calculate_84 rfl rfl ?_
      refine jv_aload d_S_calculate_85 rfl ?_
      refine jv_iload d_S_calculate_87 rfl ?_
      obtain ⟨q17, q18, h⟩ := h
      refine jv_iald d_S_calculate_89 q17 q18 ?_
      obtain ⟨q19, q20, h⟩ := h
      refine jv_iast d_S_calculate_90 q19 q20 ?_
      refine jv_goto (tgt := 145) d_S_calculate_91 (by decide) ?_
      exact jv_ret d_S_calculate_145 rfl h
    · replace h := h.2.2.2.1 hx
      refine jv_aload d_S_calculate_94 rfl ?_
      refine jv_iload_n d_S_calculate_96 rfl rfl ?_
      refine jv_aload_n d_S_calculate_97 rfl rfl ?_
      obtain ⟨q21, h⟩ := h
      obtain ⟨b22, e23, h⟩ := h
      refine jv_getR d_S_calculate_98 fl_S_30 rfl q21 e23 ?_
      refine jv_iload d_S_calculate_101 rfl ?_
      obtain ⟨q24, q25, h⟩ := h
      refine jv_iald d_S_calculate_103 q24 q25 ?_
      obtain ⟨q26, q27, h⟩ := h
      refine jv_iast d_S_calculate_104 q26 q27 ?_
      refine jv_goto (tgt := 145) d_S_calculate_105 (by decide) ?_
      exact jv_ret d_S_calculate_145 rfl h
    · replace h := h.2.2.2.2.1 hx
      refine jv_aload_n d_S_calculate_108 rfl rfl ?_
      obtain ⟨q28, h⟩ := h
      obtain ⟨b29, e30, h⟩ := h
      refine jv_getR d_S_calculate_109 fl_S_30 rfl q28 e30 ?_
      refine jv_iload d_S_calculate_112 rfl ?_
      refine jv_aload d_S_calculate_114 rfl ?_
      refine jv_iload_n d_S_calculate_116 rfl rfl ?_
      obtain ⟨q31, q32, h⟩ := h
      refine jv_iald d_S_calculate_117 q31 q32 ?_
      obtain ⟨q33, q34, h⟩ := h
      refine jv_iast d_S_calculate_118 q33 q34 ?_
      refine jv_aload_n d_S_calculate_119 rfl rfl ?_
      refine jv_aload_n d_S_calculate_120 rfl rfl ?_
      obtain ⟨q35, h⟩ := h
      refine jv_getI d_S_calculate_121 fl_S_93 rfl q35 ?_
      refine jv_if_ne (tgt := 134) d_S_calculate_124 (by decide) ⟨fun c => ?_, fun c => ?_⟩
      · replace h := h.1 c
        refine jv_iconst (v := 1) d_S_calculate_134 (by decide) ?_
        refine jv_goto (tgt := 139) d_S_calculate_135 (by decide) ?_
        obtain ⟨q36, h⟩ := h
        refine jv_putZ d_S_calculate_139 fl_S_93 (fun r hr => by cases hr; rfl) rfl q36 (by decide) ?_
        refine jv_goto (tgt := 145) d_S_calculate_142 (by decide) ?_
        exact jv_ret d_S_calculate_145 rfl h
      · replace h := h.2 c
        refine jv_iload d_S_calculate_127 rfl ?_
        refine jv_bipush (v := 7) d_S_calculate_129 (by decide) ?_
        refine jv_icmp_ne (tgt := 138) d_S_calculate_131 (by decide) ⟨fun c => ?_, fun c => ?_⟩
        · replace h := h.1 c
          refine jv_iconst (v := 0) d_S_calculate_138 (by decide) ?_
          obtain ⟨q37, h⟩ := h
          refine jv_putZ d_S_calculate_139 fl_S_93 (fun r hr => by cases hr; rfl) rfl q37 (by decide) ?_
          refine jv_goto (tgt := 145) d_S_calculate_142 (by decide) ?_
          exact jv_ret d_S_calculate_145 rfl h
        · replace h := h.2 c
          refine jv_iconst (v := 1) d_S_calculate_134 (by decide) ?_
          refine jv_goto (tgt := 139) d_S_calculate_135 (by decide) ?_
          obtain ⟨q38, h⟩ := h
          refine jv_putZ d_S_calculate_139 fl_S_93 (fun r hr => by cases hr; rfl) rfl q38 (by decide) ?_
          refine jv_goto (tgt := 145) d_S_calculate_142 (by decide) ?_
          exact jv_ret d_S_calculate_145 rfl h
  · exact hD4 ⟨hq _ (List.mem_of_getElem? (i := 0) rfl), hq _ (List.mem_of_getElem? (i := 1) rfl), hq _ (List.mem_of_getElem? (i := 2) rfl), hq _ (List.mem_of_getElem? (i := 3) rfl), hq _ (List.mem_of_getElem? (i := 4) rfl)⟩
theorem b_S_step_0 {g : jv_G} {d : Nat} {M : jv_Mem} {N cr sr : Nat} {Z : Option Value → jv_Mem → Nat → Prop} {a0 : Nat} {x1 : Int32} {a2 : Nat} (h : jv_Tg 6 a0 N ∧ ∃ b2, Prod.fst (Prod.snd M) a0 1 = some b2 ∧ jv_Tg 13 b2 N ∧ vp_in x1 (jv_sh b2).2 ∧ ∃ b6, Prod.fst (Prod.snd M) b2 (Int32.toNatClampNeg x1) = some b6 ∧ jv_Tg 1 b6 N ∧ ((Prod.fst M b6 4) ≠ 0 → Z none M N) ∧ ((Prod.fst M b6 4) = 0 → jv_Tg 4 a2 N ∧ ((Prod.fst M a2 3) ≠ 0 → jv_Tg 1 b6 N ∧ jv_Tg 4 a2 N ∧ ((Prod.fst M b6 3) < (Prod.fst M a2 3) → jv_J g (d + 1) mt_S_step 38 [some (.ref a0), some (.int x1), some (.ref a2), some (.ref b6), none, none, none] [] M N cr sr Z) ∧ (¬ ((Prod.fst M b6 3) < (Prod.fst M a2 3)) → jv_Tg 1 b6 N ∧ jv_J g (d + 1) mt_S_step 38 [some (.ref a0), some (.int x1), some (.ref a2), some (.ref b6), none, none, none] [] (jv_si M b6 3 0) N cr sr Z)) ∧ ((Prod.fst M a2 3) = 0 → Z none M N))) : jv_J g (d + 1) mt_S_step 0 [some (.ref a0), some (.int x1), some (.ref a2), none, none, none, none] [] M N cr sr Z := by
  refine jv_aload_n d_S_step_0 rfl rfl ?_
  obtain ⟨q1, h⟩ := h
  obtain ⟨b2, e3, h⟩ := h
  refine jv_getR d_S_step_1 fl_S_20 rfl q1 e3 ?_
  refine jv_iload_n d_S_step_4 rfl rfl ?_
  obtain ⟨q4, q5, b6, e7, h⟩ := h
  refine jv_aald (t := 13) d_S_step_5 (by decide) q4 q5 e7 ?_
  refine jv_astore_n (L' := [some (.ref a0), some (.int x1), some (.ref a2), some (.ref b6), none, none, none]) d_S_step_6 rfl (Nat.le_of_ble_eq_true rfl) rfl ?_
  refine jv_aload_n d_S_step_7 rfl rfl ?_
  obtain ⟨q8, h⟩ := h
  refine jv_getI d_S_step_8 fl_S_80 rfl q8 ?_
  refine jv_if_ne (tgt := 21) d_S_step_11 (by decide) ⟨fun c => ?_, fun c => ?_⟩
  · replace h := h.1 c
    exact jv_ret d_S_step_21 rfl h
  · replace h := h.2 c
    refine jv_aload_n d_S_step_14 rfl rfl ?_
    obtain ⟨q9, h⟩ := h
    refine jv_getI d_S_step_15 fl_S_184 rfl q9 ?_
    refine jv_if_ne (tgt := 22) d_S_step_18 (by decide) ⟨fun c => ?_, fun c => ?_⟩
    · replace h := h.1 c
      refine jv_aload_n d_S_step_22 rfl rfl ?_
      obtain ⟨q10, h⟩ := h
      refine jv_getI d_S_step_23 fl_S_189 rfl q10 ?_
      refine jv_aload_n d_S_step_26 rfl rfl ?_
      obtain ⟨q11, h⟩ := h
      refine jv_getI d_S_step_27 fl_S_184 rfl q11 ?_
      refine jv_icmp_lt (tgt := 38) d_S_step_30 (by decide) ⟨fun c => ?_, fun c => ?_⟩
      · replace h := h.1 c
        exact h
      · replace h := h.2 c
        refine jv_aload_n d_S_step_33 rfl rfl ?_
        refine jv_iconst (v := 0) d_S_step_34 (by decide) ?_
        obtain ⟨q12, h⟩ := h
        refine jv_putI d_S_step_35 fl_S_189 (fun r hr => by cases hr; rfl) rfl q12 ?_
        exact h
    · replace h := h.2 c
      exact jv_ret d_S_step_21 rfl h
theorem b_S_step_38 {g : jv_G} {d : Nat} {M : jv_Mem} {N cr sr : Nat} {Z : Option Value → jv_Mem → Nat → Prop} {a0 : Nat} {x1 : Int32} {a2 : Nat} {a3 : Nat} (h : jv_Tg 6 a0 N ∧ jv_Ct g d mt_S_isStopped [.ref a0, .int x1] M N 0 0 (fun v M3 N3 => jv_ri v (fun r2 => (r2 = 0 → jv_Tg 1 a3 N3 ∧ jv_Tg 4 a2 N3 ∧ ∃ b6, Prod.fst (Prod.snd M3) a2 1 = some b6 ∧ jv_Tg 11 b6 N3 ∧ vp_in (Prod.fst M3 a3 3) (jv_sh b6).2 ∧ jv_Tg 4 a2 N3 ∧ ∃ b11, Prod.fst (Prod.snd M3) a2 2 = some b11 ∧ jv_Tg 11 b11 N3 ∧ vp_in (Prod.fst M3 a3 3) (jv_sh b11).2 ∧ jv_Tg 1 a3 N3 ∧ jv_Tg 4 a2 N3 ∧ ∃ b17, Prod.fst (Prod.snd (jv_si M3 a3 3 ((Prod.fst M3 a3 3) + 1))) a2 0 = some b17 ∧ jv_Tg 11 b17 N3 ∧ vp_in (Prod.fst M3 a3 3) (jv_sh b17).2 ∧ ((Prod.fst (jv_si M3 a3 3 ((Prod.fst M3 a3 3) + 1)) b17 (Int32.toNatClampNeg (Prod.fst M3 a3 3))) = 6 → jv_Tg 1 a3 N3 ∧ ∃ b31, Prod.fst (Prod.snd (jv_si M3 a3 3 ((Prod.fst M3 a3 3) + 1))) a3 0 = some b31 ∧ jv_Tg 11 b31 N3 ∧ vp_in (Prod.fst M3 b6 (Int32.toNatClampNeg (Prod.fst M3 a3 3))) (jv_sh b31).2 ∧ ((Prod.fst (jv_si M3 a3 3 ((Prod.fst M3 a3 3) + 1)) b31 (Int32.toNatClampNeg (Prod.fst M3 b6 (Int32.toNatClampNeg (Prod.fst M3 a3 3))))) = 0 → jv_J g (d + 1) mt_S_step 136 [none, none, none, none, none, none, none] [.int ((Prod.fst M3 a3 3) + 1), .ref a3] (jv_si M3 a3 3 ((Prod.fst M3 a3 3) + 1)) N3 cr sr Z) ∧ (¬ ((Prod.fst (jv_si M3 a3 3 ((Prod.fst M3 a3 3) + 1)) b31 (Int32.toNatClampNeg (Prod.fst M3 b6 (Int32.toNatClampNeg (Prod.fst M3 a3 3))))) = 0) → jv_J g (d + 1) mt_S_step 136 [none, none, none, none, none, none, none] [.int (Prod.fst M3 b11 (Int32.toNatClampNeg (Prod.fst M3 a3 3))), .ref a3] (jv_si M3 a3 3 ((Prod.fst M3 a3 3) + 1)) N3 cr sr Z)) ∧ ((Prod.fst (jv_si M3 a3 3 ((Prod.fst M3 a3 3) + 1)) b17 (Int32.toNatClampNeg (Prod.fst M3 a3 3))) = 7 → jv_Tg 1 a3 N3 ∧ jv_Ct g d mt_H_sleep [.ref a3] (jv_si M3 a3 3 ((Prod.fst M3 a3 3) + 1)) N3 0 0 (fun v M37 N37 => jv_rv v (Z none M37 N37))) ∧ ((Prod.fst (jv_si M3 a3 3 ((Prod.fst M3 a3 3) + 1)) b17 (Int32.toNatClampNeg (Prod.fst M3 a3 3))) = 8 → jv_Tg 1 a3 N3 ∧ jv_Ct g d mt_H_halt [.ref a3, .int 3] (jv_si M3 a3 3 ((Prod.fst M3 a3 3) + 1)) N3 0 0 (fun v M40 N40 => jv_rv v (Z none M40 N40))) ∧ (((Prod.fst (jv_si M3 a3 3 ((Prod.fst M3 a3 3) + 1)) b17 (Int32.toNatClampNeg (Prod.fst M3 a3 3))) ≠ 6 ∧ (Prod.fst (jv_si M3 a3 3 ((Prod.fst M3 a3 3) + 1)) b17 (Int32.toNatClampNeg (Prod.fst M3 a3 3))) ≠ 7 ∧ (Prod.fst (jv_si M3 a3 3 ((Prod.fst M3 a3 3) + 1)) b17 (Int32.toNatClampNeg (Prod.fst M3 a3 3))) ≠ 8) → jv_Tg 4 a2 N3 ∧ ∃ b23, Prod.fst (Prod.snd (jv_si M3 a3 3 ((Prod.fst M3 a3 3) + 1))) a2 0 = some b23 ∧ jv_Tg 11 b23 N3 ∧ vp_in (Prod.fst M3 a3 3) (jv_sh b23).2 ∧ jv_Tg 6 a0 N3 ∧ jv_Ct g d mt_S_calculate [.ref a0, .ref a3, .int (Prod.fst (jv_si M3 a3 3 ((Prod.fst M3 a3 3) + 1)) b23 (Int32.toNatClampNeg (Prod.fst M3 a3 3))), .int (Prod.fst M3 b6 (Int32.toNatClampNeg (Prod.fst M3 a3 3))), .int (Prod.fst M3 b11 (Int32.toNatClampNeg (Prod.fst M3 a3 3)))] (jv_si M3 a3 3 ((Prod.fst M3 a3 3) + 1)) N3 0 0 (fun v M29 N29 => jv_rv v (Z none M29 N29)))) ∧ (¬ (r2 = 0) → jv_Tg 1 a3 N3 ∧ jv_Ct g d mt_H_halt [.ref a3, .int 2] M3 N3 0 0 (fun v M43 N43 => jv_rv v (Z none M43 N43)))))) : jv_J g (d + 1) mt_S_step 38 [some (.ref a0), some (.int x1), some (.ref a2), some (.ref a3), none, none, none] [] M N cr sr Z := by
  refine jv_aload_n d_S_step_38 rfl rfl ?_
  refine jv_iload_n d_S_step_39 rfl rfl ?_
  obtain ⟨q1, h⟩ := h
  refine jv_invV [.int x1] [] d_S_step_40 ml_S_192 q1 rfl (Nat.le_of_ble_eq_true rfl) (Nat.zero_add _) (Nat.zero_add _) (jv_Ct.mono h (fun v M3 N3 h => ?_))
  obtain ⟨r2, rfl, h⟩ := h
  change jv_J g (d + 1) mt_S_step 43 [some (.ref a0), some (.int x1), some (.ref a2), some (.ref a3), none, none, none] [.int r2] M3 N3 cr sr Z
  refine jv_if_eq (tgt := 52) d_S_step_43 (by decide) ⟨fun c => ?_, fun c => ?_⟩
  · replace h := h.1 c
    refine jv_aload_n d_S_step_52 rfl rfl ?_
    obtain ⟨q4, h⟩ := h
    refine jv_getI d_S_step_53 fl_S_189 rfl q4 ?_
    refine jv_istore (L' := [some (.ref a0), some (.int x1), some (.ref a2), some (.ref a3), some (.int (Prod.fst M3 a3 3)), none, none]) d_S_step_56 (Nat.le_of_ble_eq_true rfl) rfl ?_
    refine jv_aload_n d_S_step_58 rfl rfl ?_
    obtain ⟨q5, h⟩ := h
    obtain ⟨b6, e7, h⟩ := h
    refine jv_getR d_S_step_59 fl_S_196 rfl q5 e7 ?_
    refine jv_iload d_S_step_62 rfl ?_
    obtain ⟨q8, q9, h⟩ := h
    refine jv_iald d_S_step_64 q8 q9 ?_
    refine jv_istore (L' := [some (.ref a0), some (.int x1), some (.ref a2), some (.ref a3), some (.int (Prod.fst M3 a3 3)), some (.int (Prod.fst M3 b6 (Int32.toNatClampNeg (Prod.fst M3 a3 3)))), none]) d_S_step_65 (Nat.le_of_ble_eq_true rfl) rfl ?_
    refine jv_aload_n d_S_step_67 rfl rfl ?_
    obtain ⟨q10, h⟩ := h
    obtain ⟨b11, e12, h⟩ := h
    refine jv_getR d_S_step_68 fl_S_199 rfl q10 e12 ?_
    refine jv_iload d_S_step_71 rfl ?_
    obtain ⟨q13, q14, h⟩ := h
    refine jv_iald d_S_step_73 q13 q14 ?_
    refine jv_istore (L' := [some (.ref a0), some (.int x1), some (.ref a2), some (.ref a3), some (.int (Prod.fst M3 a3 3)), some (.int (Prod.fst M3 b6 (Int32.toNatClampNeg (Prod.fst M3 a3 3)))), some (.int (Prod.fst M3 b11 (Int32.toNatClampNeg (Prod.fst M3 a3 3))))]) d_S_step_74 (Nat.le_of_ble_eq_true rfl) rfl ?_
    refine jv_aload_n d_S_step_76 rfl rfl ?_
    refine jv_iload d_S_step_77 rfl ?_
    refine jv_iconst (v := 1) d_S_step_79 (by decide) ?_
    refine jv_iadd d_S_step_80 ?_
    obtain ⟨q15, h⟩ := h
    refine jv_putI d_S_step_81 fl_S_189 (fun r hr => by cases hr; rfl) rfl q15 ?_
    refine jv_aload_n d_S_step_84 rfl rfl ?_
    obtain ⟨q16, h⟩ := h
    obtain ⟨b17, e18, h⟩ := h
    refine jv_getR d_S_step_85 fl_S_202 rfl q16 e18 ?_
    refine jv_iload d_S_step_88 rfl ?_
    obtain ⟨q19, q20, h⟩ := h
    refine jv_iald d_S_step_90 q19 q20 ?_
    have hD21 : ((Prod.fst (jv_si M3 a3 3 ((Prod.fst M3 a3 3) + 1)) b17 (Int32.toNatClampNeg (Prod.fst M3 a3 3))) ≠ 6 ∧ (Prod.fst (jv_si M3 a3 3 ((Prod.fst M3 a3 3) + 1)) b17 (Int32.toNatClampNeg (Prod.fst M3 a3 3))) ≠ 7 ∧ (Prod.fst (jv_si M3 a3 3 ((Prod.fst M3 a3 3) + 1)) b17 (Int32.toNatClampNeg (Prod.fst M3 a3 3))) ≠ 8) → jv_J g (d + 1) mt_S_step 157 [some (.ref a0), some (.int x1), some (.ref a2), some (.ref a3), some (.int (Prod.fst M3 a3 3)), some (.int (Prod.fst M3 b6 (Int32.toNatClampNeg (Prod.fst M3 a3 3)))), some (.int (Prod.fst M3 b11 (Int32.toNatClampNeg (Prod.fst M3 a3 3))))] [] (jv_si M3 a3 3 ((Prod.fst M3 a3 3) + 1)) N3 cr sr Z := by
      intro c
      replace h := h.2.2.2 c
      refine jv_aload_n d_S_step_157 rfl rfl ?_
      refine jv_aload_n d_S_step_158 rfl rfl ?_
      refine jv_aload_n d_S_step_159 rfl rfl ?_
      obtain ⟨q22, h⟩ := h
      obtain ⟨b23, e24, h⟩ := h
      refine jv_getR d_S_step_160 fl_S_202 rfl q22 e24 ?_
      refine jv_iload d_S_step_163 rfl ?_
      obtain ⟨q25, q26, h⟩ := h
      refine jv_iald d_S_step_165 q25 q26 ?_
      refine jv_iload d_S_step_166 rfl ?_
      refine jv_iload d_S_step_168 rfl ?_
      obtain ⟨q27, h⟩ := h
      refine jv_invV [.ref a3, .int (Prod.fst (jv_si M3 a3 3 ((Prod.fst M3 a3 3) + 1)) b23 (Int32.toNatClampNeg (Prod.fst M3 a3 3))), .int (Prod.fst M3 b6 (Int32.toNatClampNeg (Prod.fst M3 a3 3))), .int (Prod.fst M3 b11 (Int32.toNatClampNeg (Prod.fst M3 a3 3)))] [] d_S_step_170 ml_S_180 q27 rfl (Nat.le_of_ble_eq_true rfl) (Nat.zero_add _) (Nat.zero_add _) (jv_Ct.mono h (fun v M29 N29 h => ?_))
      obtain ⟨rfl, h⟩ := h
      change jv_J g (d + 1) mt_S_step 173 [some (.ref a0), some (.int x1), some (.ref a2), some (.ref a3), some (.int (Prod.fst M3 a3 3)), some (.int (Prod.fst M3 b6 (Int32.toNatClampNeg (Prod.fst M3 a3 3)))), some (.int (Prod.fst M3 b11 (Int32.toNatClampNeg (Prod.fst M3 a3 3))))] [] M29 N29 cr sr Z
      exact jv_ret d_S_step_173 rfl h
    refine jv_tsw (dt := 157) [(6, 116), (7, 142), (8, 149)] d_S_step_91 (by decide) (by decide) (by decide) (fun q hq hx => ?_) (fun hq => ?_)
    · simp only [List.mem_cons, List.not_mem_nil, or_false] at hq
      rcases hq with rfl | rfl | rfl
      · replace h := h.1 hx
        refine jv_aload_n d_S_step_116 rfl rfl ?_
        refine jv_aload_n d_S_step_117 rfl rfl ?_
        obtain ⟨q30, h⟩ := h
        obtain ⟨b31, e32, h⟩ := h
        refine jv_getR d_S_step_118 fl_S_155 rfl q30 e32 ?_
        refine jv_iload d_S_step_121 rfl ?_
        obtain ⟨q33, q34, h⟩ := h
        refine jv_iald d_S_step_123 q33 q34 ?_
        refine jv_if_eq (tgt := 132) d_S_step_124 (by decide) ⟨fun c => ?_, fun c => ?_⟩
        · replace h := h.1 c
          refine jv_iload d_S_step_132 rfl ?_
          refine jv_iconst (v := 1) d_S_step_134 (by decide) ?_
          refine jv_iadd d_S_step_135 ?_
          refine jv_weak (L' := [none, none, none, none, none, none, none]) (by simp [jv_le]) ?_
          exact h
        · replace h := h.2 c
          refine jv_iload d_S_step_127 rfl ?_
          refine jv_goto (tgt := 136) d_S_step_129 (by decide) ?_
          refine jv_weak (L' := [none, none, none, none, none, none, none]) (by simp [jv_le]) ?_
          exact h
      · replace h := h.2.1 hx
        refine jv_aload_n d_S_step_142 rfl rfl ?_
        obtain ⟨q35, h⟩ := h
        refine jv_invV [] [] d_S_step_143 ml_S_205 q35 rfl (Nat.le_of_ble_eq_true rfl) (Nat.zero_add _) (Nat.zero_add _) (jv_Ct.mono h (fun v M37 N37 h => ?_))
        obtain ⟨rfl, h⟩ := h
        change jv_J g (d + 1) mt_S_step 146 [some (.ref a0), some (.int x1), some (.ref a2), some (.ref a3), some (.int (Prod.fst M3 a3 3)), some (.int (Prod.fst M3 b6 (Int32.toNatClampNeg (Prod.fst M3 a3 3)))), some (.int (Prod.fst M3 b11 (Int32.toNatClampNeg (Prod.fst M3 a3 3))))] [] M37 N37 cr sr Z
        refine jv_goto (tgt := 173) d_S_step_146 (by decide) ?_
        exact jv_ret d_S_step_173 rfl h
      · replace h := h.2.2.1 hx
        refine jv_aload_n d_S_step_149 rfl rfl ?_
        refine jv_iconst (v := 3) d_S_step_150 (by decide) ?_
        obtain ⟨q38, h⟩ := h
        refine jv_invV [.int 3] [] d_S_step_151 ml_S_147 q38 rfl (Nat.le_of_ble_eq_true rfl) (Nat.zero_add _) (Nat.zero_add _) (jv_Ct.mono h (fun v M40 N40 h => ?_))
        obtain ⟨rfl, h⟩ := h
        change jv_J g (d + 1) mt_S_step 154 [some (.ref a0), some (.int x1), some (.ref a2), some (.ref a3), some (.int (Prod.fst M3 a3 3)), some (.int (Prod.fst M3 b6 (Int32.toNatClampNeg (Prod.fst M3 a3 3)))), some (.int (Prod.fst M3 b11 (Int32.toNatClampNeg (Prod.fst M3 a3 3))))] [] M40 N40 cr sr Z
        refine jv_goto (tgt := 173) d_S_step_154 (by decide) ?_
        exact jv_ret d_S_step_173 rfl h
    · exact hD21 ⟨hq _ (List.mem_of_getElem? (i := 0) rfl), hq _ (List.mem_of_getElem? (i := 1) rfl), hq _ (List.mem_of_getElem? (i := 2) rfl)⟩
  · replace h := h.2 c
    refine jv_aload_n d_S_step_46 rfl rfl ?_
    refine jv_iconst (v := 2) d_S_step_47 (by decide) ?_
    obtain ⟨q41, h⟩ := h
    refine jv_invV [.int 2] [] d_S_step_48 ml_S_147 q41 rfl (Nat.le_of_ble_eq_true rfl) (Nat.zero_add _) (Nat.zero_add _) (jv_Ct.mono h (fun v M43 N43 h => ?_))
    obtain ⟨rfl, h⟩ := h
    change jv_J g (d + 1) mt_S_step 51 [some (.ref a0), some (.int x1), some (.ref a2), some (.ref a3), none, none, none] [] M43 N43 cr sr Z
    exact jv_ret d_S_step_51 rfl h
theorem b_S_step_136 {g : jv_G} {d : Nat} {M : jv_Mem} {N cr sr : Nat} {Z : Option Value → jv_Mem → Nat → Prop} {b0 : Nat} {y1 : Int32} (h : jv_Tg 1 b0 N ∧ Z none (jv_si M b0 3 y1) N) : jv_J g (d + 1) mt_S_step 136 [none, none, none, none, none, none, none] [.int y1, .ref b0] M N cr sr Z := by
  obtain ⟨q1, h⟩ := h
  refine jv_putI d_S_step_136 fl_S_189 (fun r hr => by cases hr; rfl) rfl q1 ?_
  refine jv_goto (tgt := 173) d_S_step_139 (by decide) ?_
  exact jv_ret d_S_step_173 rfl h
theorem b_S_isStopped_0 {g : jv_G} {d : Nat} {M : jv_Mem} {N cr sr : Nat} {Z : Option Value → jv_Mem → Nat → Prop} {a0 : Nat} {x1 : Int32} (h : jv_J g (d + 1) mt_S_isStopped 8 [some (.ref a0), some (.int x1), some (.int (-9)), some (.int 0), some (.int 0)] [] M N cr sr Z) : jv_J g (d + 1) mt_S_isStopped 0 [some (.ref a0), some (.int x1), none, none, none] [] M N cr sr Z := by
  refine jv_bipush (v := (-9)) d_S_isStopped_0 (by decide) ?_
  refine jv_istore_n (L' := [some (.ref a0), some (.int x1), some (.int (-9)), none, none]) d_S_isStopped_2 rfl (Nat.le_of_ble_eq_true rfl) rfl ?_
  refine jv_iconst (v := 0) d_S_isStopped_3 (by decide) ?_
  refine jv_istore_n (L' := [some (.ref a0), some (.int x1), some (.int (-9)), some (.int 0), none]) d_S_isStopped_4 rfl (Nat.le_of_ble_eq_true rfl) rfl ?_
  refine jv_iconst (v := 0) d_S_isStopped_5 (by decide) ?_
  refine jv_istore (L' := [some (.ref a0), some (.int x1), some (.int (-9)), some (.int 0), some (.int 0)]) d_S_isStopped_6 (Nat.le_of_ble_eq_true rfl) rfl ?_
  exact h
theorem b_S_isStopped_8 {g : jv_G} {d : Nat} {M : jv_Mem} {N cr sr : Nat} {Z : Option Value → jv_Mem → Nat → Prop} {a0 : Nat} {x1 : Int32} {x2 : Int32} {x3 : Int32} {x4 : Int32} (h : jv_Tg 6 a0 N ∧ ((Prod.fst M a0 5) ≤ x4 → Z (some (.int 0)) M N) ∧ (¬ ((Prod.fst M a0 5) ≤ x4) → jv_Tg 6 a0 N ∧ ∃ b3, Prod.fst (Prod.snd M) a0 2 = some b3 ∧ jv_Tg 16 b3 N ∧ vp_in x4 (jv_sh b3).2 ∧ ∃ b7, Prod.fst (Prod.snd M) b3 (Int32.toNatClampNeg x4) = some b7 ∧ jv_Tg 8 b7 N ∧ ((Prod.fst M b7 0) ≠ x1 → jv_J g (d + 1) mt_S_isStopped 8 [some (.ref a0), some (.int x1), some (.int x2), some (.int x3), some (.int (x4 + 1))] [] M N cr sr Z) ∧ ((Prod.fst M b7 0) = x1 → (x2 ≠ (-9) → jv_J g (d + 1) mt_S_isStopped 42 [some (.ref a0), some (.int x1), some (.int x2), some (.int x3), some (.int x4)] [] M N cr sr Z) ∧ (x2 = (-9) → jv_J g (d + 1) mt_S_isStopped 42 [some (.ref a0), some (.int x1), some (.int x4), some (.int 1), some (.int x4)] [] M N cr sr Z)))) : jv_J g (d + 1) mt_S_isStopped 8 [some (.ref a0), some (.int x1), some (.int x2), some (.int x3), some (.int x4)] [] M N cr sr Z := by
  refine jv_iload d_S_isStopped_8 rfl ?_
  refine jv_aload_n d_S_isStopped_10 rfl rfl ?_
  obtain ⟨q1, h⟩ := h
  refine jv_getI d_S_isStopped_11 fl_S_49 rfl q1 ?_
  refine jv_icmp_ge (tgt := 119) d_S_isStopped_14 (by decide) ⟨fun c => ?_, fun c => ?_⟩
  · replace h := h.1 c
    refine jv_iconst (v := 0) d_S_isStopped_119 (by decide) ?_
    exact jv_iret d_S_isStopped_120 rfl (jv_nz (by decide)) h
  · replace h := h.2 c
    refine jv_aload_n d_S_isStopped_17 rfl rfl ?_
    obtain ⟨q2, h⟩ := h
    obtain ⟨b3, e4, h⟩ := h
    refine jv_getR d_S_isStopped_18 fl_S_26 rfl q2 e4 ?_
    refine jv_iload d_S_isStopped_21 rfl ?_
    obtain ⟨q5, q6, b7, e8, h⟩ := h
    refine jv_aald (t := 16) d_S_isStopped_23 (by decide) q5 q6 e8 ?_
    obtain ⟨q9, h⟩ := h
    refine jv_getI d_S_isStopped_24 fl_S_58 rfl q9 ?_
    refine jv_iload_n d_S_isStopped_27 rfl rfl ?_
    refine jv_icmp_ne (tgt := 113) d_S_isStopped_28 (by decide) ⟨fun c => ?_, fun c => ?_⟩
    · replace h := h.1 c
      refine jv_iinc (v := (x4 + 1)) (L' := [some (.ref a0), some (.int x1), some (.int x2), some (.int x3), some (.int (x4 + 1))]) d_S_isStopped_113 rfl rfl (Nat.le_of_ble_eq_true rfl) rfl ?_
      refine jv_goto (tgt := 8) d_S_isStopped_116 (by decide) ?_
      exact h
    · replace h := h.2 c
      refine jv_iload_n d_S_isStopped_31 rfl rfl ?_
      refine jv_bipush (v := (-9)) d_S_isStopped_32 (by decide) ?_
      refine jv_icmp_ne (tgt := 42) d_S_isStopped_34 (by decide) ⟨fun c => ?_, fun c => ?_⟩
      · replace h := h.1 c
        exact h
      · replace h := h.2 c
        refine jv_iload d_S_isStopped_37 rfl ?_
        refine jv_istore_n (L' := [some (.ref a0), some (.int x1), some (.int x4), some (.int x3), some (.int x4)]) d_S_isStopped_39 rfl (Nat.le_of_ble_eq_true rfl) rfl ?_
        refine jv_iconst (v := 1) d_S_isStopped_40 (by decide) ?_
        refine jv_istore_n (L' := [some (.ref a0), some (.int x1), some (.int x4), some (.int 1), some (.int x4)]) d_S_isStopped_41 rfl (Nat.le_of_ble_eq_true rfl) rfl ?_
        exact h
theorem b_S_isStopped_42 {g : jv_G} {d : Nat} {M : jv_Mem} {N cr sr : Nat} {Z : Option Value → jv_Mem → Nat → Prop} {a0 : Nat} {x1 : Int32} {x2 : Int32} {x3 : Int32} {x4 : Int32} (h : (x3 = 0 → jv_J g (d + 1) mt_S_isStopped 82 [some (.ref a0), some (.int x1), some (.int x2), none, some (.int x4)] [.int 0] M N cr sr Z) ∧ (¬ (x3 = 0) → jv_Tg 6 a0 N ∧ ((((Prod.fst M a0 6) >>> (x4 &&& 31)) &&& 1) ≠ 0 → jv_J g (d + 1) mt_S_isStopped 82 [some (.ref a0), some (.int x1), some (.int x2), none, some (.int x4)] [.int 0] M N cr sr Z) ∧ ((((Prod.fst M a0 6) >>> (x4 &&& 31)) &&& 1) = 0 → jv_Tg 6 a0 N ∧ ∃ b3, Prod.fst (Prod.snd M) a0 2 = some b3 ∧ jv_Tg 16 b3 N ∧ vp_in x4 (jv_sh b3).2 ∧ ∃ b7, Prod.fst (Prod.snd M) b3 (Int32.toNatClampNeg x4) = some b7 ∧ jv_Tg 6 a0 N ∧ ∃ b10, Prod.fst (Prod.snd M) a0 1 = some b10 ∧ jv_Tg 13 b10 N ∧ vp_in x1 (jv_sh b10).2 ∧ ∃ b14, Prod.fst (Prod.snd M) b10 (Int32.toNatClampNeg x1) = some b14 ∧ jv_Tg 8 b7 N ∧ jv_Ct g d mt_U_matches [.ref b7, .ref b14] M N 0 0 (fun v M18 N18 => jv_ri v (fun r17 => (r17 = 0 → jv_J g (d + 1) mt_S_isStopped 82 [some (.ref a0), some (.int x1), some (.int x2), none, some (.int x4)] [.int 0] M18 N18 cr sr Z) ∧ (¬ (r17 = 0) → jv_J g (d + 1) mt_S_isStopped 82 [some (.ref a0), some (.int x1), some (.int x2), none, some (.int x4)] [.int 1] M18 N18 cr sr Z)))))) : jv_J g (d + 1) mt_S_isStopped 42 [some (.ref a0), some (.int x1), some (.int x2), some (.int x3), some (.int x4)] [] M N cr sr Z := by
  refine jv_iload_n d_S_isStopped_42 rfl rfl ?_
  refine jv_if_eq (tgt := 81) d_S_isStopped_43 (by decide) ⟨fun c => ?_, fun c => ?_⟩
  · replace h := h.1 c
    refine jv_iconst (v := 0) d_S_isStopped_81 (by decide) ?_
    refine jv_weak (L' := [some (.ref a0), some (.int x1), some (.int x2), none, some (.int x4)]) (by simp [jv_le]) ?_
    exact h
  · replace h := h.2 c
    refine jv_aload_n d_S_isStopped_46 rfl rfl ?_
    obtain ⟨q1, h⟩ := h
    refine jv_getI d_S_isStopped_47 fl_S_77 rfl q1 ?_
    refine jv_iload d_S_isStopped_50 rfl ?_
    refine jv_ishr d_S_isStopped_52 ?_
    refine jv_iconst (v := 1) d_S_isStopped_53 (by decide) ?_
    refine jv_iand d_S_isStopped_54 ?_
    refine jv_if_ne (tgt := 81) d_S_isStopped_55 (by decide) ⟨fun c => ?_, fun c => ?_⟩
    · replace h := h.1 c
      refine jv_iconst (v := 0) d_S_isStopped_81 (by decide) ?_
      refine jv_weak (L' := [some (.ref a0), some (.int x1), some (.int x2), none, some (.int x4)]) (by simp [jv_le]) ?_
      exact h
    · replace h := h.2 c
      refine jv_aload_n d_S_isStopped_58 rfl rfl ?_
      obtain ⟨q2, h⟩ := h
      obtain ⟨b3, e4, h⟩ := h
      refine jv_getR d_S_isStopped_59 fl_S_26 rfl q2 e4 ?_
      refine jv_iload d_S_isStopped_62 rfl ?_
      obtain ⟨q5, q6, b7, e8, h⟩ := h
      refine jv_aald (t := 16) d_S_isStopped_64 (by decide) q5 q6 e8 ?_
      refine jv_aload_n d_S_isStopped_65 rfl rfl ?_
      obtain ⟨q9, h⟩ := h
      obtain ⟨b10, e11, h⟩ := h
      refine jv_getR d_S_isStopped_66 fl_S_20 rfl q9 e11 ?_
      refine jv_iload_n d_S_isStopped_69 rfl rfl ?_
      obtain ⟨q12, q13, b14, e15, h⟩ := h
      refine jv_aald (t := 13) d_S_isStopped_70 (by decide) q12 q13 e15 ?_
      obtain ⟨q16, h⟩ := h
      refine jv_invV [.ref b14] [] d_S_isStopped_71 ml_S_208 q16 rfl (Nat.le_of_ble_eq_true rfl) (Nat.zero_add _) (Nat.zero_add _) (jv_Ct.mono h (fun v M18 N18 h => ?_))
      obtain ⟨r17, rfl, h⟩ := h
      change jv_J g (d + 1) mt_S_isStopped 74 [some (.ref a0), some (.int x1), some (.int x2), some (.int x3), some (.int x4)] [.int r17] M18 N18 cr sr Z
      refine jv_if_eq (tgt := 81) d_S_isStopped_74 (by decide) ⟨fun c => ?_, fun c => ?_⟩
      · replace h := h.1 c
        refine jv_iconst (v := 0) d_S_isStopped_81 (by decide) ?_
        refine jv_weak (L' := [some (.ref a0), some (.int x1), some (.int x2), none, some (.int x4)]) (by simp [jv_le]) ?_
        exact h
      · replace h := h.2 c
        refine jv_iconst (v := 1) d_S_isStopped_77 (by decide) ?_
        refine jv_goto (tgt := 82) d_S_isStopped_78 (by decide) ?_
        refine jv_weak (L' := [some (.ref a0), some (.int x1), some (.int x2), none, some (.int x4)]) (by simp [jv_le]) ?_
        exact h
theorem b_S_isStopped_82 {g : jv_G} {d : Nat} {M : jv_Mem} {N cr sr : Nat} {Z : Option Value → jv_Mem → Nat → Prop} {a0 : Nat} {x1 : Int32} {x2 : Int32} {x4 : Int32} {y0 : Int32} (h : jv_Tg 6 a0 N ∧ jv_Ct g d mt_S_isJoined [.ref a0, .int x4] M N 0 0 (fun v M3 N3 => jv_ri v (fun r2 => (r2 ≠ 0 → jv_J g (d + 1) mt_S_isStopped 8 [some (.ref a0), some (.int x1), some (.int x2), some (.int y0), some (.int (x4 + 1))] [] M3 N3 cr sr Z) ∧ (r2 = 0 → (y0 = 0 → jv_J g (d + 1) mt_S_isStopped 8 [some (.ref a0), some (.int x1), some (.int (-9)), some (.int y0), some (.int (x4 + 1))] [] M3 N3 cr sr Z) ∧ (¬ (y0 = 0) → jv_Tg 6 a0 N3 ∧ ∃ b5, Prod.fst (Prod.snd M3) a0 2 = some b5 ∧ jv_Tg 16 b5 N3 ∧ vp_in x2 (jv_sh b5).2 ∧ ∃ b9, Prod.fst (Prod.snd M3) b5 (Int32.toNatClampNeg x2) = some b9 ∧ jv_Tg 8 b9 N3 ∧ jv_Ct g d mt_U_countsDown [.ref b9] M3 N3 0 0 (fun v M13 N13 => jv_ri v (fun r12 => (r12 = 0 → jv_J g (d + 1) mt_S_isStopped 8 [some (.ref a0), some (.int x1), some (.int (-9)), some (.int y0), some (.int (x4 + 1))] [] M13 N13 cr sr Z) ∧ (¬ (r12 = 0) → Z (some (.int 1)) M13 N13)))))))) : jv_J g (d + 1) mt_S_isStopped 82 [some (.ref a0), some (.int x1), some (.int x2), none, some (.int x4)] [.int y0] M N cr sr Z := by
  refine jv_istore_n (L' := [some (.ref a0), some (.int x1), some (.int x2), some (.int y0), some (.int x4)]) d_S_isStopped_82 rfl (Nat.le_of_ble_eq_true rfl) rfl ?_
  refine jv_aload_n d_S_isStopped_83 rfl rfl ?_
  refine jv_iload d_S_isStopped_84 rfl ?_
  obtain ⟨q1, h⟩ := h
  refine jv_invV [.int x4] [] d_S_isStopped_86 ml_S_212 q1 rfl (Nat.le_of_ble_eq_true rfl) (Nat.zero_add _) (Nat.zero_add _) (jv_Ct.mono h (fun v M3 N3 h => ?_))
  obtain ⟨r2, rfl, h⟩ := h
  change jv_J g (d + 1) mt_S_isStopped 89 [some (.ref a0), some (.int x1), some (.int x2), some (.int y0), some (.int x4)] [.int r2] M3 N3 cr sr Z
  refine jv_if_ne (tgt := 113) d_S_isStopped_89 (by decide) ⟨fun c => ?_, fun c => ?_⟩
  · replace h := h.1 c
    refine jv_iinc (v := (x4 + 1)) (L' := [some (.ref a0), some (.int x1), some (.int x2), some (.int y0), some (.int (x4 + 1))]) d_S_isStopped_113 rfl rfl (Nat.le_of_ble_eq_true rfl) rfl ?_
    refine jv_goto (tgt := 8) d_S_isStopped_116 (by decide) ?_
    exact h
  · replace h := h.2 c
    refine jv_iload_n d_S_isStopped_92 rfl rfl ?_
    refine jv_if_eq (tgt := 110) d_S_isStopped_93 (by decide) ⟨fun c => ?_, fun c => ?_⟩
    · replace h := h.1 c
      refine jv_bipush (v := (-9)) d_S_isStopped_110 (by decide) ?_
      refine jv_istore_n (L' := [some (.ref a0), some (.int x1), some (.int (-9)), some (.int y0), some (.int x4)]) d_S_isStopped_112 rfl (Nat.le_of_ble_eq_true rfl) rfl ?_
      refine jv_iinc (v := (x4 + 1)) (L' := [some (.ref a0), some (.int x1), some (.int (-9)), some (.int y0), some (.int (x4 + 1))]) d_S_isStopped_113 rfl rfl (Nat.le_of_ble_eq_true rfl) rfl ?_
      refine jv_goto (tgt := 8) d_S_isStopped_116 (by decide) ?_
      exact h
    · replace h := h.2 c
      refine jv_aload_n d_S_isStopped_96 rfl rfl ?_
      obtain ⟨q4, h⟩ := h
      obtain ⟨b5, e6, h⟩ := h
      refine jv_getR d_S_isStopped_97 fl_S_26 rfl q4 e6 ?_
      refine jv_iload_n d_S_isStopped_100 rfl rfl ?_
      obtain ⟨q7, q8, b9, e10, h⟩ := h
      refine jv_aald (t := 16) d_S_isStopped_101 (by decide) q7 q8 e10 ?_
      obtain ⟨q11, h⟩ := h
      refine jv_invV [] [] d_S_isStopped_102 ml_S_215 q11 rfl (Nat.le_of_ble_eq_true rfl) (Nat.zero_add _) (Nat.zero_add _) (jv_Ct.mono h (fun v M13 N13 h => ?_))
      obtain ⟨r12, rfl, h⟩ := h
      change jv_J g (d + 1) mt_S_isStopped 105 [some (.ref a0), some (.int x1), some (.int x2), some (.int y0), some (.int x4)] [.int r12] M13 N13 cr sr Z
      refine jv_if_eq (tgt := 110) d_S_isStopped_105 (by decide) ⟨fun c => ?_, fun c => ?_⟩
      · replace h := h.1 c
        refine jv_bipush (v := (-9)) d_S_isStopped_110 (by decide) ?_
        refine jv_istore_n (L' := [some (.ref a0), some (.int x1), some (.int (-9)), some (.int y0), some (.int x4)]) d_S_isStopped_112 rfl (Nat.le_of_ble_eq_true rfl) rfl ?_
        refine jv_iinc (v := (x4 + 1)) (L' := [some (.ref a0), some (.int x1), some (.int (-9)), some (.int y0), some (.int (x4 + 1))]) d_S_isStopped_113 rfl rfl (Nat.le_of_ble_eq_true rfl) rfl ?_
        refine jv_goto (tgt := 8) d_S_isStopped_116 (by decide) ?_
        exact h
      · replace h := h.2 c
        refine jv_iconst (v := 1) d_S_isStopped_108 (by decide) ?_
        exact jv_iret d_S_isStopped_109 rfl (jv_nz (by decide)) h
theorem b_S_isJoined_0 {g : jv_G} {d : Nat} {M : jv_Mem} {N cr sr : Nat} {Z : Option Value → jv_Mem → Nat → Prop} {a0 : Nat} {x1 : Int32} (h : jv_Tg 6 a0 N ∧ ∃ b2, Prod.fst (Prod.snd M) a0 2 = some b2 ∧ jv_Tg 16 b2 N ∧ vp_in x1 (jv_sh b2).2 ∧ ∃ b6, Prod.fst (Prod.snd M) b2 (Int32.toNatClampNeg x1) = some b6 ∧ jv_Tg 8 b6 N ∧ ((Prod.fst M b6 6) = 0 → Z (some (.int 0)) M N) ∧ (¬ ((Prod.fst M b6 6) = 0) → jv_Tg 6 a0 N ∧ ((Prod.fst M a0 5) ≤ (x1 + 1) → Z (some (.int 0)) M N) ∧ (¬ ((Prod.fst M a0 5) ≤ (x1 + 1)) → jv_Tg 6 a0 N ∧ ∃ b11, Prod.fst (Prod.snd M) a0 2 = some b11 ∧ jv_Tg 16 b11 N ∧ vp_in (x1 + 1) (jv_sh b11).2 ∧ ∃ b15, Prod.fst (Prod.snd M) b11 (Int32.toNatClampNeg (x1 + 1)) = some b15 ∧ jv_Tg 8 b15 N ∧ jv_Tg 6 a0 N ∧ ∃ b19, Prod.fst (Prod.snd M) a0 2 = some b19 ∧ jv_Tg 16 b19 N ∧ vp_in x1 (jv_sh b19).2 ∧ ∃ b23, Prod.fst (Prod.snd M) b19 (Int32.toNatClampNeg x1) = some b23 ∧ jv_Tg 8 b23 N ∧ ((Prod.fst M b15 0) ≠ (Prod.fst M b23 0) → Z (some (.int 0)) M N) ∧ ((Prod.fst M b15 0) = (Prod.fst M b23 0) → Z (some (.int 1)) M N)))) : jv_J g d mt_S_isJoined 0 [some (.ref a0), some (.int x1)] [] M N cr sr Z := by
  refine jv_aload_n d_S_isJoined_0 rfl rfl ?_
  obtain ⟨q1, h⟩ := h
  obtain ⟨b2, e3, h⟩ := h
  refine jv_getR d_S_isJoined_1 fl_S_26 rfl q1 e3 ?_
  refine jv_iload_n d_S_isJoined_4 rfl rfl ?_
  obtain ⟨q4, q5, b6, e7, h⟩ := h
  refine jv_aald (t := 16) d_S_isJoined_5 (by decide) q4 q5 e7 ?_
  obtain ⟨q8, h⟩ := h
  refine jv_getI d_S_isJoined_6 fl_S_218 rfl q8 ?_
  refine jv_if_eq (tgt := 49) d_S_isJoined_9 (by decide) ⟨fun c => ?_, fun c => ?_⟩
  · replace h := h.1 c
    refine jv_iconst (v := 0) d_S_isJoined_49 (by decide) ?_
    exact jv_iret d_S_isJoined_50 rfl (jv_nz (by decide)) h
  · replace h := h.2 c
    refine jv_iload_n d_S_isJoined_12 rfl rfl ?_
    refine jv_iconst (v := 1) d_S_isJoined_13 (by decide) ?_
    refine jv_iadd d_S_isJoined_14 ?_
    refine jv_aload_n d_S_isJoined_15 rfl rfl ?_
    obtain ⟨q9, h⟩ := h
    refine jv_getI d_S_isJoined_16 fl_S_49 rfl q9 ?_
    refine jv_icmp_ge (tgt := 49) d_S_isJoined_19 (by decide) ⟨fun c => ?_, fun c => ?_⟩
    · replace h := h.1 c
      refine jv_iconst (v := 0) d_S_isJoined_49 (by decide) ?_
      exact jv_iret d_S_isJoined_50 rfl (jv_nz (by decide)) h
    · replace h := h.2 c
      refine jv_aload_n d_S_isJoined_22 rfl rfl ?_
      obtain ⟨q10, h⟩ := h
      obtain ⟨b11, e12, h⟩ := h
      refine jv_getR d_S_isJoined_23 fl_S_26 rfl q10 e12 ?_
      refine jv_iload_n d_S_isJoined_26 rfl rfl ?_
      refine jv_iconst (v := 1) d_S_isJoined_27 (by decide) ?_
      refine jv_iadd d_S_isJoined_28 ?_
      obtain ⟨q13, q14, b15, e16, h⟩ := h
      refine jv_aald (t := 16) d_S_isJoined_29 (by decide) q13 q14 e16 ?_
      obtain ⟨q17, h⟩ := h
      refine jv_getI d_S_isJoined_30 fl_S_58 rfl q17 ?_
      refine jv_aload_n d_S_isJoined_33 rfl rfl ?_
      obtain ⟨q18, h⟩ := h
      obtain ⟨b19, e20, h⟩ := h
      refine jv_getR d_S_isJoined_34 fl_S_26 rfl q18 e20 ?_
      refine jv_iload_n d_S_isJoined_37 rfl rfl ?_
      obtain ⟨q21, q22, b23, e24, h⟩ := h
      refine jv_aald (t := 16) d_S_isJoined_38 (by decide) q21 q22 e24 ?_
      obtain ⟨q25, h⟩ := h
      refine jv_getI d_S_isJoined_39 fl_S_58 rfl q25 ?_
      refine jv_icmp_ne (tgt := 49) d_S_isJoined_42 (by decide) ⟨fun c => ?_, fun c => ?_⟩
      · replace h := h.1 c
        refine jv_iconst (v := 0) d_S_isJoined_49 (by decide) ?_
        exact jv_iret d_S_isJoined_50 rfl (jv_nz (by decide)) h
      · replace h := h.2 c
        refine jv_iconst (v := 1) d_S_isJoined_45 (by decide) ?_
        refine jv_goto (tgt := 50) d_S_isJoined_46 (by decide) ?_
        exact jv_iret d_S_isJoined_50 rfl (jv_nz (by decide)) h
theorem b_S_spreadHalts_0 {g : jv_G} {d : Nat} {M : jv_Mem} {N cr sr : Nat} {Z : Option Value → jv_Mem → Nat → Prop} {a0 : Nat} {x1 : Int32} (h : jv_J g (d + 1) mt_S_spreadHalts 4 [some (.ref a0), some (.int x1), some (.int 0), some (.int 0)] [] M N cr sr Z) : jv_J g (d + 1) mt_S_spreadHalts 0 [some (.ref a0), some (.int x1), none, none] [] M N cr sr Z := by
  refine jv_iconst (v := 0) d_S_spreadHalts_0 (by decide) ?_
  refine jv_istore_n (L' := [some (.ref a0), some (.int x1), some (.int 0), none]) d_S_spreadHalts_1 rfl (Nat.le_of_ble_eq_true rfl) rfl ?_
  refine jv_iconst (v := 0) d_S_spreadHalts_2 (by decide) ?_
  refine jv_istore_n (L' := [some (.ref a0), some (.int x1), some (.int 0), some (.int 0)]) d_S_spreadHalts_3 rfl (Nat.le_of_ble_eq_true rfl) rfl ?_
  exact h
theorem b_S_spreadHalts_4 {g : jv_G} {d : Nat} {M : jv_Mem} {N cr sr : Nat} {Z : Option Value → jv_Mem → Nat → Prop} {a0 : Nat} {x1 : Int32} {x2 : Int32} {x3 : Int32} (h : jv_Tg 6 a0 N ∧ ((Prod.fst M a0 4) ≤ x3 → jv_J g (d + 1) mt_S_spreadHalts 42 [some (.ref a0), none, some (.int x2), some (.int 0)] [] M N cr sr Z) ∧ (¬ ((Prod.fst M a0 4) ≤ x3) → (((x1 >>> (x3 &&& 31)) &&& 1) = 0 → jv_J g (d + 1) mt_S_spreadHalts 4 [some (.ref a0), some (.int x1), some (.int x2), some (.int (x3 + 1))] [] M N cr sr Z) ∧ (¬ (((x1 >>> (x3 &&& 31)) &&& 1) = 0) → jv_Tg 6 a0 N ∧ ∃ b3, Prod.fst (Prod.snd M) a0 1 = some b3 ∧ jv_Tg 13 b3 N ∧ vp_in x3 (jv_sh b3).2 ∧ ∃ b7, Prod.fst (Prod.snd M) b3 (Int32.toNatClampNeg x3) = some b7 ∧ jv_Tg 1 b7 N ∧ jv_J g (d + 1) mt_S_spreadHalts 4 [some (.ref a0), some (.int x1), some (.int (x2 ||| (1 <<< ((Prod.fst M b7 2) &&& 31)))), some (.int (x3 + 1))] [] M N cr sr Z))) : jv_J g (d + 1) mt_S_spreadHalts 4 [some (.ref a0), some (.int x1), some (.int x2), some (.int x3)] [] M N cr sr Z := by
  refine jv_iload_n d_S_spreadHalts_4 rfl rfl ?_
  refine jv_aload_n d_S_spreadHalts_5 rfl rfl ?_
  obtain ⟨q1, h⟩ := h
  refine jv_getI d_S_spreadHalts_6 fl_S_36 rfl q1 ?_
  refine jv_icmp_ge (tgt := 40) d_S_spreadHalts_9 (by decide) ⟨fun c => ?_, fun c => ?_⟩
  · replace h := h.1 c
    refine jv_iconst (v := 0) d_S_spreadHalts_40 (by decide) ?_
    refine jv_istore_n (L' := [some (.ref a0), some (.int x1), some (.int x2), some (.int 0)]) d_S_spreadHalts_41 rfl (Nat.le_of_ble_eq_true rfl) rfl ?_
    refine jv_weak (L' := [some (.ref a0), none, some (.int x2), some (.int 0)]) (by simp [jv_le]) ?_
    exact h
  · replace h := h.2 c
    refine jv_iload_n d_S_spreadHalts_12 rfl rfl ?_
    refine jv_iload_n d_S_spreadHalts_13 rfl rfl ?_
    refine jv_ishr d_S_spreadHalts_14 ?_
    refine jv_iconst (v := 1) d_S_spreadHalts_15 (by decide) ?_
    refine jv_iand d_S_spreadHalts_16 ?_
    refine jv_if_eq (tgt := 34) d_S_spreadHalts_17 (by decide) ⟨fun c => ?_, fun c => ?_⟩
    · replace h := h.1 c
      refine jv_iinc (v := (x3 + 1)) (L' := [some (.ref a0), some (.int x1), some (.int x2), some (.int (x3 + 1))]) d_S_spreadHalts_34 rfl rfl (Nat.le_of_ble_eq_true rfl) rfl ?_
      refine jv_goto (tgt := 4) d_S_spreadHalts_37 (by decide) ?_
      exact h
    · replace h := h.2 c
      refine jv_iload_n d_S_spreadHalts_20 rfl rfl ?_
      refine jv_iconst (v := 1) d_S_spreadHalts_21 (by decide) ?_
      refine jv_aload_n d_S_spreadHalts_22 rfl rfl ?_
      obtain ⟨q2, h⟩ := h
      obtain ⟨b3, e4, h⟩ := h
      refine jv_getR d_S_spreadHalts_23 fl_S_20 rfl q2 e4 ?_
      refine jv_iload_n d_S_spreadHalts_26 rfl rfl ?_
      obtain ⟨q5, q6, b7, e8, h⟩ := h
      refine jv_aald (t := 13) d_S_spreadHalts_27 (by decide) q5 q6 e8 ?_
      obtain ⟨q9, h⟩ := h
      refine jv_getI d_S_spreadHalts_28 fl_S_43 rfl q9 ?_
      refine jv_ishl d_S_spreadHalts_31 ?_
      refine jv_ior d_S_spreadHalts_32 ?_
      refine jv_istore_n (L' := [some (.ref a0), some (.int x1), some (.int (x2 ||| (1 <<< ((Prod.fst M b7 2) &&& 31)))), some (.int x3)]) d_S_spreadHalts_33 rfl (Nat.le_of_ble_eq_true rfl) rfl ?_
      refine jv_iinc (v := (x3 + 1)) (L' := [some (.ref a0), some (.int x1), some (.int (x2 ||| (1 <<< ((Prod.fst M b7 2) &&& 31)))), some (.int (x3 + 1))]) d_S_spreadHalts_34 rfl rfl (Nat.le_of_ble_eq_true rfl) rfl ?_
      refine jv_goto (tgt := 4) d_S_spreadHalts_37 (by decide) ?_
      exact h
theorem b_S_spreadHalts_42 {g : jv_G} {d : Nat} {M : jv_Mem} {N cr sr : Nat} {Z : Option Value → jv_Mem → Nat → Prop} {a0 : Nat} {x2 : Int32} {x3 : Int32} (h : jv_Tg 6 a0 N ∧ ((Prod.fst M a0 4) ≤ x3 → Z none M N) ∧ (¬ ((Prod.fst M a0 4) ≤ x3) → jv_Tg 6 a0 N ∧ ∃ b3, Prod.fst (Prod.snd M) a0 1 = some b3 ∧ jv_Tg 13 b3 N ∧ vp_in x3 (jv_sh b3).2 ∧ ∃ b7, Prod.fst (Prod.snd M) b3 (Int32.toNatClampNeg x3) = some b7 ∧ jv_Tg 1 b7 N ∧ ((Prod.fst M b7 2) = 0 → jv_J g (d + 1) mt_S_spreadHalts 42 [some (.ref a0), none, some (.int x2), some (.int (x3 + 1))] [] M N cr sr Z) ∧ (¬ ((Prod.fst M b7 2) = 0) → jv_Tg 6 a0 N ∧ ∃ b11, Prod.fst (Prod.snd M) a0 1 = some b11 ∧ jv_Tg 13 b11 N ∧ vp_in x3 (jv_sh b11).2 ∧ ∃ b15, Prod.fst (Prod.snd M) b11 (Int32.toNatClampNeg x3) = some b15 ∧ jv_Tg 1 b15 N ∧ (((x2 >>> ((Prod.fst M b15 2) &&& 31)) &&& 1) = 0 → jv_J g (d + 1) mt_S_spreadHalts 42 [some (.ref a0), none, some (.int x2), some (.int (x3 + 1))] [] M N cr sr Z) ∧ (¬ (((x2 >>> ((Prod.fst M b15 2) &&& 31)) &&& 1) = 0) → jv_Tg 6 a0 N ∧ ∃ b19, Prod.fst (Prod.snd M) a0 1 = some b19 ∧ jv_Tg 13 b19 N ∧ vp_in x3 (jv_sh b19).2 ∧ ∃ b23, Prod.fst (Prod.snd M) b19 (Int32.toNatClampNeg x3) = some b23 ∧ jv_Tg 1 b23 N ∧ jv_Ct g d mt_H_halt [.ref b23, .int 4] M N 0 0 (fun v M27 N27 => jv_rv v (jv_J g (d + 1) mt_S_spreadHalts 42 [some (.ref a0), none, some (.int x2), some (.int (x3 + 1))] [] M27 N27 cr sr Z)))))) : jv_J g (d + 1) mt_S_spreadHalts 42 [some (.ref a0), none, some (.int x2), some (.int x3)] [] M N cr sr Z := by
  refine jv_iload_n d_S_spreadHalts_42 rfl rfl ?_
  refine jv_aload_n d_S_spreadHalts_43 rfl rfl ?_
  obtain ⟨q1, h⟩ := h
  refine jv_getI d_S_spreadHalts_44 fl_S_36 rfl q1 ?_
  refine jv_icmp_ge (tgt := 94) d_S_spreadHalts_47 (by decide) ⟨fun c => ?_, fun c => ?_⟩
  · replace h := h.1 c
    exact jv_ret d_S_spreadHalts_94 rfl h
  · replace h := h.2 c
    refine jv_aload_n d_S_spreadHalts_50 rfl rfl ?_
    obtain ⟨q2, h⟩ := h
    obtain ⟨b3, e4, h⟩ := h
    refine jv_getR d_S_spreadHalts_51 fl_S_20 rfl q2 e4 ?_
    refine jv_iload_n d_S_spreadHalts_54 rfl rfl ?_
    obtain ⟨q5, q6, b7, e8, h⟩ := h
    refine jv_aald (t := 13) d_S_spreadHalts_55 (by decide) q5 q6 e8 ?_
    obtain ⟨q9, h⟩ := h
    refine jv_getI d_S_spreadHalts_56 fl_S_43 rfl q9 ?_
    refine jv_if_eq (tgt := 88) d_S_spreadHalts_59 (by decide) ⟨fun c => ?_, fun c => ?_⟩
    · replace h := h.1 c
      refine jv_iinc (v := (x3 + 1)) (L' := [some (.ref a0), none, some (.int x2), some (.int (x3 + 1))]) d_S_spreadHalts_88 rfl rfl (Nat.le_of_ble_eq_true rfl) rfl ?_
      refine jv_goto (tgt := 42) d_S_spreadHalts_91 (by decide) ?_
      exact h
    · replace h := h.2 c
      refine jv_iload_n d_S_spreadHalts_62 rfl rfl ?_
      refine jv_aload_n d_S_spreadHalts_63 rfl rfl ?_
      obtain ⟨q10, h⟩ := h
      obtain ⟨b11, e12, h⟩ := h
      refine jv_getR d_S_spreadHalts_64 fl_S_20 rfl q10 e12 ?_
      refine jv_iload_n d_S_spreadHalts_67 rfl rfl ?_
      obtain ⟨q13, q14, b15, e16, h⟩ := h
      refine jv_aald (t := 13) d_S_spreadHalts_68 (by decide) q13 q14 e16 ?_
      obtain ⟨q17, h⟩ := h
      refine jv_getI d_S_spreadHalts_69 fl_S_43 rfl q17 ?_
      refine jv_ishr d_S_spreadHalts_72 ?_
      refine jv_iconst (v := 1) d_S_spreadHalts_73 (by decide) ?_
      refine jv_iand d_S_spreadHalts_74 ?_
      refine jv_if_eq (tgt := 88) d_S_spreadHalts_75 (by decide) ⟨fun c => ?_, fun c => ?_⟩
      · replace h := h.1 c
        refine jv_iinc (v := (x3 + 1)) (L' := [some (.ref a0), none, some (.int x2), some (.int (x3 + 1))]) d_S_spreadHalts_88 rfl rfl (Nat.le_of_ble_eq_true rfl) rfl ?_
        refine jv_goto (tgt := 42) d_S_spreadHalts_91 (by decide) ?_
        exact h
      · replace h := h.2 c
        refine jv_aload_n d_S_spreadHalts_78 rfl rfl ?_
        obtain ⟨q18, h⟩ := h
        obtain ⟨b19, e20, h⟩ := h
        refine jv_getR d_S_spreadHalts_79 fl_S_20 rfl q18 e20 ?_
        refine jv_iload_n d_S_spreadHalts_82 rfl rfl ?_
        obtain ⟨q21, q22, b23, e24, h⟩ := h
        refine jv_aald (t := 13) d_S_spreadHalts_83 (by decide) q21 q22 e24 ?_
        refine jv_iconst (v := 4) d_S_spreadHalts_84 (by decide) ?_
        obtain ⟨q25, h⟩ := h
        refine jv_invV [.int 4] [] d_S_spreadHalts_85 ml_S_147 q25 rfl (Nat.le_of_ble_eq_true rfl) (Nat.zero_add _) (Nat.zero_add _) (jv_Ct.mono h (fun v M27 N27 h => ?_))
        obtain ⟨rfl, h⟩ := h
        change jv_J g (d + 1) mt_S_spreadHalts 88 [some (.ref a0), none, some (.int x2), some (.int x3)] [] M27 N27 cr sr Z
        refine jv_iinc (v := (x3 + 1)) (L' := [some (.ref a0), none, some (.int x2), some (.int (x3 + 1))]) d_S_spreadHalts_88 rfl rfl (Nat.le_of_ble_eq_true rfl) rfl ?_
        refine jv_goto (tgt := 42) d_S_spreadHalts_91 (by decide) ?_
        exact h
theorem b_S_wakeAll_0 {g : jv_G} {d : Nat} {M : jv_Mem} {N cr sr : Nat} {Z : Option Value → jv_Mem → Nat → Prop} {a0 : Nat} (h : jv_J g (d + 1) mt_S_wakeAll 2 [some (.ref a0), some (.int 0)] [] M N cr sr Z) : jv_J g (d + 1) mt_S_wakeAll 0 [some (.ref a0), none] [] M N cr sr Z := by
  refine jv_iconst (v := 0) d_S_wakeAll_0 (by decide) ?_
  refine jv_istore_n (L' := [some (.ref a0), some (.int 0)]) d_S_wakeAll_1 rfl (Nat.le_of_ble_eq_true rfl) rfl ?_
  exact h
theorem b_S_wakeAll_2 {g : jv_G} {d : Nat} {M : jv_Mem} {N cr sr : Nat} {Z : Option Value → jv_Mem → Nat → Prop} {a0 : Nat} {x1 : Int32} (h : jv_Tg 6 a0 N ∧ ((Prod.fst M a0 4) ≤ x1 → Z none M N) ∧ (¬ ((Prod.fst M a0 4) ≤ x1) → jv_Tg 6 a0 N ∧ ∃ b3, Prod.fst (Prod.snd M) a0 1 = some b3 ∧ jv_Tg 13 b3 N ∧ vp_in x1 (jv_sh b3).2 ∧ ∃ b7, Prod.fst (Prod.snd M) b3 (Int32.toNatClampNeg x1) = some b7 ∧ jv_Tg 1 b7 N ∧ jv_Ct g d mt_H_wake [.ref b7] M N 0 0 (fun v M11 N11 => jv_rv v (jv_J g (d + 1) mt_S_wakeAll 2 [some (.ref a0), some (.int (x1 + 1))] [] M11 N11 cr sr Z)))) : jv_J g (d + 1) mt_S_wakeAll 2 [some (.ref a0), some (.int x1)] [] M N cr sr Z := by
  refine jv_iload_n d_S_wakeAll_2 rfl rfl ?_
  refine jv_aload_n d_S_wakeAll_3 rfl rfl ?_
  obtain ⟨q1, h⟩ := h
  refine jv_getI d_S_wakeAll_4 fl_S_36 rfl q1 ?_
  refine jv_icmp_ge (tgt := 25) d_S_wakeAll_7 (by decide) ⟨fun c => ?_, fun c => ?_⟩
  · replace h := h.1 c
    exact jv_ret d_S_wakeAll_25 rfl h
  · replace h := h.2 c
    refine jv_aload_n d_S_wakeAll_10 rfl rfl ?_
    obtain ⟨q2, h⟩ := h
    obtain ⟨b3, e4, h⟩ := h
    refine jv_getR d_S_wakeAll_11 fl_S_20 rfl q2 e4 ?_
    refine jv_iload_n d_S_wakeAll_14 rfl rfl ?_
    obtain ⟨q5, q6, b7, e8, h⟩ := h
    refine jv_aald (t := 13) d_S_wakeAll_15 (by decide) q5 q6 e8 ?_
    obtain ⟨q9, h⟩ := h
    refine jv_invV [] [] d_S_wakeAll_16 ml_S_221 q9 rfl (Nat.le_of_ble_eq_true rfl) (Nat.zero_add _) (Nat.zero_add _) (jv_Ct.mono h (fun v M11 N11 h => ?_))
    obtain ⟨rfl, h⟩ := h
    change jv_J g (d + 1) mt_S_wakeAll 19 [some (.ref a0), some (.int x1)] [] M11 N11 cr sr Z
    refine jv_iinc (v := (x1 + 1)) (L' := [some (.ref a0), some (.int (x1 + 1))]) d_S_wakeAll_19 rfl rfl (Nat.le_of_ble_eq_true rfl) rfl ?_
    refine jv_goto (tgt := 2) d_S_wakeAll_22 (by decide) ?_
    exact h
theorem b_S_haltedCount_0 {g : jv_G} {d : Nat} {M : jv_Mem} {N cr sr : Nat} {Z : Option Value → jv_Mem → Nat → Prop} {a0 : Nat} (h : jv_Tg 6 a0 N ∧ jv_Ct g d mt_S_haltedSet [.ref a0] M N 0 0 (fun v M3 N3 => jv_ri v (fun r2 => jv_Ct g d mt_JI_bitCount [.int r2] M3 N3 0 0 (fun v M5 N5 => jv_ri v (fun r4 => Z (some (.int r4)) M5 N5))))) : jv_J g (d + 1) mt_S_haltedCount 0 [some (.ref a0)] [] M N cr sr Z := by
  refine jv_aload_n d_S_haltedCount_0 rfl rfl ?_
  obtain ⟨q1, h⟩ := h
  refine jv_invV [] [] d_S_haltedCount_1 ml_S_83 q1 rfl (Nat.le_of_ble_eq_true rfl) (Nat.zero_add _) (Nat.zero_add _) (jv_Ct.mono h (fun v M3 N3 h => ?_))
  obtain ⟨r2, rfl, h⟩ := h
  change jv_J g (d + 1) mt_S_haltedCount 4 [some (.ref a0)] [.int r2] M3 N3 cr sr Z
  refine jv_invS [.int r2] [] d_S_haltedCount_4 ml_S_87 rfl (Nat.le_of_ble_eq_true rfl) (Nat.zero_add _) (Nat.zero_add _) (jv_Ct.mono h (fun v M5 N5 h => ?_))
  obtain ⟨r4, rfl, h⟩ := h
  change jv_J g (d + 1) mt_S_haltedCount 7 [some (.ref a0)] [.int r4] M5 N5 cr sr Z
  exact jv_iret d_S_haltedCount_7 rfl rfl h
theorem b_S_everyHart_0 {g : jv_G} {d : Nat} {M : jv_Mem} {N cr sr : Nat} {Z : Option Value → jv_Mem → Nat → Prop} {a0 : Nat} (h : jv_Tg 6 a0 N ∧ Z (some (.int ((1 <<< ((Prod.fst M a0 4) &&& 31)) - 1))) M N) : jv_J g d mt_S_everyHart 0 [some (.ref a0)] [] M N cr sr Z := by
  refine jv_iconst (v := 1) d_S_everyHart_0 (by decide) ?_
  refine jv_aload_n d_S_everyHart_1 rfl rfl ?_
  obtain ⟨q1, h⟩ := h
  refine jv_getI d_S_everyHart_2 fl_S_36 rfl q1 ?_
  refine jv_ishl d_S_everyHart_5 ?_
  refine jv_iconst (v := 1) d_S_everyHart_6 (by decide) ?_
  refine jv_isub d_S_everyHart_7 ?_
  exact jv_iret d_S_everyHart_8 rfl rfl h
