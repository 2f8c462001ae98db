/-! ===== blocks ===== -/
theorem b_T_init_0 {g : jv_G} {d : Nat} {M : jv_Mem} {N cr sr : Nat} {Z : Option Value → jv_Mem → Nat → Prop} {a0 : Nat} (h : jv_sh N = (11, 150) ∧ 1 ≤ cr ∧ 150 ≤ sr ∧ jv_Tg 7 a0 (N + 1) ∧ jv_sh (N + 1) = (4, 4) ∧ 1 ≤ (cr - 1) ∧ 4 ≤ (sr - 150) ∧ ∃ c9 s10 : Nat, c9 ≤ ((cr - 1) - 1) ∧ s10 ≤ ((sr - 150) - 4) ∧ jv_Ct g d mt_P_init [.ref (N + 1)] (jv_zero (jv_sr (jv_zero M N) a0 0 (some N)) (N + 1)) ((N + 1) + 1) c9 s10 (fun v M13 N13 => jv_rv v (jv_Tg 7 a0 N13 ∧ jv_sh N13 = (6, 8) ∧ 1 ≤ (((cr - 1) - 1) - c9) ∧ 8 ≤ (((sr - 150) - 4) - s10) ∧ ∃ c19 s20 : Nat, c19 ≤ ((((cr - 1) - 1) - c9) - 1) ∧ s20 ≤ ((((sr - 150) - 4) - s10) - 8) ∧ jv_Ct g d mt_S_init [.ref N13] (jv_zero (jv_sr M13 a0 2 (some (N + 1))) N13) (N13 + 1) c19 s20 (fun v M23 N23 => jv_rv v (jv_Tg 7 a0 N23 ∧ Z none (jv_sr M23 a0 3 (some N13)) N23))))) : jv_J g (d + 1) mt_T_init 0 [some (.ref a0)] [] M N cr sr Z := by
  refine jv_aload_n d_T_init_0 rfl rfl ?_
  refine jv_objI d_T_init_1 oi_T_3 oi_w2 oi_w3 (Nat.le_of_ble_eq_true rfl) ?_
  refine jv_aload_n d_T_init_4 rfl rfl ?_
  refine jv_sipush (v := 150) d_T_init_5 (by decide) ?_
  obtain ⟨q1, q2, q3, h⟩ := h
  refine jv_newI (n := 150) d_T_init_8 arr_int (by decide) (by decide) (by decide) q1 (Nat.sub_add_cancel q2) (Nat.sub_add_cancel q3) ?_
  obtain ⟨q4, h⟩ := h
  refine jv_putR d_T_init_10 fl_T_9 rfl (fun r hr => by cases hr; exact Or.inr ⟨rfl, rfl, rfl⟩) q4 ?_
  refine jv_aload_n d_T_init_13 rfl rfl ?_
  obtain ⟨q5, q6, q7, h⟩ := h
  refine jv_new (t := 4) (n := 4) _ d_T_init_14 rfl rfl cl_T_15 ins_P ini_P q5 (Nat.sub_add_cancel q6) (Nat.sub_add_cancel q7) ?_
  refine jv_dup d_T_init_17 rfl ?_
  obtain ⟨c9, s10, q11, q12, h⟩ := h
  refine jv_invIN [] [.ref (N + 1), .ref a0] d_T_init_18 ml_T_17 rfl (Nat.le_of_ble_eq_true rfl) (Nat.add_sub_cancel' q11) (Nat.add_sub_cancel' q12) (jv_Ct.mono h (fun v M13 N13 h => ?_))
  obtain ⟨rfl, h⟩ := h
  change jv_J g (d + 1) mt_T_init 21 [some (.ref a0)] [.ref (N + 1), .ref a0] M13 N13 (((cr - 1) - 1) - c9) (((sr - 150) - 4) - s10) Z
  obtain ⟨q14, h⟩ := h
  refine jv_putR d_T_init_21 fl_T_18 rfl (fun r hr => by cases hr; exact Or.inr ⟨rfl, rfl, rfl⟩) q14 ?_
  refine jv_aload_n d_T_init_24 rfl rfl ?_
  obtain ⟨q15, q16, q17, h⟩ := h
  refine jv_new (t := 6) (n := 8) _ d_T_init_25 rfl rfl cl_T_22 ins_S ini_S q15 (Nat.sub_add_cancel q16) (Nat.sub_add_cancel q17) ?_
  refine jv_dup d_T_init_28 rfl ?_
  obtain ⟨c19, s20, q21, q22, h⟩ := h
  refine jv_invI [] [.ref N13, .ref a0] d_T_init_29 ml_T_24 rfl (Nat.le_of_ble_eq_true rfl) (Nat.add_sub_cancel' q21) (Nat.add_sub_cancel' q22) (jv_Ct.mono h (fun v M23 N23 h => ?_))
  obtain ⟨rfl, h⟩ := h
  change jv_J g (d + 1) mt_T_init 32 [some (.ref a0)] [.ref N13, .ref a0] M23 N23 (((((cr - 1) - 1) - c9) - 1) - c19) (((((sr - 150) - 4) - s10) - 8) - s20) Z
  obtain ⟨q24, h⟩ := h
  refine jv_putR d_T_init_32 fl_T_25 rfl (fun r hr => by cases hr; exact Or.inr ⟨rfl, rfl, rfl⟩) q24 ?_
  exact jv_ret d_T_init_35 rfl h
theorem b_T_append_0 {g : jv_G} {d : Nat} {M : jv_Mem} {N cr sr : Nat} {Z : Option Value → jv_Mem → Nat → Prop} {a0 : Nat} {x1 : Int32} (h : jv_Tg 7 a0 N ∧ ((Prod.fst M a0 1) < 150 → jv_Tg 7 a0 N ∧ ∃ b3, Prod.fst (Prod.snd M) a0 0 = some b3 ∧ jv_Tg 7 a0 N ∧ jv_Tg 11 b3 N ∧ vp_in (Prod.fst M a0 1) (jv_sh b3).2 ∧ jv_Tg 7 a0 N ∧ jv_Tg 7 a0 N ∧ Z (some (.int 1)) (jv_si (jv_si M b3 (Int32.toNatClampNeg (Prod.fst M a0 1)) x1) a0 1 ((Prod.fst (jv_si M b3 (Int32.toNatClampNeg (Prod.fst M a0 1)) x1) a0 1) + 1)) N) ∧ (¬ ((Prod.fst M a0 1) < 150) → Z (some (.int 0)) M N)) : jv_J g d mt_T_append 0 [some (.ref a0), some (.int x1)] [] M N cr sr Z := by
  refine jv_aload_n d_T_append_0 rfl rfl ?_
  obtain ⟨q1, h⟩ := h
  refine jv_getI d_T_append_1 fl_T_29 rfl q1 ?_
  refine jv_sipush (v := 150) d_T_append_4 (by decide) ?_
  refine jv_icmp_lt (tgt := 12) d_T_append_7 (by decide) ⟨fun c => ?_, fun c => ?_⟩
  · replace h := h.1 c
    refine jv_aload_n d_T_append_12 rfl rfl ?_
    obtain ⟨q2, h⟩ := h
    obtain ⟨b3, e4, h⟩ := h
    refine jv_getR d_T_append_13 fl_T_9 rfl q2 e4 ?_
    refine jv_aload_n d_T_append_16 rfl rfl ?_
    obtain ⟨q5, h⟩ := h
    refine jv_getI d_T_append_17 fl_T_29 rfl q5 ?_
    refine jv_iload_n d_T_append_20 rfl rfl ?_
    obtain ⟨q6, q7, h⟩ := h
    refine jv_iast d_T_append_21 q6 q7 ?_
    refine jv_aload_n d_T_append_22 rfl rfl ?_
    refine jv_dup d_T_append_23 rfl ?_
    obtain ⟨q8, h⟩ := h
    refine jv_getI d_T_append_24 fl_T_29 rfl q8 ?_
    refine jv_iconst (v := 1) d_T_append_27 (by decide) ?_
    refine jv_iadd d_T_append_28 ?_
    obtain ⟨q9, h⟩ := h
    refine jv_putI d_T_append_29 fl_T_29 (fun r hr => by cases hr; rfl) rfl q9 ?_
    refine jv_iconst (v := 1) d_T_append_32 (by decide) ?_
    exact jv_iret d_T_append_33 rfl (jv_nz (by decide)) h
  · replace h := h.2 c
    refine jv_iconst (v := 0) d_T_append_10 (by decide) ?_
    exact jv_iret d_T_append_11 rfl (jv_nz (by decide)) h
theorem b_T_findFault_0 {g : jv_G} {d : Nat} {M : jv_Mem} {N cr sr : Nat} {Z : Option Value → jv_Mem → Nat → Prop} {a0 : Nat} (h : jv_Tg 7 a0 N ∧ jv_Tg 7 a0 N ∧ jv_Tg 7 a0 N ∧ ∃ b4, Prod.fst (Prod.snd (jv_si (jv_si M a0 4 0) a0 5 0)) a0 2 = some b4 ∧ jv_Tg 4 b4 N ∧ jv_Tg 7 a0 N ∧ ∃ b8, Prod.fst (Prod.snd (jv_si (jv_si (jv_si M a0 4 0) a0 5 0) b4 3 0)) a0 3 = some b8 ∧ jv_Tg 6 b8 N ∧ jv_Tg 7 a0 N ∧ ∃ b12, Prod.fst (Prod.snd (jv_si (jv_si (jv_si (jv_si M a0 4 0) a0 5 0) b4 3 0) b8 4 0)) a0 3 = some b12 ∧ jv_Tg 6 b12 N ∧ jv_Tg 7 a0 N ∧ jv_Ct g d mt_T_take [.ref a0, .int 82, .int 1] (jv_si (jv_si (jv_si (jv_si (jv_si M a0 4 0) a0 5 0) b4 3 0) b8 4 0) b12 5 0) N 0 0 (fun v M17 N17 => jv_ri v (fun r16 => jv_J g (d + 1) mt_T_findFault 44 [some (.ref a0), some (.int 0)] [] M17 N17 cr sr Z))) : jv_J g (d + 1) mt_T_findFault 0 [some (.ref a0), none] [] M N cr sr Z := by
  refine jv_aload_n d_T_findFault_0 rfl rfl ?_
  refine jv_iconst (v := 0) d_T_findFault_1 (by decide) ?_
  obtain ⟨q1, h⟩ := h
  refine jv_putI d_T_findFault_2 fl_T_33 (fun r hr => by cases hr; rfl) rfl q1 ?_
  refine jv_aload_n d_T_findFault_5 rfl rfl ?_
  refine jv_iconst (v := 0) d_T_findFault_6 (by decide) ?_
  obtain ⟨q2, h⟩ := h
  refine jv_putZ d_T_findFault_7 fl_T_36 (fun r hr => by cases hr; rfl) rfl q2 (by decide) ?_
  refine jv_aload_n d_T_findFault_10 rfl rfl ?_
  obtain ⟨q3, h⟩ := h
  obtain ⟨b4, e5, h⟩ := h
  refine jv_getR d_T_findFault_11 fl_T_18 rfl q3 e5 ?_
  refine jv_iconst (v := 0) d_T_findFault_14 (by decide) ?_
  obtain ⟨q6, h⟩ := h
  refine jv_putI d_T_findFault_15 fl_T_40 (fun r hr => by cases hr; rfl) rfl q6 ?_
  refine jv_aload_n d_T_findFault_18 rfl rfl ?_
  obtain ⟨q7, h⟩ := h
  obtain ⟨b8, e9, h⟩ := h
  refine jv_getR d_T_findFault_19 fl_T_25 rfl q7 e9 ?_
  refine jv_iconst (v := 0) d_T_findFault_22 (by decide) ?_
  obtain ⟨q10, h⟩ := h
  refine jv_putI d_T_findFault_23 fl_T_41 (fun r hr => by cases hr; rfl) rfl q10 ?_
  refine jv_aload_n d_T_findFault_26 rfl rfl ?_
  obtain ⟨q11, h⟩ := h
  obtain ⟨b12, e13, h⟩ := h
  refine jv_getR d_T_findFault_27 fl_T_25 rfl q11 e13 ?_
  refine jv_iconst (v := 0) d_T_findFault_30 (by decide) ?_
  obtain ⟨q14, h⟩ := h
  refine jv_putI d_T_findFault_31 fl_T_44 (fun r hr => by cases hr; rfl) rfl q14 ?_
  refine jv_aload_n d_T_findFault_34 rfl rfl ?_
  refine jv_bipush (v := 82) d_T_findFault_35 (by decide) ?_
  refine jv_iconst (v := 1) d_T_findFault_37 (by decide) ?_
  obtain ⟨q15, h⟩ := h
  refine jv_invV [.int 82, .int 1] [] d_T_findFault_38 ml_T_47 q15 rfl (Nat.le_of_ble_eq_true rfl) (Nat.zero_add _) (Nat.zero_add _) (jv_Ct.mono h (fun v M17 N17 h => ?_))
  obtain ⟨r16, rfl, h⟩ := h
  change jv_J g (d + 1) mt_T_findFault 41 [some (.ref a0), none] [.int r16] M17 N17 cr sr Z
  refine jv_pop d_T_findFault_41 rfl ?_
  refine jv_iconst (v := 0) d_T_findFault_42 (by decide) ?_
  refine jv_istore_n (L' := [some (.ref a0), some (.int 0)]) d_T_findFault_43 rfl (Nat.le_of_ble_eq_true rfl) rfl ?_
  exact h
theorem b_T_findFault_44 {g : jv_G} {d : Nat} {M : jv_Mem} {N cr sr : Nat} {Z : Option Value → jv_Mem → Nat → Prop} {a0 : Nat} {x1 : Int32} (h : (150 ≤ x1 → jv_Tg 7 a0 N ∧ ((Prod.fst M a0 5) = 0 → Z (some (.int (-9))) M N) ∧ (¬ ((Prod.fst M a0 5) = 0) → jv_Tg 7 a0 N ∧ Z (some (.int (Prod.fst M a0 4))) M N)) ∧ (¬ (150 ≤ x1) → jv_Tg 7 a0 N ∧ ((Prod.fst M a0 5) ≠ 0 → jv_Tg 7 a0 N ∧ ((Prod.fst M a0 5) = 0 → Z (some (.int (-9))) M N) ∧ (¬ ((Prod.fst M a0 5) = 0) → jv_Tg 7 a0 N ∧ Z (some (.int (Prod.fst M a0 4))) M N)) ∧ ((Prod.fst M a0 5) = 0 → jv_Tg 7 a0 N ∧ jv_Tg 7 a0 N ∧ ((Prod.fst M a0 1) ≤ (Prod.fst M a0 4) → jv_Tg 7 a0 N ∧ ((Prod.fst M a0 5) = 0 → Z (some (.int (-9))) M N) ∧ (¬ ((Prod.fst M a0 5) = 0) → jv_Tg 7 a0 N ∧ Z (some (.int (Prod.fst M a0 4))) M N)) ∧ (¬ ((Prod.fst M a0 1) ≤ (Prod.fst M a0 4)) → jv_Tg 7 a0 N ∧ ∃ b11, Prod.fst (Prod.snd M) a0 0 = some b11 ∧ jv_Tg 7 a0 N ∧ jv_Tg 11 b11 N ∧ vp_in (Prod.fst M a0 4) (jv_sh b11).2 ∧ jv_Tg 7 a0 N ∧ jv_Ct g d mt_T_readPart [.ref a0, .int (Prod.fst M b11 (Int32.toNatClampNeg (Prod.fst M a0 4)))] M N 0 0 (fun v M18 N18 => jv_rv v (jv_J g (d + 1) mt_T_findFault 44 [some (.ref a0), some (.int (x1 + 1))] [] M18 N18 cr sr Z)))))) : jv_J g (d + 1) mt_T_findFault 44 [some (.ref a0), some (.int x1)] [] M N cr sr Z := by
  refine jv_iload_n d_T_findFault_44 rfl rfl ?_
  refine jv_sipush (v := 150) d_T_findFault_45 (by decide) ?_
  refine jv_icmp_ge (tgt := 88) d_T_findFault_48 (by decide) ⟨fun c => ?_, fun c => ?_⟩
  · replace h := h.1 c
    refine jv_aload_n d_T_findFault_88 rfl rfl ?_
    obtain ⟨q1, h⟩ := h
    refine jv_getI d_T_findFault_89 fl_T_36 rfl q1 ?_
    refine jv_if_eq (tgt := 102) d_T_findFault_92 (by decide) ⟨fun c => ?_, fun c => ?_⟩
    · replace h := h.1 c
      refine jv_bipush (v := (-9)) d_T_findFault_102 (by decide) ?_
      exact jv_iret d_T_findFault_104 rfl rfl h
    · replace h := h.2 c
      refine jv_aload_n d_T_findFault_95 rfl rfl ?_
      obtain ⟨q2, h⟩ := h
      refine jv_getI d_T_findFault_96 fl_T_33 rfl q2 ?_
      refine jv_goto (tgt := 104) d_T_findFault_99 (by decide) ?_
      exact jv_iret d_T_findFault_104 rfl rfl h
  · replace h := h.2 c
    refine jv_aload_n d_T_findFault_51 rfl rfl ?_
    obtain ⟨q3, h⟩ := h
    refine jv_getI d_T_findFault_52 fl_T_36 rfl q3 ?_
    refine jv_if_ne (tgt := 88) d_T_findFault_55 (by decide) ⟨fun c => ?_, fun c => ?_⟩
    · replace h := h.1 c
      refine jv_aload_n d_T_findFault_88 rfl rfl ?_
      obtain ⟨q4, h⟩ := h
      refine jv_getI d_T_findFault_89 fl_T_36 rfl q4 ?_
      refine jv_if_eq (tgt := 102) d_T_findFault_92 (by decide) ⟨fun c => ?_, fun c => ?_⟩
      · replace h := h.1 c
        refine jv_bipush (v := (-9)) d_T_findFault_102 (by decide) ?_
        exact jv_iret d_T_findFault_104 rfl rfl h
      · replace h := h.2 c
        refine jv_aload_n d_T_findFault_95 rfl rfl ?_
        obtain ⟨q5, h⟩ := h
        refine jv_getI d_T_findFault_96 fl_T_33 rfl q5 ?_
        refine jv_goto (tgt := 104) d_T_findFault_99 (by decide) ?_
        exact jv_iret d_T_findFault_104 rfl rfl h
    · replace h := h.2 c
      refine jv_aload_n d_T_findFault_58 rfl rfl ?_
      obtain ⟨q6, h⟩ := h
      refine jv_getI d_T_findFault_59 fl_T_33 rfl q6 ?_
      refine jv_aload_n d_T_findFault_62 rfl rfl ?_
      obtain ⟨q7, h⟩ := h
      refine jv_getI d_T_findFault_63 fl_T_29 rfl q7 ?_
      refine jv_icmp_ge (tgt := 88) d_T_findFault_66 (by decide) ⟨fun c => ?_, fun c => ?_⟩
      · replace h := h.1 c
        refine jv_aload_n d_T_findFault_88 rfl rfl ?_
        obtain ⟨q8, h⟩ := h
        refine jv_getI d_T_findFault_89 fl_T_36 rfl q8 ?_
        refine jv_if_eq (tgt := 102) d_T_findFault_92 (by decide) ⟨fun c => ?_, fun c => ?_⟩
        · replace h := h.1 c
          refine jv_bipush (v := (-9)) d_T_findFault_102 (by decide) ?_
          exact jv_iret d_T_findFault_104 rfl rfl h
        · replace h := h.2 c
          refine jv_aload_n d_T_findFault_95 rfl rfl ?_
          obtain ⟨q9, h⟩ := h
          refine jv_getI d_T_findFault_96 fl_T_33 rfl q9 ?_
          refine jv_goto (tgt := 104) d_T_findFault_99 (by decide) ?_
          exact jv_iret d_T_findFault_104 rfl rfl h
      · replace h := h.2 c
        refine jv_aload_n d_T_findFault_69 rfl rfl ?_
        refine jv_aload_n d_T_findFault_70 rfl rfl ?_
        obtain ⟨q10, h⟩ := h
        obtain ⟨b11, e12, h⟩ := h
        refine jv_getR d_T_findFault_71 fl_T_9 rfl q10 e12 ?_
        refine jv_aload_n d_T_findFault_74 rfl rfl ?_
        obtain ⟨q13, h⟩ := h
        refine jv_getI d_T_findFault_75 fl_T_33 rfl q13 ?_
        obtain ⟨q14, q15, h⟩ := h
        refine jv_iald d_T_findFault_78 q14 q15 ?_
        obtain ⟨q16, h⟩ := h
        refine jv_invV [.int (Prod.fst M b11 (Int32.toNatClampNeg (Prod.fst M a0 4)))] [] d_T_findFault_79 ml_T_51 q16 rfl (Nat.le_of_ble_eq_true rfl) (Nat.zero_add _) (Nat.zero_add _) (jv_Ct.mono h (fun v M18 N18 h => ?_))
        obtain ⟨rfl, h⟩ := h
        change jv_J g (d + 1) mt_T_findFault 82 [some (.ref a0), some (.int x1)] [] M18 N18 cr sr Z
        refine jv_iinc (v := (x1 + 1)) (L' := [some (.ref a0), some (.int (x1 + 1))]) d_T_findFault_82 rfl rfl (Nat.le_of_ble_eq_true rfl) rfl ?_
        refine jv_goto (tgt := 44) d_T_findFault_85 (by decide) ?_
        exact h
theorem b_T_take_0 {g : jv_G} {d : Nat} {M : jv_Mem} {N cr sr : Nat} {Z : Option Value → jv_Mem → Nat → Prop} {a0 : Nat} {x1 : Int32} {x2 : Int32} (h : jv_Tg 7 a0 N ∧ ((Prod.fst M a0 5) ≠ 0 → jv_Ct g d mt_R_isBelow [.int (-9), .int x2] M N 0 0 (fun v M3 N3 => jv_ri v (fun r2 => (r2 ≠ 0 → jv_Tg 7 a0 N3 ∧ jv_Tg 7 a0 N3 ∧ Z (some (.int (-9))) (jv_si M3 a0 4 ((Prod.fst M3 a0 4) + 1)) N3) ∧ (r2 = 0 → jv_Tg 7 a0 N3 ∧ Z (some (.int 0)) (jv_si M3 a0 5 1) N3)))) ∧ ((Prod.fst M a0 5) = 0 → jv_Tg 7 a0 N ∧ jv_Tg 7 a0 N ∧ ((Prod.fst M a0 1) ≤ (Prod.fst M a0 4) → jv_Ct g d mt_R_isBelow [.int (-9), .int x2] M N 0 0 (fun v M10 N10 => jv_ri v (fun r9 => (r9 ≠ 0 → jv_Tg 7 a0 N10 ∧ jv_Tg 7 a0 N10 ∧ Z (some (.int (-9))) (jv_si M10 a0 4 ((Prod.fst M10 a0 4) + 1)) N10) ∧ (r9 = 0 → jv_Tg 7 a0 N10 ∧ Z (some (.int 0)) (jv_si M10 a0 5 1) N10)))) ∧ (¬ ((Prod.fst M a0 1) ≤ (Prod.fst M a0 4)) → jv_Tg 7 a0 N ∧ ∃ b15, Prod.fst (Prod.snd M) a0 0 = some b15 ∧ jv_Tg 7 a0 N ∧ jv_Tg 11 b15 N ∧ vp_in (Prod.fst M a0 4) (jv_sh b15).2 ∧ jv_Ct g d mt_R_isBelow [.int ((Prod.fst M b15 (Int32.toNatClampNeg (Prod.fst M a0 4))) - x1), .int x2] M N 0 0 (fun v M21 N21 => jv_ri v (fun r20 => (r20 ≠ 0 → jv_Tg 7 a0 N21 ∧ jv_Tg 7 a0 N21 ∧ Z (some (.int ((Prod.fst M b15 (Int32.toNatClampNeg (Prod.fst M a0 4))) - x1))) (jv_si M21 a0 4 ((Prod.fst M21 a0 4) + 1)) N21) ∧ (r20 = 0 → jv_Tg 7 a0 N21 ∧ Z (some (.int 0)) (jv_si M21 a0 5 1) N21)))))) : jv_J g (d + 1) mt_T_take 0 [some (.ref a0), some (.int x1), some (.int x2), none] [] M N cr sr Z := by
  refine jv_aload_n d_T_take_0 rfl rfl ?_
  obtain ⟨q1, h⟩ := h
  refine jv_getI d_T_take_1 fl_T_36 rfl q1 ?_
  refine jv_if_ne (tgt := 32) d_T_take_4 (by decide) ⟨fun c => ?_, fun c => ?_⟩
  · replace h := h.1 c
    refine jv_bipush (v := (-9)) d_T_take_32 (by decide) ?_
    refine jv_istore_n (L' := [some (.ref a0), some (.int x1), some (.int x2), some (.int (-9))]) d_T_take_34 rfl (Nat.le_of_ble_eq_true rfl) rfl ?_
    refine jv_iload_n d_T_take_35 rfl rfl ?_
    refine jv_iload_n d_T_take_36 rfl rfl ?_
    refine jv_invSN [.int (-9), .int x2] [] d_T_take_37 ml_T_102 rfl (Nat.le_of_ble_eq_true rfl) (Nat.zero_add _) (Nat.zero_add _) (jv_Ct.mono h (fun v M3 N3 h => ?_))
    obtain ⟨r2, rfl, h⟩ := h
    change jv_J g (d + 1) mt_T_take 40 [some (.ref a0), some (.int x1), some (.int x2), some (.int (-9))] [.int r2] M3 N3 cr sr Z
    refine jv_if_ne (tgt := 50) d_T_take_40 (by decide) ⟨fun c => ?_, fun c => ?_⟩
    · replace h := h.1 c
      refine jv_aload_n d_T_take_50 rfl rfl ?_
      refine jv_dup d_T_take_51 rfl ?_
      obtain ⟨q4, h⟩ := h
      refine jv_getI d_T_take_52 fl_T_33 rfl q4 ?_
      refine jv_iconst (v := 1) d_T_take_55 (by decide) ?_
      refine jv_iadd d_T_take_56 ?_
      obtain ⟨q5, h⟩ := h
      refine jv_putI d_T_take_57 fl_T_33 (fun r hr => by cases hr; rfl) rfl q5 ?_
      refine jv_iload_n d_T_take_60 rfl rfl ?_
      exact jv_iret d_T_take_61 rfl rfl h
    · replace h := h.2 c
      refine jv_aload_n d_T_take_43 rfl rfl ?_
      refine jv_iconst (v := 1) d_T_take_44 (by decide) ?_
      obtain ⟨q6, h⟩ := h
      refine jv_putZ d_T_take_45 fl_T_36 (fun r hr => by cases hr; rfl) rfl q6 (by decide) ?_
      refine jv_iconst (v := 0) d_T_take_48 (by decide) ?_
      exact jv_iret d_T_take_49 rfl rfl h
  · replace h := h.2 c
    refine jv_aload_n d_T_take_7 rfl rfl ?_
    obtain ⟨q7, h⟩ := h
    refine jv_getI d_T_take_8 fl_T_33 rfl q7 ?_
    refine jv_aload_n d_T_take_11 rfl rfl ?_
    obtain ⟨q8, h⟩ := h
    refine jv_getI d_T_take_12 fl_T_29 rfl q8 ?_
    refine jv_icmp_ge (tgt := 32) d_T_take_15 (by decide) ⟨fun c => ?_, fun c => ?_⟩
    · replace h := h.1 c
      refine jv_bipush (v := (-9)) d_T_take_32 (by decide) ?_
      refine jv_istore_n (L' := [some (.ref a0), some (.int x1), some (.int x2), some (.int (-9))]) d_T_take_34 rfl (Nat.le_of_ble_eq_true rfl) rfl ?_
      refine jv_iload_n d_T_take_35 rfl rfl ?_
      refine jv_iload_n d_T_take_36 rfl rfl ?_
      refine jv_invSN [.int (-9), .int x2] [] d_T_take_37 ml_T_102 rfl (Nat.le_of_ble_eq_true rfl) (Nat.zero_add _) (Nat.zero_add _) (jv_Ct.mono h (fun v M10 N10 h => ?_))
      obtain ⟨r9, rfl, h⟩ := h
      change jv_J g (d + 1) mt_T_take 40 [some (.ref a0), some (.int x1), some (.int x2), some (.int (-9))] [.int r9] M10 N10 cr sr Z
      refine jv_if_ne (tgt := 50) d_T_take_40 (by decide) ⟨fun c => ?_, fun c => ?_⟩
      · replace h := h.1 c
        refine jv_aload_n d_T_take_50 rfl rfl ?_
        refine jv_dup d_T_take_51 rfl ?_
        obtain ⟨q11, h⟩ := h
        refine jv_getI d_T_take_52 fl_T_33 rfl q11 ?_
        refine jv_iconst (v := 1) d_T_take_55 (by decide) ?_
        refine jv_iadd d_T_take_56 ?_
        obtain ⟨q12, h⟩ := h
        refine jv_putI d_T_take_57 fl_T_33 (fun r hr => by cases hr; rfl) rfl q12 ?_
        refine jv_iload_n d_T_take_60 rfl rfl ?_
        exact jv_iret d_T_take_61 rfl rfl h
      · replace h := h.2 c
        refine jv_aload_n d_T_take_43 rfl rfl ?_
        refine jv_iconst (v := 1) d_T_take_44 (by decide) ?_
        obtain ⟨q13, h⟩ := h
        refine jv_putZ d_T_take_45 fl_T_36 (fun r hr => by cases hr; rfl) rfl q13 (by decide) ?_
        refine jv_iconst (v := 0) d_T_take_48 (by decide) ?_
        exact jv_iret d_T_take_49 rfl rfl h
    · replace h := h.2 c
      refine jv_aload_n d_T_take_18 rfl rfl ?_
      obtain ⟨q14, h⟩ := h
      obtain ⟨b15, e16, h⟩ := h
      refine jv_getR d_T_take_19 fl_T_9 rfl q14 e16 ?_
      refine jv_aload_n d_T_take_22 rfl rfl ?_
      obtain ⟨q17, h⟩ := h
      refine jv_getI d_T_take_23 fl_T_33 rfl q17 ?_
      obtain ⟨q18, q19, h⟩ := h
      refine jv_iald d_T_take_26 q18 q19 ?_
      refine jv_iload_n d_T_take_27 rfl rfl ?_
      refine jv_isub d_T_take_28 ?_
      refine jv_goto (tgt := 34) d_T_take_29 (by decide) ?_
      refine jv_istore_n (L' := [some (.ref a0), some (.int x1), some (.int x2), some (.int ((Prod.fst M b15 (Int32.toNatClampNeg (Prod.fst M a0 4))) - x1))]) d_T_take_34 rfl (Nat.le_of_ble_eq_true rfl) rfl ?_
      refine jv_iload_n d_T_take_35 rfl rfl ?_
      refine jv_iload_n d_T_take_36 rfl rfl ?_
      refine jv_invSN [.int ((Prod.fst M b15 (Int32.toNatClampNeg (Prod.fst M a0 4))) - x1), .int x2] [] d_T_take_37 ml_T_102 rfl (Nat.le_of_ble_eq_true rfl) (Nat.zero_add _) (Nat.zero_add _) (jv_Ct.mono h (fun v M21 N21 h => ?_))
      obtain ⟨r20, rfl, h⟩ := h
      change jv_J g (d + 1) mt_T_take 40 [some (.ref a0), some (.int x1), some (.int x2), some (.int ((Prod.fst M b15 (Int32.toNatClampNeg (Prod.fst M a0 4))) - x1))] [.int r20] M21 N21 cr sr Z
      refine jv_if_ne (tgt := 50) d_T_take_40 (by decide) ⟨fun c => ?_, fun c => ?_⟩
      · replace h := h.1 c
        refine jv_aload_n d_T_take_50 rfl rfl ?_
        refine jv_dup d_T_take_51 rfl ?_
        obtain ⟨q22, h⟩ := h
        refine jv_getI d_T_take_52 fl_T_33 rfl q22 ?_
        refine jv_iconst (v := 1) d_T_take_55 (by decide) ?_
        refine jv_iadd d_T_take_56 ?_
        obtain ⟨q23, h⟩ := h
        refine jv_putI d_T_take_57 fl_T_33 (fun r hr => by cases hr; rfl) rfl q23 ?_
        refine jv_iload_n d_T_take_60 rfl rfl ?_
        exact jv_iret d_T_take_61 rfl rfl h
      · replace h := h.2 c
        refine jv_aload_n d_T_take_43 rfl rfl ?_
        refine jv_iconst (v := 1) d_T_take_44 (by decide) ?_
        obtain ⟨q24, h⟩ := h
        refine jv_putZ d_T_take_45 fl_T_36 (fun r hr => by cases hr; rfl) rfl q24 (by decide) ?_
        refine jv_iconst (v := 0) d_T_take_48 (by decide) ?_
        exact jv_iret d_T_take_49 rfl rfl h
theorem b_T_readPart_0 {g : jv_G} {d : Nat} {M : jv_Mem} {N cr sr : Nat} {Z : Option Value → jv_Mem → Nat → Prop} {a0 : Nat} {x1 : Int32} (h : (x1 = 84 → jv_Tg 7 a0 N ∧ jv_Ct g d mt_T_readTrigger [.ref a0, .int 1] M N 0 0 (fun v M5 N5 => jv_rv v (Z none M5 N5))) ∧ (x1 = 104 → jv_Tg 7 a0 N ∧ jv_Ct g d mt_T_readHart [.ref a0] M N 0 0 (fun v M8 N8 => jv_rv v (Z none M8 N8))) ∧ (x1 = 105 → jv_Tg 7 a0 N ∧ jv_Ct g d mt_T_readInstruction [.ref a0] M N 0 0 (fun v M11 N11 => jv_rv v (Z none M11 N11))) ∧ (x1 = 116 → jv_Tg 7 a0 N ∧ jv_Ct g d mt_T_readTrigger [.ref a0, .int 0] M N 0 0 (fun v M14 N14 => jv_rv v (Z none M14 N14))) ∧ ((x1 ≠ 84 ∧ x1 ≠ 104 ∧ x1 ≠ 105 ∧ x1 ≠ 116) → jv_Tg 7 a0 N ∧ Z none (jv_si M a0 5 1) N)) : jv_J g (d + 1) mt_T_readPart 0 [some (.ref a0), some (.int x1)] [] M N cr sr Z := by
  refine jv_iload_n d_T_readPart_0 rfl rfl ?_
  have hD1 : (x1 ≠ 84 ∧ x1 ≠ 104 ∧ x1 ≠ 105 ∧ x1 ≠ 116) → jv_J g (d + 1) mt_T_readPart 74 [some (.ref a0), some (.int x1)] [] M N cr sr Z := by
    intro c
    replace h := h.2.2.2.2 c
    refine jv_aload_n d_T_readPart_74 rfl rfl ?_
    refine jv_iconst (v := 1) d_T_readPart_75 (by decide) ?_
    obtain ⟨q2, h⟩ := h
    refine jv_putZ d_T_readPart_76 fl_T_36 (fun r hr => by cases hr; rfl) rfl q2 (by decide) ?_
    exact jv_ret d_T_readPart_79 rfl h
  refine jv_lsw (dt := 74) [(84, 66), (104, 51), (105, 44), (116, 58)] d_T_readPart_1 (by decide) (by decide) (by decide) (fun q hq hx => ?_) (fun hq => ?_)
  · simp only [List.mem_cons, List.not_mem_nil, or_false] at hq
    rcases hq with rfl | rfl | rfl | rfl
    · replace h := h.1 hx
      refine jv_aload_n d_T_readPart_66 rfl rfl ?_
      refine jv_iconst (v := 1) d_T_readPart_67 (by decide) ?_
      obtain ⟨q3, h⟩ := h
      refine jv_invV [.int 1] [] d_T_readPart_68 ml_T_61 q3 rfl (Nat.le_of_ble_eq_true rfl) (Nat.zero_add _) (Nat.zero_add _) (jv_Ct.mono h (fun v M5 N5 h => ?_))
      obtain ⟨rfl, h⟩ := h
      change jv_J g (d + 1) mt_T_readPart 71 [some (.ref a0), some (.int x1)] [] M5 N5 cr sr Z
      refine jv_goto (tgt := 79) d_T_readPart_71 (by decide) ?_
      exact jv_ret d_T_readPart_79 rfl h
    · replace h := h.2.1 hx
      refine jv_aload_n d_T_readPart_51 rfl rfl ?_
      obtain ⟨q6, h⟩ := h
      refine jv_invV [] [] d_T_readPart_52 ml_T_58 q6 rfl (Nat.le_of_ble_eq_true rfl) (Nat.zero_add _) (Nat.zero_add _) (jv_Ct.mono h (fun v M8 N8 h => ?_))
      obtain ⟨rfl, h⟩ := h
      change jv_J g (d + 1) mt_T_readPart 55 [some (.ref a0), some (.int x1)] [] M8 N8 cr sr Z
      refine jv_goto (tgt := 79) d_T_readPart_55 (by decide) ?_
      exact jv_ret d_T_readPart_79 rfl h
    · replace h := h.2.2.1 hx
      refine jv_aload_n d_T_readPart_44 rfl rfl ?_
      obtain ⟨q9, h⟩ := h
      refine jv_invV [] [] d_T_readPart_45 ml_T_55 q9 rfl (Nat.le_of_ble_eq_true rfl) (Nat.zero_add _) (Nat.zero_add _) (jv_Ct.mono h (fun v M11 N11 h => ?_))
      obtain ⟨rfl, h⟩ := h
      change jv_J g (d + 1) mt_T_readPart 48 [some (.ref a0), some (.int x1)] [] M11 N11 cr sr Z
      refine jv_goto (tgt := 79) d_T_readPart_48 (by decide) ?_
      exact jv_ret d_T_readPart_79 rfl h
    · replace h := h.2.2.2.1 hx
      refine jv_aload_n d_T_readPart_58 rfl rfl ?_
      refine jv_iconst (v := 0) d_T_readPart_59 (by decide) ?_
      obtain ⟨q12, h⟩ := h
      refine jv_invV [.int 0] [] d_T_readPart_60 ml_T_61 q12 rfl (Nat.le_of_ble_eq_true rfl) (Nat.zero_add _) (Nat.zero_add _) (jv_Ct.mono h (fun v M14 N14 h => ?_))
      obtain ⟨rfl, h⟩ := h
      change jv_J g (d + 1) mt_T_readPart 63 [some (.ref a0), some (.int x1)] [] M14 N14 cr sr Z
      refine jv_goto (tgt := 79) d_T_readPart_63 (by decide) ?_
      exact jv_ret d_T_readPart_79 rfl h
  · exact hD1 ⟨hq _ (List.mem_of_getElem? (i := 0) rfl), hq _ (List.mem_of_getElem? (i := 1) rfl), hq _ (List.mem_of_getElem? (i := 2) rfl), hq _ (List.mem_of_getElem? (i := 3) rfl)⟩
theorem b_T_readInstruction_0 {g : jv_G} {d : Nat} {M : jv_Mem} {N cr sr : Nat} {Z : Option Value → jv_Mem → Nat → Prop} {a0 : Nat} (h : jv_Tg 7 a0 N ∧ ∃ b2, Prod.fst (Prod.snd M) a0 2 = some b2 ∧ jv_Tg 4 b2 N ∧ ((Prod.fst M b2 3) < 16 → jv_Tg 7 a0 N ∧ jv_Tg 7 a0 N ∧ jv_Tg 7 a0 N ∧ jv_Ct g d mt_T_takeCode [.ref a0] (jv_si M a0 4 ((Prod.fst M a0 4) + 1)) N 0 0 (fun v M9 N9 => jv_ri v (fun r8 => jv_Ct g d mt_P_hasRegister [.int r8] M9 N9 0 0 (fun v M11 N11 => jv_ri v (fun r10 => (r10 = 0 → vp_in r8 9 ∧ ((jv_second (Int32.toNatClampNeg r8)) ≤ 0 → jv_Tg 7 a0 N11 ∧ ((Prod.fst M11 a0 5) ≠ 0 → Z none M11 N11) ∧ ((Prod.fst M11 a0 5) = 0 → jv_Tg 7 a0 N11 ∧ ∃ b15, Prod.fst (Prod.snd M11) a0 2 = some b15 ∧ jv_Tg 4 b15 N11 ∧ jv_Ct g d mt_P_append [.ref b15, .int r8, .int 0, .int 0] M11 N11 0 0 (fun v M19 N19 => jv_rv v (Z none M19 N19)))) ∧ (¬ ((jv_second (Int32.toNatClampNeg r8)) ≤ 0) → (r8 ≠ 6 → vp_in r8 9 ∧ jv_Tg 7 a0 N11 ∧ jv_Ct g d mt_T_take [.ref a0, .int 48, .int (jv_second (Int32.toNatClampNeg r8))] M11 N11 0 0 (fun v M23 N23 => jv_ri v (fun r22 => jv_Tg 7 a0 N23 ∧ ((Prod.fst M23 a0 5) ≠ 0 → Z none M23 N23) ∧ ((Prod.fst M23 a0 5) = 0 → jv_Tg 7 a0 N23 ∧ ∃ b26, Prod.fst (Prod.snd M23) a0 2 = some b26 ∧ jv_Tg 4 b26 N23 ∧ jv_Ct g d mt_P_append [.ref b26, .int r8, .int 0, .int r22] M23 N23 0 0 (fun v M30 N30 => jv_rv v (Z none M30 N30)))))) ∧ (r8 = 6 → vp_in r8 9 ∧ jv_Tg 7 a0 N11 ∧ jv_Ct g d mt_T_take [.ref a0, .int 97, .int (jv_second (Int32.toNatClampNeg r8))] M11 N11 0 0 (fun v M34 N34 => jv_ri v (fun r33 => jv_Tg 7 a0 N34 ∧ ((Prod.fst M34 a0 5) ≠ 0 → Z none M34 N34) ∧ ((Prod.fst M34 a0 5) = 0 → jv_Tg 7 a0 N34 ∧ ∃ b37, Prod.fst (Prod.snd M34) a0 2 = some b37 ∧ jv_Tg 4 b37 N34 ∧ jv_Ct g d mt_P_append [.ref b37, .int r8, .int 0, .int r33] M34 N34 0 0 (fun v M41 N41 => jv_rv v (Z none M41 N41)))))))) ∧ (¬ (r10 = 0) → jv_Tg 7 a0 N11 ∧ jv_Ct g d mt_T_take [.ref a0, .int 48, .int 4] M11 N11 0 0 (fun v M44 N44 => jv_ri v (fun r43 => vp_in r8 9 ∧ ((jv_second (Int32.toNatClampNeg r8)) ≤ 0 → jv_Tg 7 a0 N44 ∧ ((Prod.fst M44 a0 5) ≠ 0 → Z none M44 N44) ∧ ((Prod.fst M44 a0 5) = 0 → jv_Tg 7 a0 N44 ∧ ∃ b48, Prod.fst (Prod.snd M44) a0 2 = some b48 ∧ jv_Tg 4 b48 N44 ∧ jv_Ct g d mt_P_append [.ref b48, .int r8, .int r43, .int 0] M44 N44 0 0 (fun v M52 N52 => jv_rv v (Z none M52 N52)))) ∧ (¬ ((jv_second (Int32.toNatClampNeg r8)) ≤ 0) → (r8 ≠ 6 → vp_in r8 9 ∧ jv_Tg 7 a0 N44 ∧ jv_Ct g d mt_T_take [.ref a0, .int 48, .int (jv_second (Int32.toNatClampNeg r8))] M44 N44 0 0 (fun v M56 N56 => jv_ri v (fun r55 => jv_Tg 7 a0 N56 ∧ ((Prod.fst M56 a0 5) ≠ 0 → Z none M56 N56) ∧ ((Prod.fst M56 a0 5) = 0 → jv_Tg 7 a0 N56 ∧ ∃ b59, Prod.fst (Prod.snd M56) a0 2 = some b59 ∧ jv_Tg 4 b59 N56 ∧ jv_Ct g d mt_P_append [.ref b59, .int r8, .int r43, .int r55] M56 N56 0 0 (fun v M63 N63 => jv_rv v (Z none M63 N63)))))) ∧ (r8 = 6 → vp_in r8 9 ∧ jv_Tg 7 a0 N44 ∧ jv_Ct g d mt_T_take [.ref a0, .int 97, .int (jv_second (Int32.toNatClampNeg r8))] M44 N44 0 0 (fun v M67 N67 => jv_ri v (fun r66 => jv_Tg 7 a0 N67 ∧ ((Prod.fst M67 a0 5) ≠ 0 → Z none M67 N67) ∧ ((Prod.fst M67 a0 5) = 0 → jv_Tg 7 a0 N67 ∧ ∃ b70, Prod.fst (Prod.snd M67) a0 2 = some b70 ∧ jv_Tg 4 b70 N67 ∧ jv_Ct g d mt_P_append [.ref b70, .int r8, .int r43, .int r66] M67 N67 0 0 (fun v M74 N74 => jv_rv v (Z none M74 N74))))))))))))))) ∧ (¬ ((Prod.fst M b2 3) < 16) → jv_Tg 7 a0 N ∧ Z none (jv_si M a0 5 1) N)) : jv_J g (d + 1) mt_T_readInstruction 0 [some (.ref a0), none, none, none] [] M N cr sr Z := by
  refine jv_aload_n d_T_readInstruction_0 rfl rfl ?_
  obtain ⟨q1, h⟩ := h
  obtain ⟨b2, e3, h⟩ := h
  refine jv_getR d_T_readInstruction_1 fl_T_18 rfl q1 e3 ?_
  obtain ⟨q4, h⟩ := h
  refine jv_getI d_T_readInstruction_4 fl_T_40 rfl q4 ?_
  refine jv_bipush (v := 16) d_T_readInstruction_7 (by decide) ?_
  refine jv_icmp_lt (tgt := 18) d_T_readInstruction_9 (by decide) ⟨fun c => ?_, fun c => ?_⟩
  · replace h := h.1 c
    refine jv_aload_n d_T_readInstruction_18 rfl rfl ?_
    refine jv_dup d_T_readInstruction_19 rfl ?_
    obtain ⟨q5, h⟩ := h
    refine jv_getI d_T_readInstruction_20 fl_T_33 rfl q5 ?_
    refine jv_iconst (v := 1) d_T_readInstruction_23 (by decide) ?_
    refine jv_iadd d_T_readInstruction_24 ?_
    obtain ⟨q6, h⟩ := h
    refine jv_putI d_T_readInstruction_25 fl_T_33 (fun r hr => by cases hr; rfl) rfl q6 ?_
    refine jv_aload_n d_T_readInstruction_28 rfl rfl ?_
    obtain ⟨q7, h⟩ := h
    refine jv_invV [] [] d_T_readInstruction_29 ml_T_65 q7 rfl (Nat.le_of_ble_eq_true rfl) (Nat.zero_add _) (Nat.zero_add _) (jv_Ct.mono h (fun v M9 N9 h => ?_))
    obtain ⟨r8, rfl, h⟩ := h
    change jv_J g (d + 1) mt_T_readInstruction 32 [some (.ref a0), none, none, none] [.int r8] M9 N9 cr sr Z
    refine jv_istore_n (L' := [some (.ref a0), some (.int r8), none, none]) d_T_readInstruction_32 rfl (Nat.le_of_ble_eq_true rfl) rfl ?_
    refine jv_iload_n d_T_readInstruction_33 rfl rfl ?_
    refine jv_invS [.int r8] [] d_T_readInstruction_34 ml_T_69 rfl (Nat.le_of_ble_eq_true rfl) (Nat.zero_add _) (Nat.zero_add _) (jv_Ct.mono h (fun v M11 N11 h => ?_))
    obtain ⟨r10, rfl, h⟩ := h
    change jv_J g (d + 1) mt_T_readInstruction 37 [some (.ref a0), some (.int r8), none, none] [.int r10] M11 N11 cr sr Z
    refine jv_if_eq (tgt := 50) d_T_readInstruction_37 (by decide) ⟨fun c => ?_, fun c => ?_⟩
    · replace h := h.1 c
      refine jv_iconst (v := 0) d_T_readInstruction_50 (by decide) ?_
      refine jv_istore_n (L' := [some (.ref a0), some (.int r8), some (.int 0), none]) d_T_readInstruction_51 rfl (Nat.le_of_ble_eq_true rfl) rfl ?_
      refine jv_gSecN d_T_readInstruction_52 sf_T_73 ?_
      refine jv_iload_n d_T_readInstruction_55 rfl rfl ?_
      obtain ⟨q12, h⟩ := h
      refine jv_roald (f := jv_second) d_T_readInstruction_56 (Or.inr (Or.inl ⟨rfl, rfl, rfl⟩)) q12 ?_
      refine jv_if_le (tgt := 85) d_T_readInstruction_57 (by decide) ⟨fun c => ?_, fun c => ?_⟩
      · replace h := h.1 c
        refine jv_iconst (v := 0) d_T_readInstruction_85 (by decide) ?_
        refine jv_istore_n (L' := [some (.ref a0), some (.int r8), some (.int 0), some (.int 0)]) d_T_readInstruction_86 rfl (Nat.le_of_ble_eq_true rfl) rfl ?_
        refine jv_aload_n d_T_readInstruction_87 rfl rfl ?_
        obtain ⟨q13, h⟩ := h
        refine jv_getI d_T_readInstruction_88 fl_T_36 rfl q13 ?_
        refine jv_if_ne (tgt := 104) d_T_readInstruction_91 (by decide) ⟨fun c => ?_, fun c => ?_⟩
        · replace h := h.1 c
          exact jv_ret d_T_readInstruction_104 rfl h
        · replace h := h.2 c
          refine jv_aload_n d_T_readInstruction_94 rfl rfl ?_
          obtain ⟨q14, h⟩ := h
          obtain ⟨b15, e16, h⟩ := h
          refine jv_getR d_T_readInstruction_95 fl_T_18 rfl q14 e16 ?_
          refine jv_iload_n d_T_readInstruction_98 rfl rfl ?_
          refine jv_iload_n d_T_readInstruction_99 rfl rfl ?_
          refine jv_iload_n d_T_readInstruction_100 rfl rfl ?_
          obtain ⟨q17, h⟩ := h
          refine jv_invV [.int r8, .int 0, .int 0] [] d_T_readInstruction_101 ml_T_76 q17 rfl (Nat.le_of_ble_eq_true rfl) (Nat.zero_add _) (Nat.zero_add _) (jv_Ct.mono h (fun v M19 N19 h => ?_))
          obtain ⟨rfl, h⟩ := h
          change jv_J g (d + 1) mt_T_readInstruction 104 [some (.ref a0), some (.int r8), some (.int 0), some (.int 0)] [] M19 N19 cr sr Z
          exact jv_ret d_T_readInstruction_104 rfl h
      · replace h := h.2 c
        refine jv_aload_n d_T_readInstruction_60 rfl rfl ?_
        refine jv_iload_n d_T_readInstruction_61 rfl rfl ?_
        refine jv_bipush (v := 6) d_T_readInstruction_62 (by decide) ?_
        refine jv_icmp_ne (tgt := 72) d_T_readInstruction_64 (by decide) ⟨fun c => ?_, fun c => ?_⟩
        · replace h := h.1 c
          refine jv_bipush (v := 48) d_T_readInstruction_72 (by decide) ?_
          refine jv_gSecN d_T_readInstruction_74 sf_T_73 ?_
          refine jv_iload_n d_T_readInstruction_77 rfl rfl ?_
          obtain ⟨q20, h⟩ := h
          refine jv_roald (f := jv_second) d_T_readInstruction_78 (Or.inr (Or.inl ⟨rfl, rfl, rfl⟩)) q20 ?_
          obtain ⟨q21, h⟩ := h
          refine jv_invV [.int 48, .int (jv_second (Int32.toNatClampNeg r8))] [] d_T_readInstruction_79 ml_T_47 q21 rfl (Nat.le_of_ble_eq_true rfl) (Nat.zero_add _) (Nat.zero_add _) (jv_Ct.mono h (fun v M23 N23 h => ?_))
          obtain ⟨r22, rfl, h⟩ := h
          change jv_J g (d + 1) mt_T_readInstruction 82 [some (.ref a0), some (.int r8), some (.int 0), none] [.int r22] M23 N23 cr sr Z
          refine jv_goto (tgt := 86) d_T_readInstruction_82 (by decide) ?_
          refine jv_istore_n (L' := [some (.ref a0), some (.int r8), some (.int 0), some (.int r22)]) d_T_readInstruction_86 rfl (Nat.le_of_ble_eq_true rfl) rfl ?_
          refine jv_aload_n d_T_readInstruction_87 rfl rfl ?_
          obtain ⟨q24, h⟩ := h
          refine jv_getI d_T_readInstruction_88 fl_T_36 rfl q24 ?_
          refine jv_if_ne (tgt := 104) d_T_readInstruction_91 (by decide) ⟨fun c => ?_, fun c => ?_⟩
          · replace h := h.1 c
            exact jv_ret d_T_readInstruction_104 rfl h
          · replace h := h.2 c
            refine jv_aload_n d_T_readInstruction_94 rfl rfl ?_
            obtain ⟨q25, h⟩ := h
            obtain ⟨b26, e27, h⟩ := h
            refine jv_getR d_T_readInstruction_95 fl_T_18 rfl q25 e27 ?_
            refine jv_iload_n d_T_readInstruction_98 rfl rfl ?_
            refine jv_iload_n d_T_readInstruction_99 rfl rfl ?_
            refine jv_iload_n d_T_readInstruction_100 rfl rfl ?_
            obtain ⟨q28, h⟩ := h
            refine jv_invV [.int r8, .int 0, .int r22] [] d_T_readInstruction_101 ml_T_76 q28 rfl (Nat.le_of_ble_eq_true rfl) (Nat.zero_add _) (Nat.zero_add _) (jv_Ct.mono h (fun v M30 N30 h => ?_))
            obtain ⟨rfl, h⟩ := h
            change jv_J g (d + 1) mt_T_readInstruction 104 [some (.ref a0), some (.int r8), some (.int 0), some (.int r22)] [] M30 N30 cr sr Z
            exact jv_ret d_T_readInstruction_104 rfl h
        · replace h := h.2 c
          refine jv_bipush (v := 97) d_T_readInstruction_67 (by decide) ?_
          refine jv_goto (tgt := 74) d_T_readInstruction_69 (by decide) ?_
          refine jv_gSecN d_T_readInstruction_74 sf_T_73 ?_
          refine jv_iload_n d_T_readInstruction_77 rfl rfl ?_
          obtain ⟨q31, h⟩ := h
          refine jv_roald (f := jv_second) d_T_readInstruction_78 (Or.inr (Or.inl ⟨rfl, rfl, rfl⟩)) q31 ?_
          obtain ⟨q32, h⟩ := h
          refine jv_invV [.int 97, .int (jv_second (Int32.toNatClampNeg r8))] [] d_T_readInstruction_79 ml_T_47 q32 rfl (Nat.le_of_ble_eq_true rfl) (Nat.zero_add _) (Nat.zero_add _) (jv_Ct.mono h (fun v M34 N34 h => ?_))
          obtain ⟨r33, rfl, h⟩ := h
          change jv_J g (d + 1) mt_T_readInstruction 82 [some (.ref a0), some (.int r8), some (.int 0), none] [.int r33] M34 N34 cr sr Z
          refine jv_goto (tgt := 86) d_T_readInstruction_82 (by decide) ?_
          refine jv_istore_n (L' := [some (.ref a0), some (.int r8), some (.int 0), some (.int r33)]) d_T_readInstruction_86 rfl (Nat.le_of_ble_eq_true rfl) rfl ?_
          refine jv_aload_n d_T_readInstruction_87 rfl rfl ?_
          obtain ⟨q35, h⟩ := h
          refine jv_getI d_T_readInstruction_88 fl_T_36 rfl q35 ?_
          refine jv_if_ne (tgt := 104) d_T_readInstruction_91 (by decide) ⟨fun c => ?_, fun c => ?_⟩
          · replace h := h.1 c
            exact jv_ret d_T_readInstruction_104 rfl h
          · replace h := h.2 c
            refine jv_aload_n d_T_readInstruction_94 rfl rfl ?_
            obtain ⟨q36, h⟩ := h
            obtain ⟨b37, e38, h⟩ := h
            refine jv_getR d_T_readInstruction_95 fl_T_18 rfl q36 e38 ?_
            refine jv_iload_n d_T_readInstruction_98 rfl rfl ?_
            refine jv_iload_n d_T_readInstruction_99 rfl rfl ?_
            refine jv_iload_n d_T_readInstruction_100 rfl rfl ?_
            obtain ⟨q39, h⟩ := h
            refine jv_invV [.int r8, .int 0, .int r33] [] d_T_readInstruction_101 ml_T_76 q39 rfl (Nat.le_of_ble_eq_true rfl) (Nat.zero_add _) (Nat.zero_add _) (jv_Ct.mono h (fun v M41 N41 h => ?_))
            obtain ⟨rfl, h⟩ := h
            change jv_J g (d + 1) mt_T_readInstruction 104 [some (.ref a0), some (.int r8), some (.int 0), some (.int r33)] [] M41 N41 cr sr Z
            exact jv_ret d_T_readInstruction_104 rfl h
    · replace h := h.2 c
      refine jv_aload_n d_T_readInstruction_40 rfl rfl ?_
      refine jv_bipush (v := 48) d_T_readInstruction_41 (by decide) ?_
      refine jv_iconst (v := 4) d_T_readInstruction_43 (by decide) ?_
      obtain ⟨q42, h⟩ := h
      refine jv_invV [.int 48, .int 4] [] d_T_readInstruction_44 ml_T_47 q42 rfl (Nat.le_of_ble_eq_true rfl) (Nat.zero_add _) (Nat.zero_add _) (jv_Ct.mono h (fun v M44 N44 h => ?_))
      obtain ⟨r43, rfl, h⟩ := h
      change jv_J g (d + 1) mt_T_readInstruction 47 [some (.ref a0), some (.int r8), none, none] [.int r43] M44 N44 cr sr Z
      refine jv_goto (tgt := 51) d_T_readInstruction_47 (by decide) ?_
      refine jv_istore_n (L' := [some (.ref a0), some (.int r8), some (.int r43), none]) d_T_readInstruction_51 rfl (Nat.le_of_ble_eq_true rfl) rfl ?_
      refine jv_gSecN d_T_readInstruction_52 sf_T_73 ?_
      refine jv_iload_n d_T_readInstruction_55 rfl rfl ?_
      obtain ⟨q45, h⟩ := h
      refine jv_roald (f := jv_second) d_T_readInstruction_56 (Or.inr (Or.inl ⟨rfl, rfl, rfl⟩)) q45 ?_
      refine jv_if_le (tgt := 85) d_T_readInstruction_57 (by decide) ⟨fun c => ?_, fun c => ?_⟩
      · replace h := h.1 c
        refine jv_iconst (v := 0) d_T_readInstruction_85 (by decide) ?_
        refine jv_istore_n (L' := [some (.ref a0), some (.int r8), some (.int r43), some (.int 0)]) d_T_readInstruction_86 rfl (Nat.le_of_ble_eq_true rfl) rfl ?_
        refine jv_aload_n d_T_readInstruction_87 rfl rfl ?_
        obtain ⟨q46, h⟩ := h
        refine jv_getI d_T_readInstruction_88 fl_T_36 rfl q46 ?_
        refine jv_if_ne (tgt := 104) d_T_readInstruction_91 (by decide) ⟨fun c => ?_, fun c => ?_⟩
        · replace h := h.1 c
          exact jv_ret d_T_readInstruction_104 rfl h
        · replace h := h.2 c
          refine jv_aload_n d_T_readInstruction_94 rfl rfl ?_
          obtain ⟨q47, h⟩ := h
          obtain ⟨b48, e49, h⟩ := h
          refine jv_getR d_T_readInstruction_95 fl_T_18 rfl q47 e49 ?_
          refine jv_iload_n d_T_readInstruction_98 rfl rfl ?_
          refine jv_iload_n d_T_readInstruction_99 rfl rfl ?_
          refine jv_iload_n d_T_readInstruction_100 rfl rfl ?_
          obtain ⟨q50, h⟩ := h
          refine jv_invV [.int r8, .int r43, .int 0] [] d_T_readInstruction_101 ml_T_76 q50 rfl (Nat.le_of_ble_eq_true rfl) (Nat.zero_add _) (Nat.zero_add _) (jv_Ct.mono h (fun v M52 N52 h => ?_))
          obtain ⟨rfl, h⟩ := h
          change jv_J g (d + 1) mt_T_readInstruction 104 [some (.ref a0), some (.int r8), some (.int r43), some (.int 0)] [] M52 N52 cr sr Z
          exact jv_ret d_T_readInstruction_104 rfl h
      · replace h := h.2 c
        refine jv_aload_n d_T_readInstruction_60 rfl rfl ?_
        refine jv_iload_n d_T_readInstruction_61 rfl rfl ?_
        refine jv_bipush (v := 6) d_T_readInstruction_62 (by decide) ?_
        refine jv_icmp_ne (tgt := 72) d_T_readInstruction_64 (by decide) ⟨fun c => ?_, fun c => ?_⟩
        · replace h := h.1 c
          refine jv_bipush (v := 48) d_T_readInstruction_72 (by decide) ?_
          refine jv_gSecN d_T_readInstruction_74 sf_T_73 ?_
          refine jv_iload_n d_T_readInstruction_77 rfl rfl ?_
          obtain ⟨q53, h⟩ := h
          refine jv_roald (f := jv_second) d_T_readInstruction_78 (Or.inr (Or.inl ⟨rfl, rfl, rfl⟩)) q53 ?_
          obtain ⟨q54, h⟩ := h
          refine jv_invV [.int 48, .int (jv_second (Int32.toNatClampNeg r8))] [] d_T_readInstruction_79 ml_T_47 q54 rfl (Nat.le_of_ble_eq_true rfl) (Nat.zero_add _) (Nat.zero_add _) (jv_Ct.mono h (fun v M56 N56 h => ?_))
          obtain ⟨r55, rfl, h⟩ := h
          change jv_J g (d + 1) mt_T_readInstruction 82 [some (.ref a0), some (.int r8), some (.int r43), none] [.int r55] M56 N56 cr sr Z
          refine jv_goto (tgt := 86) d_T_readInstruction_82 (by decide) ?_
          refine jv_istore_n (L' := [some (.ref a0), some (.int r8), some (.int r43), some (.int r55)]) d_T_readInstruction_86 rfl (Nat.le_of_ble_eq_true rfl) rfl ?_
          refine jv_aload_n d_T_readInstruction_87 rfl rfl ?_
          obtain ⟨q57, h⟩ := h
          refine jv_getI d_T_readInstruction_88 fl_T_36 rfl q57 ?_
          refine jv_if_ne (tgt := 104) d_T_readInstruction_91 (by decide) ⟨fun c => ?_, fun c => ?_⟩
          · replace h := h.1 c
            exact jv_ret d_T_readInstruction_104 rfl h
          · replace h := h.2 c
            refine jv_aload_n d_T_readInstruction_94 rfl rfl ?_
            obtain ⟨q58, h⟩ := h
            obtain ⟨b59, e60, h⟩ := h
            refine jv_getR d_T_readInstruction_95 fl_T_18 rfl q58 e60 ?_
            refine jv_iload_n d_T_readInstruction_98 rfl rfl ?_
            refine jv_iload_n d_T_readInstruction_99 rfl rfl ?_
            refine jv_iload_n d_T_readInstruction_100 rfl rfl ?_
            obtain ⟨q61, h⟩ := h
            refine jv_invV [.int r8, .int r43, .int r55] [] d_T_readInstruction_101 ml_T_76 q61 rfl (Nat.le_of_ble_eq_true rfl) (Nat.zero_add _) (Nat.zero_add _) (jv_Ct.mono h (fun v M63 N63 h => ?_))
            obtain ⟨rfl, h⟩ := h
            change jv_J g (d + 1) mt_T_readInstruction 104 [some (.ref a0), some (.int r8), some (.int r43), some (.int r55)] [] M63 N63 cr sr Z
            exact jv_ret d_T_readInstruction_104 rfl h
        · replace h := h.2 c
          refine jv_bipush (v := 97) d_T_readInstruction_67 (by decide) ?_
          refine jv_goto (tgt := 74) d_T_readInstruction_69 (by decide) ?_
          refine jv_gSecN d_T_readInstruction_74 sf_T_73 ?_
          refine jv_iload_n d_T_readInstruction_77 rfl rfl ?_
          obtain ⟨q64, h⟩ := h
          refine jv_roald (f := jv_second) d_T_readInstruction_78 (Or.inr (Or.inl ⟨rfl, rfl, rfl⟩)) q64 ?_
          obtain ⟨q65, h⟩ := h
          refine jv_invV [.int 97, .int (jv_second (Int32.toNatClampNeg r8))] [] d_T_readInstruction_79 ml_T_47 q65 rfl (Nat.le_of_ble_eq_true rfl) (Nat.zero_add _) (Nat.zero_add _) (jv_Ct.mono h (fun v M67 N67 h => ?_))
          obtain ⟨r66, rfl, h⟩ := h
          change jv_J g (d + 1) mt_T_readInstruction 82 [some (.ref a0), some (.int r8), some (.int r43), none] [.int r66] M67 N67 cr sr Z
          refine jv_goto (tgt := 86) d_T_readInstruction_82 (by decide) ?_
          refine jv_istore_n (L' := [some (.ref a0), some (.int r8), some (.int r43), some (.int r66)]) d_T_readInstruction_86 rfl (Nat.le_of_ble_eq_true rfl) rfl ?_
          refine jv_aload_n d_T_readInstruction_87 rfl rfl ?_
          obtain ⟨q68, h⟩ := h
          refine jv_getI d_T_readInstruction_88 fl_T_36 rfl q68 ?_
          refine jv_if_ne (tgt := 104) d_T_readInstruction_91 (by decide) ⟨fun c => ?_, fun c => ?_⟩
          · replace h := h.1 c
            exact jv_ret d_T_readInstruction_104 rfl h
          · replace h := h.2 c
            refine jv_aload_n d_T_readInstruction_94 rfl rfl ?_
            obtain ⟨q69, h⟩ := h
            obtain ⟨b70, e71, h⟩ := h
            refine jv_getR d_T_readInstruction_95 fl_T_18 rfl q69 e71 ?_
            refine jv_iload_n d_T_readInstruction_98 rfl rfl ?_
            refine jv_iload_n d_T_readInstruction_99 rfl rfl ?_
            refine jv_iload_n d_T_readInstruction_100 rfl rfl ?_
            obtain ⟨q72, h⟩ := h
            refine jv_invV [.int r8, .int r43, .int r66] [] d_T_readInstruction_101 ml_T_76 q72 rfl (Nat.le_of_ble_eq_true rfl) (Nat.zero_add _) (Nat.zero_add _) (jv_Ct.mono h (fun v M74 N74 h => ?_))
            obtain ⟨rfl, h⟩ := h
            change jv_J g (d + 1) mt_T_readInstruction 104 [some (.ref a0), some (.int r8), some (.int r43), some (.int r66)] [] M74 N74 cr sr Z
            exact jv_ret d_T_readInstruction_104 rfl h
  · replace h := h.2 c
    refine jv_aload_n d_T_readInstruction_12 rfl rfl ?_
    refine jv_iconst (v := 1) d_T_readInstruction_13 (by decide) ?_
    obtain ⟨q75, h⟩ := h
    refine jv_putZ d_T_readInstruction_14 fl_T_36 (fun r hr => by cases hr; rfl) rfl q75 (by decide) ?_
    exact jv_ret d_T_readInstruction_17 rfl h
theorem b_T_takeCode_0 {g : jv_G} {d : Nat} {M : jv_Mem} {N cr sr : Nat} {Z : Option Value → jv_Mem → Nat → Prop} {a0 : Nat} (h : jv_Tg 7 a0 N ∧ jv_Tg 7 a0 N ∧ ((Prod.fst M a0 1) ≤ (Prod.fst M a0 4) → jv_Tg 7 a0 N ∧ Z (some (.int 0)) (jv_si M a0 5 1) N) ∧ (¬ ((Prod.fst M a0 1) ≤ (Prod.fst M a0 4)) → jv_Tg 7 a0 N ∧ ∃ b5, Prod.fst (Prod.snd M) a0 0 = some b5 ∧ jv_Tg 7 a0 N ∧ jv_Tg 11 b5 N ∧ vp_in (Prod.fst M a0 4) (jv_sh b5).2 ∧ jv_Ct g d mt_JS_indexOf [.retAddr 3, .int (((Int32.toUInt32 (Prod.fst M b5 (Int32.toNatClampNeg (Prod.fst M a0 4)))) % 65536).toInt32)] M N 0 0 (fun v M11 N11 => jv_ri v (fun r10 => ((r10 + 1) ≠ 0 → jv_Tg 7 a0 N11 ∧ jv_Tg 7 a0 N11 ∧ Z (some (.int (r10 + 1))) (jv_si M11 a0 4 ((Prod.fst M11 a0 4) + 1)) N11) ∧ ((r10 + 1) = 0 → jv_Tg 7 a0 N11 ∧ Z (some (.int (r10 + 1))) (jv_si M11 a0 5 1) N11))))) : jv_J g (d + 1) mt_T_takeCode 0 [some (.ref a0), none] [] M N cr sr Z := by
  refine jv_aload_n d_T_takeCode_0 rfl rfl ?_
  obtain ⟨q1, h⟩ := h
  refine jv_getI d_T_takeCode_1 fl_T_33 rfl q1 ?_
  refine jv_aload_n d_T_takeCode_4 rfl rfl ?_
  obtain ⟨q2, h⟩ := h
  refine jv_getI d_T_takeCode_5 fl_T_29 rfl q2 ?_
  refine jv_icmp_ge (tgt := 31) d_T_takeCode_8 (by decide) ⟨fun c => ?_, fun c => ?_⟩
  · replace h := h.1 c
    refine jv_iconst (v := 0) d_T_takeCode_31 (by decide) ?_
    refine jv_istore_n (L' := [some (.ref a0), some (.int 0)]) d_T_takeCode_32 rfl (Nat.le_of_ble_eq_true rfl) rfl ?_
    refine jv_iload_n d_T_takeCode_33 rfl rfl ?_
    refine jv_if_ne (tgt := 45) d_T_takeCode_34 (by decide) ⟨fun c => absurd c (by decide), fun c => ?_⟩
    refine jv_aload_n d_T_takeCode_37 rfl rfl ?_
    refine jv_iconst (v := 1) d_T_takeCode_38 (by decide) ?_
    obtain ⟨q3, h⟩ := h
    refine jv_putZ d_T_takeCode_39 fl_T_36 (fun r hr => by cases hr; rfl) rfl q3 (by decide) ?_
    refine jv_goto (tgt := 55) d_T_takeCode_42 (by decide) ?_
    refine jv_iload_n d_T_takeCode_55 rfl rfl ?_
    exact jv_iret d_T_takeCode_56 rfl rfl h
  · replace h := h.2 c
    refine jv_ldcT d_T_takeCode_11 rfl ?_
    refine jv_aload_n d_T_takeCode_13 rfl rfl ?_
    obtain ⟨q4, h⟩ := h
    obtain ⟨b5, e6, h⟩ := h
    refine jv_getR d_T_takeCode_14 fl_T_9 rfl q4 e6 ?_
    refine jv_aload_n d_T_takeCode_17 rfl rfl ?_
    obtain ⟨q7, h⟩ := h
    refine jv_getI d_T_takeCode_18 fl_T_33 rfl q7 ?_
    obtain ⟨q8, q9, h⟩ := h
    refine jv_iald d_T_takeCode_21 q8 q9 ?_
    refine jv_i2c d_T_takeCode_22 ?_
    refine jv_invT [.int (((Int32.toUInt32 (Prod.fst M b5 (Int32.toNatClampNeg (Prod.fst M a0 4)))) % 65536).toInt32)] [] d_T_takeCode_23 ml_T_96 rfl (Nat.le_of_ble_eq_true rfl) (Nat.zero_add _) (Nat.zero_add _) (jv_Ct.mono h (fun v M11 N11 h => ?_))
    obtain ⟨r10, rfl, h⟩ := h
    change jv_J g (d + 1) mt_T_takeCode 26 [some (.ref a0), none] [.int r10] M11 N11 cr sr Z
    refine jv_iconst (v := 1) d_T_takeCode_26 (by decide) ?_
    refine jv_iadd d_T_takeCode_27 ?_
    refine jv_goto (tgt := 32) d_T_takeCode_28 (by decide) ?_
    refine jv_istore_n (L' := [some (.ref a0), some (.int (r10 + 1))]) d_T_takeCode_32 rfl (Nat.le_of_ble_eq_true rfl) rfl ?_
    refine jv_iload_n d_T_takeCode_33 rfl rfl ?_
    refine jv_if_ne (tgt := 45) d_T_takeCode_34 (by decide) ⟨fun c => ?_, fun c => ?_⟩
    · replace h := h.1 c
      refine jv_aload_n d_T_takeCode_45 rfl rfl ?_
      refine jv_dup d_T_takeCode_46 rfl ?_
      obtain ⟨q12, h⟩ := h
      refine jv_getI d_T_takeCode_47 fl_T_33 rfl q12 ?_
      refine jv_iconst (v := 1) d_T_takeCode_50 (by decide) ?_
      refine jv_iadd d_T_takeCode_51 ?_
      obtain ⟨q13, h⟩ := h
      refine jv_putI d_T_takeCode_52 fl_T_33 (fun r hr => by cases hr; rfl) rfl q13 ?_
      refine jv_iload_n d_T_takeCode_55 rfl rfl ?_
      exact jv_iret d_T_takeCode_56 rfl rfl h
    · replace h := h.2 c
      refine jv_aload_n d_T_takeCode_37 rfl rfl ?_
      refine jv_iconst (v := 1) d_T_takeCode_38 (by decide) ?_
      obtain ⟨q14, h⟩ := h
      refine jv_putZ d_T_takeCode_39 fl_T_36 (fun r hr => by cases hr; rfl) rfl q14 (by decide) ?_
      refine jv_goto (tgt := 55) d_T_takeCode_42 (by decide) ?_
      refine jv_iload_n d_T_takeCode_55 rfl rfl ?_
      exact jv_iret d_T_takeCode_56 rfl rfl h
theorem b_T_readHart_0 {g : jv_G} {d : Nat} {M : jv_Mem} {N cr sr : Nat} {Z : Option Value → jv_Mem → Nat → Prop} {a0 : Nat} (h : jv_Tg 7 a0 N ∧ ∃ b2, Prod.fst (Prod.snd M) a0 3 = some b2 ∧ jv_Tg 6 b2 N ∧ ((Prod.fst M b2 4) < 4 → jv_Tg 7 a0 N ∧ jv_Tg 7 a0 N ∧ jv_Tg 7 a0 N ∧ jv_Ct g d mt_T_take [.ref a0, .int 97, .int 16] (jv_si M a0 4 ((Prod.fst M a0 4) + 1)) N 0 0 (fun v M9 N9 => jv_ri v (fun r8 => jv_Tg 7 a0 N9 ∧ jv_Ct g d mt_T_take [.ref a0, .int 48, .int 3] M9 N9 0 0 (fun v M12 N12 => jv_ri v (fun r11 => jv_Tg 7 a0 N12 ∧ ((Prod.fst M12 a0 5) ≠ 0 → Z none M12 N12) ∧ ((Prod.fst M12 a0 5) = 0 → jv_Tg 7 a0 N12 ∧ ∃ b15, Prod.fst (Prod.snd M12) a0 3 = some b15 ∧ jv_Tg 6 b15 N12 ∧ jv_Ct g d mt_S_addHart [.ref b15, .int r8, .int r11] M12 N12 0 0 (fun v M19 N19 => jv_rv v (Z none M19 N19)))))))) ∧ (¬ ((Prod.fst M b2 4) < 4) → jv_Tg 7 a0 N ∧ Z none (jv_si M a0 5 1) N)) : jv_J g (d + 1) mt_T_readHart 0 [some (.ref a0), none, none] [] M N cr sr Z := by
  refine jv_aload_n d_T_readHart_0 rfl rfl ?_
  obtain ⟨q1, h⟩ := h
  obtain ⟨b2, e3, h⟩ := h
  refine jv_getR d_T_readHart_1 fl_T_25 rfl q1 e3 ?_
  obtain ⟨q4, h⟩ := h
  refine jv_getI d_T_readHart_4 fl_T_41 rfl q4 ?_
  refine jv_iconst (v := 4) d_T_readHart_7 (by decide) ?_
  refine jv_icmp_lt (tgt := 17) d_T_readHart_8 (by decide) ⟨fun c => ?_, fun c => ?_⟩
  · replace h := h.1 c
    refine jv_aload_n d_T_readHart_17 rfl rfl ?_
    refine jv_dup d_T_readHart_18 rfl ?_
    obtain ⟨q5, h⟩ := h
    refine jv_getI d_T_readHart_19 fl_T_33 rfl q5 ?_
    refine jv_iconst (v := 1) d_T_readHart_22 (by decide) ?_
    refine jv_iadd d_T_readHart_23 ?_
    obtain ⟨q6, h⟩ := h
    refine jv_putI d_T_readHart_24 fl_T_33 (fun r hr => by cases hr; rfl) rfl q6 ?_
    refine jv_aload_n d_T_readHart_27 rfl rfl ?_
    refine jv_bipush (v := 97) d_T_readHart_28 (by decide) ?_
    refine jv_bipush (v := 16) d_T_readHart_30 (by decide) ?_
    obtain ⟨q7, h⟩ := h
    refine jv_invV [.int 97, .int 16] [] d_T_readHart_32 ml_T_47 q7 rfl (Nat.le_of_ble_eq_true rfl) (Nat.zero_add _) (Nat.zero_add _) (jv_Ct.mono h (fun v M9 N9 h => ?_))
    obtain ⟨r8, rfl, h⟩ := h
    change jv_J g (d + 1) mt_T_readHart 35 [some (.ref a0), none, none] [.int r8] M9 N9 cr sr Z
    refine jv_istore_n (L' := [some (.ref a0), some (.int r8), none]) d_T_readHart_35 rfl (Nat.le_of_ble_eq_true rfl) rfl ?_
    refine jv_aload_n d_T_readHart_36 rfl rfl ?_
    refine jv_bipush (v := 48) d_T_readHart_37 (by decide) ?_
    refine jv_iconst (v := 3) d_T_readHart_39 (by decide) ?_
    obtain ⟨q10, h⟩ := h
    refine jv_invV [.int 48, .int 3] [] d_T_readHart_40 ml_T_47 q10 rfl (Nat.le_of_ble_eq_true rfl) (Nat.zero_add _) (Nat.zero_add _) (jv_Ct.mono h (fun v M12 N12 h => ?_))
    obtain ⟨r11, rfl, h⟩ := h
    change jv_J g (d + 1) mt_T_readHart 43 [some (.ref a0), some (.int r8), none] [.int r11] M12 N12 cr sr Z
    refine jv_istore_n (L' := [some (.ref a0), some (.int r8), some (.int r11)]) d_T_readHart_43 rfl (Nat.le_of_ble_eq_true rfl) rfl ?_
    refine jv_aload_n d_T_readHart_44 rfl rfl ?_
    obtain ⟨q13, h⟩ := h
    refine jv_getI d_T_readHart_45 fl_T_36 rfl q13 ?_
    refine jv_if_ne (tgt := 60) d_T_readHart_48 (by decide) ⟨fun c => ?_, fun c => ?_⟩
    · replace h := h.1 c
      exact jv_ret d_T_readHart_60 rfl h
    · replace h := h.2 c
      refine jv_aload_n d_T_readHart_51 rfl rfl ?_
      obtain ⟨q14, h⟩ := h
      obtain ⟨b15, e16, h⟩ := h
      refine jv_getR d_T_readHart_52 fl_T_25 rfl q14 e16 ?_
      refine jv_iload_n d_T_readHart_55 rfl rfl ?_
      refine jv_iload_n d_T_readHart_56 rfl rfl ?_
      obtain ⟨q17, h⟩ := h
      refine jv_invV [.int r8, .int r11] [] d_T_readHart_57 ml_T_80 q17 rfl (Nat.le_of_ble_eq_true rfl) (Nat.zero_add _) (Nat.zero_add _) (jv_Ct.mono h (fun v M19 N19 h => ?_))
      obtain ⟨rfl, h⟩ := h
      change jv_J g (d + 1) mt_T_readHart 60 [some (.ref a0), some (.int r8), some (.int r11)] [] M19 N19 cr sr Z
      exact jv_ret d_T_readHart_60 rfl h
  · replace h := h.2 c
    refine jv_aload_n d_T_readHart_11 rfl rfl ?_
    refine jv_iconst (v := 1) d_T_readHart_12 (by decide) ?_
    obtain ⟨q20, h⟩ := h
    refine jv_putZ d_T_readHart_13 fl_T_36 (fun r hr => by cases hr; rfl) rfl q20 (by decide) ?_
    exact jv_ret d_T_readHart_16 rfl h
theorem b_T_readTrigger_0 {g : jv_G} {d : Nat} {M : jv_Mem} {N cr sr : Nat} {Z : Option Value → jv_Mem → Nat → Prop} {a0 : Nat} {x1 : Int32} (h : jv_Tg 7 a0 N ∧ ∃ b2, Prod.fst (Prod.snd M) a0 3 = some b2 ∧ jv_Tg 6 b2 N ∧ ((Prod.fst M b2 4) = 0 → jv_Tg 7 a0 N ∧ Z none (jv_si M a0 5 1) N) ∧ (¬ ((Prod.fst M b2 4) = 0) → jv_Tg 7 a0 N ∧ ∃ b7, Prod.fst (Prod.snd M) a0 3 = some b7 ∧ jv_Tg 6 b7 N ∧ ((Prod.fst M b7 5) < 6 → jv_Tg 7 a0 N ∧ jv_Tg 7 a0 N ∧ jv_Tg 7 a0 N ∧ ∃ b13, Prod.fst (Prod.snd (jv_si M a0 4 ((Prod.fst M a0 4) + 1))) a0 3 = some b13 ∧ jv_Tg 6 b13 N ∧ jv_Tg 7 a0 N ∧ jv_Ct g d mt_T_take [.ref a0, .int 48, .int (Prod.fst (jv_si M a0 4 ((Prod.fst M a0 4) + 1)) b13 4)] (jv_si M a0 4 ((Prod.fst M a0 4) + 1)) N 0 0 (fun v M18 N18 => jv_ri v (fun r17 => jv_Tg 7 a0 N18 ∧ jv_Ct g d mt_T_take [.ref a0, .int 112, .int 2] M18 N18 0 0 (fun v M21 N21 => jv_ri v (fun r20 => (r20 ≠ 0 → jv_Tg 7 a0 N21 ∧ jv_Ct g d mt_T_take [.ref a0, .int 48, .int 4] M21 N21 0 0 (fun v M24 N24 => jv_ri v (fun r23 => (r20 ≠ 0 → jv_Tg 7 a0 N24 ∧ jv_Ct g d mt_T_take [.ref a0, .int 48, .int 10] M24 N24 0 0 (fun v M27 N27 => jv_ri v (fun r26 => jv_Tg 7 a0 N27 ∧ jv_Ct g d mt_T_take [.ref a0, .int 48, .int 10] M27 N27 0 0 (fun v M30 N30 => jv_ri v (fun r29 => jv_Tg 7 a0 N30 ∧ jv_Ct g d mt_T_take [.ref a0, .int 48, .int 10] M30 N30 0 0 (fun v M33 N33 => jv_ri v (fun r32 => jv_Tg 7 a0 N33 ∧ jv_Ct g d mt_T_take [.ref a0, .int 49, .int 9] M33 N33 0 0 (fun v M36 N36 => jv_ri v (fun r35 => jv_Tg 7 a0 N36 ∧ ((Prod.fst M36 a0 5) ≠ 0 → Z none M36 N36) ∧ ((Prod.fst M36 a0 5) = 0 → jv_Tg 7 a0 N36 ∧ ∃ b39, Prod.fst (Prod.snd M36) a0 3 = some b39 ∧ jv_Tg 6 b39 N36 ∧ jv_Ct g d mt_S_addTrigger [.ref b39, .int r17] M36 N36 0 0 (fun v M43 N43 => jv_ra v (fun r42 => jv_Tg 8 r42 N43 ∧ jv_Ct g d mt_U_become [.ref r42, .int r20, .int r23, .int (((r26 * 100) + (r29 * 10)) + r32), .int (1 + r35), .int x1] M43 N43 0 0 (fun v M46 N46 => jv_rv v (Z none M46 N46)))))))))))))) ∧ (r20 = 0 → jv_Tg 7 a0 N24 ∧ jv_Ct g d mt_T_take [.ref a0, .int 49, .int 9] M24 N24 0 0 (fun v M49 N49 => jv_ri v (fun r48 => jv_Tg 7 a0 N49 ∧ ((Prod.fst M49 a0 5) ≠ 0 → Z none M49 N49) ∧ ((Prod.fst M49 a0 5) = 0 → jv_Tg 7 a0 N49 ∧ ∃ b52, Prod.fst (Prod.snd M49) a0 3 = some b52 ∧ jv_Tg 6 b52 N49 ∧ jv_Ct g d mt_S_addTrigger [.ref b52, .int r17] M49 N49 0 0 (fun v M56 N56 => jv_ra v (fun r55 => jv_Tg 8 r55 N56 ∧ jv_Ct g d mt_U_become [.ref r55, .int r20, .int r23, .int 0, .int (1 + r48), .int x1] M56 N56 0 0 (fun v M59 N59 => jv_rv v (Z none M59 N59))))))))))) ∧ (r20 = 0 → jv_Tg 7 a0 N21 ∧ jv_Ct g d mt_T_take [.ref a0, .int 97, .int 16] M21 N21 0 0 (fun v M62 N62 => jv_ri v (fun r61 => (r20 ≠ 0 → jv_Tg 7 a0 N62 ∧ jv_Ct g d mt_T_take [.ref a0, .int 48, .int 10] M62 N62 0 0 (fun v M65 N65 => jv_ri v (fun r64 => jv_Tg 7 a0 N65 ∧ jv_Ct g d mt_T_take [.ref a0, .int 48, .int 10] M65 N65 0 0 (fun v M68 N68 => jv_ri v (fun r67 => jv_Tg 7 a0 N68 ∧ jv_Ct g d mt_T_take [.ref a0, .int 48, .int 10] M68 N68 0 0 (fun v M71 N71 => jv_ri v (fun r70 => jv_Tg 7 a0 N71 ∧ jv_Ct g d mt_T_take [.ref a0, .int 49, .int 9] M71 N71 0 0 (fun v M74 N74 => jv_ri v (fun r73 => jv_Tg 7 a0 N74 ∧ ((Prod.fst M74 a0 5) ≠ 0 → Z none M74 N74) ∧ ((Prod.fst M74 a0 5) = 0 → jv_Tg 7 a0 N74 ∧ ∃ b77, Prod.fst (Prod.snd M74) a0 3 = some b77 ∧ jv_Tg 6 b77 N74 ∧ jv_Ct g d mt_S_addTrigger [.ref b77, .int r17] M74 N74 0 0 (fun v M81 N81 => jv_ra v (fun r80 => jv_Tg 8 r80 N81 ∧ jv_Ct g d mt_U_become [.ref r80, .int r20, .int r61, .int (((r64 * 100) + (r67 * 10)) + r70), .int (1 + r73), .int x1] M81 N81 0 0 (fun v M84 N84 => jv_rv v (Z none M84 N84)))))))))))))) ∧ (r20 = 0 → jv_Tg 7 a0 N62 ∧ jv_Ct g d mt_T_take [.ref a0, .int 49, .int 9] M62 N62 0 0 (fun v M87 N87 => jv_ri v (fun r86 => jv_Tg 7 a0 N87 ∧ ((Prod.fst M87 a0 5) ≠ 0 → Z none M87 N87) ∧ ((Prod.fst M87 a0 5) = 0 → jv_Tg 7 a0 N87 ∧ ∃ b90, Prod.fst (Prod.snd M87) a0 3 = some b90 ∧ jv_Tg 6 b90 N87 ∧ jv_Ct g d mt_S_addTrigger [.ref b90, .int r17] M87 N87 0 0 (fun v M94 N94 => jv_ra v (fun r93 => jv_Tg 8 r93 N94 ∧ jv_Ct g d mt_U_become [.ref r93, .int r20, .int r61, .int 0, .int (1 + r86), .int x1] M94 N94 0 0 (fun v M97 N97 => jv_rv v (Z none M97 N97)))))))))))))))) ∧ (¬ ((Prod.fst M b7 5) < 6) → jv_Tg 7 a0 N ∧ Z none (jv_si M a0 5 1) N))) : jv_J g (d + 1) mt_T_readTrigger 0 [some (.ref a0), some (.int x1), none, none, none, none, none] [] M N cr sr Z := by
  refine jv_aload_n d_T_readTrigger_0 rfl rfl ?_
  obtain ⟨q1, h⟩ := h
  obtain ⟨b2, e3, h⟩ := h
  refine jv_getR d_T_readTrigger_1 fl_T_25 rfl q1 e3 ?_
  obtain ⟨q4, h⟩ := h
  refine jv_getI d_T_readTrigger_4 fl_T_41 rfl q4 ?_
  refine jv_if_eq (tgt := 22) d_T_readTrigger_7 (by decide) ⟨fun c => ?_, fun c => ?_⟩
  · replace h := h.1 c
    refine jv_aload_n d_T_readTrigger_22 rfl rfl ?_
    refine jv_iconst (v := 1) d_T_readTrigger_23 (by decide) ?_
    obtain ⟨q5, h⟩ := h
    refine jv_putZ d_T_readTrigger_24 fl_T_36 (fun r hr => by cases hr; rfl) rfl q5 (by decide) ?_
    exact jv_ret d_T_readTrigger_27 rfl h
  · replace h := h.2 c
    refine jv_aload_n d_T_readTrigger_10 rfl rfl ?_
    obtain ⟨q6, h⟩ := h
    obtain ⟨b7, e8, h⟩ := h
    refine jv_getR d_T_readTrigger_11 fl_T_25 rfl q6 e8 ?_
    obtain ⟨q9, h⟩ := h
    refine jv_getI d_T_readTrigger_14 fl_T_44 rfl q9 ?_
    refine jv_bipush (v := 6) d_T_readTrigger_17 (by decide) ?_
    refine jv_icmp_lt (tgt := 28) d_T_readTrigger_19 (by decide) ⟨fun c => ?_, fun c => ?_⟩
    · replace h := h.1 c
      refine jv_aload_n d_T_readTrigger_28 rfl rfl ?_
      refine jv_dup d_T_readTrigger_29 rfl ?_
      obtain ⟨q10, h⟩ := h
      refine jv_getI d_T_readTrigger_30 fl_T_33 rfl q10 ?_
      refine jv_iconst (v := 1) d_T_readTrigger_33 (by decide) ?_
      refine jv_iadd d_T_readTrigger_34 ?_
      obtain ⟨q11, h⟩ := h
      refine jv_putI d_T_readTrigger_35 fl_T_33 (fun r hr => by cases hr; rfl) rfl q11 ?_
      refine jv_aload_n d_T_readTrigger_38 rfl rfl ?_
      refine jv_bipush (v := 48) d_T_readTrigger_39 (by decide) ?_
      refine jv_aload_n d_T_readTrigger_41 rfl rfl ?_
      obtain ⟨q12, h⟩ := h
      obtain ⟨b13, e14, h⟩ := h
      refine jv_getR d_T_readTrigger_42 fl_T_25 rfl q12 e14 ?_
      obtain ⟨q15, h⟩ := h
      refine jv_getI d_T_readTrigger_45 fl_T_41 rfl q15 ?_
      obtain ⟨q16, h⟩ := h
      refine jv_invV [.int 48, .int (Prod.fst (jv_si M a0 4 ((Prod.fst M a0 4) + 1)) b13 4)] [] d_T_readTrigger_48 ml_T_47 q16 rfl (Nat.le_of_ble_eq_true rfl) (Nat.zero_add _) (Nat.zero_add _) (jv_Ct.mono h (fun v M18 N18 h => ?_))
      obtain ⟨r17, rfl, h⟩ := h
      change jv_J g (d + 1) mt_T_readTrigger 51 [some (.ref a0), some (.int x1), none, none, none, none, none] [.int r17] M18 N18 cr sr Z
      refine jv_istore_n (L' := [some (.ref a0), some (.int x1), some (.int r17), none, none, none, none]) d_T_readTrigger_51 rfl (Nat.le_of_ble_eq_true rfl) rfl ?_
      refine jv_aload_n d_T_readTrigger_52 rfl rfl ?_
      refine jv_bipush (v := 112) d_T_readTrigger_53 (by decide) ?_
      refine jv_iconst (v := 2) d_T_readTrigger_55 (by decide) ?_
      obtain ⟨q19, h⟩ := h
      refine jv_invV [.int 112, .int 2] [] d_T_readTrigger_56 ml_T_47 q19 rfl (Nat.le_of_ble_eq_true rfl) (Nat.zero_add _) (Nat.zero_add _) (jv_Ct.mono h (fun v M21 N21 h => ?_))
      obtain ⟨r20, rfl, h⟩ := h
      change jv_J g (d + 1) mt_T_readTrigger 59 [some (.ref a0), some (.int x1), some (.int r17), none, none, none, none] [.int r20] M21 N21 cr sr Z
      refine jv_istore_n (L' := [some (.ref a0), some (.int x1), some (.int r17), some (.int r20), none, none, none]) d_T_readTrigger_59 rfl (Nat.le_of_ble_eq_true rfl) rfl ?_
      refine jv_iload_n d_T_readTrigger_60 rfl rfl ?_
      refine jv_if_ne (tgt := 75) d_T_readTrigger_61 (by decide) ⟨fun c => ?_, fun c => ?_⟩
      · replace h := h.1 c
        refine jv_aload_n d_T_readTrigger_75 rfl rfl ?_
        refine jv_bipush (v := 48) d_T_readTrigger_76 (by decide) ?_
        refine jv_iconst (v := 4) d_T_readTrigger_78 (by decide) ?_
        obtain ⟨q22, h⟩ := h
        refine jv_invV [.int 48, .int 4] [] d_T_readTrigger_79 ml_T_47 q22 rfl (Nat.le_of_ble_eq_true rfl) (Nat.zero_add _) (Nat.zero_add _) (jv_Ct.mono h (fun v M24 N24 h => ?_))
        obtain ⟨r23, rfl, h⟩ := h
        change jv_J g (d + 1) mt_T_readTrigger 82 [some (.ref a0), some (.int x1), some (.int r17), some (.int r20), none, none, none] [.int r23] M24 N24 cr sr Z
        refine jv_istore (L' := [some (.ref a0), some (.int x1), some (.int r17), some (.int r20), some (.int r23), none, none]) d_T_readTrigger_82 (Nat.le_of_ble_eq_true rfl) rfl ?_
        refine jv_iload_n d_T_readTrigger_84 rfl rfl ?_
        refine jv_if_ne (tgt := 92) d_T_readTrigger_85 (by decide) ⟨fun c => ?_, fun c => ?_⟩
        · replace h := h.1 c
          refine jv_aload_n d_T_readTrigger_92 rfl rfl ?_
          refine jv_bipush (v := 48) d_T_readTrigger_93 (by decide) ?_
          refine jv_bipush (v := 10) d_T_readTrigger_95 (by decide) ?_
          obtain ⟨q25, h⟩ := h
          refine jv_invV [.int 48, .int 10] [] d_T_readTrigger_97 ml_T_47 q25 rfl (Nat.le_of_ble_eq_true rfl) (Nat.zero_add _) (Nat.zero_add _) (jv_Ct.mono h (fun v M27 N27 h => ?_))
          obtain ⟨r26, rfl, h⟩ := h
          change jv_J g (d + 1) mt_T_readTrigger 100 [some (.ref a0), some (.int x1), some (.int r17), some (.int r20), some (.int r23), none, none] [.int r26] M27 N27 cr sr Z
          refine jv_bipush (v := 100) d_T_readTrigger_100 (by decide) ?_
          refine jv_imul d_T_readTrigger_102 ?_
          refine jv_aload_n d_T_readTrigger_103 rfl rfl ?_
          refine jv_bipush (v := 48) d_T_readTrigger_104 (by decide) ?_
          refine jv_bipush (v := 10) d_T_readTrigger_106 (by decide) ?_
          obtain ⟨q28, h⟩ := h
          refine jv_invV [.int 48, .int 10] [.int (r26 * 100)] d_T_readTrigger_108 ml_T_47 q28 rfl (Nat.le_of_ble_eq_true rfl) (Nat.zero_add _) (Nat.zero_add _) (jv_Ct.mono h (fun v M30 N30 h => ?_))
          obtain ⟨r29, rfl, h⟩ := h
          change jv_J g (d + 1) mt_T_readTrigger 111 [some (.ref a0), some (.int x1), some (.int r17), some (.int r20), some (.int r23), none, none] [.int r29, .int (r26 * 100)] M30 N30 cr sr Z
          refine jv_bipush (v := 10) d_T_readTrigger_111 (by decide) ?_
          refine jv_imul d_T_readTrigger_113 ?_
          refine jv_iadd d_T_readTrigger_114 ?_
          refine jv_aload_n d_T_readTrigger_115 rfl rfl ?_
          refine jv_bipush (v := 48) d_T_readTrigger_116 (by decide) ?_
          refine jv_bipush (v := 10) d_T_readTrigger_118 (by decide) ?_
          obtain ⟨q31, h⟩ := h
          refine jv_invV [.int 48, .int 10] [.int ((r26 * 100) + (r29 * 10))] d_T_readTrigger_120 ml_T_47 q31 rfl (Nat.le_of_ble_eq_true rfl) (Nat.zero_add _) (Nat.zero_add _) (jv_Ct.mono h (fun v M33 N33 h => ?_))
          obtain ⟨r32, rfl, h⟩ := h
          change jv_J g (d + 1) mt_T_readTrigger 123 [some (.ref a0), some (.int x1), some (.int r17), some (.int r20), some (.int r23), none, none] [.int r32, .int ((r26 * 100) + (r29 * 10))] M33 N33 cr sr Z
          refine jv_iadd d_T_readTrigger_123 ?_
          refine jv_istore (L' := [some (.ref a0), some (.int x1), some (.int r17), some (.int r20), some (.int r23), some (.int (((r26 * 100) + (r29 * 10)) + r32)), none]) d_T_readTrigger_124 (Nat.le_of_ble_eq_true rfl) rfl ?_
          refine jv_iconst (v := 1) d_T_readTrigger_126 (by decide) ?_
          refine jv_aload_n d_T_readTrigger_127 rfl rfl ?_
          refine jv_bipush (v := 49) d_T_readTrigger_128 (by decide) ?_
          refine jv_bipush (v := 9) d_T_readTrigger_130 (by decide) ?_
          obtain ⟨q34, h⟩ := h
          refine jv_invV [.int 49, .int 9] [.int 1] d_T_readTrigger_132 ml_T_47 q34 rfl (Nat.le_of_ble_eq_true rfl) (Nat.zero_add _) (Nat.zero_add _) (jv_Ct.mono h (fun v M36 N36 h => ?_))
          obtain ⟨r35, rfl, h⟩ := h
          change jv_J g (d + 1) mt_T_readTrigger 135 [some (.ref a0), some (.int x1), some (.int r17), some (.int r20), some (.int r23), some (.int (((r26 * 100) + (r29 * 10)) + r32)), none] [.int r35, .int 1] M36 N36 cr sr Z
          refine jv_iadd d_T_readTrigger_135 ?_
          refine jv_istore (L' := [some (.ref a0), some (.int x1), some (.int r17), some (.int r20), some (.int r23), some (.int (((r26 * 100) + (r29 * 10)) + r32)), some (.int (1 + r35))]) d_T_readTrigger_136 (Nat.le_of_ble_eq_true rfl) rfl ?_
          refine jv_aload_n d_T_readTrigger_138 rfl rfl ?_
          obtain ⟨q37, h⟩ := h
          refine jv_getI d_T_readTrigger_139 fl_T_36 rfl q37 ?_
          refine jv_if_ne (tgt := 164) d_T_readTrigger_142 (by decide) ⟨fun c => ?_, fun c => ?_⟩
          · replace h := h.1 c
            exact jv_ret d_T_readTrigger_164 rfl h
          · replace h := h.2 c
            refine jv_aload_n d_T_readTrigger_145 rfl rfl ?_
            obtain ⟨q38, h⟩ := h
            obtain ⟨b39, e40, h⟩ := h
            refine jv_getR d_T_readTrigger_146 fl_T_25 rfl q38 e40 ?_
            refine jv_iload_n d_T_readTrigger_149 rfl rfl ?_
            obtain ⟨q41, h⟩ := h
            refine jv_invV [.int r17] [] d_T_readTrigger_150 ml_T_84 q41 rfl (Nat.le_of_ble_eq_true rfl) (Nat.zero_add _) (Nat.zero_add _) (jv_Ct.mono h (fun v M43 N43 h => ?_))
            obtain ⟨r42, rfl, h⟩ := h
            change jv_J g (d + 1) mt_T_readTrigger 153 [some (.ref a0), some (.int x1), some (.int r17), some (.int r20), some (.int r23), some (.int (((r26 * 100) + (r29 * 10)) + r32)), some (.int (1 + r35))] [.ref r42] M43 N43 cr sr Z
            refine jv_iload_n d_T_readTrigger_153 rfl rfl ?_
            refine jv_iload d_T_readTrigger_154 rfl ?_
            refine jv_iload d_T_readTrigger_156 rfl ?_
            refine jv_iload d_T_readTrigger_158 rfl ?_
            refine jv_iload_n d_T_readTrigger_160 rfl rfl ?_
            obtain ⟨q44, h⟩ := h
            refine jv_invV [.int r20, .int r23, .int (((r26 * 100) + (r29 * 10)) + r32), .int (1 + r35), .int x1] [] d_T_readTrigger_161 ml_T_88 q44 rfl (Nat.le_of_ble_eq_true rfl) (Nat.zero_add _) (Nat.zero_add _) (jv_Ct.mono h (fun v M46 N46 h => ?_))
            obtain ⟨rfl, h⟩ := h
            change jv_J g (d + 1) mt_T_readTrigger 164 [some (.ref a0), some (.int x1), some (.int r17), some (.int r20), some (.int r23), some (.int (((r26 * 100) + (r29 * 10)) + r32)), some (.int (1 + r35))] [] M46 N46 cr sr Z
            exact jv_ret d_T_readTrigger_164 rfl h
        · replace h := h.2 c
          refine jv_iconst (v := 0) d_T_readTrigger_88 (by decide) ?_
          refine jv_goto (tgt := 124) d_T_readTrigger_89 (by decide) ?_
          refine jv_istore (L' := [some (.ref a0), some (.int x1), some (.int r17), some (.int r20), some (.int r23), some (.int 0), none]) d_T_readTrigger_124 (Nat.le_of_ble_eq_true rfl) rfl ?_
          refine jv_iconst (v := 1) d_T_readTrigger_126 (by decide) ?_
          refine jv_aload_n d_T_readTrigger_127 rfl rfl ?_
          refine jv_bipush (v := 49) d_T_readTrigger_128 (by decide) ?_
          refine jv_bipush (v := 9) d_T_readTrigger_130 (by decide) ?_
          obtain ⟨q47, h⟩ := h
          refine jv_invV [.int 49, .int 9] [.int 1] d_T_readTrigger_132 ml_T_47 q47 rfl (Nat.le_of_ble_eq_true rfl) (Nat.zero_add _) (Nat.zero_add _) (jv_Ct.mono h (fun v M49 N49 h => ?_))
          obtain ⟨r48, rfl, h⟩ := h
          change jv_J g (d + 1) mt_T_readTrigger 135 [some (.ref a0), some (.int x1), some (.int r17), some (.int r20), some (.int r23), some (.int 0), none] [.int r48, .int 1] M49 N49 cr sr Z
          refine jv_iadd d_T_readTrigger_135 ?_
          refine jv_istore (L' := [some (.ref a0), some (.int x1), some (.int r17), some (.int r20), some (.int r23), some (.int 0), some (.int (1 + r48))]) d_T_readTrigger_136 (Nat.le_of_ble_eq_true rfl) rfl ?_
          refine jv_aload_n d_T_readTrigger_138 rfl rfl ?_
          obtain ⟨q50, h⟩ := h
          refine jv_getI d_T_readTrigger_139 fl_T_36 rfl q50 ?_
          refine jv_if_ne (tgt := 164) d_T_readTrigger_142 (by decide) ⟨fun c => ?_, fun c => ?_⟩
          · replace h := h.1 c
            exact jv_ret d_T_readTrigger_164 rfl h
          · replace h := h.2 c
            refine jv_aload_n d_T_readTrigger_145 rfl rfl ?_
            obtain ⟨q51, h⟩ := h
            obtain ⟨b52, e53, h⟩ := h
            refine jv_getR d_T_readTrigger_146 fl_T_25 rfl q51 e53 ?_
            refine jv_iload_n d_T_readTrigger_149 rfl rfl ?_
            obtain ⟨q54, h⟩ := h
            refine jv_invV [.int r17] [] d_T_readTrigger_150 ml_T_84 q54 rfl (Nat.le_of_ble_eq_true rfl) (Nat.zero_add _) (Nat.zero_add _) (jv_Ct.mono h (fun v M56 N56 h => ?_))
            obtain ⟨r55, rfl, h⟩ := h
            change jv_J g (d + 1) mt_T_readTrigger 153 [some (.ref a0), some (.int x1), some (.int r17), some (.int r20), some (.int r23), some (.int 0), some (.int (1 + r48))] [.ref r55] M56 N56 cr sr Z
            refine jv_iload_n d_T_readTrigger_153 rfl rfl ?_
            refine jv_iload d_T_readTrigger_154 rfl ?_
            refine jv_iload d_T_readTrigger_156 rfl ?_
            refine jv_iload d_T_readTrigger_158 rfl ?_
            refine jv_iload_n d_T_readTrigger_160 rfl rfl ?_
            obtain ⟨q57, h⟩ := h
            refine jv_invV [.int r20, .int r23, .int 0, .int (1 + r48), .int x1] [] d_T_readTrigger_161 ml_T_88 q57 rfl (Nat.le_of_ble_eq_true rfl) (Nat.zero_add _) (Nat.zero_add _) (jv_Ct.mono h (fun v M59 N59 h => ?_))
            obtain ⟨rfl, h⟩ := h
            change jv_J g (d + 1) mt_T_readTrigger 164 [some (.ref a0), some (.int x1), some (.int r17), some (.int r20), some (.int r23), some (.int 0), some (.int (1 + r48))] [] M59 N59 cr sr Z
            exact jv_ret d_T_readTrigger_164 rfl h
      · replace h := h.2 c
        refine jv_aload_n d_T_readTrigger_64 rfl rfl ?_
        refine jv_bipush (v := 97) d_T_readTrigger_65 (by decide) ?_
        refine jv_bipush (v := 16) d_T_readTrigger_67 (by decide) ?_
        obtain ⟨q60, h⟩ := h
        refine jv_invV [.int 97, .int 16] [] d_T_readTrigger_69 ml_T_47 q60 rfl (Nat.le_of_ble_eq_true rfl) (Nat.zero_add _) (Nat.zero_add _) (jv_Ct.mono h (fun v M62 N62 h => ?_))
        obtain ⟨r61, rfl, h⟩ := h
        change jv_J g (d + 1) mt_T_readTrigger 72 [some (.ref a0), some (.int x1), some (.int r17), some (.int r20), none, none, none] [.int r61] M62 N62 cr sr Z
        refine jv_goto (tgt := 82) d_T_readTrigger_72 (by decide) ?_
        refine jv_istore (L' := [some (.ref a0), some (.int x1), some (.int r17), some (.int r20), some (.int r61), none, none]) d_T_readTrigger_82 (Nat.le_of_ble_eq_true rfl) rfl ?_
        refine jv_iload_n d_T_readTrigger_84 rfl rfl ?_
        refine jv_if_ne (tgt := 92) d_T_readTrigger_85 (by decide) ⟨fun c => ?_, fun c => ?_⟩
        · replace h := h.1 c
          refine jv_aload_n d_T_readTrigger_92 rfl rfl ?_
          refine jv_bipush (v := 48) d_T_readTrigger_93 (by decide) ?_
          refine jv_bipush (v := 10) d_T_readTrigger_95 (by decide) ?_
          obtain ⟨q63, h⟩ := h
          refine jv_invV [.int 48, .int 10] [] d_T_readTrigger_97 ml_T_47 q63 rfl (Nat.le_of_ble_eq_true rfl) (Nat.zero_add _) (Nat.zero_add _) (jv_Ct.mono h (fun v M65 N65 h => ?_))
          obtain ⟨r64, rfl, h⟩ := h
          change jv_J g (d + 1) mt_T_readTrigger 100 [some (.ref a0), some (.int x1), some (.int r17), some (.int r20), some (.int r61), none, none] [.int r64] M65 N65 cr sr Z
          refine jv_bipush (v := 100) d_T_readTrigger_100 (by decide) ?_
          refine jv_imul d_T_readTrigger_102 ?_
          refine jv_aload_n d_T_readTrigger_103 rfl rfl ?_
          refine jv_bipush (v := 48) d_T_readTrigger_104 (by decide) ?_
          refine jv_bipush (v := 10) d_T_readTrigger_106 (by decide) ?_
          obtain ⟨q66, h⟩ := h
          refine jv_invV [.int 48, .int 10] [.int (r64 * 100)] d_T_readTrigger_108 ml_T_47 q66 rfl (Nat.le_of_ble_eq_true rfl) (Nat.zero_add _) (Nat.zero_add _) (jv_Ct.mono h (fun v M68 N68 h => ?_))
          obtain ⟨r67, rfl, h⟩ := h
          change jv_J g (d + 1) mt_T_readTrigger 111 [some (.ref a0), some (.int x1), some (.int r17), some (.int r20), some (.int r61), none, none] [.int r67, .int (r64 * 100)] M68 N68 cr sr Z
          refine jv_bipush (v := 10) d_T_readTrigger_111 (by decide) ?_
          refine jv_imul d_T_readTrigger_113 ?_
          refine jv_iadd d_T_readTrigger_114 ?_
          refine jv_aload_n d_T_readTrigger_115 rfl rfl ?_
          refine jv_bipush (v := 48) d_T_readTrigger_116 (by decide) ?_
          refine jv_bipush (v := 10) d_T_readTrigger_118 (by decide) ?_
          obtain ⟨q69, h⟩ := h
          refine jv_invV [.int 48, .int 10] [.int ((r64 * 100) + (r67 * 10))] d_T_readTrigger_120 ml_T_47 q69 rfl (Nat.le_of_ble_eq_true rfl) (Nat.zero_add _) (Nat.zero_add _) (jv_Ct.mono h (fun v M71 N71 h => ?_))
          obtain ⟨r70, rfl, h⟩ := h
          change jv_J g (d + 1) mt_T_readTrigger 123 [some (.ref a0), some (.int x1), some (.int r17), some (.int r20), some (.int r61), none, none] [.int r70, .int ((r64 * 100) + (r67 * 10))] M71 N71 cr sr Z
          refine jv_iadd d_T_readTrigger_123 ?_
          refine jv_istore (L' := [some (.ref a0), some (.int x1), some (.int r17), some (.int r20), some (.int r61), some (.int (((r64 * 100) + (r67 * 10)) + r70)), none]) d_T_readTrigger_124 (Nat.le_of_ble_eq_true rfl) rfl ?_
          refine jv_iconst (v := 1) d_T_readTrigger_126 (by decide) ?_
          refine jv_aload_n d_T_readTrigger_127 rfl rfl ?_
          refine jv_bipush (v := 49) d_T_readTrigger_128 (by decide) ?_
          refine jv_bipush (v := 9) d_T_readTrigger_130 (by decide) ?_
          obtain ⟨q72, h⟩ := h
          refine jv_invV [.int 49, .int 9] [.int 1] d_T_readTrigger_132 ml_T_47 q72 rfl (Nat.le_of_ble_eq_true rfl) (Nat.zero_add _) (Nat.zero_add _) (jv_Ct.mono h (fun v M74 N74 h => ?_))
          obtain ⟨r73, rfl, h⟩ := h
          change jv_J g (d + 1) mt_T_readTrigger 135 [some (.ref a0), some (.int x1), some (.int r17), some (.int r20), some (.int r61), some (.int (((r64 * 100) + (r67 * 10)) + r70)), none] [.int r73, .int 1] M74 N74 cr sr Z
          refine jv_iadd d_T_readTrigger_135 ?_
          refine jv_istore (L' := [some (.ref a0), some (.int x1), some (.int r17), some (.int r20), some (.int r61), some (.int (((r64 * 100) + (r67 * 10)) + r70)), some (.int (1 + r73))]) d_T_readTrigger_136 (Nat.le_of_ble_eq_true rfl) rfl ?_
          refine jv_aload_n d_T_readTrigger_138 rfl rfl ?_
          obtain ⟨q75, h⟩ := h
          refine jv_getI d_T_readTrigger_139 fl_T_36 rfl q75 ?_
          refine jv_if_ne (tgt := 164) d_T_readTrigger_142 (by decide) ⟨fun c => ?_, fun c => ?_⟩
          · replace h := h.1 c
            exact jv_ret d_T_readTrigger_164 rfl h
          · replace h := h.2 c
            refine jv_aload_n d_T_readTrigger_145 rfl rfl ?_
            obtain ⟨q76, h⟩ := h
            obtain ⟨b77, e78, h⟩ := h
            refine jv_getR d_T_readTrigger_146 fl_T_25 rfl q76 e78 ?_
            refine jv_iload_n d_T_readTrigger_149 rfl rfl ?_
            obtain ⟨q79, h⟩ := h
            refine jv_invV [.int r17] [] d_T_readTrigger_150 ml_T_84 q79 rfl (Nat.le_of_ble_eq_true rfl) (Nat.zero_add _) (Nat.zero_add _) (jv_Ct.mono h (fun v M81 N81 h => ?_))
            obtain ⟨r80, rfl, h⟩ := h
            change jv_J g (d + 1) mt_T_readTrigger 153 [some (.ref a0), some (.int x1), some (.int r17), some (.int r20), some (.int r61), some (.int (((r64 * 100) + (r67 * 10)) + r70)), some (.int (1 + r73))] [.ref r80] M81 N81 cr sr Z
            refine jv_iload_n d_T_readTrigger_153 rfl rfl ?_
            refine jv_iload d_T_readTrigger_154 rfl ?_
            refine jv_iload d_T_readTrigger_156 rfl ?_
            refine jv_iload d_T_readTrigger_158 rfl ?_
            refine jv_iload_n d_T_readTrigger_160 rfl rfl ?_
            obtain ⟨q82, h⟩ := h
            refine jv_invV [.int r20, .int r61, .int (((r64 * 100) + (r67 * 10)) + r70), .int (1 + r73), .int x1] [] d_T_readTrigger_161 ml_T_88 q82 rfl (Nat.le_of_ble_eq_true rfl) (Nat.zero_add _) (Nat.zero_add _) (jv_Ct.mono h (fun v M84 N84 h => ?_))
            obtain ⟨rfl, h⟩ := h
            change jv_J g (d + 1) mt_T_readTrigger 164 [some (.ref a0), some (.int x1), some (.int r17), some (.int r20), some (.int r61), some (.int (((r64 * 100) + (r67 * 10)) + r70)), some (.int (1 + r73))] [] M84 N84 cr sr Z
            exact jv_ret d_T_readTrigger_164 rfl h
        · replace h := h.2 c
          refine jv_iconst (v := 0) d_T_readTrigger_88 (by decide) ?_
          refine jv_goto (tgt := 124) d_T_readTrigger_89 (by decide) ?_
          refine jv_istore (L' := [some (.ref a0), some (.int x1), some (.int r17), some (.int r20), some (.int r61), some (.int 0), none]) d_T_readTrigger_124 (Nat.le_of_ble_eq_true rfl) rfl ?_
          refine jv_iconst (v := 1) d_T_readTrigger_126 (by decide) ?_
          refine jv_aload_n d_T_readTrigger_127 rfl rfl ?_
          refine jv_bipush (v := 49) d_T_readTrigger_128 (by decide) ?_
          refine jv_bipush (v := 9) d_T_readTrigger_130 (by decide) ?_
          obtain ⟨q85, h⟩ := h
          refine jv_invV [.int 49, .int 9] [.int 1] d_T_readTrigger_132 ml_T_47 q85 rfl (Nat.le_of_ble_eq_true rfl) (Nat.zero_add _) (Nat.zero_add _) (jv_Ct.mono h (fun v M87 N87 h => ?_))
          obtain ⟨r86, rfl, h⟩ := h
          change jv_J g (d + 1) mt_T_readTrigger 135 [some (.ref a0), some (.int x1), some (.int r17), some (.int r20), some (.int r61), some (.int 0), none] [.int r86, .int 1] M87 N87 cr sr Z
          refine jv_iadd d_T_readTrigger_135 ?_
          refine jv_istore (L' := [some (.ref a0), some (.int x1), some (.int r17), some (.int r20), some (.int r61), some (.int 0), some (.int (1 + r86))]) d_T_readTrigger_136 (Nat.le_of_ble_eq_true rfl) rfl ?_
          refine jv_aload_n d_T_readTrigger_138 rfl rfl ?_
          obtain ⟨q88, h⟩ := h
          refine jv_getI d_T_readTrigger_139 fl_T_36 rfl q88 ?_
          refine jv_if_ne (tgt := 164) d_T_readTrigger_142 (by decide) ⟨fun c => ?_, fun c => ?_⟩
          · replace h := h.1 c
            exact jv_ret d_T_readTrigger_164 rfl h
          · replace h := h.2 c
            refine jv_aload_n d_T_readTrigger_145 rfl rfl ?_
            obtain ⟨q89, h⟩ := h
            obtain ⟨b90, e91, h⟩ := h
            refine jv_getR d_T_readTrigger_146 fl_T_25 rfl q89 e91 ?_
            refine jv_iload_n d_T_readTrigger_149 rfl rfl ?_
            obtain ⟨q92, h⟩ := h
            refine jv_invV [.int r17] [] d_T_readTrigger_150 ml_T_84 q92 rfl (Nat.le_of_ble_eq_true rfl) (Nat.zero_add _) (Nat.zero_add _) (jv_Ct.mono h (fun v M94 N94 h => ?_))
            obtain ⟨r93, rfl, h⟩ := h
            change jv_J g (d + 1) mt_T_readTrigger 153 [some (.ref a0), some (.int x1), some (.int r17), some (.int r20), some (.int r61), some (.int 0), some (.int (1 + r86))] [.ref r93] M94 N94 cr sr Z
            refine jv_iload_n d_T_readTrigger_153 rfl rfl ?_
            refine jv_iload d_T_readTrigger_154 rfl ?_
            refine jv_iload d_T_readTrigger_156 rfl ?_
            refine jv_iload d_T_readTrigger_158 rfl ?_
            refine jv_iload_n d_T_readTrigger_160 rfl rfl ?_
            obtain ⟨q95, h⟩ := h
            refine jv_invV [.int r20, .int r61, .int 0, .int (1 + r86), .int x1] [] d_T_readTrigger_161 ml_T_88 q95 rfl (Nat.le_of_ble_eq_true rfl) (Nat.zero_add _) (Nat.zero_add _) (jv_Ct.mono h (fun v M97 N97 h => ?_))
            obtain ⟨rfl, h⟩ := h
            change jv_J g (d + 1) mt_T_readTrigger 164 [some (.ref a0), some (.int x1), some (.int r17), some (.int r20), some (.int r61), some (.int 0), some (.int (1 + r86))] [] M97 N97 cr sr Z
            exact jv_ret d_T_readTrigger_164 rfl h
    · replace h := h.2 c
      refine jv_aload_n d_T_readTrigger_22 rfl rfl ?_
      refine jv_iconst (v := 1) d_T_readTrigger_23 (by decide) ?_
      obtain ⟨q98, h⟩ := h
      refine jv_putZ d_T_readTrigger_24 fl_T_36 (fun r hr => by cases hr; rfl) rfl q98 (by decide) ?_
      exact jv_ret d_T_readTrigger_27 rfl h
