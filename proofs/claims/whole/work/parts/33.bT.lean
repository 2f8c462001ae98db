/-! ===== blocks ===== -/
theorem b_T_init_0 {g : jv_G} {d : Nat} {M : jv_Mem} {N cr sr : Nat} {Z : Option Value → jv_Mem → Nat → Prop} {a0 : Nat} (h : jv_sh N = (11, 150) ∧ 1 ≤ cr ∧ 150 ≤ sr ∧ jv_Tg 7 a0 (N + 1) ∧ jv_sh (N + 1) = (4, 4) ∧ 1 ≤ (cr - 1) ∧ 4 ≤ (sr - 150) ∧ ∃ c9 s10 : Nat, c9 ≤ ((cr - 1) - 1) ∧ s10 ≤ ((sr - 150) - 4) ∧ jv_Ct g d mt_P_init [.ref (N + 1)] (jv_zero (jv_sr (jv_zero M N) a0 0 (some N)) (N + 1)) ((N + 1) + 1) c9 s10 (fun v M13 N13 => jv_rv v (jv_Tg 7 a0 N13 ∧ jv_sh N13 = (6, 8) ∧ 1 ≤ (((cr - 1) - 1) - c9) ∧ 8 ≤ (((sr - 150) - 4) - s10) ∧ ∃ c19 s20 : Nat, c19 ≤ ((((cr - 1) - 1) - c9) - 1) ∧ s20 ≤ ((((sr - 150) - 4) - s10) - 8) ∧ jv_Ct g d mt_S_init [.ref N13] (jv_zero (jv_sr M13 a0 2 (some (N + 1))) N13) (N13 + 1) c19 s20 (fun v M23 N23 => jv_rv v (jv_Tg 7 a0 N23 ∧ Z none (jv_sr M23 a0 3 (some N13)) N23))))) : jv_J g (d + 1) mt_T_init 0 [some (.ref a0)] [] M N cr sr Z := by
  refine jv_aload_n d_T_init_0 rfl rfl ?_
  refine jv_objI d_T_init_1 oi_T_3 oi_w2 oi_w3 (Nat.le_of_ble_eq_true rfl) ?_
  refine jv_aload_n d_T_init_4 rfl rfl ?_
  refine jv_sipush (v := 150) d_T_init_5 (by decide) ?_
  obtain ⟨q1, q2, q3, h⟩ := h
  refine jv_newI (n := 150) d_T_init_8 arr_int (by decide) (by decide) (by decide) q1 (Nat.sub_add_cancel q2) (Nat.sub_add_cancel q3) ?_
  obtain ⟨q4, h⟩ := h
  refine jv_putR d_T_init_10 fl_T_9 rfl (fun r hr => by cases hr; exact Or.inr ⟨rfl, rfl, rfl⟩) q4 ?_
  refine jv_aload_n d_T_init_13 rfl rfl ?_
  obtain ⟨q5, q6, q7, h⟩ := h
  refine jv_new (t := 4) (n := 4) _ d_T_init_14 rfl rfl cl_T_15 ins_P ini_P q5 (Nat.sub_add_cancel q6) (Nat.sub_add_cancel q7) ?_
  refine jv_dup d_T_init_17 rfl ?_
  obtain ⟨c9, s10, q11, q12, h⟩ := h
  refine jv_invIN [] [.ref (N + 1), .ref a0] d_T_init_18 ml_T_17 rfl (Nat.le_of_ble_eq_true rfl) (Nat.add_sub_cancel' q11) (Nat.add_sub_cancel' q12) (jv_Ct.mono h (fun v M13 N13 h => ?_))
  obtain ⟨rfl, h⟩ := h
  change jv_J g (d + 1) mt_T_init 21 [some (.ref a0)] [.ref (N + 1), .ref a0] M13 N13 (((cr - 1) - 1) - c9) (((sr - 150) - 4) - s10) Z
  obtain ⟨q14, h⟩ := h
  refine jv_putR d_T_init_21 fl_T_18 rfl (fun r hr => by cases hr; exact Or.inr ⟨rfl, rfl, rfl⟩) q14 ?_
  refine jv_aload_n d_T_init_24 rfl rfl ?_
  obtain ⟨q15, q16, q17, h⟩ := h
  refine jv_new (t := 6) (n := 8) _ d_T_init_25 rfl rfl cl_T_22 ins_S ini_S q15 (Nat.sub_add_cancel q16) (Nat.sub_add_cancel q17) ?_
  refine jv_dup d_T_init_28 rfl ?_
  obtain ⟨c19, s20, q21, q22, h⟩ := h
  refine jv_invI [] [.ref N13, .ref a0] d_T_init_29 ml_T_24 rfl (Nat.le_of_ble_eq_true rfl) (Nat.add_sub_cancel' q21) (Nat.add_sub_cancel' q22) (jv_Ct.mono h (fun v M23 N23 h => ?_))
  obtain ⟨rfl, h⟩ := h
  change jv_J g (d + 1) mt_T_init 32 [some (.ref a0)] [.ref N13, .ref a0] M23 N23 (((((cr - 1) - 1) - c9) - 1) - c19) (((((sr - 150) - 4) - s10) - 8) - s20) Z
  obtain ⟨q24, h⟩ := h
  refine jv_putR d_T_init_32 fl_T_25 rfl (fun r hr => by cases hr; exact Or.inr ⟨rfl, rfl, rfl⟩) q24 ?_
  exact jv_ret d_T_init_35 rfl h
theorem b_T_append_0 {g : jv_G} {d : Nat} {M : jv_Mem} {N cr sr : Nat} {Z : Option Value → jv_Mem → Nat → Prop} {a0 : Nat} {x1 : Int32} (h : jv_Tg 7 a0 N ∧ ((Prod.fst M a0 1) < 150 → jv_Tg 7 a0 N ∧ ∃ b3, Prod.fst (Prod.snd M) a0 0 = some b3 ∧ jv_Tg 7 a0 N ∧ jv_Tg 11 b3 N ∧ vp_in (Prod.fst M a0 1) (jv_sh b3).2 ∧ jv_Tg 7 a0 N ∧ jv_Tg 7 a0 N ∧ Z (some (.int 1)) (jv_si (jv_si M b3 (Int32.toNatClampNeg (Prod.fst M a0 1)) x1) a0 1 ((Prod.fst (jv_si M b3 (Int32.toNatClampNeg (Prod.fst M a0 1)) x1) a0 1) + 1)) N) ∧ (¬ ((Prod.fst M a0 1) < 150) → Z (some (.int 0)) M N)) : jv_J g d mt_T_append 0 [some (.ref a0), some (.int x1)] [] M N cr sr Z := by
  refine jv_aload_n d_T_append_0 rfl rfl ?_
  obtain ⟨q1, h⟩ := h
  refine jv_getI d_T_append_1 fl_T_29 rfl q1 ?_
  refine jv_sipush (v := 150) d_T_append_4 (by decide) ?_
  refine jv_icmp_lt (tgt := 12) d_T_append_7 (by decide) ⟨fun c => ?_, fun c => ?_⟩
  · replace h := h.1 c
    refine jv_aload_n d_T_append_12 rfl rfl ?_
    obtain ⟨q2, h⟩ := h
    obtain ⟨b3, e4, h⟩ := h
    refine jv_getR d_T_append_13 fl_T_9 rfl q2 e4 ?_
    refine jv_aload_n d_T_append_16 rfl rfl ?_
    obtain ⟨q5, h⟩ := h
    refine jv_getI d_T_append_17 fl_T_29 rfl q5 ?_
    refine jv_iload_n d_T_append_20 rfl rfl ?_
    obtain ⟨q6, q7, h⟩ := h
    refine jv_iast d_T_append_21 q6 q7 ?_
    refine jv_aload_n d_T_append_22 rfl rfl ?_
    refine jv_dup d_T_append_23 rfl ?_
    obtain ⟨q8, h⟩ := h
    refine jv_getI d_T_append_24 fl_T_29 rfl q8 ?_
    refine jv_iconst (v := 1) d_T_append_27 (by decide) ?_
    refine jv_iadd d_T_append_28 ?_
    obtain ⟨q9, h⟩ := h
    refine jv_putI d_T_append_29 fl_T_29 (fun r hr => by cases hr; rfl) rfl q9 ?_
    refine jv_iconst (v := 1) d_T_append_32 (by decide) ?_
    exact jv_iret d_T_append_33 rfl (jv_nz (by decide)) h
  · replace h := h.2 c
    refine jv_iconst (v := 0) d_T_append_10 (by decide) ?_
    exact jv_iret d_T_append_11 rfl (jv_nz (by decide)) h
theorem b_T_findFault_0 {g : jv_G} {d : Nat} {M : jv_Mem} {N cr sr : Nat} {Z : Option Value → jv_Mem → Nat → Prop} {a0 : Nat} (h : jv_Tg 7 a0 N ∧ jv_Tg 7 a0 N ∧ jv_Tg 7 a0 N ∧ ∃ b4, Prod.fst (Prod.snd (jv_si (jv_si M a0 4 0) a0 5 0)) a0 2 = some b4 ∧ jv_Tg 4 b4 N ∧ jv_Tg 7 a0 N ∧ ∃ b8, Prod.fst (Prod.snd (jv_si (jv_si (jv_si M a0 4 0) a0 5 0) b4 3 0)) a0 3 = some b8 ∧ jv_Tg 6 b8 N ∧ jv_Tg 7 a0 N ∧ ∃ b12, Prod.fst (Prod.snd (jv_si (jv_si (jv_si (jv_si M a0 4 0) a0 5 0) b4 3 0) b8 4 0)) a0 3 = some b12 ∧ jv_Tg 6 b12 N ∧ jv_Tg 7 a0 N ∧ jv_Ct g d mt_T_take [.ref a0, .int 82, .int 1] (jv_si (jv_si (jv_si (jv_si (jv_si M a0 4 0) a0 5 0) b4 3 0) b8 4 0) b12 5 0) N 0 0 (fun v M17 N17 => jv_ri v (fun r16 => jv_J g (d + 1) mt_T_findFault 44 [some (.ref a0), some (.int 0)] [] M17 N17 cr sr Z))) : jv_J g (d + 1) mt_T_findFault 0 [some (.ref a0), none] [] M N cr sr Z := by
  refine jv_aload_n d_T_findFault_0 rfl rfl ?_
  refine jv_iconst (v := 0) d_T_findFault_1 (by decide) ?_
  obtain ⟨q1, h⟩ := h
  refine jv_putI d_T_findFault_2 fl_T_33 (fun r hr => by cases hr; rfl) rfl q1 ?_
  refine jv_aload_n d_T_findFault_5 rfl rfl ?_
  refine jv_iconst (v := 0) d_T_findFault_6 (by decide) ?_
  obtain ⟨q2, h⟩ := h
  refine jv_putZ d_T_findFault_7 fl_T_36 (fun r hr => by cases hr; rfl) rfl q2 (by decide) ?_
  refine jv_aload_n d_T_findFault_10 rfl rfl ?_
  obtain ⟨q3, h⟩ := h
  obtain ⟨b4, e5, h⟩ := h
  refine jv_getR d_T_findFault_11 fl_T_18 rfl q3 e5 ?_
  refine jv_iconst (v := 0) d_T_findFault_14 (by decide) ?_
  obtain ⟨q6, h⟩ := h
  refine jv_putI d_T_findFault_15 fl_T_40 (fun r hr => by cases hr; rfl) rfl q6 ?_
  refine jv_aload_n d_T_findFault_18 rfl rfl ?_
  obtain ⟨q7, h⟩ := h
  obtain ⟨b8, e9, h⟩ := h
  refine jv_getR d_T_findFault_19 fl_T_25 rfl q7 e9 ?_
  refine jv_iconst (v := 0) d_T_findFault_22 (by decide) ?_
  obtain ⟨q10, h⟩ := h
  refine jv_putI d_T_findFault_23 fl_T_41 (fun r hr => by cases hr; rfl) rfl q10 ?_
  refine jv_aload_n d_T_findFault_26 rfl rfl ?_
  obtain ⟨q11, h⟩ := h
  obtain ⟨b12, e13, h⟩ := h
  refine jv_getR d_T_findFault_27 fl_T_25 rfl q11 e13 ?_
  refine jv_iconst (v := 0) d_T_findFault_30 (by decide) ?_
  obtain ⟨q14, h⟩ := h
  refine jv_putI d_T_findFault_31 fl_T_44 (fun r hr => by cases hr; rfl) rfl q14 ?_
  refine jv_aload_n d_T_findFault_34 rfl rfl ?_
  refine jv_bipush (v := 82) d_T_findFault_35 (by decide) ?_
  refine jv_iconst (v := 1) d_T_findFault_37 (by decide) ?_
  obtain ⟨q15, h⟩ := h
  refine jv_invV [.int 82, .int 1] [] d_T_findFault_38 ml_T_47 q15 rfl (Nat.le_of_ble_eq_true rfl) (Nat.zero_add _) (Nat.zero_add _) (jv_Ct.mono h (fun v M17 N17 h => ?_))
  obtain ⟨r16, rfl, h⟩ := h
  change jv_J g (d + 1) mt_T_findFault 41 [some (.ref a0), none] [.int r16] M17 N17 cr sr Z
  refine jv_pop d_T_findFault_41 rfl ?_
  refine jv_iconst (v := 0) d_T_findFault_42 (by decide) ?_
  refine jv_istore_n (L' := [some (.ref a0), some (.int 0)]) d_T_findFault_43 rfl (Nat.le_of_ble_eq_true rfl) rfl ?_
  exact h
theorem b_T_findFault_44 {g : jv_G} {d : Nat} {M : jv_Mem} {N cr sr : Nat} {Z : Option Value → jv_Mem → Nat → Prop} {a0 : Nat} {x1 : Int32} (h : (150 ≤ x1 → jv_Tg 7 a0 N ∧ ((Prod.fst M a0 5) = 0 → Z (some (.int (-9))) M N) ∧ (¬ ((Prod.fst M a0 5) = 0) → jv_Tg 7 a0 N ∧ Z (some (.int (Prod.fst M a0 4))) M N)) ∧ (¬ (150 ≤ x1) → jv_Tg 7 a0 N ∧ ((Prod.fst M a0 5) ≠ 0 → jv_Tg 7 a0 N ∧ ((Prod.fst M a0 5) = 0 → Z (some (.int (-9))) M N) ∧ (¬ ((Prod.fst M a0 5) = 0) → jv_Tg 7 a0 N ∧ Z (some (.int (Prod.fst M a0 4))) M N)) ∧ ((Prod.fst M a0 5) = 0 → jv_Tg 7 a0 N ∧ jv_Tg 7 a0 N ∧ ((Prod.fst M a0 1) ≤ (Prod.fst M a0 4) → jv_Tg 7 a0 N ∧ ((Prod.fst M a0 5) = 0 → Z (some (.int (-9))) M N) ∧ (¬ ((Prod.fst M a0 5) = 0) → jv_Tg 7 a0 N ∧ Z (some (.int (Prod.fst M a0 4))) M N)) ∧ (¬ ((Prod.fst M a0 1) ≤ (Prod.fst M a0 4)) → jv_Tg 7 a0 N ∧ ∃ b11, Prod.fst (Prod.snd M) a0 0 = some b11 ∧ jv_Tg 7 a0 N ∧ jv_Tg 11 b11 N ∧ vp_in (Prod.fst M a0 4) (jv_sh b11).2 ∧ jv_Tg 7 a0 N ∧ jv_Ct g d mt_T_readPart [.ref a0, .int (Prod.fst M b11 (Int32.toNatClampNeg (Prod.fst M a0 4)))] M N 0 0 (fun v M18 N18 => jv_rv v (jv_J g (d + 1) mt_T_findFault 44 [some (.ref a0), some (.int (x1 + 1))] [] M18 N18 cr sr Z)))))) : jv_J g (d + 1) mt_T_findFault 44 [some (.ref a0), some (.int x1)] [] M N cr sr Z := by
  refine jv_iload_n d_T_findFault_44 rfl rfl ?_
  refine jv_sipush (v := 150) d_T_findFault_45 (by decide) ?_
  refine jv_icmp_ge (tgt := 88) d_T_findFault_48 (by decide) ⟨fun c => ?_, fun c => ?_⟩
  · replace h := h.1 c
    refine jv_aload_n d_T_findFault_88 rfl rfl ?_
    obtain ⟨q1, h⟩ := h
    refine jv_getI d_T_findFault_89 fl_T_36 rfl q1 ?_
    refine jv_if_eq (tgt := 102) d_T_findFault_92 (by decide) ⟨fun c => ?_, fun c => ?_⟩
    · replace h := h.1 c
      refine jv_bipush (v := (-9)) d_T_findFault_102 (by decide) ?_
      exact jv_iret d_T_findFault_104 rfl rfl h
    · replace h := h.2 c
      refine jv_aload_n d_T_findFault_95 rfl rfl ?_
      obtain ⟨q2, h⟩ := h
      refine jv_getI d_T_findFault_96 fl_T_33 rfl q2 ?_
      refine jv_goto (tgt := 104) d_T_findFault_99 (by decide) ?_
      exact jv_iret d_T_findFault_104 rfl rfl h
  · replace h := h.2 c
    refine jv_aload_n d_T_findFault_51 rfl rfl ?_
    obtain ⟨q3, h⟩ := h
    refine jv_getI d_T_findFault_52 fl_T_36 rfl q3 ?_
    refine jv_if_ne (tgt := 88) d_T_findFault_55 (by decide) ⟨fun c => ?_, fun c => ?_⟩
    · replace h := h.1 c
      refine jv_aload_n d_T_findFault_88 rfl rfl ?_
      obtain ⟨q4, h⟩ := h
      refine jv_getI d_T_findFault_89 fl_T_36 rfl q4 ?_
      refine jv_if_eq (tgt := 102) d_T_findFault_92 (by decide) ⟨fun c => ?_, fun c => ?_⟩
      · replace h := h.1 c
        refine jv_bipush (v := (-9)) d_T_findFault_102 (by decide) ?_
        exact jv_iret d_T_findFault_104 rfl rfl h
      · replace h := h.2 c
        refine jv_aload_n d_T_findFault_95 rfl rfl ?_
        obtain ⟨q5, h⟩ := h
        refine jv_getI d_T_findFault_96 fl_T_33 rfl q5 ?_
        refine jv_goto (tgt := 104) d_T_findFault_99 (by decide) ?_
        exact jv_iret d_T_findFault_104 rfl rfl h
    · replace h := h.2 c
      refine jv_aload_n d_T_findFault_58 rfl rfl ?_
      obtain ⟨q6, h⟩ := h
      refine jv_getI d_T_findFault_59 fl_T_33 rfl q6 ?_
      refine jv_aload_n d_T_findFault_62 rfl rfl ?_
      obtain ⟨q7, h⟩ := h
      refine jv_getI d_T_findFault_63 fl_T_29 rfl q7 ?_
      refine jv_icmp_ge (tgt := 88) d_T_findFault_66 (by decide) ⟨fun c => ?_, fun c => ?_⟩
      · replace h := h.1 c
        refine jv_aload_n d_T_findFault_88 rfl rfl ?_
        obtain ⟨q8, h⟩ := h
        refine jv_getI d_T_findFault_89 fl_T_36 rfl q8 ?_
        refine jv_if_eq (tgt := 102) d_T_findFault_92 (by decide) ⟨fun c => ?_, fun c => ?_⟩
        · replace h := h.1 c
          refine jv_bipush (v := (-9)) d_T_findFault_102 (by decide) ?_
          exact jv_iret d_T_findFault_104 rfl rfl h
        · replace h := h.2 c
          refine jv_aload_n d_T_findFault_95 rfl rfl ?_
          obtain ⟨q9, h⟩ := h
          refine jv_getI d_T_findFault_96 fl_T_33 rfl q9 ?_
          refine jv_goto (tgt := 104) d_T_findFault_99 (by decide) ?_
          exact jv_iret d_T_findFault_104 rfl rfl h
      · replace h := h.2 c
        refine jv_aload_n d_T_findFault_69 rfl rfl ?_
        refine jv_aload_n d_T_findFault_70 rfl rfl ?_
        obtain ⟨q10, h⟩ := h
        obtain ⟨b11, e12, h⟩ := h
        refine jv_getR d_T_findFault_71 fl_T_9 rfl q10 e12 ?_
        refine jv_aload_n d_T_findFault_74 rfl rfl ?_
        obtain ⟨q13, h⟩ := h
        refine jv_getI d_T_findFault_75 fl_T_33 rfl q13 ?_
        obtain ⟨q14, q15, h⟩ := h
        refine jv_iald d_T_findFault_78 q14 q15 ?_
        obtain ⟨q16, h⟩ := h
        refine jv_invV [.int (Prod.fst M b11 (Int32.toNatClampNeg (Prod.fst M a0 4)))] [] d_T_findFault_79 ml_T_51 q16 rfl (Nat.le_of_ble_eq_true rfl) (Nat.zero_add _) (Nat.zero_add _) (jv_Ct.mono h (fun v M18 N18 h => ?_))
        obtain ⟨rfl, h⟩ := h
        change jv_J g (d + 1) mt_T_findFault 82 [some (.ref a0), some (.int x1)] [] M18 N18 cr sr Z
        refine jv_iinc (v := (x1 + 1)) (L' := [some (.ref a0), some (.int (x1 + 1))]) d_T_findFault_82 rfl rfl (Nat.le_of_ble_eq_true rfl) rfl ?_
        refine jv_goto (tgt := 44) d_T_findFault_85 (by decide) ?_
        exact h
theorem b_T_take_0 {g : jv_G} {d : Nat} {M : jv_Mem} {N cr sr : Nat} {Z : Option Value → jv_Mem → Nat → Prop} {a0 : Nat} {x1 : Int32} {x2 : Int32} (h : jv_Tg 7 a0 N ∧ ((Prod.fst M a0 5) ≠ 0 → jv_Ct g d mt_R_isBelow [.int (-9), .int x2] M N 0 0 (fun v M3 N3 => jv_ri v (fun r2 => (r2 ≠ 0 → jv_Tg 7 a0 N3 ∧ jv_Tg 7 a0 N3 ∧ Z (some (.int (-9))) (jv_si M3 a0 4 ((Prod.fst M3 a0 4) + 1)) N3) ∧ (r2 = 0 → jv_Tg 7 a0 N3 ∧ Z (some (.int 0)) (jv_si M3 a0 5 1) N3)))) ∧ ((Prod.fst M a0 5) = 0 → jv_Tg 7 a0 N ∧ jv_Tg 7 a0 N ∧ ((Prod.fst M a0 1) ≤ (Prod.fst M a0 4) → jv_Ct g d mt_R_isBelow [.int (-9), .int x2] M N 0 0 (fun v M10 N10 => jv_ri v (fun r9 => (r9 ≠ 0 → jv_Tg 7 a0 N10 ∧ jv_Tg 7 a0 N10 ∧ Z (some (.int (-9))) (jv_si M10 a0 4 ((Prod.fst M10 a0 4) + 1)) N10) ∧ (r9 = 0 → jv_Tg 7 a0 N10 ∧ Z (some (.int 0)) (jv_si M10 a0 5 1) N10)))) ∧ (¬ ((Prod.fst M a0 1) ≤ (Prod.fst M a0 4)) → jv_Tg 7 a0 N ∧ ∃ b15, Prod.fst (Prod.snd M) a0 0 = some b15 ∧ jv_Tg 7 a0 N ∧ jv_Tg 11 b15 N ∧ vp_in (Prod.fst M a0 4) (jv_sh b15).2 ∧ jv_Ct g d mt_R_isBelow [.int ((Prod.fst M b15 (Int32.toNatClampNeg (Prod.fst M a0 4))) - x1), .int x2] M N 0 0 (fun v M21 N21 => jv_ri v (fun r20 => (r20 ≠ 0 → jv_Tg 7 a0 N21 ∧ jv_Tg 7 a0 N21 ∧ Z (some (.int ((Prod.fst M b15 (Int32.toNatClampNeg (Prod.fst M a0 4))) - x1))) (jv_si M21 a0 4 ((Prod.fst M21 a0 4) + 1)) N21) ∧ (r20 = 0 → jv_Tg 7 a0 N21 ∧ Z (some (.int 0)) (jv_si M21 a0 5 1) N21)))))) : jv_J g (d + 1) mt_T_take 0 [some (.ref a0), some (.int x1), some (.int x2), none] [] M N cr sr Z := by
  refine jv_aload_n d_T_take_0 rfl rfl ?_
  obtain ⟨q1, h⟩ := h
  refine jv_getI d_T_take_1 fl_T_36 rfl q1 ?_
  refine jv_if_ne (tgt := 32) d_T_take_4 (by decide) ⟨fun c => ?_, fun c => ?_⟩
  · replace h := h.1 c
    refine jv_bipush (v := (-9)) d_T_take_32 (by decide) ?_
    refine jv_istore_n (L' := [some (.ref a0), some (.int x1), some (.int x2), some (.int (-9))]) d_T_take_34 rfl (Nat.le_of_ble_eq_true rfl) rfl ?_
    refine jv_iload_n d_T_take_35 rfl rfl ?_
    refine jv_iload_n d_T_take_36 rfl rfl ?_
    refine jv_invSN [.int (-9), .int x2] [] d_T_take_37 ml_T_102 rfl (Nat.le_of_ble_eq_true rfl) (Nat.zero_add _) (Nat.zero_add _) (jv_Ct.mono h (fun v M3 N3 h => ?_))
    obtain ⟨r2, rfl, h⟩ := h
    change jv_J g (d + 1) mt_T_take 40 [some (.ref a0), some (.int x1), some (.int x2), some (.int (-9))] [.int r2] M3 N3 cr sr Z
    refine jv_if_ne (tgt := 50) d_T_take_40 (by decide) ⟨fun c => ?_, fun c => ?_⟩
    · replace h := h.1 c
      refine jv_aload_n d_T_take_50 rfl rfl ?_
      refine jv_dup d_T_take_51 rfl ?_
      obtain ⟨q4, h⟩ := h
      refine jv_getI d_T_take_52 fl_T_33 rfl q4 ?_
      refine jv_iconst (v := 1) d_T_take_55 (by decide) ?_
      refine jv_iadd d_T_take_56 ?_
      obtain ⟨q5, h⟩ := h
      refine jv_putI d_T_take_57 fl_T_33 (fun r hr => by cases hr; rfl) rfl q5 ?_
      refine jv_iload_n d_T_take_60 rfl rfl ?_
      exact jv_iret d_T_take_61 rfl rfl h
    · replace h := h.2 c
      refine jv_aload_n d_T_take_43 rfl rfl ?_
      refine jv_iconst (v := 1) d_T_take_44 (by decide) ?_
      obtain ⟨q6, h⟩ := h
      refine jv_putZ d_T_take_45 fl_T_36 (fun r hr => by cases hr; rfl) rfl q6 (by decide) ?_
      refine jv_iconst (v := 0) d_T_take_48 (by decide) ?_
      exact jv_iret d_T_take_49 rfl rfl h
  · replace h := h.2 c
    refine jv_aload_n d_T_take_7 rfl rfl ?_
    obtain ⟨q7, h⟩ := h
    refine jv_getI d_T_take_8 fl_T_33 rfl q7 ?_
    refine jv_aload_n d_T_take_11 rfl rfl ?_
    obtain ⟨q8, h⟩ := h
    refine jv_getI d_T_take_12 fl_T_29 rfl q8 ?_
    refine jv_icmp_ge (tgt := 32) d_T_take_15 (by decide) ⟨fun c => ?_, fun c => ?_⟩
    · replace h := h.1 c
      refine jv_bipush (v := (-9)) d_T_take_32 (by decide) ?_
      refine jv_istore_n (L' := [some (.ref a0), some (.int x1), some (.int x2), some (.int (-9))]) d_T_take_34 rfl (Nat.le_of_ble_eq_true rfl) rfl ?_
      refine jv_iload_n d_T_take_35 rfl rfl ?_
      refine jv_iload_n d_T_take_36 rfl rfl ?_
      refine jv_invSN [.int (-9), .int x2] [] d_T_take_37 ml_T_102 rfl (Nat.le_of_ble_eq_true rfl) (Nat.zero_add _) (Nat.zero_add _) (jv_Ct.mono h (fun v M10 N10 h => ?_))
      obtain ⟨r9, rfl, h⟩ := h
      change jv_J g (d + 1) mt_T_take 40 [some (.ref a0), some (.int x1), some (.int x2), some (.int (-9))] [.int r9] M10 N10 cr sr Z
      refine jv_if_ne (tgt := 50) d_T_take_40 (by decide) ⟨fun c => ?_, fun c => ?_⟩
      · replace h := h.1 c
        refine jv_aload_n d_T_take_50 rfl rfl ?_
        refine jv_dup d_T_take_51 rfl ?_
        obtain ⟨q11, h⟩ := h
        refine jv_getI d_T_take_52 fl_T_33 rfl q11 ?_
        refine jv_iconst (v := 1) d_T_take_55 (by decide) ?_
        refine jv_iadd d_T_take_56 ?_
        obtain ⟨q12, h⟩ := h
        refine jv_putI d_T_take_57 fl_T_33 (fun r hr => by cases hr; rfl) rfl q12 ?_
        refine jv_iload_n d_T_take_60 rfl rfl ?_
        exact jv_iret d_T_take_61 rfl rfl h
      · replace h := h.2 c
        refine jv_aload_n d_T_take_43 rfl rfl ?_
        refine jv_iconst (v := 1) d_T_take_44 (by decide) ?_
        obtain ⟨q13, h⟩ := h
        refine jv_putZ d_T_take_45 fl_T_36 (fun r hr => by cases hr; rfl) rfl q13 (by decide) ?_
        refine jv_iconst (v := 0) d_T_take_48 (by decide) ?_
        exact jv_iret d_T_take_49 rfl rfl h
    · replace h := h.2 c
      refine jv_aload_n d_T_take_18 rfl rfl ?_
      obtain ⟨q14, h⟩ := h
      obtain ⟨b15, e16, h⟩ := h
      refine jv_getR d_T_take_19 fl_T_9 rfl q14 e16 ?_
      refine jv_aload_n d_T_take_22 rfl rfl ?_
      obtain ⟨q17, h⟩ := h
      refine jv_getI d_T_take_23 fl_T_33 rfl q17 ?_
      obtain ⟨q18, q19, h⟩ := h
      refine jv_iald d_T_take_26 q18 q19 ?_
      refine jv_iload_n d_T_take_27 rfl rfl ?_
      refine jv_isub d_T_take_28 ?_
      refine jv_goto (tgt := 34) d_T_take_29 (by decide) ?_
      refine jv_istore_n (L' := [some (.ref a0), some (.int x1), some (.int x2), some (.int ((Prod.fst M b15 (Int32.toNatClampNeg (Prod.fst M a0 4))) - x1))]) d_T_take_34 rfl (Nat.le_of_ble_eq_true rfl) rfl ?_
      refine jv_iload_n d_T_take_35 rfl rfl ?_
      refine jv_iload_n d_T_take_36 rfl rfl ?_
      refine jv_invSN [.int ((Prod.fst M b15 (Int32.toNatClampNeg (Prod.fst M a0 4))) - x1), .int x2] [] d_T_take_37 ml_T_102 rfl (Nat.le_of_ble_eq_true rfl) (Nat.zero_add _) (Nat.zero_add _) (jv_Ct.mono h (fun v M21 N21 h => ?_))
      obtain ⟨r20, rfl, h⟩ := h
      change jv_J g (d + 1) mt_T_take 40 [some (.ref a0), some (.int x1), some (.int x2), some (.int ((Prod.fst M b15 (Int32.toNatClampNeg (Prod.fst M a0 4))) - x1))] [.int r20] M21 N21 cr sr Z
      refine jv_if_ne (tgt := 50) d_T_take_40 (by decide) ⟨fun c => ?_, fun c => ?_⟩
      · replace h := h.1 c
        refine jv_aload_n d_T_take_50 rfl rfl ?_
        refine jv_dup d_T_take_51 rfl ?_
        obtain ⟨q22, h⟩ := h
        refine jv_getI d_T_take_52 fl_T_33 rfl q22 ?_
        refine jv_iconst (v := 1) d_T_take_55 (by decide) ?_
        refine jv_iadd d_T_take_56 ?_
        obtain ⟨q23, h⟩ := h
        refine jv_putI d_T_take_57 fl_T_33 (fun r hr => by cases hr; rfl) rfl q23 ?_
        refine jv_iload_n d_T_take_60 rfl rfl ?_
        exact jv_iret d_T_take_61 rfl rfl h
      · replace h := h.2 c
        refine jv_aload_n d_T_take_43 rfl rfl ?_
        refine jv_iconst (v := 1) d_T_take_44 (by decide) ?_
        obtain ⟨q24, h⟩ := h
        refine jv_putZ d_T_take_45 fl_T_36 (fun r hr => by cases hr; rfl) rfl q24 (by decide) ?_
        refine jv_iconst (v := 0) d_T_take_48 (by decide) ?_
        exact jv_iret d_T_take_49 rfl rfl h
theorem b_T_readPart_0 {g : jv_G} {d : Nat} {M : jv_Mem} {N cr sr : Nat} {Z : Option Value → jv_Mem → Nat → Prop} {a0 : Nat} {x1 : Int32} (h : (x1 = 84 → jv_Tg 7 a0 N ∧ jv_Ct g d mt_T_readTrigger [.ref a0, .int 1] M N 0 0 (fun v M5 N5 => jv_rv v (Z none M5 N5))) ∧ (x1 = 104 → jv_Tg 7 a0 N ∧ jv_Ct g d mt_T_readHart [.ref a0] M N 0 0 (fun v M8 N8 => jv_rv v (Z none M8 N8))) ∧ (x1 = 105 → jv_Tg 7 a0 N ∧ jv_Ct g d mt_T_readInstruction [.ref a0] M N 0 0 (fun v M11 N11 => jv_rv v (Z none M11 N11))) ∧ (x1 = 116 → jv_Tg 7 a0 N ∧ jv_Ct g d mt_T_readTrigger [.ref a0, .int 0] M N 0 0 (fun v M14 N14 => jv_rv v (Z none M14 N14))) ∧ ((x1 ≠ 84 ∧ x1 ≠ 104 ∧ x1 ≠ 105 ∧ x1 ≠ 116) → jv_Tg 7 a0 N ∧ Z none (jv_si M a0 5 1) N)) : jv_J g (d + 1) mt_T_readPart 0 [some (.ref a0), some (.int x1)] [] M N cr sr Z := by
  refine jv_iload_n d_T_readPart_0 rfl rfl ?_
  have hD1 : (x1 ≠ 84 ∧ x1 ≠ 104 ∧ x1 ≠ 105 ∧ x1 ≠ 116) → jv_J g (d + 1) mt_T_readPart 74 [some (.ref a0), some (.int x1)] [] M N cr sr Z := by
    intro c
    replace h := h.2.2.2.2 c
    refine jv_aload_n d_T_readPart_74 rfl rfl ?_
    refine jv_iconst (v := 1) d_T_readPart_75 (by decide) ?_
    obtain ⟨q2, h⟩ := h
    refine jv_putZ d_T_readPart_76 fl_T_36 (fun r hr => by cases hr; rfl) rfl q2 (by decide) ?_
    exact jv_ret d_T_readPart_79 rfl h
  refine jv_lsw (dt := 74) [(84, 66), (104, 51), (105, 44), (116, 58)] d_T_readPart_1 (by decide) (by decide) (by decide) (fun q hq hx => ?_) (fun hq => ?_)
  · simp only [List.mem_cons, List.not_mem_nil, or_false] at hq
    rcases hq with rfl | rfl | rfl | rfl
    · replace h := h.1 hx
      refine jv_aload_n d_T_readPart_66 rfl rfl ?_
      refine jv_iconst (v := 1) d_T_readPart_67 (by decide) ?_
      obtain ⟨q3, h⟩ := h
      refine jv_invV [.int 1] [] d_T_readPart_68 ml_T_61 q3 rfl (Nat.le_of_ble_eq_true rfl) (Nat.zero_add _) (Nat.zero_add _) (jv_Ct.mono h (fun v M5 N5 h => ?_))
      obtain ⟨rfl, h⟩ := h
      change jv_J g (d + 1) mt_T_readPart 71 [some (.ref a0), some (.int x1)] [] M5 N5 cr sr Z
      refine jv_goto (tgt := 79) d_T_readPart_71 (by decide) ?_
      exact jv_ret d_T_readPart_79 rfl h
    · replace h := h.2.1 hx
      refine jv_aload_n d_T_readPart_51 rfl rfl ?_
      obtain ⟨q6, h⟩ := h
      refine jv_invV [] [] d_T_readPart_52 ml_T_58 q6 rfl (Nat.le_of_ble_eq_true rfl) (Nat.zero_add _) (Nat.zero_add _) (jv_Ct.mono h (fun v M8 N8 h => ?_))
      obtain ⟨rfl, h⟩ := h
      change jv_J g (d + 1) mt_T_readPart 55 [some (.ref a0), some (.int x1)] [] M8 N8 cr sr Z
      refine jv_goto (tgt := 79) d_T_readPart_55 (by decide) ?_
      exact jv_ret d_T_readPart_79 rfl h
    · replace h := h.2.2.1 hx
      refine jv_aload_n d_T_readPart_44 rfl rfl ?_
      obtain ⟨q9, h⟩ := h
      refine jv_invV [] [] d_T_readPart_45 ml_T_55 q9 rfl (Nat.le_of_ble_eq_true rfl) (Nat.zero_add _) (Nat.zero_add _) (jv_Ct.mono h (fun v M11 N11 h => ?_))
      obtain ⟨rfl, h⟩ := h
      change jv_J g (d + 1) mt_T_readPart 48 [some (.ref a0), some (.int x1)] [] M11 N11 cr sr Z
      refine jv_goto (tgt := 79) d_T_readPart_48 (by decide) ?_
      exact jv_ret d_T_readPart_79 rfl h
    · replace h := h.2.2.2.1 hx
      refine jv_aload_n d_T_readPart_58 rfl rfl ?_
      refine jv_iconst (v := 0) d_T_readPart_59 (by decide) ?_
      obtain ⟨q12, h⟩ := h
      refine jv_invV [.int 0] [] d_T_readPart_60 ml_T_61 q12 rfl (Nat.le_of_ble_eq_true rfl) (Nat.zero_add _) (Nat.zero_add _) (jv_Ct.mono h (fun v M14 N14 h => ?_))
      obtain ⟨rfl, h⟩ := h
      change jv_J g (d + 1) mt_T_readPart 63 [some (.ref a0), some (.int x1)] [] M14 N14 cr sr Z
      refine jv_goto (tgt := 79) d_T_readPart_63 (by decide) ?_
      exact jv_ret d_T_readPart_79 rfl h
  · exact hD1 ⟨hq _ (List.mem_of_getElem? (i := 0) rfl), hq _ (List.mem_of_getElem? (i := 1) rfl), hq _ (List.mem_of_getElem? (i := 2) rfl), hq _ (List.mem_of_getElem? (i := 3) rfl)⟩
theorem b_T_readInstruction_0 {g : jv_G} {d : Nat} {M : jv_Mem} {N cr sr : Nat} {Z : Option Value → jv_Mem → Nat → Prop} {a0 : Nat} (h : jv_Tg 7 a0 N ∧ ∃ b2, Prod.fst (Prod.snd M) a0 2 = some b2 ∧ jv_Tg 4 b2 N ∧ ((Prod.fst M b2 3) < 16 → jv_Tg 7 a0 N ∧ jv_Tg 7 a0 N ∧ jv_Tg 7 a0 N ∧ jv_Ct g d mt_T_takeCode [.ref a0] (jv_si M a0 4 ((Prod.fst M a0 4) + 1)) N 0 0 (fun v M9 N9 => jv_ri v (fun r8 => jv_Ct g d mt_P_hasRegister [.int r8] M9 N9 0 0 (fun v M11 N11 => jv_ri v (fun r10 => (r10 = 0 → jv_J g (d + 1) mt_T_readInstruction 51 [some (.ref a0), some (.int r8), none, none] [.int 0] M11 N11 cr sr Z) ∧ (¬ (r10 = 0) → jv_Tg 7 a0 N11 ∧ jv_Ct g d mt_T_take [.ref a0, .int 48, .int 4] M11 N11 0 0 (fun v M14 N14 => jv_ri v (fun r13 => jv_J g (d + 1) mt_T_readInstruction 51 [some (.ref a0), some (.int r8), none, none] [.int r13] M14 N14 cr sr Z)))))))) ∧ (¬ ((Prod.fst M b2 3) < 16) → jv_Tg 7 a0 N ∧ Z none (jv_si M a0 5 1) N)) : jv_J g (d + 1) mt_T_readInstruction 0 [some (.ref a0), none, none, none] [] M N cr sr Z := by
  refine jv_aload_n d_T_readInstruction_0 rfl rfl ?_
  obtain ⟨q1, h⟩ := h
  obtain ⟨b2, e3, h⟩ := h
  refine jv_getR d_T_readInstruction_1 fl_T_18 rfl q1 e3 ?_
  obtain ⟨q4, h⟩ := h
  refine jv_getI d_T_readInstruction_4 fl_T_40 rfl q4 ?_
  refine jv_bipush (v := 16) d_T_readInstruction_7 (by decide) ?_
  refine jv_icmp_lt (tgt := 18) d_T_readInstruction_9 (by decide) ⟨fun c => ?_, fun c => ?_⟩
  · replace h := h.1 c
    refine jv_aload_n d_T_readInstruction_18 rfl rfl ?_
    refine jv_dup d_T_readInstruction_19 rfl ?_
    obtain ⟨q5, h⟩ := h
    refine jv_getI d_T_readInstruction_20 fl_T_33 rfl q5 ?_
    refine jv_iconst (v := 1) d_T_readInstruction_23 (by decide) ?_
    refine jv_iadd d_T_readInstruction_24 ?_
    obtain ⟨q6, h⟩ := h
    refine jv_putI d_T_readInstruction_25 fl_T_33 (fun r hr => by cases hr; rfl) rfl q6 ?_
    refine jv_aload_n d_T_readInstruction_28 rfl rfl ?_
    obtain ⟨q7, h⟩ := h
    refine jv_invV [] [] d_T_readInstruction_29 ml_T_65 q7 rfl (Nat.le_of_ble_eq_true rfl) (Nat.zero_add _) (Nat.zero_add _) (jv_Ct.mono h (fun v M9 N9 h => ?_))
    obtain ⟨r8, rfl, h⟩ := h
    change jv_J g (d + 1) mt_T_readInstruction 32 [some (.ref a0), none, none, none] [.int r8] M9 N9 cr sr Z
    refine jv_istore_n (L' := [some (.ref a0), some (.int r8), none, none]) d_T_readInstruction_32 rfl (Nat.le_of_ble_eq_true rfl) rfl ?_
    refine jv_iload_n d_T_readInstruction_33 rfl rfl ?_
    refine jv_invS [.int r8] [] d_T_readInstruction_34 ml_T_69 rfl (Nat.le_of_ble_eq_true rfl) (Nat.zero_add _) (Nat.zero_add _) (jv_Ct.mono h (fun v M11 N11 h => ?_))
    obtain ⟨r10, rfl, h⟩ := h
    change jv_J g (d + 1) mt_T_readInstruction 37 [some (.ref a0), some (.int r8), none, none] [.int r10] M11 N11 cr sr Z
    refine jv_if_eq (tgt := 50) d_T_readInstruction_37 (by decide) ⟨fun c => ?_, fun c => ?_⟩
    · replace h := h.1 c
      refine jv_iconst (v := 0) d_T_readInstruction_50 (by decide) ?_
      exact h
    · replace h := h.2 c
      refine jv_aload_n d_T_readInstruction_40 rfl rfl ?_
      refine jv_bipush (v := 48) d_T_readInstruction_41 (by decide) ?_
      refine jv_iconst (v := 4) d_T_readInstruction_43 (by decide) ?_
      obtain ⟨q12, h⟩ := h
      refine jv_invV [.int 48, .int 4] [] d_T_readInstruction_44 ml_T_47 q12 rfl (Nat.le_of_ble_eq_true rfl) (Nat.zero_add _) (Nat.zero_add _) (jv_Ct.mono h (fun v M14 N14 h => ?_))
      obtain ⟨r13, rfl, h⟩ := h
      change jv_J g (d + 1) mt_T_readInstruction 47 [some (.ref a0), some (.int r8), none, none] [.int r13] M14 N14 cr sr Z
      refine jv_goto (tgt := 51) d_T_readInstruction_47 (by decide) ?_
      exact h
  · replace h := h.2 c
    refine jv_aload_n d_T_readInstruction_12 rfl rfl ?_
    refine jv_iconst (v := 1) d_T_readInstruction_13 (by decide) ?_
    obtain ⟨q15, h⟩ := h
    refine jv_putZ d_T_readInstruction_14 fl_T_36 (fun r hr => by cases hr; rfl) rfl q15 (by decide) ?_
    exact jv_ret d_T_readInstruction_17 rfl h
theorem b_T_readInstruction_51 {g : jv_G} {d : Nat} {M : jv_Mem} {N cr sr : Nat} {Z : Option Value → jv_Mem → Nat → Prop} {a0 : Nat} {x1 : Int32} {y0 : Int32} (h : vp_in x1 9 ∧ ((jv_second (Int32.toNatClampNeg x1)) ≤ 0 → jv_J g (d + 1) mt_T_readInstruction 86 [some (.ref a0), some (.int x1), some (.int y0), none] [.int 0] M N cr sr Z) ∧ (¬ ((jv_second (Int32.toNatClampNeg x1)) ≤ 0) → (x1 ≠ 6 → jv_J g (d + 1) mt_T_readInstruction 74 [some (.ref a0), some (.int x1), some (.int y0), none] [.int 48, .ref a0] M N cr sr Z) ∧ (x1 = 6 → jv_J g (d + 1) mt_T_readInstruction 74 [some (.ref a0), some (.int x1), some (.int y0), none] [.int 97, .ref a0] M N cr sr Z))) : jv_J g (d + 1) mt_T_readInstruction 51 [some (.ref a0), some (.int x1), none, none] [.int y0] M N cr sr Z := by
  refine jv_istore_n (L' := [some (.ref a0), some (.int x1), some (.int y0), none]) d_T_readInstruction_51 rfl (Nat.le_of_ble_eq_true rfl) rfl ?_
  refine jv_gSecN d_T_readInstruction_52 sf_T_73 ?_
  refine jv_iload_n d_T_readInstruction_55 rfl rfl ?_
  obtain ⟨q1, h⟩ := h
  refine jv_roald (f := jv_second) d_T_readInstruction_56 (Or.inr (Or.inl ⟨rfl, rfl, rfl⟩)) q1 ?_
  refine jv_if_le (tgt := 85) d_T_readInstruction_57 (by decide) ⟨fun c => ?_, fun c => ?_⟩
  · replace h := h.1 c
    refine jv_iconst (v := 0) d_T_readInstruction_85 (by decide) ?_
    exact h
  · replace h := h.2 c
    refine jv_aload_n d_T_readInstruction_60 rfl rfl ?_
    refine jv_iload_n d_T_readInstruction_61 rfl rfl ?_
    refine jv_bipush (v := 6) d_T_readInstruction_62 (by decide) ?_
    refine jv_icmp_ne (tgt := 72) d_T_readInstruction_64 (by decide) ⟨fun c => ?_, fun c => ?_⟩
    · replace h := h.1 c
      refine jv_bipush (v := 48) d_T_readInstruction_72 (by decide) ?_
      exact h
    · replace h := h.2 c
      refine jv_bipush (v := 97) d_T_readInstruction_67 (by decide) ?_
      refine jv_goto (tgt := 74) d_T_readInstruction_69 (by decide) ?_
      exact h
theorem b_T_readInstruction_74 {g : jv_G} {d : Nat} {M : jv_Mem} {N cr sr : Nat} {Z : Option Value → jv_Mem → Nat → Prop} {a0 : Nat} {x1 : Int32} {x2 : Int32} {b0 : Nat} {y1 : Int32} (h : vp_in x1 9 ∧ jv_Tg 7 b0 N ∧ jv_Ct g d mt_T_take [.ref b0, .int y1, .int (jv_second (Int32.toNatClampNeg x1))] M N 0 0 (fun v M4 N4 => jv_ri v (fun r3 => jv_J g (d + 1) mt_T_readInstruction 86 [some (.ref a0), some (.int x1), some (.int x2), none] [.int r3] M4 N4 cr sr Z))) : jv_J g (d + 1) mt_T_readInstruction 74 [some (.ref a0), some (.int x1), some (.int x2), none] [.int y1, .ref b0] M N cr sr Z := by
  refine jv_gSecN d_T_readInstruction_74 sf_T_73 ?_
  refine jv_iload_n d_T_readInstruction_77 rfl rfl ?_
  obtain ⟨q1, h⟩ := h
  refine jv_roald (f := jv_second) d_T_readInstruction_78 (Or.inr (Or.inl ⟨rfl, rfl, rfl⟩)) q1 ?_
  obtain ⟨q2, h⟩ := h
  refine jv_invV [.int y1, .int (jv_second (Int32.toNatClampNeg x1))] [] d_T_readInstruction_79 ml_T_47 q2 rfl (Nat.le_of_ble_eq_true rfl) (Nat.zero_add _) (Nat.zero_add _) (jv_Ct.mono h (fun v M4 N4 h => ?_))
  obtain ⟨r3, rfl, h⟩ := h
  change jv_J g (d + 1) mt_T_readInstruction 82 [some (.ref a0), some (.int x1), some (.int x2), none] [.int r3] M4 N4 cr sr Z
  refine jv_goto (tgt := 86) d_T_readInstruction_82 (by decide) ?_
  exact h
theorem b_T_readInstruction_86 {g : jv_G} {d : Nat} {M : jv_Mem} {N cr sr : Nat} {Z : Option Value → jv_Mem → Nat → Prop} {a0 : Nat} {x1 : Int32} {x2 : Int32} {y0 : Int32} (h : jv_Tg 7 a0 N ∧ ((Prod.fst M a0 5) ≠ 0 → Z none M N) ∧ ((Prod.fst M a0 5) = 0 → jv_Tg 7 a0 N ∧ ∃ b3, Prod.fst (Prod.snd M) a0 2 = some b3 ∧ jv_Tg 4 b3 N ∧ jv_Ct g d mt_P_append [.ref b3, .int x1, .int x2, .int y0] M N 0 0 (fun v M7 N7 => jv_rv v (Z none M7 N7)))) : jv_J g (d + 1) mt_T_readInstruction 86 [some (.ref a0), some (.int x1), some (.int x2), none] [.int y0] M N cr sr Z := by
  refine jv_istore_n (L' := [some (.ref a0), some (.int x1), some (.int x2), some (.int y0)]) d_T_readInstruction_86 rfl (Nat.le_of_ble_eq_true rfl) rfl ?_
  refine jv_aload_n d_T_readInstruction_87 rfl rfl ?_
  obtain ⟨q1, h⟩ := h
  refine jv_getI d_T_readInstruction_88 fl_T_36 rfl q1 ?_
  refine jv_if_ne (tgt := 104) d_T_readInstruction_91 (by decide) ⟨fun c => ?_, fun c => ?_⟩
  · replace h := h.1 c
    exact jv_ret d_T_readInstruction_104 rfl h
  · replace h := h.2 c
    refine jv_aload_n d_T_readInstruction_94 rfl rfl ?_
    obtain ⟨q2, h⟩ := h
    obtain ⟨b3, e4, h⟩ := h
    refine jv_getR d_T_readInstruction_95 fl_T_18 rfl q2 e4 ?_
    refine jv_iload_n d_T_readInstruction_98 rfl rfl ?_
    refine jv_iload_n d_T_readInstruction_99 rfl rfl ?_
    refine jv_iload_n d_T_readInstruction_100 rfl rfl ?_
    obtain ⟨q5, h⟩ := h
    refine jv_invV [.int x1, .int x2, .int y0] [] d_T_readInstruction_101 ml_T_76 q5 rfl (Nat.le_of_ble_eq_true rfl) (Nat.zero_add _) (Nat.zero_add _) (jv_Ct.mono h (fun v M7 N7 h => ?_))
    obtain ⟨rfl, h⟩ := h
    change jv_J g (d + 1) mt_T_readInstruction 104 [some (.ref a0), some (.int x1), some (.int x2), some (.int y0)] [] M7 N7 cr sr Z
    exact jv_ret d_T_readInstruction_104 rfl h
theorem b_T_takeCode_0 {g : jv_G} {d : Nat} {M : jv_Mem} {N cr sr : Nat} {Z : Option Value → jv_Mem → Nat → Prop} {a0 : Nat} (h : jv_Tg 7 a0 N ∧ jv_Tg 7 a0 N ∧ ((Prod.fst M a0 1) ≤ (Prod.fst M a0 4) → jv_Tg 7 a0 N ∧ Z (some (.int 0)) (jv_si M a0 5 1) N) ∧ (¬ ((Prod.fst M a0 1) ≤ (Prod.fst M a0 4)) → jv_Tg 7 a0 N ∧ ∃ b5, Prod.fst (Prod.snd M) a0 0 = some b5 ∧ jv_Tg 7 a0 N ∧ jv_Tg 11 b5 N ∧ vp_in (Prod.fst M a0 4) (jv_sh b5).2 ∧ jv_Ct g d mt_JS_indexOf [.retAddr 3, .int (((Int32.toUInt32 (Prod.fst M b5 (Int32.toNatClampNeg (Prod.fst M a0 4)))) % 65536).toInt32)] M N 0 0 (fun v M11 N11 => jv_ri v (fun r10 => ((r10 + 1) ≠ 0 → jv_Tg 7 a0 N11 ∧ jv_Tg 7 a0 N11 ∧ Z (some (.int (r10 + 1))) (jv_si M11 a0 4 ((Prod.fst M11 a0 4) + 1)) N11) ∧ ((r10 + 1) = 0 → jv_Tg 7 a0 N11 ∧ Z (some (.int (r10 + 1))) (jv_si M11 a0 5 1) N11))))) : jv_J g (d + 1) mt_T_takeCode 0 [some (.ref a0), none] [] M N cr sr Z := by
  refine jv_aload_n d_T_takeCode_0 rfl rfl ?_
  obtain ⟨q1, h⟩ := h
  refine jv_getI d_T_takeCode_1 fl_T_33 rfl q1 ?_
  refine jv_aload_n d_T_takeCode_4 rfl rfl ?_
  obtain ⟨q2, h⟩ := h
  refine jv_getI d_T_takeCode_5 fl_T_29 rfl q2 ?_
  refine jv_icmp_ge (tgt := 31) d_T_takeCode_8 (by decide) ⟨fun c => ?_, fun c => ?_⟩
  · replace h := h.1 c
    refine jv_iconst (v := 0) d_T_takeCode_31 (by decide) ?_
    refine jv_istore_n (L' := [some (.ref a0), some (.int 0)]) d_T_takeCode_32 rfl (Nat.le_of_ble_eq_true rfl) rfl ?_
    refine jv_iload_n d_T_takeCode_33 rfl rfl ?_
    refine jv_if_ne (tgt := 45) d_T_takeCode_34 (by decide) ⟨fun c => absurd c (by decide), fun c => ?_⟩
    refine jv_aload_n d_T_takeCode_37 rfl rfl ?_
    refine jv_iconst (v := 1) d_T_takeCode_38 (by decide) ?_
    obtain ⟨q3, h⟩ := h
    refine jv_putZ d_T_takeCode_39 fl_T_36 (fun r hr => by cases hr; rfl) rfl q3 (by decide) ?_
    refine jv_goto (tgt := 55) d_T_takeCode_42 (by decide) ?_
    refine jv_iload_n d_T_takeCode_55 rfl rfl ?_
    exact jv_iret d_T_takeCode_56 rfl rfl h
  · replace h := h.2 c
    refine jv_ldcT d_T_takeCode_11 rfl ?_
    refine jv_aload_n d_T_takeCode_13 rfl rfl ?_
    obtain ⟨q4, h⟩ := h
    obtain ⟨b5, e6, h⟩ := h
    refine jv_getR d_T_takeCode_14 fl_T_9 rfl q4 e6 ?_
    refine jv_aload_n d_T_takeCode_17 rfl rfl ?_
    obtain ⟨q7, h⟩ := h
    refine jv_getI d_T_takeCode_18 fl_T_33 rfl q7 ?_
    obtain ⟨q8, q9, h⟩ := h
    refine jv_iald d_T_takeCode_21 q8 q9 ?_
    refine jv_i2c d_T_takeCode_22 ?_
    refine jv_invT [.int (((Int32.toUInt32 (Prod.fst M b5 (Int32.toNatClampNeg (Prod.fst M a0 4)))) % 65536).toInt32)] [] d_T_takeCode_23 ml_T_96 rfl (Nat.le_of_ble_eq_true rfl) (Nat.zero_add _) (Nat.zero_add _) (jv_Ct.mono h (fun v M11 N11 h => ?_))
    obtain ⟨r10, rfl, h⟩ := h
    change jv_J g (d + 1) mt_T_takeCode 26 [some (.ref a0), none] [.int r10] M11 N11 cr sr Z
    refine jv_iconst (v := 1) d_T_takeCode_26 (by decide) ?_
    refine jv_iadd d_T_takeCode_27 ?_
    refine jv_goto (tgt := 32) d_T_takeCode_28 (by decide) ?_
    refine jv_istore_n (L' := [some (.ref a0), some (.int (r10 + 1))]) d_T_takeCode_32 rfl (Nat.le_of_ble_eq_true rfl) rfl ?_
    refine jv_iload_n d_T_takeCode_33 rfl rfl ?_
    refine jv_if_ne (tgt := 45) d_T_takeCode_34 (by decide) ⟨fun c => ?_, fun c => ?_⟩
    · replace h := h.1 c
      refine jv_aload_n d_T_takeCode_45 rfl rfl ?_
      refine jv_dup d_T_takeCode_46 rfl ?_
      obtain ⟨q12, h⟩ := h
      refine jv_getI d_T_takeCode_47 fl_T_33 rfl q12 ?_
      refine jv_iconst (v := 1) d_T_takeCode_50 (by decide) ?_
      refine jv_iadd d_T_takeCode_51 ?_
      obtain ⟨q13, h⟩ := h
      refine jv_putI d_T_takeCode_52 fl_T_33 (fun r hr => by cases hr; rfl) rfl q13 ?_
      refine jv_iload_n d_T_takeCode_55 rfl rfl ?_
      exact jv_iret d_T_takeCode_56 rfl rfl h
    · replace h := h.2 c
      refine jv_aload_n d_T_takeCode_37 rfl rfl ?_
      refine jv_iconst (v := 1) d_T_takeCode_38 (by decide) ?_
      obtain ⟨q14, h⟩ := h
      refine jv_putZ d_T_takeCode_39 fl_T_36 (fun r hr => by cases hr; rfl) rfl q14 (by decide) ?_
      refine jv_goto (tgt := 55) d_T_takeCode_42 (by decide) ?_
      refine jv_iload_n d_T_takeCode_55 rfl rfl ?_
      exact jv_iret d_T_takeCode_56 rfl rfl h
theorem b_T_readHart_0 {g : jv_G} {d : Nat} {M : jv_Mem} {N cr sr : Nat} {Z : Option Value → jv_Mem → Nat → Prop} {a0 : Nat} (h : jv_Tg 7 a0 N ∧ ∃ b2, Prod.fst (Prod.snd M) a0 3 = some b2 ∧ jv_Tg 6 b2 N ∧ ((Prod.fst M b2 4) < 4 → jv_Tg 7 a0 N ∧ jv_Tg 7 a0 N ∧ jv_Tg 7 a0 N ∧ jv_Ct g d mt_T_take [.ref a0, .int 97, .int 16] (jv_si M a0 4 ((Prod.fst M a0 4) + 1)) N 0 0 (fun v M9 N9 => jv_ri v (fun r8 => jv_Tg 7 a0 N9 ∧ jv_Ct g d mt_T_take [.ref a0, .int 48, .int 3] M9 N9 0 0 (fun v M12 N12 => jv_ri v (fun r11 => jv_Tg 7 a0 N12 ∧ ((Prod.fst M12 a0 5) ≠ 0 → Z none M12 N12) ∧ ((Prod.fst M12 a0 5) = 0 → jv_Tg 7 a0 N12 ∧ ∃ b15, Prod.fst (Prod.snd M12) a0 3 = some b15 ∧ jv_Tg 6 b15 N12 ∧ jv_Ct g d mt_S_addHart [.ref b15, .int r8, .int r11] M12 N12 0 0 (fun v M19 N19 => jv_rv v (Z none M19 N19)))))))) ∧ (¬ ((Prod.fst M b2 4) < 4) → jv_Tg 7 a0 N ∧ Z none (jv_si M a0 5 1) N)) : jv_J g (d + 1) mt_T_readHart 0 [some (.ref a0), none, none] [] M N cr sr Z := by
  refine jv_aload_n d_T_readHart_0 rfl rfl ?_
  obtain ⟨q1, h⟩ := h
  obtain ⟨b2, e3, h⟩ := h
  refine jv_getR d_T_readHart_1 fl_T_25 rfl q1 e3 ?_
  obtain ⟨q4, h⟩ := h
  refine jv_getI d_T_readHart_4 fl_T_41 rfl q4 ?_
  refine jv_iconst (v := 4) d_T_readHart_7 (by decide) ?_
  refine jv_icmp_lt (tgt := 17) d_T_readHart_8 (by decide) ⟨fun c => ?_, fun c => ?_⟩
  · replace h := h.1 c
    refine jv_aload_n d_T_readHart_17 rfl rfl ?_
    refine jv_dup d_T_readHart_18 rfl ?_
    obtain ⟨q5, h⟩ := h
    refine jv_getI d_T_readHart_19 fl_T_33 rfl q5 ?_
    refine jv_iconst (v := 1) d_T_readHart_22 (by decide) ?_
    refine jv_iadd d_T_readHart_23 ?_
    obtain ⟨q6, h⟩ := h
    refine jv_putI d_T_readHart_24 fl_T_33 (fun r hr => by cases hr; rfl) rfl q6 ?_
    refine jv_aload_n d_T_readHart_27 rfl rfl ?_
    refine jv_bipush (v := 97) d_T_readHart_28 (by decide) ?_
    refine jv_bipush (v := 16) d_T_readHart_30 (by decide) ?_
    obtain ⟨q7, h⟩ := h
    refine jv_invV [.int 97, .int 16] [] d_T_readHart_32 ml_T_47 q7 rfl (Nat.le_of_ble_eq_true rfl) (Nat.zero_add _) (Nat.zero_add _) (jv_Ct.mono h (fun v M9 N9 h => ?_))
    obtain ⟨r8, rfl, h⟩ := h
    change jv_J g (d + 1) mt_T_readHart 35 [some (.ref a0), none, none] [.int r8] M9 N9 cr sr Z
    refine jv_istore_n (L' := [some (.ref a0), some (.int r8), none]) d_T_readHart_35 rfl (Nat.le_of_ble_eq_true rfl) rfl ?_
    refine jv_aload_n d_T_readHart_36 rfl rfl ?_
    refine jv_bipush (v := 48) d_T_readHart_37 (by decide) ?_
    refine jv_iconst (v := 3) d_T_readHart_39 (by decide) ?_
    obtain ⟨q10, h⟩ := h
    refine jv_invV [.int 48, .int 3] [] d_T_readHart_40 ml_T_47 q10 rfl (Nat.le_of_ble_eq_true rfl) (Nat.zero_add _) (Nat.zero_add _) (jv_Ct.mono h (fun v M12 N12 h => ?_))
    obtain ⟨r11, rfl, h⟩ := h
    change jv_J g (d + 1) mt_T_readHart 43 [some (.ref a0), some (.int r8), none] [.int r11] M12 N12 cr sr Z
    refine jv_istore_n (L' := [some (.ref a0), some (.int r8), some (.int r11)]) d_T_readHart_43 rfl (Nat.le_of_ble_eq_true rfl) rfl ?_
    refine jv_aload_n d_T_readHart_44 rfl rfl ?_
    obtain ⟨q13, h⟩ := h
    refine jv_getI d_T_readHart_45 fl_T_36 rfl q13 ?_
    refine jv_if_ne (tgt := 60) d_T_readHart_48 (by decide) ⟨fun c => ?_, fun c => ?_⟩
    · replace h := h.1 c
      exact jv_ret d_T_readHart_60 rfl h
    · replace h := h.2 c
      refine jv_aload_n d_T_readHart_51 rfl rfl ?_
      obtain ⟨q14, h⟩ := h
      obtain ⟨b15, e16, h⟩ := h
      refine jv_getR d_T_readHart_52 fl_T_25 rfl q14 e16 ?_
      refine jv_iload_n d_T_readHart_55 rfl rfl ?_
      refine jv_iload_n d_T_readHart_56 rfl rfl ?_
      obtain ⟨q17, h⟩ := h
      refine jv_invV [.int r8, .int r11] [] d_T_readHart_57 ml_T_80 q17 rfl (Nat.le_of_ble_eq_true rfl) (Nat.zero_add _) (Nat.zero_add _) (jv_Ct.mono h (fun v M19 N19 h => ?_))
      obtain ⟨rfl, h⟩ := h
      change jv_J g (d + 1) mt_T_readHart 60 [some (.ref a0), some (.int r8), some (.int r11)] [] M19 N19 cr sr Z
      exact jv_ret d_T_readHart_60 rfl h
  · replace h := h.2 c
    refine jv_aload_n d_T_readHart_11 rfl rfl ?_
    refine jv_iconst (v := 1) d_T_readHart_12 (by decide) ?_
    obtain ⟨q20, h⟩ := h
    refine jv_putZ d_T_readHart_13 fl_T_36 (fun r hr => by cases hr; rfl) rfl q20 (by decide) ?_
    exact jv_ret d_T_readHart_16 rfl h
theorem b_T_readTrigger_0 {g : jv_G} {d : Nat} {M : jv_Mem} {N cr sr : Nat} {Z : Option Value → jv_Mem → Nat → Prop} {a0 : Nat} {x1 : Int32} (h : jv_Tg 7 a0 N ∧ ∃ b2, Prod.fst (Prod.snd M) a0 3 = some b2 ∧ jv_Tg 6 b2 N ∧ ((Prod.fst M b2 4) = 0 → jv_J g (d + 1) mt_T_readTrigger 22 [some (.ref a0), none, none, none, none, none, none] [] M N cr sr Z) ∧ (¬ ((Prod.fst M b2 4) = 0) → jv_Tg 7 a0 N ∧ ∃ b6, Prod.fst (Prod.snd M) a0 3 = some b6 ∧ jv_Tg 6 b6 N ∧ ((Prod.fst M b6 5) < 6 → jv_Tg 7 a0 N ∧ jv_Tg 7 a0 N ∧ jv_Tg 7 a0 N ∧ ∃ b12, Prod.fst (Prod.snd (jv_si M a0 4 ((Prod.fst M a0 4) + 1))) a0 3 = some b12 ∧ jv_Tg 6 b12 N ∧ jv_Tg 7 a0 N ∧ jv_Ct g d mt_T_take [.ref a0, .int 48, .int (Prod.fst (jv_si M a0 4 ((Prod.fst M a0 4) + 1)) b12 4)] (jv_si M a0 4 ((Prod.fst M a0 4) + 1)) N 0 0 (fun v M17 N17 => jv_ri v (fun r16 => jv_Tg 7 a0 N17 ∧ jv_Ct g d mt_T_take [.ref a0, .int 112, .int 2] M17 N17 0 0 (fun v M20 N20 => jv_ri v (fun r19 => (r19 ≠ 0 → jv_Tg 7 a0 N20 ∧ jv_Ct g d mt_T_take [.ref a0, .int 48, .int 4] M20 N20 0 0 (fun v M23 N23 => jv_ri v (fun r22 => jv_J g (d + 1) mt_T_readTrigger 82 [some (.ref a0), some (.int x1), some (.int r16), some (.int r19), none, none, none] [.int r22] M23 N23 cr sr Z))) ∧ (r19 = 0 → jv_Tg 7 a0 N20 ∧ jv_Ct g d mt_T_take [.ref a0, .int 97, .int 16] M20 N20 0 0 (fun v M26 N26 => jv_ri v (fun r25 => jv_J g (d + 1) mt_T_readTrigger 82 [some (.ref a0), some (.int x1), some (.int r16), some (.int r19), none, none, none] [.int r25] M26 N26 cr sr Z)))))))) ∧ (¬ ((Prod.fst M b6 5) < 6) → jv_J g (d + 1) mt_T_readTrigger 22 [some (.ref a0), none, none, none, none, none, none] [] M N cr sr Z))) : jv_J g (d + 1) mt_T_readTrigger 0 [some (.ref a0), some (.int x1), none, none, none, none, none] [] M N cr sr Z := by
  refine jv_aload_n d_T_readTrigger_0 rfl rfl ?_
  obtain ⟨q1, h⟩ := h
  obtain ⟨b2, e3, h⟩ := h
  refine jv_getR d_T_readTrigger_1 fl_T_25 rfl q1 e3 ?_
  obtain ⟨q4, h⟩ := h
  refine jv_getI d_T_readTrigger_4 fl_T_41 rfl q4 ?_
  refine jv_if_eq (tgt := 22) d_T_readTrigger_7 (by decide) ⟨fun c => ?_, fun c => ?_⟩
  · replace h := h.1 c
    refine jv_weak (L' := [some (.ref a0), none, none, none, none, none, none]) (by simp [jv_le]) ?_
    exact h
  · replace h := h.2 c
    refine jv_aload_n d_T_readTrigger_10 rfl rfl ?_
    obtain ⟨q5, h⟩ := h
    obtain ⟨b6, e7, h⟩ := h
    refine jv_getR d_T_readTrigger_11 fl_T_25 rfl q5 e7 ?_
    obtain ⟨q8, h⟩ := h
    refine jv_getI d_T_readTrigger_14 fl_T_44 rfl q8 ?_
    refine jv_bipush (v := 6) d_T_readTrigger_17 (by decide) ?_
    refine jv_icmp_lt (tgt := 28) d_T_readTrigger_19 (by decide) ⟨fun c => ?_, fun c => ?_⟩
    · replace h := h.1 c
      refine jv_aload_n d_T_readTrigger_28 rfl rfl ?_
      refine jv_dup d_T_readTrigger_29 rfl ?_
      obtain ⟨q9, h⟩ := h
      refine jv_getI d_T_readTrigger_30 fl_T_33 rfl q9 ?_
      refine jv_iconst (v := 1) d_T_readTrigger_33 (by decide) ?_
      refine jv_iadd d_T_readTrigger_34 ?_
      obtain ⟨q10, h⟩ := h
      refine jv_putI d_T_readTrigger_35 fl_T_33 (fun r hr => by cases hr; rfl) rfl q10 ?_
      refine jv_aload_n d_T_readTrigger_38 rfl rfl ?_
      refine jv_bipush (v := 48) d_T_readTrigger_39 (by decide) ?_
      refine jv_aload_n d_T_readTrigger_41 rfl rfl ?_
      obtain ⟨q11, h⟩ := h
      obtain ⟨b12, e13, h⟩ := h
      refine jv_getR d_T_readTrigger_42 fl_T_25 rfl q11 e13 ?_
      obtain ⟨q14, h⟩ := h
      refine jv_getI d_T_readTrigger_45 fl_T_41 rfl q14 ?_
      obtain ⟨q15, h⟩ := h
      refine jv_invV [.int 48, .int (Prod.fst (jv_si M a0 4 ((Prod.fst M a0 4) + 1)) b12 4)] [] d_T_readTrigger_48 ml_T_47 q15 rfl (Nat.le_of_ble_eq_true rfl) (Nat.zero_add _) (Nat.zero_add _) (jv_Ct.mono h (fun v M17 N17 h => ?_))
      obtain ⟨r16, rfl, h⟩ := h
      change jv_J g (d + 1) mt_T_readTrigger 51 [some (.ref a0), some (.int x1), none, none, none, none, none] [.int r16] M17 N17 cr sr Z
      refine jv_istore_n (L' := [some (.ref a0), some (.int x1), some (.int r16), none, none, none, none]) d_T_readTrigger_51 rfl (Nat.le_of_ble_eq_true rfl) rfl ?_
      refine jv_aload_n d_T_readTrigger_52 rfl rfl ?_
      refine jv_bipush (v := 112) d_T_readTrigger_53 (by decide) ?_
      refine jv_iconst (v := 2) d_T_readTrigger_55 (by decide) ?_
      obtain ⟨q18, h⟩ := h
      refine jv_invV [.int 112, .int 2] [] d_T_readTrigger_56 ml_T_47 q18 rfl (Nat.le_of_ble_eq_true rfl) (Nat.zero_add _) (Nat.zero_add _) (jv_Ct.mono h (fun v M20 N20 h => ?_))
      obtain ⟨r19, rfl, h⟩ := h
      change jv_J g (d + 1) mt_T_readTrigger 59 [some (.ref a0), some (.int x1), some (.int r16), none, none, none, none] [.int r19] M20 N20 cr sr Z
      refine jv_istore_n (L' := [some (.ref a0), some (.int x1), some (.int r16), some (.int r19), none, none, none]) d_T_readTrigger_59 rfl (Nat.le_of_ble_eq_true rfl) rfl ?_
      refine jv_iload_n d_T_readTrigger_60 rfl rfl ?_
      refine jv_if_ne (tgt := 75) d_T_readTrigger_61 (by decide) ⟨fun c => ?_, fun c => ?_⟩
      · replace h := h.1 c
        refine jv_aload_n d_T_readTrigger_75 rfl rfl ?_
        refine jv_bipush (v := 48) d_T_readTrigger_76 (by decide) ?_
        refine jv_iconst (v := 4) d_T_readTrigger_78 (by decide) ?_
        obtain ⟨q21, h⟩ := h
        refine jv_invV [.int 48, .int 4] [] d_T_readTrigger_79 ml_T_47 q21 rfl (Nat.le_of_ble_eq_true rfl) (Nat.zero_add _) (Nat.zero_add _) (jv_Ct.mono h (fun v M23 N23 h => ?_))
        obtain ⟨r22, rfl, h⟩ := h
        change jv_J g (d + 1) mt_T_readTrigger 82 [some (.ref a0), some (.int x1), some (.int r16), some (.int r19), none, none, none] [.int r22] M23 N23 cr sr Z
        exact h
      · replace h := h.2 c
        refine jv_aload_n d_T_readTrigger_64 rfl rfl ?_
        refine jv_bipush (v := 97) d_T_readTrigger_65 (by decide) ?_
        refine jv_bipush (v := 16) d_T_readTrigger_67 (by decide) ?_
        obtain ⟨q24, h⟩ := h
        refine jv_invV [.int 97, .int 16] [] d_T_readTrigger_69 ml_T_47 q24 rfl (Nat.le_of_ble_eq_true rfl) (Nat.zero_add _) (Nat.zero_add _) (jv_Ct.mono h (fun v M26 N26 h => ?_))
        obtain ⟨r25, rfl, h⟩ := h
        change jv_J g (d + 1) mt_T_readTrigger 72 [some (.ref a0), some (.int x1), some (.int r16), some (.int r19), none, none, none] [.int r25] M26 N26 cr sr Z
        refine jv_goto (tgt := 82) d_T_readTrigger_72 (by decide) ?_
        exact h
    · replace h := h.2 c
      refine jv_weak (L' := [some (.ref a0), none, none, none, none, none, none]) (by simp [jv_le]) ?_
      exact h
theorem b_T_readTrigger_22 {g : jv_G} {d : Nat} {M : jv_Mem} {N cr sr : Nat} {Z : Option Value → jv_Mem → Nat → Prop} {a0 : Nat} (h : jv_Tg 7 a0 N ∧ Z none (jv_si M a0 5 1) N) : jv_J g (d + 1) mt_T_readTrigger 22 [some (.ref a0), none, none, none, none, none, none] [] M N cr sr Z := by
  refine jv_aload_n d_T_readTrigger_22 rfl rfl ?_
  refine jv_iconst (v := 1) d_T_readTrigger_23 (by decide) ?_
  obtain ⟨q1, h⟩ := h
  refine jv_putZ d_T_readTrigger_24 fl_T_36 (fun r hr => by cases hr; rfl) rfl q1 (by decide) ?_
  exact jv_ret d_T_readTrigger_27 rfl h
theorem b_T_readTrigger_82 {g : jv_G} {d : Nat} {M : jv_Mem} {N cr sr : Nat} {Z : Option Value → jv_Mem → Nat → Prop} {a0 : Nat} {x1 : Int32} {x2 : Int32} {x3 : Int32} {y0 : Int32} (h : (x3 ≠ 0 → jv_Tg 7 a0 N ∧ jv_Ct g d mt_T_take [.ref a0, .int 48, .int 10] M N 0 0 (fun v M3 N3 => jv_ri v (fun r2 => jv_Tg 7 a0 N3 ∧ jv_Ct g d mt_T_take [.ref a0, .int 48, .int 10] M3 N3 0 0 (fun v M6 N6 => jv_ri v (fun r5 => jv_Tg 7 a0 N6 ∧ jv_Ct g d mt_T_take [.ref a0, .int 48, .int 10] M6 N6 0 0 (fun v M9 N9 => jv_ri v (fun r8 => jv_J g (d + 1) mt_T_readTrigger 124 [some (.ref a0), some (.int x1), some (.int x2), some (.int x3), some (.int y0), none, none] [.int (((r2 * 100) + (r5 * 10)) + r8)] M9 N9 cr sr Z))))))) ∧ (x3 = 0 → jv_J g (d + 1) mt_T_readTrigger 124 [some (.ref a0), some (.int x1), some (.int x2), some (.int x3), some (.int y0), none, none] [.int 0] M N cr sr Z)) : jv_J g (d + 1) mt_T_readTrigger 82 [some (.ref a0), some (.int x1), some (.int x2), some (.int x3), none, none, none] [.int y0] M N cr sr Z := by
  refine jv_istore (L' := [some (.ref a0), some (.int x1), some (.int x2), some (.int x3), some (.int y0), none, none]) d_T_readTrigger_82 (Nat.le_of_ble_eq_true rfl) rfl ?_
  refine jv_iload_n d_T_readTrigger_84 rfl rfl ?_
  refine jv_if_ne (tgt := 92) d_T_readTrigger_85 (by decide) ⟨fun c => ?_, fun c => ?_⟩
  · replace h := h.1 c
    refine jv_aload_n d_T_readTrigger_92 rfl rfl ?_
    refine jv_bipush (v := 48) d_T_readTrigger_93 (by decide) ?_
    refine jv_bipush (v := 10) d_T_readTrigger_95 (by decide) ?_
    obtain ⟨q1, h⟩ := h
    refine jv_invV [.int 48, .int 10] [] d_T_readTrigger_97 ml_T_47 q1 rfl (Nat.le_of_ble_eq_true rfl) (Nat.zero_add _) (Nat.zero_add _) (jv_Ct.mono h (fun v M3 N3 h => ?_))
    obtain ⟨r2, rfl, h⟩ := h
    change jv_J g (d + 1) mt_T_readTrigger 100 [some (.ref a0), some (.int x1), some (.int x2), some (.int x3), some (.int y0), none, none] [.int r2] M3 N3 cr sr Z
    refine jv_bipush (v := 100) d_T_readTrigger_100 (by decide) ?_
    refine jv_imul d_T_readTrigger_102 ?_
    refine jv_aload_n d_T_readTrigger_103 rfl rfl ?_
    refine jv_bipush (v := 48) d_T_readTrigger_104 (by decide) ?_
    refine jv_bipush (v := 10) d_T_readTrigger_106 (by decide) ?_
    obtain ⟨q4, h⟩ := h
    refine jv_invV [.int 48, .int 10] [.int (r2 * 100)] d_T_readTrigger_108 ml_T_47 q4 rfl (Nat.le_of_ble_eq_true rfl) (Nat.zero_add _) (Nat.zero_add _) (jv_Ct.mono h (fun v M6 N6 h => ?_))
    obtain ⟨r5, rfl, h⟩ := h
    change jv_J g (d + 1) mt_T_readTrigger 111 [some (.ref a0), some (.int x1), some (.int x2), some (.int x3), some (.int y0), none, none] [.int r5, .int (r2 * 100)] M6 N6 cr sr Z
    refine jv_bipush (v := 10) d_T_readTrigger_111 (by decide) ?_
    refine jv_imul d_T_readTrigger_113 ?_
    refine jv_iadd d_T_readTrigger_114 ?_
    refine jv_aload_n d_T_readTrigger_115 rfl rfl ?_
    refine jv_bipush (v := 48) d_T_readTrigger_116 (by decide) ?_
    refine jv_bipush (v := 10) d_T_readTrigger_118 (by decide) ?_
    obtain ⟨q7, h⟩ := h
    refine jv_invV [.int 48, .int 10] [.int ((r2 * 100) + (r5 * 10))] d_T_readTrigger_120 ml_T_47 q7 rfl (Nat.le_of_ble_eq_true rfl) (Nat.zero_add _) (Nat.zero_add _) (jv_Ct.mono h (fun v M9 N9 h => ?_))
    obtain ⟨r8, rfl, h⟩ := h
    change jv_J g (d + 1) mt_T_readTrigger 123 [some (.ref a0), some (.int x1), some (.int x2), some (.int x3), some (.int y0), none, none] [.int r8, .int ((r2 * 100) + (r5 * 10))] M9 N9 cr sr Z
    refine jv_iadd d_T_readTrigger_123 ?_
    exact h
  · replace h := h.2 c
    refine jv_iconst (v := 0) d_T_readTrigger_88 (by decide) ?_
    refine jv_goto (tgt := 124) d_T_readTrigger_89 (by decide) ?_
    exact h
theorem b_T_readTrigger_124 {g : jv_G} {d : Nat} {M : jv_Mem} {N cr sr : Nat} {Z : Option Value → jv_Mem → Nat → Prop} {a0 : Nat} {x1 : Int32} {x2 : Int32} {x3 : Int32} {x4 : Int32} {y0 : Int32} (h : jv_Tg 7 a0 N ∧ jv_Ct g d mt_T_take [.ref a0, .int 49, .int 9] M N 0 0 (fun v M3 N3 => jv_ri v (fun r2 => jv_Tg 7 a0 N3 ∧ ((Prod.fst M3 a0 5) ≠ 0 → Z none M3 N3) ∧ ((Prod.fst M3 a0 5) = 0 → jv_Tg 7 a0 N3 ∧ ∃ b6, Prod.fst (Prod.snd M3) a0 3 = some b6 ∧ jv_Tg 6 b6 N3 ∧ jv_Ct g d mt_S_addTrigger [.ref b6, .int x2] M3 N3 0 0 (fun v M10 N10 => jv_ra v (fun r9 => jv_Tg 8 r9 N10 ∧ jv_Ct g d mt_U_become [.ref r9, .int x3, .int x4, .int y0, .int (1 + r2), .int x1] M10 N10 0 0 (fun v M13 N13 => jv_rv v (Z none M13 N13)))))))) : jv_J g (d + 1) mt_T_readTrigger 124 [some (.ref a0), some (.int x1), some (.int x2), some (.int x3), some (.int x4), none, none] [.int y0] M N cr sr Z := by
  refine jv_istore (L' := [some (.ref a0), some (.int x1), some (.int x2), some (.int x3), some (.int x4), some (.int y0), none]) d_T_readTrigger_124 (Nat.le_of_ble_eq_true rfl) rfl ?_
  refine jv_iconst (v := 1) d_T_readTrigger_126 (by decide) ?_
  refine jv_aload_n d_T_readTrigger_127 rfl rfl ?_
  refine jv_bipush (v := 49) d_T_readTrigger_128 (by decide) ?_
  refine jv_bipush (v := 9) d_T_readTrigger_130 (by decide) ?_
  obtain ⟨q1, h⟩ := h
  refine jv_invV [.int 49, .int 9] [.int 1] d_T_readTrigger_132 ml_T_47 q1 rfl (Nat.le_of_ble_eq_true rfl) (Nat.zero_add _) (Nat.zero_add _) (jv_Ct.mono h (fun v M3 N3 h => ?_))
  obtain ⟨r2, rfl, h⟩ := h
  change jv_J g (d + 1) mt_T_readTrigger 135 [some (.ref a0), some (.int x1), some (.int x2), some (.int x3), some (.int x4), some (.int y0), none] [.int r2, .int 1] M3 N3 cr sr Z
  refine jv_iadd d_T_readTrigger_135 ?_
  refine jv_istore (L' := [some (.ref a0), some (.int x1), some (.int x2), some (.int x3), some (.int x4), some (.int y0), some (.int (1 + r2))]) d_T_readTrigger_136 (Nat.le_of_ble_eq_true rfl) rfl ?_
  refine jv_aload_n d_T_readTrigger_138 rfl rfl ?_
  obtain ⟨q4, h⟩ := h
  refine jv_getI d_T_readTrigger_139 fl_T_36 rfl q4 ?_
  refine jv_if_ne (tgt := 164) d_T_readTrigger_142 (by decide) ⟨fun c => ?_, fun c => ?_⟩
  · replace h := h.1 c
    exact jv_ret d_T_readTrigger_164 rfl h
  · replace h := h.2 c
    refine jv_aload_n d_T_readTrigger_145 rfl rfl ?_
    obtain ⟨q5, h⟩ := h
    obtain ⟨b6, e7, h⟩ := h
    refine jv_getR d_T_readTrigger_146 fl_T_25 rfl q5 e7 ?_
    refine jv_iload_n d_T_readTrigger_149 rfl rfl ?_
    obtain ⟨q8, h⟩ := h
    refine jv_invV [.int x2] [] d_T_readTrigger_150 ml_T_84 q8 rfl (Nat.le_of_ble_eq_true rfl) (Nat.zero_add _) (Nat.zero_add _) (jv_Ct.mono h (fun v M10 N10 h => ?_))
    obtain ⟨r9, rfl, h⟩ := h
    change jv_J g (d + 1) mt_T_readTrigger 153 [some (.ref a0), some (.int x1), some (.int x2), some (.int x3), some (.int x4), some (.int y0), some (.int (1 + r2))] [.ref r9] M10 N10 cr sr Z
    refine jv_iload_n d_T_readTrigger_153 rfl rfl ?_
    refine jv_iload d_T_readTrigger_154 rfl ?_
    refine jv_iload d_T_readTrigger_156 rfl ?_
    refine jv_iload d_T_readTrigger_158 rfl ?_
    refine jv_iload_n d_T_readTrigger_160 rfl rfl ?_
    obtain ⟨q11, h⟩ := h
    refine jv_invV [.int x3, .int x4, .int y0, .int (1 + r2), .int x1] [] d_T_readTrigger_161 ml_T_88 q11 rfl (Nat.le_of_ble_eq_true rfl) (Nat.zero_add _) (Nat.zero_add _) (jv_Ct.mono h (fun v M13 N13 h => ?_))
    obtain ⟨rfl, h⟩ := h
    change jv_J g (d + 1) mt_T_readTrigger 164 [some (.ref a0), some (.int x1), some (.int x2), some (.int x3), some (.int x4), some (.int y0), some (.int (1 + r2))] [] M13 N13 cr sr Z
    exact jv_ret d_T_readTrigger_164 rfl h
