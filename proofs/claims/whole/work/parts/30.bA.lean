/-! ===== blocks ===== -/
theorem b_P_init_0 {g : jv_G} {d : Nat} {M : jv_Mem} {N cr sr : Nat} {Z : Option Value → jv_Mem → Nat → Prop} {a0 : Nat} (h : jv_sh N = (11, 16) ∧ 1 ≤ cr ∧ 16 ≤ sr ∧ jv_Tg 4 a0 (N + 1) ∧ jv_sh (N + 1) = (11, 16) ∧ 1 ≤ (cr - 1) ∧ 16 ≤ (sr - 16) ∧ jv_Tg 4 a0 ((N + 1) + 1) ∧ jv_sh ((N + 1) + 1) = (11, 16) ∧ 1 ≤ ((cr - 1) - 1) ∧ 16 ≤ ((sr - 16) - 16) ∧ jv_Tg 4 a0 (((N + 1) + 1) + 1) ∧ Z none (jv_sr (jv_zero (jv_sr (jv_zero (jv_sr (jv_zero M N) a0 0 (some N)) (N + 1)) a0 1 (some (N + 1))) ((N + 1) + 1)) a0 2 (some ((N + 1) + 1))) (((N + 1) + 1) + 1)) : jv_J g (d + 1) mt_P_init 0 [some (.ref a0)] [] M N cr sr Z := by
  refine jv_aload_n d_P_init_0 rfl rfl ?_
  refine jv_objI d_P_init_1 oi_P_3 oi_w2 oi_w3 (Nat.le_of_ble_eq_true rfl) ?_
  refine jv_aload_n d_P_init_4 rfl rfl ?_
  refine jv_bipush (v := 16) d_P_init_5 (by decide) ?_
  obtain ⟨q1, q2, q3, h⟩ := h
  refine jv_newI (n := 16) d_P_init_7 arr_int (by decide) (by decide) (by decide) q1 (Nat.sub_add_cancel q2) (Nat.sub_add_cancel q3) ?_
  obtain ⟨q4, h⟩ := h
  refine jv_putR d_P_init_9 fl_P_9 rfl (fun r hr => by cases hr; exact Or.inr ⟨rfl, rfl, rfl⟩) q4 ?_
  refine jv_aload_n d_P_init_12 rfl rfl ?_
  refine jv_bipush (v := 16) d_P_init_13 (by decide) ?_
  obtain ⟨q5, q6, q7, h⟩ := h
  refine jv_newI (n := 16) d_P_init_15 arr_int (by decide) (by decide) (by decide) q5 (Nat.sub_add_cancel q6) (Nat.sub_add_cancel q7) ?_
  obtain ⟨q8, h⟩ := h
  refine jv_putR d_P_init_17 fl_P_15 rfl (fun r hr => by cases hr; exact Or.inr ⟨rfl, rfl, rfl⟩) q8 ?_
  refine jv_aload_n d_P_init_20 rfl rfl ?_
  refine jv_bipush (v := 16) d_P_init_21 (by decide) ?_
  obtain ⟨q9, q10, q11, h⟩ := h
  refine jv_newI (n := 16) d_P_init_23 arr_int (by decide) (by decide) (by decide) q9 (Nat.sub_add_cancel q10) (Nat.sub_add_cancel q11) ?_
  obtain ⟨q12, h⟩ := h
  refine jv_putR d_P_init_25 fl_P_18 rfl (fun r hr => by cases hr; exact Or.inr ⟨rfl, rfl, rfl⟩) q12 ?_
  exact jv_ret d_P_init_28 rfl h
theorem b_O_init_0 {g : jv_G} {d : Nat} {M : jv_Mem} {N cr sr : Nat} {Z : Option Value → jv_Mem → Nat → Prop} {a0 : Nat} (h : Z none M N) : jv_J g (d + 1) mt_O_init 0 [some (.ref a0)] [] M N cr sr Z := by
  refine jv_aload_n d_O_init_0 rfl rfl ?_
  refine jv_objI d_O_init_1 oi_O_3 oi_w2 oi_w3 (Nat.le_of_ble_eq_true rfl) ?_
  exact jv_ret d_O_init_4 rfl h
theorem b_H_init_0 {g : jv_G} {d : Nat} {M : jv_Mem} {N cr sr : Nat} {Z : Option Value → jv_Mem → Nat → Prop} {a0 : Nat} (h : jv_sh N = (11, 4) ∧ 1 ≤ cr ∧ 4 ≤ sr ∧ jv_Tg 1 a0 (N + 1) ∧ Z none (jv_sr (jv_zero M N) a0 0 (some N)) (N + 1)) : jv_J g (d + 1) mt_H_init 0 [some (.ref a0)] [] M N cr sr Z := by
  refine jv_aload_n d_H_init_0 rfl rfl ?_
  refine jv_objI d_H_init_1 oi_H_3 oi_w2 oi_w3 (Nat.le_of_ble_eq_true rfl) ?_
  refine jv_aload_n d_H_init_4 rfl rfl ?_
  refine jv_iconst (v := 4) d_H_init_5 (by decide) ?_
  obtain ⟨q1, q2, q3, h⟩ := h
  refine jv_newI (n := 4) d_H_init_6 arr_int (by decide) (by decide) (by decide) q1 (Nat.sub_add_cancel q2) (Nat.sub_add_cancel q3) ?_
  obtain ⟨q4, h⟩ := h
  refine jv_putR d_H_init_8 fl_H_9 rfl (fun r hr => by cases hr; exact Or.inr ⟨rfl, rfl, rfl⟩) q4 ?_
  exact jv_ret d_H_init_11 rfl h
theorem b_U_init_0 {g : jv_G} {d : Nat} {M : jv_Mem} {N cr sr : Nat} {Z : Option Value → jv_Mem → Nat → Prop} {a0 : Nat} (h : Z none M N) : jv_J g (d + 1) mt_U_init 0 [some (.ref a0)] [] M N cr sr Z := by
  refine jv_aload_n d_U_init_0 rfl rfl ?_
  refine jv_objI d_U_init_1 oi_U_3 oi_w2 oi_w3 (Nat.le_of_ble_eq_true rfl) ?_
  exact jv_ret d_U_init_4 rfl h
theorem b_G_init_0 {g : jv_G} {d : Nat} {M : jv_Mem} {N cr sr : Nat} {Z : Option Value → jv_Mem → Nat → Prop} {a0 : Nat} (h : jv_sh N = (11, 6) ∧ 1 ≤ cr ∧ 6 ≤ sr ∧ jv_Tg 5 a0 (N + 1) ∧ jv_sh (N + 1) = (11, 6) ∧ 1 ≤ (cr - 1) ∧ 6 ≤ (sr - 6) ∧ jv_Tg 5 a0 ((N + 1) + 1) ∧ jv_sh ((N + 1) + 1) = (11, 6) ∧ 1 ≤ ((cr - 1) - 1) ∧ 6 ≤ ((sr - 6) - 6) ∧ jv_Tg 5 a0 (((N + 1) + 1) + 1) ∧ Z none (jv_sr (jv_zero (jv_sr (jv_zero (jv_sr (jv_zero M N) a0 0 (some N)) (N + 1)) a0 1 (some (N + 1))) ((N + 1) + 1)) a0 2 (some ((N + 1) + 1))) (((N + 1) + 1) + 1)) : jv_J g (d + 1) mt_G_init 0 [some (.ref a0)] [] M N cr sr Z := by
  refine jv_aload_n d_G_init_0 rfl rfl ?_
  refine jv_objI d_G_init_1 oi_G_3 oi_w2 oi_w3 (Nat.le_of_ble_eq_true rfl) ?_
  refine jv_aload_n d_G_init_4 rfl rfl ?_
  refine jv_bipush (v := 6) d_G_init_5 (by decide) ?_
  obtain ⟨q1, q2, q3, h⟩ := h
  refine jv_newI (n := 6) d_G_init_7 arr_int (by decide) (by decide) (by decide) q1 (Nat.sub_add_cancel q2) (Nat.sub_add_cancel q3) ?_
  obtain ⟨q4, h⟩ := h
  refine jv_putR d_G_init_9 fl_G_9 rfl (fun r hr => by cases hr; exact Or.inr ⟨rfl, rfl, rfl⟩) q4 ?_
  refine jv_aload_n d_G_init_12 rfl rfl ?_
  refine jv_bipush (v := 6) d_G_init_13 (by decide) ?_
  obtain ⟨q5, q6, q7, h⟩ := h
  refine jv_newI (n := 6) d_G_init_15 arr_int (by decide) (by decide) (by decide) q5 (Nat.sub_add_cancel q6) (Nat.sub_add_cancel q7) ?_
  obtain ⟨q8, h⟩ := h
  refine jv_putR d_G_init_17 fl_G_15 rfl (fun r hr => by cases hr; exact Or.inr ⟨rfl, rfl, rfl⟩) q8 ?_
  refine jv_aload_n d_G_init_20 rfl rfl ?_
  refine jv_bipush (v := 6) d_G_init_21 (by decide) ?_
  obtain ⟨q9, q10, q11, h⟩ := h
  refine jv_newI (n := 6) d_G_init_23 arr_int (by decide) (by decide) (by decide) q9 (Nat.sub_add_cancel q10) (Nat.sub_add_cancel q11) ?_
  obtain ⟨q12, h⟩ := h
  refine jv_putR d_G_init_25 fl_G_18 rfl (fun r hr => by cases hr; exact Or.inr ⟨rfl, rfl, rfl⟩) q12 ?_
  exact jv_ret d_G_init_28 rfl h
theorem b_JS_indexOf_0 {g : jv_G} {d : Nat} {M : jv_Mem} {N cr sr : Nat} {Z : Option Value → jv_Mem → Nat → Prop} {x1 : Int32} (h : jv_Ct g d mt_JS_indexOf_5 [.retAddr 3, .int x1, .int 0] M N 0 0 (fun v M2 N2 => jv_ri v (fun r1 => Z (some (.int r1)) M2 N2))) : jv_J g (d + 1) mt_JS_indexOf 0 [some (.retAddr 3), some (.int x1)] [] M N cr sr Z := by
  refine jv_aload_nR d_JS_indexOf_0 rfl rfl ?_
  refine jv_iload_n d_JS_indexOf_1 rfl rfl ?_
  refine jv_iconst (v := 0) d_JS_indexOf_2 (by decide) ?_
  refine jv_invT [.int x1, .int 0] [] d_JS_indexOf_3 ml_JS_633 rfl (Nat.le_of_ble_eq_true rfl) (Nat.zero_add _) (Nat.zero_add _) (jv_Ct.mono h (fun v M2 N2 h => ?_))
  obtain ⟨r1, rfl, h⟩ := h
  change jv_J g (d + 1) mt_JS_indexOf 6 [some (.retAddr 3), some (.int x1)] [.int r1] M2 N2 cr sr Z
  exact jv_iret d_JS_indexOf_6 rfl rfl h
theorem b_JS_indexOf_5_0 {g : jv_G} {d : Nat} {M : jv_Mem} {N cr sr : Nat} {Z : Option Value → jv_Mem → Nat → Prop} {x1 : Int32} {x2 : Int32} (h : jv_Ct g d mt_JS_isLatin1 [.retAddr 3] M N 0 0 (fun v M2 N2 => jv_ri v (fun r1 => (r1 = 0 → False) ∧ (¬ (r1 = 0) → jv_Ct g d mt_JS_length [.retAddr 3] M2 N2 0 0 (fun v M4 N4 => jv_ri v (fun r3 => jv_Ct g d mt_JL_indexOf [.retAddr 4, .int x1, .int x2, .int r3] M4 N4 0 0 (fun v M6 N6 => jv_ri v (fun r5 => Z (some (.int r5)) M6 N6)))))))) : jv_J g (d + 1) mt_JS_indexOf_5 0 [some (.retAddr 3), some (.int x1), some (.int x2)] [] M N cr sr Z := by
  refine jv_aload_nR d_JS_indexOf_5_0 rfl rfl ?_
  refine jv_invT [] [] d_JS_indexOf_5_1 ml_JS_492 rfl (Nat.le_of_ble_eq_true rfl) (Nat.zero_add _) (Nat.zero_add _) (jv_Ct.mono h (fun v M2 N2 h => ?_))
  obtain ⟨r1, rfl, h⟩ := h
  change jv_J g (d + 1) mt_JS_indexOf_5 4 [some (.retAddr 3), some (.int x1), some (.int x2)] [.int r1] M2 N2 cr sr Z
  refine jv_if_eq (tgt := 23) d_JS_indexOf_5_4 (by decide) ⟨fun c => ?_, fun c => ?_⟩
  · replace h := h.1 c
    exact h.elim
  · replace h := h.2 c
    refine jv_aload_nR d_JS_indexOf_5_7 rfl rfl ?_
    refine jv_gValue d_JS_indexOf_5_8 sf_JS_9 ?_
    refine jv_iload_n d_JS_indexOf_5_11 rfl rfl ?_
    refine jv_iload_n d_JS_indexOf_5_12 rfl rfl ?_
    refine jv_aload_nR d_JS_indexOf_5_13 rfl rfl ?_
    refine jv_invT [] [.int x2, .int x1, .retAddr 4] d_JS_indexOf_5_14 ml_JS_505 rfl (Nat.le_of_ble_eq_true rfl) (Nat.zero_add _) (Nat.zero_add _) (jv_Ct.mono h (fun v M4 N4 h => ?_))
    obtain ⟨r3, rfl, h⟩ := h
    change jv_J g (d + 1) mt_JS_indexOf_5 17 [some (.retAddr 3), some (.int x1), some (.int x2)] [.int r3, .int x2, .int x1, .retAddr 4] M4 N4 cr sr Z
    refine jv_invS [.retAddr 4, .int x1, .int x2, .int r3] [] d_JS_indexOf_5_17 ml_JS_637 rfl (Nat.le_of_ble_eq_true rfl) (Nat.zero_add _) (Nat.zero_add _) (jv_Ct.mono h (fun v M6 N6 h => ?_))
    obtain ⟨r5, rfl, h⟩ := h
    change jv_J g (d + 1) mt_JS_indexOf_5 20 [some (.retAddr 3), some (.int x1), some (.int x2)] [.int r5] M6 N6 cr sr Z
    refine jv_goto (tgt := 36) d_JS_indexOf_5_20 (by decide) ?_
    exact jv_iret d_JS_indexOf_5_36 rfl rfl h
theorem b_JS_isLatin1_0 {g : jv_G} {d : Nat} {M : jv_Mem} {N cr sr : Nat} {Z : Option Value → jv_Mem → Nat → Prop}  (h : Z (some (.int 1)) M N) : jv_J g d mt_JS_isLatin1 0 [some (.retAddr 3)] [] M N cr sr Z := by
  refine jv_gCom d_JS_isLatin1_0 sf_JS_38 ?_
  refine jv_if_eq (tgt := 17) d_JS_isLatin1_3 (by decide) ⟨fun c => absurd c (by decide), fun c => ?_⟩
  refine jv_aload_nR d_JS_isLatin1_6 rfl rfl ?_
  refine jv_gCoder d_JS_isLatin1_7 sf_JS_15 ?_
  refine jv_if_ne (tgt := 17) d_JS_isLatin1_10 (by decide) ⟨fun c => absurd c (by decide), fun c => ?_⟩
  refine jv_iconst (v := 1) d_JS_isLatin1_13 (by decide) ?_
  refine jv_goto (tgt := 18) d_JS_isLatin1_14 (by decide) ?_
  exact jv_iret d_JS_isLatin1_18 rfl (jv_nz (by decide)) h
theorem b_JS_length_0 {g : jv_G} {d : Nat} {M : jv_Mem} {N cr sr : Nat} {Z : Option Value → jv_Mem → Nat → Prop}  (h : jv_Ct g d mt_JS_coder [.retAddr 3] M N 0 0 (fun v M2 N2 => jv_ri v (fun r1 => Z (some (.int (8 >>> (r1 &&& 31)))) M2 N2))) : jv_J g (d + 1) mt_JS_length 0 [some (.retAddr 3)] [] M N cr sr Z := by
  refine jv_aload_nR d_JS_length_0 rfl rfl ?_
  refine jv_gValue d_JS_length_1 sf_JS_9 ?_
  refine jv_tlen d_JS_length_4 ?_
  refine jv_aload_nR d_JS_length_5 rfl rfl ?_
  refine jv_invT [] [.int 8] d_JS_length_6 ml_JS_335 rfl (Nat.le_of_ble_eq_true rfl) (Nat.zero_add _) (Nat.zero_add _) (jv_Ct.mono h (fun v M2 N2 h => ?_))
  obtain ⟨r1, rfl, h⟩ := h
  change jv_J g (d + 1) mt_JS_length 9 [some (.retAddr 3)] [.int r1, .int 8] M2 N2 cr sr Z
  refine jv_ishr d_JS_length_9 ?_
  exact jv_iret d_JS_length_10 rfl rfl h
theorem b_JS_coder_0 {g : jv_G} {d : Nat} {M : jv_Mem} {N cr sr : Nat} {Z : Option Value → jv_Mem → Nat → Prop}  (h : Z (some (.int 0)) M N) : jv_J g d mt_JS_coder 0 [some (.retAddr 3)] [] M N cr sr Z := by
  refine jv_gCom d_JS_coder_0 sf_JS_38 ?_
  refine jv_if_eq (tgt := 13) d_JS_coder_3 (by decide) ⟨fun c => absurd c (by decide), fun c => ?_⟩
  refine jv_aload_nR d_JS_coder_6 rfl rfl ?_
  refine jv_gCoder d_JS_coder_7 sf_JS_15 ?_
  refine jv_goto (tgt := 14) d_JS_coder_10 (by decide) ?_
  exact jv_iret d_JS_coder_14 rfl rfl h
theorem b_JL_indexOf_0 {g : jv_G} {d : Nat} {M : jv_Mem} {N cr sr : Nat} {Z : Option Value → jv_Mem → Nat → Prop} {x1 : Int32} {x2 : Int32} {x3 : Int32} (h : jv_Ct g d mt_JL_canEncode [.int x1] M N 0 0 (fun v M2 N2 => jv_ri v (fun r1 => (r1 ≠ 0 → ((if x2 < 0 then 0 else x2) < (if 8 < x3 then 8 else x3) → jv_Ct g d mt_JL_indexOfChar [.retAddr 4, .int x1, .int (if x2 < 0 then 0 else x2), .int (if 8 < x3 then 8 else x3)] M2 N2 0 0 (fun v M4 N4 => jv_ri v (fun r3 => Z (some (.int r3)) M4 N4))) ∧ (¬ ((if x2 < 0 then 0 else x2) < (if 8 < x3 then 8 else x3)) → Z (some (.int (-1))) M2 N2)) ∧ (r1 = 0 → Z (some (.int (-1))) M2 N2)))) : jv_J g (d + 1) mt_JL_indexOf 0 [some (.retAddr 4), some (.int x1), some (.int x2), some (.int x3)] [] M N cr sr Z := by
  refine jv_iload_n d_JL_indexOf_0 rfl rfl ?_
  refine jv_invS [.int x1] [] d_JL_indexOf_1 ml_JL_88 rfl (Nat.le_of_ble_eq_true rfl) (Nat.zero_add _) (Nat.zero_add _) (jv_Ct.mono h (fun v M2 N2 h => ?_))
  obtain ⟨r1, rfl, h⟩ := h
  change jv_J g (d + 1) mt_JL_indexOf 4 [some (.retAddr 4), some (.int x1), some (.int x2), some (.int x3)] [.int r1] M2 N2 cr sr Z
  refine jv_if_ne (tgt := 9) d_JL_indexOf_4 (by decide) ⟨fun c => ?_, fun c => ?_⟩
  · replace h := h.1 c
    refine jv_iload_n d_JL_indexOf_9 rfl rfl ?_
    refine jv_iconst (v := 0) d_JL_indexOf_10 (by decide) ?_
    refine jv_mmax d_JL_indexOf_11 ml_JL_92 (Nat.le_of_ble_eq_true rfl) ?_
    refine jv_istore_n (L' := [some (.retAddr 4), some (.int x1), some (.int (if x2 < 0 then 0 else x2)), some (.int x3)]) d_JL_indexOf_14 rfl (Nat.le_of_ble_eq_true rfl) rfl ?_
    refine jv_iload_n d_JL_indexOf_15 rfl rfl ?_
    refine jv_aload_nR d_JL_indexOf_16 rfl rfl ?_
    refine jv_tlen d_JL_indexOf_17 ?_
    refine jv_mmin d_JL_indexOf_18 ml_JL_38 (Nat.le_of_ble_eq_true rfl) ?_
    refine jv_istore_n (L' := [some (.retAddr 4), some (.int x1), some (.int (if x2 < 0 then 0 else x2)), some (.int (if 8 < x3 then 8 else x3))]) d_JL_indexOf_21 rfl (Nat.le_of_ble_eq_true rfl) rfl ?_
    refine jv_iload_n d_JL_indexOf_22 rfl rfl ?_
    refine jv_iload_n d_JL_indexOf_23 rfl rfl ?_
    refine jv_icmp_lt (tgt := 29) d_JL_indexOf_24 (by decide) ⟨fun c => ?_, fun c => ?_⟩
    · replace h := h.1 c
      refine jv_aload_nR d_JL_indexOf_29 rfl rfl ?_
      refine jv_iload_n d_JL_indexOf_30 rfl rfl ?_
      refine jv_iload_n d_JL_indexOf_31 rfl rfl ?_
      refine jv_iload_n d_JL_indexOf_32 rfl rfl ?_
      refine jv_invS [.retAddr 4, .int x1, .int (if x2 < 0 then 0 else x2), .int (if 8 < x3 then 8 else x3)] [] d_JL_indexOf_33 ml_JL_95 rfl (Nat.le_of_ble_eq_true rfl) (Nat.zero_add _) (Nat.zero_add _) (jv_Ct.mono h (fun v M4 N4 h => ?_))
      obtain ⟨r3, rfl, h⟩ := h
      change jv_J g (d + 1) mt_JL_indexOf 36 [some (.retAddr 4), some (.int x1), some (.int (if x2 < 0 then 0 else x2)), some (.int (if 8 < x3 then 8 else x3))] [.int r3] M4 N4 cr sr Z
      exact jv_iret d_JL_indexOf_36 rfl rfl h
    · replace h := h.2 c
      refine jv_iconst (v := (-1)) d_JL_indexOf_27 (by decide) ?_
      exact jv_iret d_JL_indexOf_28 rfl rfl h
  · replace h := h.2 c
    refine jv_iconst (v := (-1)) d_JL_indexOf_7 (by decide) ?_
    exact jv_iret d_JL_indexOf_8 rfl rfl h
theorem b_JL_canEncode_0 {g : jv_G} {d : Nat} {M : jv_Mem} {N cr sr : Nat} {Z : Option Value → jv_Mem → Nat → Prop} {x0 : Int32} (h : (x0 < 0 → Z (some (.int 0)) M N) ∧ (¬ (x0 < 0) → (255 < x0 → Z (some (.int 0)) M N) ∧ (¬ (255 < x0) → Z (some (.int 1)) M N))) : jv_J g d mt_JL_canEncode 0 [some (.int x0)] [] M N cr sr Z := by
  refine jv_iload_n d_JL_canEncode_0 rfl rfl ?_
  refine jv_if_lt (tgt := 15) d_JL_canEncode_1 (by decide) ⟨fun c => ?_, fun c => ?_⟩
  · replace h := h.1 c
    refine jv_iconst (v := 0) d_JL_canEncode_15 (by decide) ?_
    exact jv_iret d_JL_canEncode_16 rfl (jv_nz (by decide)) h
  · replace h := h.2 c
    refine jv_iload_n d_JL_canEncode_4 rfl rfl ?_
    refine jv_sipush (v := 255) d_JL_canEncode_5 (by decide) ?_
    refine jv_icmp_gt (tgt := 15) d_JL_canEncode_8 (by decide) ⟨fun c => ?_, fun c => ?_⟩
    · replace h := h.1 c
      refine jv_iconst (v := 0) d_JL_canEncode_15 (by decide) ?_
      exact jv_iret d_JL_canEncode_16 rfl (jv_nz (by decide)) h
    · replace h := h.2 c
      refine jv_iconst (v := 1) d_JL_canEncode_11 (by decide) ?_
      refine jv_goto (tgt := 16) d_JL_canEncode_12 (by decide) ?_
      exact jv_iret d_JL_canEncode_16 rfl (jv_nz (by decide)) h
theorem b_JM_max_0 {g : jv_G} {d : Nat} {M : jv_Mem} {N cr sr : Nat} {Z : Option Value → jv_Mem → Nat → Prop} {x0 : Int32} {x1 : Int32} (h : (x0 < x1 → Z (some (.int x1)) M N) ∧ (¬ (x0 < x1) → Z (some (.int x0)) M N)) : jv_J g d mt_JM_max 0 [some (.int x0), some (.int x1)] [] M N cr sr Z := by
  refine jv_iload_n d_JM_max_0 rfl rfl ?_
  refine jv_iload_n d_JM_max_1 rfl rfl ?_
  refine jv_icmp_lt (tgt := 9) d_JM_max_2 (by decide) ⟨fun c => ?_, fun c => ?_⟩
  · replace h := h.1 c
    refine jv_iload_n d_JM_max_9 rfl rfl ?_
    exact jv_iret d_JM_max_10 rfl rfl h
  · replace h := h.2 c
    refine jv_iload_n d_JM_max_5 rfl rfl ?_
    refine jv_goto (tgt := 10) d_JM_max_6 (by decide) ?_
    exact jv_iret d_JM_max_10 rfl rfl h
theorem b_JM_min_0 {g : jv_G} {d : Nat} {M : jv_Mem} {N cr sr : Nat} {Z : Option Value → jv_Mem → Nat → Prop} {x0 : Int32} {x1 : Int32} (h : (x1 < x0 → Z (some (.int x1)) M N) ∧ (¬ (x1 < x0) → Z (some (.int x0)) M N)) : jv_J g d mt_JM_min 0 [some (.int x0), some (.int x1)] [] M N cr sr Z := by
  refine jv_iload_n d_JM_min_0 rfl rfl ?_
  refine jv_iload_n d_JM_min_1 rfl rfl ?_
  refine jv_icmp_gt (tgt := 9) d_JM_min_2 (by decide) ⟨fun c => ?_, fun c => ?_⟩
  · replace h := h.1 c
    refine jv_iload_n d_JM_min_9 rfl rfl ?_
    exact jv_iret d_JM_min_10 rfl rfl h
  · replace h := h.2 c
    refine jv_iload_n d_JM_min_5 rfl rfl ?_
    refine jv_goto (tgt := 10) d_JM_min_6 (by decide) ?_
    exact jv_iret d_JM_min_10 rfl rfl h
theorem b_JL_indexOfChar_0 {g : jv_G} {d : Nat} {M : jv_Mem} {N cr sr : Nat} {Z : Option Value → jv_Mem → Nat → Prop} {x1 : Int32} {x2 : Int32} {x3 : Int32} (h : jv_J g d mt_JL_indexOfChar 7 [some (.retAddr 4), none, none, some (.int x3), some (.int (Int8.toInt32 (Int32.toInt8 x1))), some (.int x2)] [] M N cr sr Z) : jv_J g d mt_JL_indexOfChar 0 [some (.retAddr 4), some (.int x1), some (.int x2), some (.int x3), none, none] [] M N cr sr Z := by
  refine jv_iload_n d_JL_indexOfChar_0 rfl rfl ?_
  refine jv_i2b d_JL_indexOfChar_1 ?_
  refine jv_istore (L' := [some (.retAddr 4), some (.int x1), some (.int x2), some (.int x3), some (.int (Int8.toInt32 (Int32.toInt8 x1))), none]) d_JL_indexOfChar_2 (Nat.le_of_ble_eq_true rfl) rfl ?_
  refine jv_iload_n d_JL_indexOfChar_4 rfl rfl ?_
  refine jv_istore (L' := [some (.retAddr 4), some (.int x1), some (.int x2), some (.int x3), some (.int (Int8.toInt32 (Int32.toInt8 x1))), some (.int x2)]) d_JL_indexOfChar_5 (Nat.le_of_ble_eq_true rfl) rfl ?_
  refine jv_weak (L' := [some (.retAddr 4), none, none, some (.int x3), some (.int (Int8.toInt32 (Int32.toInt8 x1))), some (.int x2)]) (by simp [jv_le]) ?_
  exact h
theorem b_JL_indexOfChar_7 {g : jv_G} {d : Nat} {M : jv_Mem} {N cr sr : Nat} {Z : Option Value → jv_Mem → Nat → Prop} {x3 : Int32} {x4 : Int32} {x5 : Int32} (h : (x3 ≤ x5 → Z (some (.int (-1))) M N) ∧ (¬ (x3 ≤ x5) → vp_in x5 8 ∧ ((jv_txt (Int32.toNatClampNeg x5)) ≠ x4 → jv_J g d mt_JL_indexOfChar 7 [some (.retAddr 4), none, none, some (.int x3), some (.int x4), some (.int (x5 + 1))] [] M N cr sr Z) ∧ ((jv_txt (Int32.toNatClampNeg x5)) = x4 → Z (some (.int x5)) M N))) : jv_J g d mt_JL_indexOfChar 7 [some (.retAddr 4), none, none, some (.int x3), some (.int x4), some (.int x5)] [] M N cr sr Z := by
  refine jv_iload d_JL_indexOfChar_7 rfl ?_
  refine jv_iload_n d_JL_indexOfChar_9 rfl rfl ?_
  refine jv_icmp_ge (tgt := 31) d_JL_indexOfChar_10 (by decide) ⟨fun c => ?_, fun c => ?_⟩
  · replace h := h.1 c
    refine jv_iconst (v := (-1)) d_JL_indexOfChar_31 (by decide) ?_
    exact jv_iret d_JL_indexOfChar_32 rfl rfl h
  · replace h := h.2 c
    refine jv_aload_nR d_JL_indexOfChar_13 rfl rfl ?_
    refine jv_iload d_JL_indexOfChar_14 rfl ?_
    obtain ⟨q1, h⟩ := h
    refine jv_tald d_JL_indexOfChar_16 q1 ?_
    refine jv_iload d_JL_indexOfChar_17 rfl ?_
    refine jv_icmp_ne (tgt := 25) d_JL_indexOfChar_19 (by decide) ⟨fun c => ?_, fun c => ?_⟩
    · replace h := h.1 c
      refine jv_iinc (v := (x5 + 1)) (L' := [some (.retAddr 4), none, none, some (.int x3), some (.int x4), some (.int (x5 + 1))]) d_JL_indexOfChar_25 rfl rfl (Nat.le_of_ble_eq_true rfl) rfl ?_
      refine jv_goto (tgt := 7) d_JL_indexOfChar_28 (by decide) ?_
      exact h
    · replace h := h.2 c
      refine jv_iload d_JL_indexOfChar_22 rfl ?_
      exact jv_iret d_JL_indexOfChar_24 rfl rfl h
theorem b_P_hasRegister_0 {g : jv_G} {d : Nat} {M : jv_Mem} {N cr sr : Nat} {Z : Option Value → jv_Mem → Nat → Prop} {x0 : Int32} (h : (x0 < 1 → Z (some (.int 0)) M N) ∧ (¬ (x0 < 1) → (6 < x0 → Z (some (.int 0)) M N) ∧ (¬ (6 < x0) → Z (some (.int 1)) M N))) : jv_J g d mt_P_hasRegister 0 [some (.int x0)] [] M N cr sr Z := by
  refine jv_iload_n d_P_hasRegister_0 rfl rfl ?_
  refine jv_iconst (v := 1) d_P_hasRegister_1 (by decide) ?_
  refine jv_icmp_lt (tgt := 15) d_P_hasRegister_2 (by decide) ⟨fun c => ?_, fun c => ?_⟩
  · replace h := h.1 c
    refine jv_iconst (v := 0) d_P_hasRegister_15 (by decide) ?_
    exact jv_iret d_P_hasRegister_16 rfl (jv_nz (by decide)) h
  · replace h := h.2 c
    refine jv_iload_n d_P_hasRegister_5 rfl rfl ?_
    refine jv_bipush (v := 6) d_P_hasRegister_6 (by decide) ?_
    refine jv_icmp_gt (tgt := 15) d_P_hasRegister_8 (by decide) ⟨fun c => ?_, fun c => ?_⟩
    · replace h := h.1 c
      refine jv_iconst (v := 0) d_P_hasRegister_15 (by decide) ?_
      exact jv_iret d_P_hasRegister_16 rfl (jv_nz (by decide)) h
    · replace h := h.2 c
      refine jv_iconst (v := 1) d_P_hasRegister_11 (by decide) ?_
      refine jv_goto (tgt := 16) d_P_hasRegister_12 (by decide) ?_
      exact jv_iret d_P_hasRegister_16 rfl (jv_nz (by decide)) h
theorem b_P_append_0 {g : jv_G} {d : Nat} {M : jv_Mem} {N cr sr : Nat} {Z : Option Value → jv_Mem → Nat → Prop} {a0 : Nat} {x1 : Int32} {x2 : Int32} {x3 : Int32} (h : jv_Tg 4 a0 N ∧ (16 ≤ (Prod.fst M a0 3) → Z none M N) ∧ (¬ (16 ≤ (Prod.fst M a0 3)) → jv_Tg 4 a0 N ∧ ∃ b3, Prod.fst (Prod.snd M) a0 0 = some b3 ∧ jv_Tg 4 a0 N ∧ jv_Tg 11 b3 N ∧ vp_in (Prod.fst M a0 3) (jv_sh b3).2 ∧ jv_Tg 4 a0 N ∧ ∃ b9, Prod.fst (Prod.snd (jv_si M b3 (Int32.toNatClampNeg (Prod.fst M a0 3)) x1)) a0 1 = some b9 ∧ jv_Tg 4 a0 N ∧ jv_Tg 11 b9 N ∧ vp_in (Prod.fst (jv_si M b3 (Int32.toNatClampNeg (Prod.fst M a0 3)) x1) a0 3) (jv_sh b9).2 ∧ jv_Tg 4 a0 N ∧ ∃ b15, Prod.fst (Prod.snd (jv_si (jv_si M b3 (Int32.toNatClampNeg (Prod.fst M a0 3)) x1) b9 (Int32.toNatClampNeg (Prod.fst (jv_si M b3 (Int32.toNatClampNeg (Prod.fst M a0 3)) x1) a0 3)) x2)) a0 2 = some b15 ∧ jv_Tg 4 a0 N ∧ jv_Tg 11 b15 N ∧ vp_in (Prod.fst (jv_si (jv_si M b3 (Int32.toNatClampNeg (Prod.fst M a0 3)) x1) b9 (Int32.toNatClampNeg (Prod.fst (jv_si M b3 (Int32.toNatClampNeg (Prod.fst M a0 3)) x1) a0 3)) x2) a0 3) (jv_sh b15).2 ∧ jv_Tg 4 a0 N ∧ jv_Tg 4 a0 N ∧ Z none (jv_si (jv_si (jv_si (jv_si M b3 (Int32.toNatClampNeg (Prod.fst M a0 3)) x1) b9 (Int32.toNatClampNeg (Prod.fst (jv_si M b3 (Int32.toNatClampNeg (Prod.fst M a0 3)) x1) a0 3)) x2) b15 (Int32.toNatClampNeg (Prod.fst (jv_si (jv_si M b3 (Int32.toNatClampNeg (Prod.fst M a0 3)) x1) b9 (Int32.toNatClampNeg (Prod.fst (jv_si M b3 (Int32.toNatClampNeg (Prod.fst M a0 3)) x1) a0 3)) x2) a0 3)) x3) a0 3 ((Prod.fst (jv_si (jv_si (jv_si M b3 (Int32.toNatClampNeg (Prod.fst M a0 3)) x1) b9 (Int32.toNatClampNeg (Prod.fst (jv_si M b3 (Int32.toNatClampNeg (Prod.fst M a0 3)) x1) a0 3)) x2) b15 (Int32.toNatClampNeg (Prod.fst (jv_si (jv_si M b3 (Int32.toNatClampNeg (Prod.fst M a0 3)) x1) b9 (Int32.toNatClampNeg (Prod.fst (jv_si M b3 (Int32.toNatClampNeg (Prod.fst M a0 3)) x1) a0 3)) x2) a0 3)) x3) a0 3) + 1)) N)) : jv_J g d mt_P_append 0 [some (.ref a0), some (.int x1), some (.int x2), some (.int x3)] [] M N cr sr Z := by
  refine jv_aload_n d_P_append_0 rfl rfl ?_
  obtain ⟨q1, h⟩ := h
  refine jv_getI d_P_append_1 fl_P_21 rfl q1 ?_
  refine jv_bipush (v := 16) d_P_append_4 (by decide) ?_
  refine jv_icmp_ge (tgt := 49) d_P_append_6 (by decide) ⟨fun c => ?_, fun c => ?_⟩
  · replace h := h.1 c
    exact jv_ret d_P_append_49 rfl h
  · replace h := h.2 c
    refine jv_aload_n d_P_append_9 rfl rfl ?_
    obtain ⟨q2, h⟩ := h
    obtain ⟨b3, e4, h⟩ := h
    refine jv_getR d_P_append_10 fl_P_9 rfl q2 e4 ?_
    refine jv_aload_n d_P_append_13 rfl rfl ?_
    obtain ⟨q5, h⟩ := h
    refine jv_getI d_P_append_14 fl_P_21 rfl q5 ?_
    refine jv_iload_n d_P_append_17 rfl rfl ?_
    obtain ⟨q6, q7, h⟩ := h
    refine jv_iast d_P_append_18 q6 q7 ?_
    refine jv_aload_n d_P_append_19 rfl rfl ?_
    obtain ⟨q8, h⟩ := h
    obtain ⟨b9, e10, h⟩ := h
    refine jv_getR d_P_append_20 fl_P_15 rfl q8 e10 ?_
    refine jv_aload_n d_P_append_23 rfl rfl ?_
    obtain ⟨q11, h⟩ := h
    refine jv_getI d_P_append_24 fl_P_21 rfl q11 ?_
    refine jv_iload_n d_P_append_27 rfl rfl ?_
    obtain ⟨q12, q13, h⟩ := h
    refine jv_iast d_P_append_28 q12 q13 ?_
    refine jv_aload_n d_P_append_29 rfl rfl ?_
    obtain ⟨q14, h⟩ := h
    obtain ⟨b15, e16, h⟩ := h
    refine jv_getR d_P_append_30 fl_P_18 rfl q14 e16 ?_
    refine jv_aload_n d_P_append_33 rfl rfl ?_
    obtain ⟨q17, h⟩ := h
    refine jv_getI d_P_append_34 fl_P_21 rfl q17 ?_
    refine jv_iload_n d_P_append_37 rfl rfl ?_
    obtain ⟨q18, q19, h⟩ := h
    refine jv_iast d_P_append_38 q18 q19 ?_
    refine jv_aload_n d_P_append_39 rfl rfl ?_
    refine jv_dup d_P_append_40 rfl ?_
    obtain ⟨q20, h⟩ := h
    refine jv_getI d_P_append_41 fl_P_21 rfl q20 ?_
    refine jv_iconst (v := 1) d_P_append_44 (by decide) ?_
    refine jv_iadd d_P_append_45 ?_
    obtain ⟨q21, h⟩ := h
    refine jv_putI d_P_append_46 fl_P_21 (fun r hr => by cases hr; rfl) rfl q21 ?_
    exact jv_ret d_P_append_49 rfl h
theorem b_H_restart_0 {g : jv_G} {d : Nat} {M : jv_Mem} {N cr sr : Nat} {Z : Option Value → jv_Mem → Nat → Prop} {a0 : Nat} (h : jv_J g d mt_H_restart 2 [some (.ref a0), some (.int 0)] [] M N cr sr Z) : jv_J g d mt_H_restart 0 [some (.ref a0), none] [] M N cr sr Z := by
  refine jv_iconst (v := 0) d_H_restart_0 (by decide) ?_
  refine jv_istore_n (L' := [some (.ref a0), some (.int 0)]) d_H_restart_1 rfl (Nat.le_of_ble_eq_true rfl) rfl ?_
  exact h
theorem b_H_restart_2 {g : jv_G} {d : Nat} {M : jv_Mem} {N cr sr : Nat} {Z : Option Value → jv_Mem → Nat → Prop} {a0 : Nat} {x1 : Int32} (h : (4 ≤ x1 → jv_Tg 1 a0 N ∧ jv_Tg 1 a0 N ∧ jv_Tg 1 a0 N ∧ jv_Tg 1 a0 N ∧ jv_Tg 1 a0 N ∧ Z none (jv_si (jv_si (jv_si (jv_si M a0 3 (Prod.fst M a0 1)) a0 4 0) a0 5 0) a0 6 0) N) ∧ (¬ (4 ≤ x1) → jv_Tg 1 a0 N ∧ ∃ b7, Prod.fst (Prod.snd M) a0 0 = some b7 ∧ jv_Tg 11 b7 N ∧ vp_in x1 (jv_sh b7).2 ∧ jv_J g d mt_H_restart 2 [some (.ref a0), some (.int (x1 + 1))] [] (jv_si M b7 (Int32.toNatClampNeg x1) 0) N cr sr Z)) : jv_J g d mt_H_restart 2 [some (.ref a0), some (.int x1)] [] M N cr sr Z := by
  refine jv_iload_n d_H_restart_2 rfl rfl ?_
  refine jv_iconst (v := 4) d_H_restart_3 (by decide) ?_
  refine jv_icmp_ge (tgt := 20) d_H_restart_4 (by decide) ⟨fun c => ?_, fun c => ?_⟩
  · replace h := h.1 c
    refine jv_aload_n d_H_restart_20 rfl rfl ?_
    refine jv_aload_n d_H_restart_21 rfl rfl ?_
    obtain ⟨q1, h⟩ := h
    refine jv_getI d_H_restart_22 fl_H_21 rfl q1 ?_
    obtain ⟨q2, h⟩ := h
    refine jv_putI d_H_restart_25 fl_H_28 (fun r hr => by cases hr; rfl) rfl q2 ?_
    refine jv_aload_n d_H_restart_28 rfl rfl ?_
    refine jv_iconst (v := 0) d_H_restart_29 (by decide) ?_
    obtain ⟨q3, h⟩ := h
    refine jv_putI d_H_restart_30 fl_H_31 (fun r hr => by cases hr; rfl) rfl q3 ?_
    refine jv_aload_n d_H_restart_33 rfl rfl ?_
    refine jv_iconst (v := 0) d_H_restart_34 (by decide) ?_
    obtain ⟨q4, h⟩ := h
    refine jv_putI d_H_restart_35 fl_H_34 (fun r hr => by cases hr; rfl) rfl q4 ?_
    refine jv_aload_n d_H_restart_38 rfl rfl ?_
    refine jv_iconst (v := 0) d_H_restart_39 (by decide) ?_
    obtain ⟨q5, h⟩ := h
    refine jv_putZ d_H_restart_40 fl_H_37 (fun r hr => by cases hr; rfl) rfl q5 (by decide) ?_
    exact jv_ret d_H_restart_43 rfl h
  · replace h := h.2 c
    refine jv_aload_n d_H_restart_7 rfl rfl ?_
    obtain ⟨q6, h⟩ := h
    obtain ⟨b7, e8, h⟩ := h
    refine jv_getR d_H_restart_8 fl_H_9 rfl q6 e8 ?_
    refine jv_iload_n d_H_restart_11 rfl rfl ?_
    refine jv_iconst (v := 0) d_H_restart_12 (by decide) ?_
    obtain ⟨q9, q10, h⟩ := h
    refine jv_iast d_H_restart_13 q9 q10 ?_
    refine jv_iinc (v := (x1 + 1)) (L' := [some (.ref a0), some (.int (x1 + 1))]) d_H_restart_14 rfl rfl (Nat.le_of_ble_eq_true rfl) rfl ?_
    refine jv_goto (tgt := 2) d_H_restart_17 (by decide) ?_
    exact h
theorem b_U_become_0 {g : jv_G} {d : Nat} {M : jv_Mem} {N cr sr : Nat} {Z : Option Value → jv_Mem → Nat → Prop} {a0 : Nat} {x1 : Int32} {x2 : Int32} {x3 : Int32} {x4 : Int32} {x5 : Int32} (h : jv_Tg 8 a0 N ∧ jv_Tg 8 a0 N ∧ jv_Tg 8 a0 N ∧ jv_Tg 8 a0 N ∧ jv_Tg 8 a0 N ∧ jv_Tg 8 a0 N ∧ (x5 = 0 ∨ x5 = 1) ∧ Z none (jv_si (jv_si (jv_si (jv_si (jv_si (jv_si M a0 1 x1) a0 2 x2) a0 3 x3) a0 4 x4) a0 5 x4) a0 6 x5) N) : jv_J g d mt_U_become 0 [some (.ref a0), some (.int x1), some (.int x2), some (.int x3), some (.int x4), some (.int x5)] [] M N cr sr Z := by
  refine jv_aload_n d_U_become_0 rfl rfl ?_
  refine jv_iload_n d_U_become_1 rfl rfl ?_
  obtain ⟨q1, h⟩ := h
  refine jv_putI d_U_become_2 fl_U_15 (fun r hr => by cases hr; rfl) rfl q1 ?_
  refine jv_aload_n d_U_become_5 rfl rfl ?_
  refine jv_iload_n d_U_become_6 rfl rfl ?_
  obtain ⟨q2, h⟩ := h
  refine jv_putI d_U_become_7 fl_U_18 (fun r hr => by cases hr; rfl) rfl q2 ?_
  refine jv_aload_n d_U_become_10 rfl rfl ?_
  refine jv_iload_n d_U_become_11 rfl rfl ?_
  obtain ⟨q3, h⟩ := h
  refine jv_putI d_U_become_12 fl_U_21 (fun r hr => by cases hr; rfl) rfl q3 ?_
  refine jv_aload_n d_U_become_15 rfl rfl ?_
  refine jv_iload d_U_become_16 rfl ?_
  obtain ⟨q4, h⟩ := h
  refine jv_putI d_U_become_18 fl_U_24 (fun r hr => by cases hr; rfl) rfl q4 ?_
  refine jv_aload_n d_U_become_21 rfl rfl ?_
  refine jv_iload d_U_become_22 rfl ?_
  obtain ⟨q5, h⟩ := h
  refine jv_putI d_U_become_24 fl_U_27 (fun r hr => by cases hr; rfl) rfl q5 ?_
  refine jv_aload_n d_U_become_27 rfl rfl ?_
  refine jv_iload d_U_become_28 rfl ?_
  obtain ⟨q6, h⟩ := h
  obtain ⟨q7, h⟩ := h
  refine jv_putZ d_U_become_30 fl_U_30 (fun r hr => by cases hr; rfl) rfl q6 q7 ?_
  exact jv_ret d_U_become_33 rfl h
theorem b_P_copyFrom_0 {g : jv_G} {d : Nat} {M : jv_Mem} {N cr sr : Nat} {Z : Option Value → jv_Mem → Nat → Prop} {a0 : Nat} {a1 : Nat} (h : jv_Tg 4 a1 N ∧ ∃ b2, Prod.fst (Prod.snd M) a1 0 = some b2 ∧ jv_Tg 4 a0 N ∧ ∃ b5, Prod.fst (Prod.snd M) a0 0 = some b5 ∧ jv_Tg 11 b2 N ∧ jv_Tg 11 b5 N ∧ 16 ≤ (jv_sh b2).2 ∧ 16 ≤ (jv_sh b5).2 ∧ jv_Tg 4 a1 N ∧ ∃ b12, Prod.fst (Prod.snd (jv_cp M b2 b5 0 0 16)) a1 1 = some b12 ∧ jv_Tg 4 a0 N ∧ ∃ b15, Prod.fst (Prod.snd (jv_cp M b2 b5 0 0 16)) a0 1 = some b15 ∧ jv_Tg 11 b12 N ∧ jv_Tg 11 b15 N ∧ 16 ≤ (jv_sh b12).2 ∧ 16 ≤ (jv_sh b15).2 ∧ jv_Tg 4 a1 N ∧ ∃ b22, Prod.fst (Prod.snd (jv_cp (jv_cp M b2 b5 0 0 16) b12 b15 0 0 16)) a1 2 = some b22 ∧ jv_Tg 4 a0 N ∧ ∃ b25, Prod.fst (Prod.snd (jv_cp (jv_cp M b2 b5 0 0 16) b12 b15 0 0 16)) a0 2 = some b25 ∧ jv_Tg 11 b22 N ∧ jv_Tg 11 b25 N ∧ 16 ≤ (jv_sh b22).2 ∧ 16 ≤ (jv_sh b25).2 ∧ jv_Tg 4 a1 N ∧ jv_Tg 4 a0 N ∧ Z none (jv_si (jv_cp (jv_cp (jv_cp M b2 b5 0 0 16) b12 b15 0 0 16) b22 b25 0 0 16) a0 3 (Prod.fst (jv_cp (jv_cp (jv_cp M b2 b5 0 0 16) b12 b15 0 0 16) b22 b25 0 0 16) a1 3)) N) : jv_J g (d + 1) mt_P_copyFrom 0 [some (.ref a0), some (.ref a1)] [] M N cr sr Z := by
  refine jv_aload_n d_P_copyFrom_0 rfl rfl ?_
  obtain ⟨q1, h⟩ := h
  obtain ⟨b2, e3, h⟩ := h
  refine jv_getR d_P_copyFrom_1 fl_P_9 rfl q1 e3 ?_
  refine jv_iconst (v := 0) d_P_copyFrom_4 (by decide) ?_
  refine jv_aload_n d_P_copyFrom_5 rfl rfl ?_
  obtain ⟨q4, h⟩ := h
  obtain ⟨b5, e6, h⟩ := h
  refine jv_getR d_P_copyFrom_6 fl_P_9 rfl q4 e6 ?_
  refine jv_iconst (v := 0) d_P_copyFrom_9 (by decide) ?_
  refine jv_bipush (v := 16) d_P_copyFrom_10 (by decide) ?_
  obtain ⟨q7, q8, q9, q10, h⟩ := h
  refine jv_copy0 (k := 16) d_P_copyFrom_12 ac_P_25 ac_w2 ac_w3 ac_w4 q7 q8 (by decide) (by decide) q9 q10 (Nat.le_of_ble_eq_true rfl) ?_
  refine jv_aload_n d_P_copyFrom_15 rfl rfl ?_
  obtain ⟨q11, h⟩ := h
  obtain ⟨b12, e13, h⟩ := h
  refine jv_getR d_P_copyFrom_16 fl_P_15 rfl q11 e13 ?_
  refine jv_iconst (v := 0) d_P_copyFrom_19 (by decide) ?_
  refine jv_aload_n d_P_copyFrom_20 rfl rfl ?_
  obtain ⟨q14, h⟩ := h
  obtain ⟨b15, e16, h⟩ := h
  refine jv_getR d_P_copyFrom_21 fl_P_15 rfl q14 e16 ?_
  refine jv_iconst (v := 0) d_P_copyFrom_24 (by decide) ?_
  refine jv_bipush (v := 16) d_P_copyFrom_25 (by decide) ?_
  obtain ⟨q17, q18, q19, q20, h⟩ := h
  refine jv_copy0 (k := 16) d_P_copyFrom_27 ac_P_25 ac_w2 ac_w3 ac_w4 q17 q18 (by decide) (by decide) q19 q20 (Nat.le_of_ble_eq_true rfl) ?_
  refine jv_aload_n d_P_copyFrom_30 rfl rfl ?_
  obtain ⟨q21, h⟩ := h
  obtain ⟨b22, e23, h⟩ := h
  refine jv_getR d_P_copyFrom_31 fl_P_18 rfl q21 e23 ?_
  refine jv_iconst (v := 0) d_P_copyFrom_34 (by decide) ?_
  refine jv_aload_n d_P_copyFrom_35 rfl rfl ?_
  obtain ⟨q24, h⟩ := h
  obtain ⟨b25, e26, h⟩ := h
  refine jv_getR d_P_copyFrom_36 fl_P_18 rfl q24 e26 ?_
  refine jv_iconst (v := 0) d_P_copyFrom_39 (by decide) ?_
  refine jv_bipush (v := 16) d_P_copyFrom_40 (by decide) ?_
  obtain ⟨q27, q28, q29, q30, h⟩ := h
  refine jv_copy0 (k := 16) d_P_copyFrom_42 ac_P_25 ac_w2 ac_w3 ac_w4 q27 q28 (by decide) (by decide) q29 q30 (Nat.le_of_ble_eq_true rfl) ?_
  refine jv_aload_n d_P_copyFrom_45 rfl rfl ?_
  refine jv_aload_n d_P_copyFrom_46 rfl rfl ?_
  obtain ⟨q31, h⟩ := h
  refine jv_getI d_P_copyFrom_47 fl_P_21 rfl q31 ?_
  obtain ⟨q32, h⟩ := h
  refine jv_putI d_P_copyFrom_50 fl_P_21 (fun r hr => by cases hr; rfl) rfl q32 ?_
  exact jv_ret d_P_copyFrom_53 rfl h
theorem b_O_copyFrom_0 {g : jv_G} {d : Nat} {M : jv_Mem} {N cr sr : Nat} {Z : Option Value → jv_Mem → Nat → Prop} {a0 : Nat} {a1 : Nat} (h : jv_Tg 2 a1 N ∧ jv_Tg 2 a0 N ∧ jv_Tg 2 a1 N ∧ jv_Tg 2 a0 N ∧ jv_Tg 2 a1 N ∧ jv_Tg 2 a0 N ∧ jv_Tg 2 a1 N ∧ jv_Tg 2 a0 N ∧ jv_Tg 2 a1 N ∧ jv_Tg 2 a0 N ∧ jv_Tg 2 a1 N ∧ jv_Tg 2 a0 N ∧ jv_Tg 2 a1 N ∧ jv_Tg 2 a0 N ∧ Z none (jv_si (jv_si (jv_si (jv_si (jv_si (jv_si (jv_si M a0 0 (Prod.fst M a1 0)) a0 1 (Prod.fst (jv_si M a0 0 (Prod.fst M a1 0)) a1 1)) a0 2 (Prod.fst (jv_si (jv_si M a0 0 (Prod.fst M a1 0)) a0 1 (Prod.fst (jv_si M a0 0 (Prod.fst M a1 0)) a1 1)) a1 2)) a0 3 (Prod.fst (jv_si (jv_si (jv_si M a0 0 (Prod.fst M a1 0)) a0 1 (Prod.fst (jv_si M a0 0 (Prod.fst M a1 0)) a1 1)) a0 2 (Prod.fst (jv_si (jv_si M a0 0 (Prod.fst M a1 0)) a0 1 (Prod.fst (jv_si M a0 0 (Prod.fst M a1 0)) a1 1)) a1 2)) a1 3)) a0 4 (Prod.fst (jv_si (jv_si (jv_si (jv_si M a0 0 (Prod.fst M a1 0)) a0 1 (Prod.fst (jv_si M a0 0 (Prod.fst M a1 0)) a1 1)) a0 2 (Prod.fst (jv_si (jv_si M a0 0 (Prod.fst M a1 0)) a0 1 (Prod.fst (jv_si M a0 0 (Prod.fst M a1 0)) a1 1)) a1 2)) a0 3 (Prod.fst (jv_si (jv_si (jv_si M a0 0 (Prod.fst M a1 0)) a0 1 (Prod.fst (jv_si M a0 0 (Prod.fst M a1 0)) a1 1)) a0 2 (Prod.fst (jv_si (jv_si M a0 0 (Prod.fst M a1 0)) a0 1 (Prod.fst (jv_si M a0 0 (Prod.fst M a1 0)) a1 1)) a1 2)) a1 3)) a1 4)) a0 5 (Prod.fst (jv_si (jv_si (jv_si (jv_si (jv_si M a0 0 (Prod.fst M a1 0)) a0 1 (Prod.fst (jv_si M a0 0 (Prod.fst M a1 0)) a1 1)) a0 2 (Prod.fst (jv_si (jv_si M a0 0 (Prod.fst M a1 0)) a0 1 (Prod.fst (jv_si M a0 0 (Prod.fst M a1 0)) a1 1)) a1 2)) a0 3 (Prod.fst (jv_si (jv_si (jv_si M a0 0 (Prod.fst M a1 0)) a0 1 (Prod.fst (jv_si M a0 0 (Prod.fst M a1 0)) a1 1)) a0 2 (Prod.fst (jv_si (jv_si M a0 0 (Prod.fst M a1 0)) a0 1 (Prod.fst (jv_si M a0 0 (Prod.fst M a1 0)) a1 1)) a1 2)) a1 3)) a0 4 (Prod.fst (jv_si (jv_si (jv_si (jv_si M a0 0 (Prod.fst M a1 0)) a0 1 (Prod.fst (jv_si M a0 0 (Prod.fst M a1 0)) a1 1)) a0 2 (Prod.fst (jv_si (jv_si M a0 0 (Prod.fst M a1 0)) a0 1 (Prod.fst (jv_si M a0 0 (Prod.fst M a1 0)) a1 1)) a1 2)) a0 3 (Prod.fst (jv_si (jv_si (jv_si M a0 0 (Prod.fst M a1 0)) a0 1 (Prod.fst (jv_si M a0 0 (Prod.fst M a1 0)) a1 1)) a0 2 (Prod.fst (jv_si (jv_si M a0 0 (Prod.fst M a1 0)) a0 1 (Prod.fst (jv_si M a0 0 (Prod.fst M a1 0)) a1 1)) a1 2)) a1 3)) a1 4)) a1 5)) a0 6 (Prod.fst (jv_si (jv_si (jv_si (jv_si (jv_si (jv_si M a0 0 (Prod.fst M a1 0)) a0 1 (Prod.fst (jv_si M a0 0 (Prod.fst M a1 0)) a1 1)) a0 2 (Prod.fst (jv_si (jv_si M a0 0 (Prod.fst M a1 0)) a0 1 (Prod.fst (jv_si M a0 0 (Prod.fst M a1 0)) a1 1)) a1 2)) a0 3 (Prod.fst (jv_si (jv_si (jv_si M a0 0 (Prod.fst M a1 0)) a0 1 (Prod.fst (jv_si M a0 0 (Prod.fst M a1 0)) a1 1)) a0 2 (Prod.fst (jv_si (jv_si M a0 0 (Prod.fst M a1 0)) a0 1 (Prod.fst (jv_si M a0 0 (Prod.fst M a1 0)) a1 1)) a1 2)) a1 3)) a0 4 (Prod.fst (jv_si (jv_si (jv_si (jv_si M a0 0 (Prod.fst M a1 0)) a0 1 (Prod.fst (jv_si M a0 0 (Prod.fst M a1 0)) a1 1)) a0 2 (Prod.fst (jv_si (jv_si M a0 0 (Prod.fst M a1 0)) a0 1 (Prod.fst (jv_si M a0 0 (Prod.fst M a1 0)) a1 1)) a1 2)) a0 3 (Prod.fst (jv_si (jv_si (jv_si M a0 0 (Prod.fst M a1 0)) a0 1 (Prod.fst (jv_si M a0 0 (Prod.fst M a1 0)) a1 1)) a0 2 (Prod.fst (jv_si (jv_si M a0 0 (Prod.fst M a1 0)) a0 1 (Prod.fst (jv_si M a0 0 (Prod.fst M a1 0)) a1 1)) a1 2)) a1 3)) a1 4)) a0 5 (Prod.fst (jv_si (jv_si (jv_si (jv_si (jv_si M a0 0 (Prod.fst M a1 0)) a0 1 (Prod.fst (jv_si M a0 0 (Prod.fst M a1 0)) a1 1)) a0 2 (Prod.fst (jv_si (jv_si M a0 0 (Prod.fst M a1 0)) a0 1 (Prod.fst (jv_si M a0 0 (Prod.fst M a1 0)) a1 1)) a1 2)) a0 3 (Prod.fst (jv_si (jv_si (jv_si M a0 0 (Prod.fst M a1 0)) a0 1 (Prod.fst (jv_si M a0 0 (Prod.fst M a1 0)) a1 1)) a0 2 (Prod.fst (jv_si (jv_si M a0 0 (Prod.fst M a1 0)) a0 1 (Prod.fst (jv_si M a0 0 (Prod.fst M a1 0)) a1 1)) a1 2)) a1 3)) a0 4 (Prod.fst (jv_si (jv_si (jv_si (jv_si M a0 0 (Prod.fst M a1 0)) a0 1 (Prod.fst (jv_si M a0 0 (Prod.fst M a1 0)) a1 1)) a0 2 (Prod.fst (jv_si (jv_si M a0 0 (Prod.fst M a1 0)) a0 1 (Prod.fst (jv_si M a0 0 (Prod.fst M a1 0)) a1 1)) a1 2)) a0 3 (Prod.fst (jv_si (jv_si (jv_si M a0 0 (Prod.fst M a1 0)) a0 1 (Prod.fst (jv_si M a0 0 (Prod.fst M a1 0)) a1 1)) a0 2 (Prod.fst (jv_si (jv_si M a0 0 (Prod.fst M a1 0)) a0 1 (Prod.fst (jv_si M a0 0 (Prod.fst M a1 0)) a1 1)) a1 2)) a1 3)) a1 4)) a1 5)) a1 6)) N) : jv_J g d mt_O_copyFrom 0 [some (.ref a0), some (.ref a1)] [] M N cr sr Z := by
  refine jv_aload_n d_O_copyFrom_0 rfl rfl ?_
  refine jv_aload_n d_O_copyFrom_1 rfl rfl ?_
  obtain ⟨q1, h⟩ := h
  refine jv_getI d_O_copyFrom_2 fl_O_9 rfl q1 ?_
  obtain ⟨q2, h⟩ := h
  refine jv_putI d_O_copyFrom_5 fl_O_9 (fun r hr => by cases hr; rfl) rfl q2 ?_
  refine jv_aload_n d_O_copyFrom_8 rfl rfl ?_
  refine jv_aload_n d_O_copyFrom_9 rfl rfl ?_
  obtain ⟨q3, h⟩ := h
  refine jv_getI d_O_copyFrom_10 fl_O_15 rfl q3 ?_
  obtain ⟨q4, h⟩ := h
  refine jv_putI d_O_copyFrom_13 fl_O_15 (fun r hr => by cases hr; rfl) rfl q4 ?_
  refine jv_aload_n d_O_copyFrom_16 rfl rfl ?_
  refine jv_aload_n d_O_copyFrom_17 rfl rfl ?_
  obtain ⟨q5, h⟩ := h
  refine jv_getI d_O_copyFrom_18 fl_O_18 rfl q5 ?_
  obtain ⟨q6, h⟩ := h
  refine jv_putI d_O_copyFrom_21 fl_O_18 (fun r hr => by cases hr; rfl) rfl q6 ?_
  refine jv_aload_n d_O_copyFrom_24 rfl rfl ?_
  refine jv_aload_n d_O_copyFrom_25 rfl rfl ?_
  obtain ⟨q7, h⟩ := h
  refine jv_getI d_O_copyFrom_26 fl_O_21 rfl q7 ?_
  obtain ⟨q8, h⟩ := h
  refine jv_putI d_O_copyFrom_29 fl_O_21 (fun r hr => by cases hr; rfl) rfl q8 ?_
  refine jv_aload_n d_O_copyFrom_32 rfl rfl ?_
  refine jv_aload_n d_O_copyFrom_33 rfl rfl ?_
  obtain ⟨q9, h⟩ := h
  refine jv_getI d_O_copyFrom_34 fl_O_24 rfl q9 ?_
  obtain ⟨q10, h⟩ := h
  refine jv_putI d_O_copyFrom_37 fl_O_24 (fun r hr => by cases hr; rfl) rfl q10 ?_
  refine jv_aload_n d_O_copyFrom_40 rfl rfl ?_
  refine jv_aload_n d_O_copyFrom_41 rfl rfl ?_
  obtain ⟨q11, h⟩ := h
  refine jv_getI d_O_copyFrom_42 fl_O_27 rfl q11 ?_
  obtain ⟨q12, h⟩ := h
  refine jv_putI d_O_copyFrom_45 fl_O_27 (fun r hr => by cases hr; rfl) rfl q12 ?_
  refine jv_aload_n d_O_copyFrom_48 rfl rfl ?_
  refine jv_aload_n d_O_copyFrom_49 rfl rfl ?_
  obtain ⟨q13, h⟩ := h
  refine jv_getI d_O_copyFrom_50 fl_O_30 rfl q13 ?_
  obtain ⟨q14, h⟩ := h
  refine jv_putI d_O_copyFrom_53 fl_O_30 (fun r hr => by cases hr; rfl) rfl q14 ?_
  exact jv_ret d_O_copyFrom_56 rfl h
theorem b_H_copyFrom_0 {g : jv_G} {d : Nat} {M : jv_Mem} {N cr sr : Nat} {Z : Option Value → jv_Mem → Nat → Prop} {a0 : Nat} {a1 : Nat} (h : jv_Tg 1 a1 N ∧ ∃ b2, Prod.fst (Prod.snd M) a1 0 = some b2 ∧ jv_Tg 1 a0 N ∧ ∃ b5, Prod.fst (Prod.snd M) a0 0 = some b5 ∧ jv_Tg 11 b2 N ∧ jv_Tg 11 b5 N ∧ 4 ≤ (jv_sh b2).2 ∧ 4 ≤ (jv_sh b5).2 ∧ jv_Tg 1 a1 N ∧ jv_Tg 1 a0 N ∧ jv_Tg 1 a1 N ∧ jv_Tg 1 a0 N ∧ jv_Tg 1 a1 N ∧ jv_Tg 1 a0 N ∧ jv_Tg 1 a1 N ∧ jv_Tg 1 a0 N ∧ jv_Tg 1 a1 N ∧ jv_Tg 1 a0 N ∧ jv_Tg 1 a1 N ∧ jv_Tg 1 a0 N ∧ ((Prod.fst (jv_si (jv_si (jv_si (jv_si (jv_si (jv_cp M b2 b5 0 0 4) a0 1 (Prod.fst (jv_cp M b2 b5 0 0 4) a1 1)) a0 2 (Prod.fst (jv_si (jv_cp M b2 b5 0 0 4) a0 1 (Prod.fst (jv_cp M b2 b5 0 0 4) a1 1)) a1 2)) a0 3 (Prod.fst (jv_si (jv_si (jv_cp M b2 b5 0 0 4) a0 1 (Prod.fst (jv_cp M b2 b5 0 0 4) a1 1)) a0 2 (Prod.fst (jv_si (jv_cp M b2 b5 0 0 4) a0 1 (Prod.fst (jv_cp M b2 b5 0 0 4) a1 1)) a1 2)) a1 3)) a0 4 (Prod.fst (jv_si (jv_si (jv_si (jv_cp M b2 b5 0 0 4) a0 1 (Prod.fst (jv_cp M b2 b5 0 0 4) a1 1)) a0 2 (Prod.fst (jv_si (jv_cp M b2 b5 0 0 4) a0 1 (Prod.fst (jv_cp M b2 b5 0 0 4) a1 1)) a1 2)) a0 3 (Prod.fst (jv_si (jv_si (jv_cp M b2 b5 0 0 4) a0 1 (Prod.fst (jv_cp M b2 b5 0 0 4) a1 1)) a0 2 (Prod.fst (jv_si (jv_cp M b2 b5 0 0 4) a0 1 (Prod.fst (jv_cp M b2 b5 0 0 4) a1 1)) a1 2)) a1 3)) a1 4)) a0 5 (Prod.fst (jv_si (jv_si (jv_si (jv_si (jv_cp M b2 b5 0 0 4) a0 1 (Prod.fst (jv_cp M b2 b5 0 0 4) a1 1)) a0 2 (Prod.fst (jv_si (jv_cp M b2 b5 0 0 4) a0 1 (Prod.fst (jv_cp M b2 b5 0 0 4) a1 1)) a1 2)) a0 3 (Prod.fst (jv_si (jv_si (jv_cp M b2 b5 0 0 4) a0 1 (Prod.fst (jv_cp M b2 b5 0 0 4) a1 1)) a0 2 (Prod.fst (jv_si (jv_cp M b2 b5 0 0 4) a0 1 (Prod.fst (jv_cp M b2 b5 0 0 4) a1 1)) a1 2)) a1 3)) a0 4 (Prod.fst (jv_si (jv_si (jv_si (jv_cp M b2 b5 0 0 4) a0 1 (Prod.fst (jv_cp M b2 b5 0 0 4) a1 1)) a0 2 (Prod.fst (jv_si (jv_cp M b2 b5 0 0 4) a0 1 (Prod.fst (jv_cp M b2 b5 0 0 4) a1 1)) a1 2)) a0 3 (Prod.fst (jv_si (jv_si (jv_cp M b2 b5 0 0 4) a0 1 (Prod.fst (jv_cp M b2 b5 0 0 4) a1 1)) a0 2 (Prod.fst (jv_si (jv_cp M b2 b5 0 0 4) a0 1 (Prod.fst (jv_cp M b2 b5 0 0 4) a1 1)) a1 2)) a1 3)) a1 4)) a1 5)) a1 6) = 0 ∨ (Prod.fst (jv_si (jv_si (jv_si (jv_si (jv_si (jv_cp M b2 b5 0 0 4) a0 1 (Prod.fst (jv_cp M b2 b5 0 0 4) a1 1)) a0 2 (Prod.fst (jv_si (jv_cp M b2 b5 0 0 4) a0 1 (Prod.fst (jv_cp M b2 b5 0 0 4) a1 1)) a1 2)) a0 3 (Prod.fst (jv_si (jv_si (jv_cp M b2 b5 0 0 4) a0 1 (Prod.fst (jv_cp M b2 b5 0 0 4) a1 1)) a0 2 (Prod.fst (jv_si (jv_cp M b2 b5 0 0 4) a0 1 (Prod.fst (jv_cp M b2 b5 0 0 4) a1 1)) a1 2)) a1 3)) a0 4 (Prod.fst (jv_si (jv_si (jv_si (jv_cp M b2 b5 0 0 4) a0 1 (Prod.fst (jv_cp M b2 b5 0 0 4) a1 1)) a0 2 (Prod.fst (jv_si (jv_cp M b2 b5 0 0 4) a0 1 (Prod.fst (jv_cp M b2 b5 0 0 4) a1 1)) a1 2)) a0 3 (Prod.fst (jv_si (jv_si (jv_cp M b2 b5 0 0 4) a0 1 (Prod.fst (jv_cp M b2 b5 0 0 4) a1 1)) a0 2 (Prod.fst (jv_si (jv_cp M b2 b5 0 0 4) a0 1 (Prod.fst (jv_cp M b2 b5 0 0 4) a1 1)) a1 2)) a1 3)) a1 4)) a0 5 (Prod.fst (jv_si (jv_si (jv_si (jv_si (jv_cp M b2 b5 0 0 4) a0 1 (Prod.fst (jv_cp M b2 b5 0 0 4) a1 1)) a0 2 (Prod.fst (jv_si (jv_cp M b2 b5 0 0 4) a0 1 (Prod.fst (jv_cp M b2 b5 0 0 4) a1 1)) a1 2)) a0 3 (Prod.fst (jv_si (jv_si (jv_cp M b2 b5 0 0 4) a0 1 (Prod.fst (jv_cp M b2 b5 0 0 4) a1 1)) a0 2 (Prod.fst (jv_si (jv_cp M b2 b5 0 0 4) a0 1 (Prod.fst (jv_cp M b2 b5 0 0 4) a1 1)) a1 2)) a1 3)) a0 4 (Prod.fst (jv_si (jv_si (jv_si (jv_cp M b2 b5 0 0 4) a0 1 (Prod.fst (jv_cp M b2 b5 0 0 4) a1 1)) a0 2 (Prod.fst (jv_si (jv_cp M b2 b5 0 0 4) a0 1 (Prod.fst (jv_cp M b2 b5 0 0 4) a1 1)) a1 2)) a0 3 (Prod.fst (jv_si (jv_si (jv_cp M b2 b5 0 0 4) a0 1 (Prod.fst (jv_cp M b2 b5 0 0 4) a1 1)) a0 2 (Prod.fst (jv_si (jv_cp M b2 b5 0 0 4) a0 1 (Prod.fst (jv_cp M b2 b5 0 0 4) a1 1)) a1 2)) a1 3)) a1 4)) a1 5)) a1 6) = 1) ∧ Z none (jv_si (jv_si (jv_si (jv_si (jv_si (jv_si (jv_cp M b2 b5 0 0 4) a0 1 (Prod.fst (jv_cp M b2 b5 0 0 4) a1 1)) a0 2 (Prod.fst (jv_si (jv_cp M b2 b5 0 0 4) a0 1 (Prod.fst (jv_cp M b2 b5 0 0 4) a1 1)) a1 2)) a0 3 (Prod.fst (jv_si (jv_si (jv_cp M b2 b5 0 0 4) a0 1 (Prod.fst (jv_cp M b2 b5 0 0 4) a1 1)) a0 2 (Prod.fst (jv_si (jv_cp M b2 b5 0 0 4) a0 1 (Prod.fst (jv_cp M b2 b5 0 0 4) a1 1)) a1 2)) a1 3)) a0 4 (Prod.fst (jv_si (jv_si (jv_si (jv_cp M b2 b5 0 0 4) a0 1 (Prod.fst (jv_cp M b2 b5 0 0 4) a1 1)) a0 2 (Prod.fst (jv_si (jv_cp M b2 b5 0 0 4) a0 1 (Prod.fst (jv_cp M b2 b5 0 0 4) a1 1)) a1 2)) a0 3 (Prod.fst (jv_si (jv_si (jv_cp M b2 b5 0 0 4) a0 1 (Prod.fst (jv_cp M b2 b5 0 0 4) a1 1)) a0 2 (Prod.fst (jv_si (jv_cp M b2 b5 0 0 4) a0 1 (Prod.fst (jv_cp M b2 b5 0 0 4) a1 1)) a1 2)) a1 3)) a1 4)) a0 5 (Prod.fst (jv_si (jv_si (jv_si (jv_si (jv_cp M b2 b5 0 0 4) a0 1 (Prod.fst (jv_cp M b2 b5 0 0 4) a1 1)) a0 2 (Prod.fst (jv_si (jv_cp M b2 b5 0 0 4) a0 1 (Prod.fst (jv_cp M b2 b5 0 0 4) a1 1)) a1 2)) a0 3 (Prod.fst (jv_si (jv_si (jv_cp M b2 b5 0 0 4) a0 1 (Prod.fst (jv_cp M b2 b5 0 0 4) a1 1)) a0 2 (Prod.fst (jv_si (jv_cp M b2 b5 0 0 4) a0 1 (Prod.fst (jv_cp M b2 b5 0 0 4) a1 1)) a1 2)) a1 3)) a0 4 (Prod.fst (jv_si (jv_si (jv_si (jv_cp M b2 b5 0 0 4) a0 1 (Prod.fst (jv_cp M b2 b5 0 0 4) a1 1)) a0 2 (Prod.fst (jv_si (jv_cp M b2 b5 0 0 4) a0 1 (Prod.fst (jv_cp M b2 b5 0 0 4) a1 1)) a1 2)) a0 3 (Prod.fst (jv_si (jv_si (jv_cp M b2 b5 0 0 4) a0 1 (Prod.fst (jv_cp M b2 b5 0 0 4) a1 1)) a0 2 (Prod.fst (jv_si (jv_cp M b2 b5 0 0 4) a0 1 (Prod.fst (jv_cp M b2 b5 0 0 4) a1 1)) a1 2)) a1 3)) a1 4)) a1 5)) a0 6 (Prod.fst (jv_si (jv_si (jv_si (jv_si (jv_si (jv_cp M b2 b5 0 0 4) a0 1 (Prod.fst (jv_cp M b2 b5 0 0 4) a1 1)) a0 2 (Prod.fst (jv_si (jv_cp M b2 b5 0 0 4) a0 1 (Prod.fst (jv_cp M b2 b5 0 0 4) a1 1)) a1 2)) a0 3 (Prod.fst (jv_si (jv_si (jv_cp M b2 b5 0 0 4) a0 1 (Prod.fst (jv_cp M b2 b5 0 0 4) a1 1)) a0 2 (Prod.fst (jv_si (jv_cp M b2 b5 0 0 4) a0 1 (Prod.fst (jv_cp M b2 b5 0 0 4) a1 1)) a1 2)) a1 3)) a0 4 (Prod.fst (jv_si (jv_si (jv_si (jv_cp M b2 b5 0 0 4) a0 1 (Prod.fst (jv_cp M b2 b5 0 0 4) a1 1)) a0 2 (Prod.fst (jv_si (jv_cp M b2 b5 0 0 4) a0 1 (Prod.fst (jv_cp M b2 b5 0 0 4) a1 1)) a1 2)) a0 3 (Prod.fst (jv_si (jv_si (jv_cp M b2 b5 0 0 4) a0 1 (Prod.fst (jv_cp M b2 b5 0 0 4) a1 1)) a0 2 (Prod.fst (jv_si (jv_cp M b2 b5 0 0 4) a0 1 (Prod.fst (jv_cp M b2 b5 0 0 4) a1 1)) a1 2)) a1 3)) a1 4)) a0 5 (Prod.fst (jv_si (jv_si (jv_si (jv_si (jv_cp M b2 b5 0 0 4) a0 1 (Prod.fst (jv_cp M b2 b5 0 0 4) a1 1)) a0 2 (Prod.fst (jv_si (jv_cp M b2 b5 0 0 4) a0 1 (Prod.fst (jv_cp M b2 b5 0 0 4) a1 1)) a1 2)) a0 3 (Prod.fst (jv_si (jv_si (jv_cp M b2 b5 0 0 4) a0 1 (Prod.fst (jv_cp M b2 b5 0 0 4) a1 1)) a0 2 (Prod.fst (jv_si (jv_cp M b2 b5 0 0 4) a0 1 (Prod.fst (jv_cp M b2 b5 0 0 4) a1 1)) a1 2)) a1 3)) a0 4 (Prod.fst (jv_si (jv_si (jv_si (jv_cp M b2 b5 0 0 4) a0 1 (Prod.fst (jv_cp M b2 b5 0 0 4) a1 1)) a0 2 (Prod.fst (jv_si (jv_cp M b2 b5 0 0 4) a0 1 (Prod.fst (jv_cp M b2 b5 0 0 4) a1 1)) a1 2)) a0 3 (Prod.fst (jv_si (jv_si (jv_cp M b2 b5 0 0 4) a0 1 (Prod.fst (jv_cp M b2 b5 0 0 4) a1 1)) a0 2 (Prod.fst (jv_si (jv_cp M b2 b5 0 0 4) a0 1 (Prod.fst (jv_cp M b2 b5 0 0 4) a1 1)) a1 2)) a1 3)) a1 4)) a1 5)) a1 6)) N) : jv_J g (d + 1) mt_H_copyFrom 0 [some (.ref a0), some (.ref a1)] [] M N cr sr Z := by
  refine jv_aload_n d_H_copyFrom_0 rfl rfl ?_
  obtain ⟨q1, h⟩ := h
  obtain ⟨b2, e3, h⟩ := h
  refine jv_getR d_H_copyFrom_1 fl_H_9 rfl q1 e3 ?_
  refine jv_iconst (v := 0) d_H_copyFrom_4 (by decide) ?_
  refine jv_aload_n d_H_copyFrom_5 rfl rfl ?_
  obtain ⟨q4, h⟩ := h
  obtain ⟨b5, e6, h⟩ := h
  refine jv_getR d_H_copyFrom_6 fl_H_9 rfl q4 e6 ?_
  refine jv_iconst (v := 0) d_H_copyFrom_9 (by decide) ?_
  refine jv_iconst (v := 4) d_H_copyFrom_10 (by decide) ?_
  obtain ⟨q7, q8, q9, q10, h⟩ := h
  refine jv_copy0 (k := 4) d_H_copyFrom_11 ac_H_15 ac_w2 ac_w3 ac_w4 q7 q8 (by decide) (by decide) q9 q10 (Nat.le_of_ble_eq_true rfl) ?_
  refine jv_aload_n d_H_copyFrom_14 rfl rfl ?_
  refine jv_aload_n d_H_copyFrom_15 rfl rfl ?_
  obtain ⟨q11, h⟩ := h
  refine jv_getI d_H_copyFrom_16 fl_H_21 rfl q11 ?_
  obtain ⟨q12, h⟩ := h
  refine jv_putI d_H_copyFrom_19 fl_H_21 (fun r hr => by cases hr; rfl) rfl q12 ?_
  refine jv_aload_n d_H_copyFrom_22 rfl rfl ?_
  refine jv_aload_n d_H_copyFrom_23 rfl rfl ?_
  obtain ⟨q13, h⟩ := h
  refine jv_getI d_H_copyFrom_24 fl_H_25 rfl q13 ?_
  obtain ⟨q14, h⟩ := h
  refine jv_putI d_H_copyFrom_27 fl_H_25 (fun r hr => by cases hr; rfl) rfl q14 ?_
  refine jv_aload_n d_H_copyFrom_30 rfl rfl ?_
  refine jv_aload_n d_H_copyFrom_31 rfl rfl ?_
  obtain ⟨q15, h⟩ := h
  refine jv_getI d_H_copyFrom_32 fl_H_28 rfl q15 ?_
  obtain ⟨q16, h⟩ := h
  refine jv_putI d_H_copyFrom_35 fl_H_28 (fun r hr => by cases hr; rfl) rfl q16 ?_
  refine jv_aload_n d_H_copyFrom_38 rfl rfl ?_
  refine jv_aload_n d_H_copyFrom_39 rfl rfl ?_
  obtain ⟨q17, h⟩ := h
  refine jv_getI d_H_copyFrom_40 fl_H_31 rfl q17 ?_
  obtain ⟨q18, h⟩ := h
  refine jv_putI d_H_copyFrom_43 fl_H_31 (fun r hr => by cases hr; rfl) rfl q18 ?_
  refine jv_aload_n d_H_copyFrom_46 rfl rfl ?_
  refine jv_aload_n d_H_copyFrom_47 rfl rfl ?_
  obtain ⟨q19, h⟩ := h
  refine jv_getI d_H_copyFrom_48 fl_H_34 rfl q19 ?_
  obtain ⟨q20, h⟩ := h
  refine jv_putI d_H_copyFrom_51 fl_H_34 (fun r hr => by cases hr; rfl) rfl q20 ?_
  refine jv_aload_n d_H_copyFrom_54 rfl rfl ?_
  refine jv_aload_n d_H_copyFrom_55 rfl rfl ?_
  obtain ⟨q21, h⟩ := h
  refine jv_getI d_H_copyFrom_56 fl_H_37 rfl q21 ?_
  obtain ⟨q22, h⟩ := h
  obtain ⟨q23, h⟩ := h
  refine jv_putZ d_H_copyFrom_59 fl_H_37 (fun r hr => by cases hr; rfl) rfl q22 q23 ?_
  exact jv_ret d_H_copyFrom_62 rfl h
theorem b_U_copyFrom_0 {g : jv_G} {d : Nat} {M : jv_Mem} {N cr sr : Nat} {Z : Option Value → jv_Mem → Nat → Prop} {a0 : Nat} {a1 : Nat} (h : jv_Tg 8 a1 N ∧ jv_Tg 8 a0 N ∧ jv_Tg 8 a1 N ∧ jv_Tg 8 a0 N ∧ jv_Tg 8 a1 N ∧ jv_Tg 8 a0 N ∧ jv_Tg 8 a1 N ∧ jv_Tg 8 a0 N ∧ jv_Tg 8 a1 N ∧ jv_Tg 8 a0 N ∧ jv_Tg 8 a1 N ∧ jv_Tg 8 a0 N ∧ jv_Tg 8 a1 N ∧ jv_Tg 8 a0 N ∧ ((Prod.fst (jv_si (jv_si (jv_si (jv_si (jv_si (jv_si M a0 0 (Prod.fst M a1 0)) a0 1 (Prod.fst (jv_si M a0 0 (Prod.fst M a1 0)) a1 1)) a0 2 (Prod.fst (jv_si (jv_si M a0 0 (Prod.fst M a1 0)) a0 1 (Prod.fst (jv_si M a0 0 (Prod.fst M a1 0)) a1 1)) a1 2)) a0 3 (Prod.fst (jv_si (jv_si (jv_si M a0 0 (Prod.fst M a1 0)) a0 1 (Prod.fst (jv_si M a0 0 (Prod.fst M a1 0)) a1 1)) a0 2 (Prod.fst (jv_si (jv_si M a0 0 (Prod.fst M a1 0)) a0 1 (Prod.fst (jv_si M a0 0 (Prod.fst M a1 0)) a1 1)) a1 2)) a1 3)) a0 4 (Prod.fst (jv_si (jv_si (jv_si (jv_si M a0 0 (Prod.fst M a1 0)) a0 1 (Prod.fst (jv_si M a0 0 (Prod.fst M a1 0)) a1 1)) a0 2 (Prod.fst (jv_si (jv_si M a0 0 (Prod.fst M a1 0)) a0 1 (Prod.fst (jv_si M a0 0 (Prod.fst M a1 0)) a1 1)) a1 2)) a0 3 (Prod.fst (jv_si (jv_si (jv_si M a0 0 (Prod.fst M a1 0)) a0 1 (Prod.fst (jv_si M a0 0 (Prod.fst M a1 0)) a1 1)) a0 2 (Prod.fst (jv_si (jv_si M a0 0 (Prod.fst M a1 0)) a0 1 (Prod.fst (jv_si M a0 0 (Prod.fst M a1 0)) a1 1)) a1 2)) a1 3)) a1 4)) a0 5 (Prod.fst (jv_si (jv_si (jv_si (jv_si (jv_si M a0 0 (Prod.fst M a1 0)) a0 1 (Prod.fst (jv_si M a0 0 (Prod.fst M a1 0)) a1 1)) a0 2 (Prod.fst (jv_si (jv_si M a0 0 (Prod.fst M a1 0)) a0 1 (Prod.fst (jv_si M a0 0 (Prod.fst M a1 0)) a1 1)) a1 2)) a0 3 (Prod.fst (jv_si (jv_si (jv_si M a0 0 (Prod.fst M a1 0)) a0 1 (Prod.fst (jv_si M a0 0 (Prod.fst M a1 0)) a1 1)) a0 2 (Prod.fst (jv_si (jv_si M a0 0 (Prod.fst M a1 0)) a0 1 (Prod.fst (jv_si M a0 0 (Prod.fst M a1 0)) a1 1)) a1 2)) a1 3)) a0 4 (Prod.fst (jv_si (jv_si (jv_si (jv_si M a0 0 (Prod.fst M a1 0)) a0 1 (Prod.fst (jv_si M a0 0 (Prod.fst M a1 0)) a1 1)) a0 2 (Prod.fst (jv_si (jv_si M a0 0 (Prod.fst M a1 0)) a0 1 (Prod.fst (jv_si M a0 0 (Prod.fst M a1 0)) a1 1)) a1 2)) a0 3 (Prod.fst (jv_si (jv_si (jv_si M a0 0 (Prod.fst M a1 0)) a0 1 (Prod.fst (jv_si M a0 0 (Prod.fst M a1 0)) a1 1)) a0 2 (Prod.fst (jv_si (jv_si M a0 0 (Prod.fst M a1 0)) a0 1 (Prod.fst (jv_si M a0 0 (Prod.fst M a1 0)) a1 1)) a1 2)) a1 3)) a1 4)) a1 5)) a1 6) = 0 ∨ (Prod.fst (jv_si (jv_si (jv_si (jv_si (jv_si (jv_si M a0 0 (Prod.fst M a1 0)) a0 1 (Prod.fst (jv_si M a0 0 (Prod.fst M a1 0)) a1 1)) a0 2 (Prod.fst (jv_si (jv_si M a0 0 (Prod.fst M a1 0)) a0 1 (Prod.fst (jv_si M a0 0 (Prod.fst M a1 0)) a1 1)) a1 2)) a0 3 (Prod.fst (jv_si (jv_si (jv_si M a0 0 (Prod.fst M a1 0)) a0 1 (Prod.fst (jv_si M a0 0 (Prod.fst M a1 0)) a1 1)) a0 2 (Prod.fst (jv_si (jv_si M a0 0 (Prod.fst M a1 0)) a0 1 (Prod.fst (jv_si M a0 0 (Prod.fst M a1 0)) a1 1)) a1 2)) a1 3)) a0 4 (Prod.fst (jv_si (jv_si (jv_si (jv_si M a0 0 (Prod.fst M a1 0)) a0 1 (Prod.fst (jv_si M a0 0 (Prod.fst M a1 0)) a1 1)) a0 2 (Prod.fst (jv_si (jv_si M a0 0 (Prod.fst M a1 0)) a0 1 (Prod.fst (jv_si M a0 0 (Prod.fst M a1 0)) a1 1)) a1 2)) a0 3 (Prod.fst (jv_si (jv_si (jv_si M a0 0 (Prod.fst M a1 0)) a0 1 (Prod.fst (jv_si M a0 0 (Prod.fst M a1 0)) a1 1)) a0 2 (Prod.fst (jv_si (jv_si M a0 0 (Prod.fst M a1 0)) a0 1 (Prod.fst (jv_si M a0 0 (Prod.fst M a1 0)) a1 1)) a1 2)) a1 3)) a1 4)) a0 5 (Prod.fst (jv_si (jv_si (jv_si (jv_si (jv_si M a0 0 (Prod.fst M a1 0)) a0 1 (Prod.fst (jv_si M a0 0 (Prod.fst M a1 0)) a1 1)) a0 2 (Prod.fst (jv_si (jv_si M a0 0 (Prod.fst M a1 0)) a0 1 (Prod.fst (jv_si M a0 0 (Prod.fst M a1 0)) a1 1)) a1 2)) a0 3 (Prod.fst (jv_si (jv_si (jv_si M a0 0 (Prod.fst M a1 0)) a0 1 (Prod.fst (jv_si M a0 0 (Prod.fst M a1 0)) a1 1)) a0 2 (Prod.fst (jv_si (jv_si M a0 0 (Prod.fst M a1 0)) a0 1 (Prod.fst (jv_si M a0 0 (Prod.fst M a1 0)) a1 1)) a1 2)) a1 3)) a0 4 (Prod.fst (jv_si (jv_si (jv_si (jv_si M a0 0 (Prod.fst M a1 0)) a0 1 (Prod.fst (jv_si M a0 0 (Prod.fst M a1 0)) a1 1)) a0 2 (Prod.fst (jv_si (jv_si M a0 0 (Prod.fst M a1 0)) a0 1 (Prod.fst (jv_si M a0 0 (Prod.fst M a1 0)) a1 1)) a1 2)) a0 3 (Prod.fst (jv_si (jv_si (jv_si M a0 0 (Prod.fst M a1 0)) a0 1 (Prod.fst (jv_si M a0 0 (Prod.fst M a1 0)) a1 1)) a0 2 (Prod.fst (jv_si (jv_si M a0 0 (Prod.fst M a1 0)) a0 1 (Prod.fst (jv_si M a0 0 (Prod.fst M a1 0)) a1 1)) a1 2)) a1 3)) a1 4)) a1 5)) a1 6) = 1) ∧ Z none (jv_si (jv_si (jv_si (jv_si (jv_si (jv_si (jv_si M a0 0 (Prod.fst M a1 0)) a0 1 (Prod.fst (jv_si M a0 0 (Prod.fst M a1 0)) a1 1)) a0 2 (Prod.fst (jv_si (jv_si M a0 0 (Prod.fst M a1 0)) a0 1 (Prod.fst (jv_si M a0 0 (Prod.fst M a1 0)) a1 1)) a1 2)) a0 3 (Prod.fst (jv_si (jv_si (jv_si M a0 0 (Prod.fst M a1 0)) a0 1 (Prod.fst (jv_si M a0 0 (Prod.fst M a1 0)) a1 1)) a0 2 (Prod.fst (jv_si (jv_si M a0 0 (Prod.fst M a1 0)) a0 1 (Prod.fst (jv_si M a0 0 (Prod.fst M a1 0)) a1 1)) a1 2)) a1 3)) a0 4 (Prod.fst (jv_si (jv_si (jv_si (jv_si M a0 0 (Prod.fst M a1 0)) a0 1 (Prod.fst (jv_si M a0 0 (Prod.fst M a1 0)) a1 1)) a0 2 (Prod.fst (jv_si (jv_si M a0 0 (Prod.fst M a1 0)) a0 1 (Prod.fst (jv_si M a0 0 (Prod.fst M a1 0)) a1 1)) a1 2)) a0 3 (Prod.fst (jv_si (jv_si (jv_si M a0 0 (Prod.fst M a1 0)) a0 1 (Prod.fst (jv_si M a0 0 (Prod.fst M a1 0)) a1 1)) a0 2 (Prod.fst (jv_si (jv_si M a0 0 (Prod.fst M a1 0)) a0 1 (Prod.fst (jv_si M a0 0 (Prod.fst M a1 0)) a1 1)) a1 2)) a1 3)) a1 4)) a0 5 (Prod.fst (jv_si (jv_si (jv_si (jv_si (jv_si M a0 0 (Prod.fst M a1 0)) a0 1 (Prod.fst (jv_si M a0 0 (Prod.fst M a1 0)) a1 1)) a0 2 (Prod.fst (jv_si (jv_si M a0 0 (Prod.fst M a1 0)) a0 1 (Prod.fst (jv_si M a0 0 (Prod.fst M a1 0)) a1 1)) a1 2)) a0 3 (Prod.fst (jv_si (jv_si (jv_si M a0 0 (Prod.fst M a1 0)) a0 1 (Prod.fst (jv_si M a0 0 (Prod.fst M a1 0)) a1 1)) a0 2 (Prod.fst (jv_si (jv_si M a0 0 (Prod.fst M a1 0)) a0 1 (Prod.fst (jv_si M a0 0 (Prod.fst M a1 0)) a1 1)) a1 2)) a1 3)) a0 4 (Prod.fst (jv_si (jv_si (jv_si (jv_si M a0 0 (Prod.fst M a1 0)) a0 1 (Prod.fst (jv_si M a0 0 (Prod.fst M a1 0)) a1 1)) a0 2 (Prod.fst (jv_si (jv_si M a0 0 (Prod.fst M a1 0)) a0 1 (Prod.fst (jv_si M a0 0 (Prod.fst M a1 0)) a1 1)) a1 2)) a0 3 (Prod.fst (jv_si (jv_si (jv_si M a0 0 (Prod.fst M a1 0)) a0 1 (Prod.fst (jv_si M a0 0 (Prod.fst M a1 0)) a1 1)) a0 2 (Prod.fst (jv_si (jv_si M a0 0 (Prod.fst M a1 0)) a0 1 (Prod.fst (jv_si M a0 0 (Prod.fst M a1 0)) a1 1)) a1 2)) a1 3)) a1 4)) a1 5)) a0 6 (Prod.fst (jv_si (jv_si (jv_si (jv_si (jv_si (jv_si M a0 0 (Prod.fst M a1 0)) a0 1 (Prod.fst (jv_si M a0 0 (Prod.fst M a1 0)) a1 1)) a0 2 (Prod.fst (jv_si (jv_si M a0 0 (Prod.fst M a1 0)) a0 1 (Prod.fst (jv_si M a0 0 (Prod.fst M a1 0)) a1 1)) a1 2)) a0 3 (Prod.fst (jv_si (jv_si (jv_si M a0 0 (Prod.fst M a1 0)) a0 1 (Prod.fst (jv_si M a0 0 (Prod.fst M a1 0)) a1 1)) a0 2 (Prod.fst (jv_si (jv_si M a0 0 (Prod.fst M a1 0)) a0 1 (Prod.fst (jv_si M a0 0 (Prod.fst M a1 0)) a1 1)) a1 2)) a1 3)) a0 4 (Prod.fst (jv_si (jv_si (jv_si (jv_si M a0 0 (Prod.fst M a1 0)) a0 1 (Prod.fst (jv_si M a0 0 (Prod.fst M a1 0)) a1 1)) a0 2 (Prod.fst (jv_si (jv_si M a0 0 (Prod.fst M a1 0)) a0 1 (Prod.fst (jv_si M a0 0 (Prod.fst M a1 0)) a1 1)) a1 2)) a0 3 (Prod.fst (jv_si (jv_si (jv_si M a0 0 (Prod.fst M a1 0)) a0 1 (Prod.fst (jv_si M a0 0 (Prod.fst M a1 0)) a1 1)) a0 2 (Prod.fst (jv_si (jv_si M a0 0 (Prod.fst M a1 0)) a0 1 (Prod.fst (jv_si M a0 0 (Prod.fst M a1 0)) a1 1)) a1 2)) a1 3)) a1 4)) a0 5 (Prod.fst (jv_si (jv_si (jv_si (jv_si (jv_si M a0 0 (Prod.fst M a1 0)) a0 1 (Prod.fst (jv_si M a0 0 (Prod.fst M a1 0)) a1 1)) a0 2 (Prod.fst (jv_si (jv_si M a0 0 (Prod.fst M a1 0)) a0 1 (Prod.fst (jv_si M a0 0 (Prod.fst M a1 0)) a1 1)) a1 2)) a0 3 (Prod.fst (jv_si (jv_si (jv_si M a0 0 (Prod.fst M a1 0)) a0 1 (Prod.fst (jv_si M a0 0 (Prod.fst M a1 0)) a1 1)) a0 2 (Prod.fst (jv_si (jv_si M a0 0 (Prod.fst M a1 0)) a0 1 (Prod.fst (jv_si M a0 0 (Prod.fst M a1 0)) a1 1)) a1 2)) a1 3)) a0 4 (Prod.fst (jv_si (jv_si (jv_si (jv_si M a0 0 (Prod.fst M a1 0)) a0 1 (Prod.fst (jv_si M a0 0 (Prod.fst M a1 0)) a1 1)) a0 2 (Prod.fst (jv_si (jv_si M a0 0 (Prod.fst M a1 0)) a0 1 (Prod.fst (jv_si M a0 0 (Prod.fst M a1 0)) a1 1)) a1 2)) a0 3 (Prod.fst (jv_si (jv_si (jv_si M a0 0 (Prod.fst M a1 0)) a0 1 (Prod.fst (jv_si M a0 0 (Prod.fst M a1 0)) a1 1)) a0 2 (Prod.fst (jv_si (jv_si M a0 0 (Prod.fst M a1 0)) a0 1 (Prod.fst (jv_si M a0 0 (Prod.fst M a1 0)) a1 1)) a1 2)) a1 3)) a1 4)) a1 5)) a1 6)) N) : jv_J g d mt_U_copyFrom 0 [some (.ref a0), some (.ref a1)] [] M N cr sr Z := by
  refine jv_aload_n d_U_copyFrom_0 rfl rfl ?_
  refine jv_aload_n d_U_copyFrom_1 rfl rfl ?_
  obtain ⟨q1, h⟩ := h
  refine jv_getI d_U_copyFrom_2 fl_U_9 rfl q1 ?_
  obtain ⟨q2, h⟩ := h
  refine jv_putI d_U_copyFrom_5 fl_U_9 (fun r hr => by cases hr; rfl) rfl q2 ?_
  refine jv_aload_n d_U_copyFrom_8 rfl rfl ?_
  refine jv_aload_n d_U_copyFrom_9 rfl rfl ?_
  obtain ⟨q3, h⟩ := h
  refine jv_getI d_U_copyFrom_10 fl_U_15 rfl q3 ?_
  obtain ⟨q4, h⟩ := h
  refine jv_putI d_U_copyFrom_13 fl_U_15 (fun r hr => by cases hr; rfl) rfl q4 ?_
  refine jv_aload_n d_U_copyFrom_16 rfl rfl ?_
  refine jv_aload_n d_U_copyFrom_17 rfl rfl ?_
  obtain ⟨q5, h⟩ := h
  refine jv_getI d_U_copyFrom_18 fl_U_18 rfl q5 ?_
  obtain ⟨q6, h⟩ := h
  refine jv_putI d_U_copyFrom_21 fl_U_18 (fun r hr => by cases hr; rfl) rfl q6 ?_
  refine jv_aload_n d_U_copyFrom_24 rfl rfl ?_
  refine jv_aload_n d_U_copyFrom_25 rfl rfl ?_
  obtain ⟨q7, h⟩ := h
  refine jv_getI d_U_copyFrom_26 fl_U_21 rfl q7 ?_
  obtain ⟨q8, h⟩ := h
  refine jv_putI d_U_copyFrom_29 fl_U_21 (fun r hr => by cases hr; rfl) rfl q8 ?_
  refine jv_aload_n d_U_copyFrom_32 rfl rfl ?_
  refine jv_aload_n d_U_copyFrom_33 rfl rfl ?_
  obtain ⟨q9, h⟩ := h
  refine jv_getI d_U_copyFrom_34 fl_U_24 rfl q9 ?_
  obtain ⟨q10, h⟩ := h
  refine jv_putI d_U_copyFrom_37 fl_U_24 (fun r hr => by cases hr; rfl) rfl q10 ?_
  refine jv_aload_n d_U_copyFrom_40 rfl rfl ?_
  refine jv_aload_n d_U_copyFrom_41 rfl rfl ?_
  obtain ⟨q11, h⟩ := h
  refine jv_getI d_U_copyFrom_42 fl_U_27 rfl q11 ?_
  obtain ⟨q12, h⟩ := h
  refine jv_putI d_U_copyFrom_45 fl_U_27 (fun r hr => by cases hr; rfl) rfl q12 ?_
  refine jv_aload_n d_U_copyFrom_48 rfl rfl ?_
  refine jv_aload_n d_U_copyFrom_49 rfl rfl ?_
  obtain ⟨q13, h⟩ := h
  refine jv_getI d_U_copyFrom_50 fl_U_30 rfl q13 ?_
  obtain ⟨q14, h⟩ := h
  obtain ⟨q15, h⟩ := h
  refine jv_putZ d_U_copyFrom_53 fl_U_30 (fun r hr => by cases hr; rfl) rfl q14 q15 ?_
  exact jv_ret d_U_copyFrom_56 rfl h
theorem b_H_property_0 {g : jv_G} {d : Nat} {M : jv_Mem} {N cr sr : Nat} {Z : Option Value → jv_Mem → Nat → Prop} {a0 : Nat} {x1 : Int32} (h : (x1 = 0 → jv_Tg 1 a0 N ∧ Z (some (.int (Prod.fst M a0 3))) M N) ∧ (x1 = 1 → jv_Tg 1 a0 N ∧ Z (some (.int (Prod.fst M a0 4))) M N) ∧ (x1 = 2 → jv_Tg 1 a0 N ∧ Z (some (.int (Prod.fst M a0 5))) M N) ∧ (x1 = 3 → jv_Tg 1 a0 N ∧ ((Prod.fst M a0 6) = 0 → Z (some (.int 0)) M N) ∧ (¬ ((Prod.fst M a0 6) = 0) → Z (some (.int 1)) M N)) ∧ (x1 = 8 → jv_Tg 1 a0 N ∧ Z (some (.int (Prod.fst M a0 2))) M N) ∧ (x1 = 9 → jv_Tg 1 a0 N ∧ Z (some (.int (Prod.fst M a0 1))) M N) ∧ ((x1 ≠ 0 ∧ x1 ≠ 1 ∧ x1 ≠ 2 ∧ x1 ≠ 3 ∧ x1 ≠ 8 ∧ x1 ≠ 9) → jv_Ct g d mt_R_isBelow [.int (x1 - 4), .int 4] M N 0 0 (fun v M3 N3 => jv_ri v (fun r2 => (r2 = 0 → Z (some (.int (-2))) M3 N3) ∧ (¬ (r2 = 0) → jv_Tg 1 a0 N3 ∧ ∃ b5, Prod.fst (Prod.snd M3) a0 0 = some b5 ∧ jv_Tg 11 b5 N3 ∧ vp_in (x1 - 4) (jv_sh b5).2 ∧ Z (some (.int (Prod.fst M3 b5 (Int32.toNatClampNeg (x1 - 4))))) M3 N3))))) : jv_J g (d + 1) mt_H_property 0 [some (.ref a0), some (.int x1)] [] M N cr sr Z := by
  refine jv_iload_n d_H_property_0 rfl rfl ?_
  have hD1 : (x1 ≠ 0 ∧ x1 ≠ 1 ∧ x1 ≠ 2 ∧ x1 ≠ 3 ∧ x1 ≠ 8 ∧ x1 ≠ 9) → jv_J g (d + 1) mt_H_property 94 [some (.ref a0), some (.int x1)] [] M N cr sr Z := by
    intro c
    replace h := h.2.2.2.2.2.2 c
    refine jv_iload_n d_H_property_94 rfl rfl ?_
    refine jv_iconst (v := 4) d_H_property_95 (by decide) ?_
    refine jv_isub d_H_property_96 ?_
    refine jv_iconst (v := 4) d_H_property_97 (by decide) ?_
    refine jv_invSN [.int (x1 - 4), .int 4] [] d_H_property_98 ml_H_41 rfl (Nat.le_of_ble_eq_true rfl) (Nat.zero_add _) (Nat.zero_add _) (jv_Ct.mono h (fun v M3 N3 h => ?_))
    obtain ⟨r2, rfl, h⟩ := h
    change jv_J g (d + 1) mt_H_property 101 [some (.ref a0), some (.int x1)] [.int r2] M3 N3 cr sr Z
    refine jv_if_eq (tgt := 115) d_H_property_101 (by decide) ⟨fun c => ?_, fun c => ?_⟩
    · replace h := h.1 c
      refine jv_bipush (v := (-2)) d_H_property_115 (by decide) ?_
      exact jv_iret d_H_property_117 rfl rfl h
    · replace h := h.2 c
      refine jv_aload_n d_H_property_104 rfl rfl ?_
      obtain ⟨q4, h⟩ := h
      obtain ⟨b5, e6, h⟩ := h
      refine jv_getR d_H_property_105 fl_H_9 rfl q4 e6 ?_
      refine jv_iload_n d_H_property_108 rfl rfl ?_
      refine jv_iconst (v := 4) d_H_property_109 (by decide) ?_
      refine jv_isub d_H_property_110 ?_
      obtain ⟨q7, q8, h⟩ := h
      refine jv_iald d_H_property_111 q7 q8 ?_
      refine jv_goto (tgt := 117) d_H_property_112 (by decide) ?_
      exact jv_iret d_H_property_117 rfl rfl h
  refine jv_tsw (dt := 94) [(0, 56), (1, 61), (2, 66), (3, 71), (4, 94), (5, 94), (6, 94), (7, 94), (8, 84), (9, 89)] d_H_property_1 (by decide) (by decide) (by decide) (fun q hq hx => ?_) (fun hq => ?_)
  · simp only [List.mem_cons, List.not_mem_nil, or_false] at hq
    rcases hq with rfl | rfl | rfl | rfl | rfl | rfl | rfl | rfl | rfl | rfl
    · replace h := h.1 hx
      refine jv_aload_n d_H_property_56 rfl rfl ?_
      obtain ⟨q9, h⟩ := h
      refine jv_getI d_H_property_57 fl_H_28 rfl q9 ?_
      exact jv_iret d_H_property_60 rfl rfl h
    · replace h := h.2.1 hx
      refine jv_aload_n d_H_property_61 rfl rfl ?_
      obtain ⟨q10, h⟩ := h
      refine jv_getI d_H_property_62 fl_H_31 rfl q10 ?_
      exact jv_iret d_H_property_65 rfl rfl h
    · replace h := h.2.2.1 hx
      refine jv_aload_n d_H_property_66 rfl rfl ?_
      obtain ⟨q11, h⟩ := h
      refine jv_getI d_H_property_67 fl_H_34 rfl q11 ?_
      exact jv_iret d_H_property_70 rfl rfl h
    · replace h := h.2.2.2.1 hx
      refine jv_aload_n d_H_property_71 rfl rfl ?_
      obtain ⟨q12, h⟩ := h
      refine jv_getI d_H_property_72 fl_H_37 rfl q12 ?_
      refine jv_if_eq (tgt := 82) d_H_property_75 (by decide) ⟨fun c => ?_, fun c => ?_⟩
      · replace h := h.1 c
        refine jv_iconst (v := 0) d_H_property_82 (by decide) ?_
        exact jv_iret d_H_property_83 rfl rfl h
      · replace h := h.2 c
        refine jv_iconst (v := 1) d_H_property_78 (by decide) ?_
        refine jv_goto (tgt := 83) d_H_property_79 (by decide) ?_
        exact jv_iret d_H_property_83 rfl rfl h
    · exact hD1 (by simp only at hx; rw [hx]; decide)
    · exact hD1 (by simp only at hx; rw [hx]; decide)
    · exact hD1 (by simp only at hx; rw [hx]; decide)
    · exact hD1 (by simp only at hx; rw [hx]; decide)
    · replace h := h.2.2.2.2.1 hx
      refine jv_aload_n d_H_property_84 rfl rfl ?_
      obtain ⟨q13, h⟩ := h
      refine jv_getI d_H_property_85 fl_H_25 rfl q13 ?_
      exact jv_iret d_H_property_88 rfl rfl h
    · replace h := h.2.2.2.2.2.1 hx
      refine jv_aload_n d_H_property_89 rfl rfl ?_
      obtain ⟨q14, h⟩ := h
      refine jv_getI d_H_property_90 fl_H_21 rfl q14 ?_
      exact jv_iret d_H_property_93 rfl rfl h
  · exact hD1 ⟨hq _ (List.mem_of_getElem? (i := 0) rfl), hq _ (List.mem_of_getElem? (i := 1) rfl), hq _ (List.mem_of_getElem? (i := 2) rfl), hq _ (List.mem_of_getElem? (i := 3) rfl), hq _ (List.mem_of_getElem? (i := 8) rfl), hq _ (List.mem_of_getElem? (i := 9) rfl)⟩
theorem b_U_property_0 {g : jv_G} {d : Nat} {M : jv_Mem} {N cr sr : Nat} {Z : Option Value → jv_Mem → Nat → Prop} {a0 : Nat} {x1 : Int32} (h : (x1 = 0 → jv_Tg 8 a0 N ∧ Z (some (.int (Prod.fst M a0 0))) M N) ∧ (x1 = 1 → jv_Tg 8 a0 N ∧ Z (some (.int (Prod.fst M a0 1))) M N) ∧ (x1 = 2 → jv_Tg 8 a0 N ∧ Z (some (.int (Prod.fst M a0 2))) M N) ∧ (x1 = 3 → jv_Tg 8 a0 N ∧ Z (some (.int (Prod.fst M a0 3))) M N) ∧ (x1 = 4 → jv_Tg 8 a0 N ∧ Z (some (.int (Prod.fst M a0 4))) M N) ∧ (x1 = 5 → jv_Tg 8 a0 N ∧ Z (some (.int (Prod.fst M a0 5))) M N) ∧ (x1 = 6 → jv_Tg 8 a0 N ∧ ((Prod.fst M a0 6) = 0 → Z (some (.int 0)) M N) ∧ (¬ ((Prod.fst M a0 6) = 0) → Z (some (.int 1)) M N)) ∧ ((x1 ≠ 0 ∧ x1 ≠ 1 ∧ x1 ≠ 2 ∧ x1 ≠ 3 ∧ x1 ≠ 4 ∧ x1 ≠ 5 ∧ x1 ≠ 6) → Z (some (.int (-2))) M N)) : jv_J g d mt_U_property 0 [some (.ref a0), some (.int x1)] [] M N cr sr Z := by
  refine jv_iload_n d_U_property_0 rfl rfl ?_
  have hD1 : (x1 ≠ 0 ∧ x1 ≠ 1 ∧ x1 ≠ 2 ∧ x1 ≠ 3 ∧ x1 ≠ 4 ∧ x1 ≠ 5 ∧ x1 ≠ 6) → jv_J g d mt_U_property 87 [some (.ref a0), some (.int x1)] [] M N cr sr Z := by
    intro c
    replace h := h.2.2.2.2.2.2.2 c
    refine jv_bipush (v := (-2)) d_U_property_87 (by decide) ?_
    exact jv_iret d_U_property_89 rfl rfl h
  refine jv_tsw (dt := 87) [(0, 44), (1, 49), (2, 54), (3, 59), (4, 64), (5, 69), (6, 74)] d_U_property_1 (by decide) (by decide) (by decide) (fun q hq hx => ?_) (fun hq => ?_)
  · simp only [List.mem_cons, List.not_mem_nil, or_false] at hq
    rcases hq with rfl | rfl | rfl | rfl | rfl | rfl | rfl
    · replace h := h.1 hx
      refine jv_aload_n d_U_property_44 rfl rfl ?_
      obtain ⟨q2, h⟩ := h
      refine jv_getI d_U_property_45 fl_U_9 rfl q2 ?_
      exact jv_iret d_U_property_48 rfl rfl h
    · replace h := h.2.1 hx
      refine jv_aload_n d_U_property_49 rfl rfl ?_
      obtain ⟨q3, h⟩ := h
      refine jv_getI d_U_property_50 fl_U_15 rfl q3 ?_
      exact jv_iret d_U_property_53 rfl rfl h
    · replace h := h.2.2.1 hx
      refine jv_aload_n d_U_property_54 rfl rfl ?_
      obtain ⟨q4, h⟩ := h
      refine jv_getI d_U_property_55 fl_U_18 rfl q4 ?_
      exact jv_iret d_U_property_58 rfl rfl h
    · replace h := h.2.2.2.1 hx
      refine jv_aload_n d_U_property_59 rfl rfl ?_
      obtain ⟨q5, h⟩ := h
      refine jv_getI d_U_property_60 fl_U_21 rfl q5 ?_
      exact jv_iret d_U_property_63 rfl rfl h
    · replace h := h.2.2.2.2.1 hx
      refine jv_aload_n d_U_property_64 rfl rfl ?_
      obtain ⟨q6, h⟩ := h
      refine jv_getI d_U_property_65 fl_U_24 rfl q6 ?_
      exact jv_iret d_U_property_68 rfl rfl h
    · replace h := h.2.2.2.2.2.1 hx
      refine jv_aload_n d_U_property_69 rfl rfl ?_
      obtain ⟨q7, h⟩ := h
      refine jv_getI d_U_property_70 fl_U_27 rfl q7 ?_
      exact jv_iret d_U_property_73 rfl rfl h
    · replace h := h.2.2.2.2.2.2.1 hx
      refine jv_aload_n d_U_property_74 rfl rfl ?_
      obtain ⟨q8, h⟩ := h
      refine jv_getI d_U_property_75 fl_U_30 rfl q8 ?_
      refine jv_if_eq (tgt := 85) d_U_property_78 (by decide) ⟨fun c => ?_, fun c => ?_⟩
      · replace h := h.1 c
        refine jv_iconst (v := 0) d_U_property_85 (by decide) ?_
        exact jv_iret d_U_property_86 rfl rfl h
      · replace h := h.2 c
        refine jv_iconst (v := 1) d_U_property_81 (by decide) ?_
        refine jv_goto (tgt := 86) d_U_property_82 (by decide) ?_
        exact jv_iret d_U_property_86 rfl rfl h
  · exact hD1 ⟨hq _ (List.mem_of_getElem? (i := 0) rfl), hq _ (List.mem_of_getElem? (i := 1) rfl), hq _ (List.mem_of_getElem? (i := 2) rfl), hq _ (List.mem_of_getElem? (i := 3) rfl), hq _ (List.mem_of_getElem? (i := 4) rfl), hq _ (List.mem_of_getElem? (i := 5) rfl), hq _ (List.mem_of_getElem? (i := 6) rfl)⟩
theorem b_O_property_0 {g : jv_G} {d : Nat} {M : jv_Mem} {N cr sr : Nat} {Z : Option Value → jv_Mem → Nat → Prop} {a0 : Nat} {x1 : Int32} (h : (x1 = 0 → jv_Tg 2 a0 N ∧ Z (some (.int (Prod.fst M a0 0))) M N) ∧ (x1 = 1 → jv_Tg 2 a0 N ∧ Z (some (.int (Prod.fst M a0 1))) M N) ∧ (x1 = 2 → jv_Tg 2 a0 N ∧ Z (some (.int (Prod.fst M a0 4))) M N) ∧ (x1 = 3 → jv_Tg 2 a0 N ∧ Z (some (.int (Prod.fst M a0 5))) M N) ∧ ((x1 ≠ 0 ∧ x1 ≠ 1 ∧ x1 ≠ 2 ∧ x1 ≠ 3) → Z (some (.int (-2))) M N)) : jv_J g d mt_O_property 0 [some (.ref a0), some (.int x1)] [] M N cr sr Z := by
  refine jv_iload_n d_O_property_0 rfl rfl ?_
  have hD1 : (x1 ≠ 0 ∧ x1 ≠ 1 ∧ x1 ≠ 2 ∧ x1 ≠ 3) → jv_J g d mt_O_property 52 [some (.ref a0), some (.int x1)] [] M N cr sr Z := by
    intro c
    replace h := h.2.2.2.2 c
    refine jv_bipush (v := (-2)) d_O_property_52 (by decide) ?_
    exact jv_iret d_O_property_54 rfl rfl h
  refine jv_tsw (dt := 52) [(0, 32), (1, 37), (2, 42), (3, 47)] d_O_property_1 (by decide) (by decide) (by decide) (fun q hq hx => ?_) (fun hq => ?_)
  · simp only [List.mem_cons, List.not_mem_nil, or_false] at hq
    rcases hq with rfl | rfl | rfl | rfl
    · replace h := h.1 hx
      refine jv_aload_n d_O_property_32 rfl rfl ?_
      obtain ⟨q2, h⟩ := h
      refine jv_getI d_O_property_33 fl_O_9 rfl q2 ?_
      exact jv_iret d_O_property_36 rfl rfl h
    · replace h := h.2.1 hx
      refine jv_aload_n d_O_property_37 rfl rfl ?_
      obtain ⟨q3, h⟩ := h
      refine jv_getI d_O_property_38 fl_O_15 rfl q3 ?_
      exact jv_iret d_O_property_41 rfl rfl h
    · replace h := h.2.2.1 hx
      refine jv_aload_n d_O_property_42 rfl rfl ?_
      obtain ⟨q4, h⟩ := h
      refine jv_getI d_O_property_43 fl_O_24 rfl q4 ?_
      exact jv_iret d_O_property_46 rfl rfl h
    · replace h := h.2.2.2.1 hx
      refine jv_aload_n d_O_property_47 rfl rfl ?_
      obtain ⟨q5, h⟩ := h
      refine jv_getI d_O_property_48 fl_O_27 rfl q5 ?_
      exact jv_iret d_O_property_51 rfl rfl h
  · exact hD1 ⟨hq _ (List.mem_of_getElem? (i := 0) rfl), hq _ (List.mem_of_getElem? (i := 1) rfl), hq _ (List.mem_of_getElem? (i := 2) rfl), hq _ (List.mem_of_getElem? (i := 3) rfl)⟩
theorem b_O_isAbstract_0 {g : jv_G} {d : Nat} {M : jv_Mem} {N cr sr : Nat} {Z : Option Value → jv_Mem → Nat → Prop} {a0 : Nat} (h : jv_Tg 2 a0 N ∧ ((Prod.fst M a0 0) < 3 → Z (some (.int 0)) M N) ∧ (¬ ((Prod.fst M a0 0) < 3) → Z (some (.int 1)) M N)) : jv_J g d mt_O_isAbstract 0 [some (.ref a0)] [] M N cr sr Z := by
  refine jv_aload_n d_O_isAbstract_0 rfl rfl ?_
  obtain ⟨q1, h⟩ := h
  refine jv_getI d_O_isAbstract_1 fl_O_9 rfl q1 ?_
  refine jv_iconst (v := 3) d_O_isAbstract_4 (by decide) ?_
  refine jv_icmp_lt (tgt := 12) d_O_isAbstract_5 (by decide) ⟨fun c => ?_, fun c => ?_⟩
  · replace h := h.1 c
    refine jv_iconst (v := 0) d_O_isAbstract_12 (by decide) ?_
    exact jv_iret d_O_isAbstract_13 rfl (jv_nz (by decide)) h
  · replace h := h.2 c
    refine jv_iconst (v := 1) d_O_isAbstract_8 (by decide) ?_
    refine jv_goto (tgt := 13) d_O_isAbstract_9 (by decide) ?_
    exact jv_iret d_O_isAbstract_13 rfl (jv_nz (by decide)) h
theorem b_H_halt_0 {g : jv_G} {d : Nat} {M : jv_Mem} {N cr sr : Nat} {Z : Option Value → jv_Mem → Nat → Prop} {a0 : Nat} {x1 : Int32} (h : jv_Tg 1 a0 N ∧ ((Prod.fst M a0 4) = 2 → Z none M N) ∧ (¬ ((Prod.fst M a0 4) = 2) → jv_Tg 1 a0 N ∧ jv_Tg 1 a0 N ∧ Z none (jv_si (jv_si M a0 4 2) a0 5 x1) N)) : jv_J g d mt_H_halt 0 [some (.ref a0), some (.int x1)] [] M N cr sr Z := by
  refine jv_aload_n d_H_halt_0 rfl rfl ?_
  obtain ⟨q1, h⟩ := h
  refine jv_getI d_H_halt_1 fl_H_31 rfl q1 ?_
  refine jv_iconst (v := 2) d_H_halt_4 (by decide) ?_
  refine jv_icmp_eq (tgt := 18) d_H_halt_5 (by decide) ⟨fun c => ?_, fun c => ?_⟩
  · replace h := h.1 c
    exact jv_ret d_H_halt_18 rfl h
  · replace h := h.2 c
    refine jv_aload_n d_H_halt_8 rfl rfl ?_
    refine jv_iconst (v := 2) d_H_halt_9 (by decide) ?_
    obtain ⟨q2, h⟩ := h
    refine jv_putI d_H_halt_10 fl_H_31 (fun r hr => by cases hr; rfl) rfl q2 ?_
    refine jv_aload_n d_H_halt_13 rfl rfl ?_
    refine jv_iload_n d_H_halt_14 rfl rfl ?_
    obtain ⟨q3, h⟩ := h
    refine jv_putI d_H_halt_15 fl_H_34 (fun r hr => by cases hr; rfl) rfl q3 ?_
    exact jv_ret d_H_halt_18 rfl h
theorem b_H_resume_0 {g : jv_G} {d : Nat} {M : jv_Mem} {N cr sr : Nat} {Z : Option Value → jv_Mem → Nat → Prop} {a0 : Nat} (h : jv_Tg 1 a0 N ∧ ((Prod.fst M a0 4) ≠ 2 → Z none M N) ∧ ((Prod.fst M a0 4) = 2 → jv_Tg 1 a0 N ∧ ((Prod.fst M a0 6) = 0 → jv_Tg 1 a0 N ∧ jv_Tg 1 a0 N ∧ Z none (jv_si (jv_si M a0 4 0) a0 5 0) N) ∧ (¬ ((Prod.fst M a0 6) = 0) → jv_Tg 1 a0 N ∧ jv_Tg 1 a0 N ∧ Z none (jv_si (jv_si M a0 4 1) a0 5 0) N))) : jv_J g d mt_H_resume 0 [some (.ref a0)] [] M N cr sr Z := by
  refine jv_aload_n d_H_resume_0 rfl rfl ?_
  obtain ⟨q1, h⟩ := h
  refine jv_getI d_H_resume_1 fl_H_31 rfl q1 ?_
  refine jv_iconst (v := 2) d_H_resume_4 (by decide) ?_
  refine jv_icmp_ne (tgt := 29) d_H_resume_5 (by decide) ⟨fun c => ?_, fun c => ?_⟩
  · replace h := h.1 c
    exact jv_ret d_H_resume_29 rfl h
  · replace h := h.2 c
    refine jv_aload_n d_H_resume_8 rfl rfl ?_
    refine jv_aload_n d_H_resume_9 rfl rfl ?_
    obtain ⟨q2, h⟩ := h
    refine jv_getI d_H_resume_10 fl_H_37 rfl q2 ?_
    refine jv_if_eq (tgt := 20) d_H_resume_13 (by decide) ⟨fun c => ?_, fun c => ?_⟩
    · replace h := h.1 c
      refine jv_iconst (v := 0) d_H_resume_20 (by decide) ?_
      obtain ⟨q3, h⟩ := h
      refine jv_putI d_H_resume_21 fl_H_31 (fun r hr => by cases hr; rfl) rfl q3 ?_
      refine jv_aload_n d_H_resume_24 rfl rfl ?_
      refine jv_iconst (v := 0) d_H_resume_25 (by decide) ?_
      obtain ⟨q4, h⟩ := h
      refine jv_putI d_H_resume_26 fl_H_34 (fun r hr => by cases hr; rfl) rfl q4 ?_
      exact jv_ret d_H_resume_29 rfl h
    · replace h := h.2 c
      refine jv_iconst (v := 1) d_H_resume_16 (by decide) ?_
      refine jv_goto (tgt := 21) d_H_resume_17 (by decide) ?_
      obtain ⟨q5, h⟩ := h
      refine jv_putI d_H_resume_21 fl_H_31 (fun r hr => by cases hr; rfl) rfl q5 ?_
      refine jv_aload_n d_H_resume_24 rfl rfl ?_
      refine jv_iconst (v := 0) d_H_resume_25 (by decide) ?_
      obtain ⟨q6, h⟩ := h
      refine jv_putI d_H_resume_26 fl_H_34 (fun r hr => by cases hr; rfl) rfl q6 ?_
      exact jv_ret d_H_resume_29 rfl h
theorem b_U_matches_0 {g : jv_G} {d : Nat} {M : jv_Mem} {N cr sr : Nat} {Z : Option Value → jv_Mem → Nat → Prop} {a0 : Nat} {a1 : Nat} (h : jv_Tg 8 a0 N ∧ ((Prod.fst M a0 1) ≠ 0 → jv_Tg 1 a1 N ∧ ∃ b3, Prod.fst (Prod.snd M) a1 0 = some b3 ∧ jv_Tg 8 a0 N ∧ jv_Tg 11 b3 N ∧ vp_in (Prod.fst M a0 2) (jv_sh b3).2 ∧ jv_Tg 8 a0 N ∧ ((Prod.fst M b3 (Int32.toNatClampNeg (Prod.fst M a0 2))) ≠ (Prod.fst M a0 3) → Z (some (.int 0)) M N) ∧ ((Prod.fst M b3 (Int32.toNatClampNeg (Prod.fst M a0 2))) = (Prod.fst M a0 3) → Z (some (.int 1)) M N)) ∧ ((Prod.fst M a0 1) = 0 → jv_Tg 1 a1 N ∧ jv_Tg 8 a0 N ∧ ((Prod.fst M a1 3) ≠ (Prod.fst M a0 2) → Z (some (.int 0)) M N) ∧ ((Prod.fst M a1 3) = (Prod.fst M a0 2) → Z (some (.int 1)) M N))) : jv_J g d mt_U_matches 0 [some (.ref a0), some (.ref a1)] [] M N cr sr Z := by
  refine jv_aload_n d_U_matches_0 rfl rfl ?_
  obtain ⟨q1, h⟩ := h
  refine jv_getI d_U_matches_1 fl_U_15 rfl q1 ?_
  refine jv_if_ne (tgt := 26) d_U_matches_4 (by decide) ⟨fun c => ?_, fun c => ?_⟩
  · replace h := h.1 c
    refine jv_aload_n d_U_matches_26 rfl rfl ?_
    obtain ⟨q2, h⟩ := h
    obtain ⟨b3, e4, h⟩ := h
    refine jv_getR d_U_matches_27 fl_U_39 rfl q2 e4 ?_
    refine jv_aload_n d_U_matches_30 rfl rfl ?_
    obtain ⟨q5, h⟩ := h
    refine jv_getI d_U_matches_31 fl_U_18 rfl q5 ?_
    obtain ⟨q6, q7, h⟩ := h
    refine jv_iald d_U_matches_34 q6 q7 ?_
    refine jv_aload_n d_U_matches_35 rfl rfl ?_
    obtain ⟨q8, h⟩ := h
    refine jv_getI d_U_matches_36 fl_U_21 rfl q8 ?_
    refine jv_icmp_ne (tgt := 46) d_U_matches_39 (by decide) ⟨fun c => ?_, fun c => ?_⟩
    · replace h := h.1 c
      refine jv_iconst (v := 0) d_U_matches_46 (by decide) ?_
      exact jv_iret d_U_matches_47 rfl (jv_nz (by decide)) h
    · replace h := h.2 c
      refine jv_iconst (v := 1) d_U_matches_42 (by decide) ?_
      refine jv_goto (tgt := 47) d_U_matches_43 (by decide) ?_
      exact jv_iret d_U_matches_47 rfl (jv_nz (by decide)) h
  · replace h := h.2 c
    refine jv_aload_n d_U_matches_7 rfl rfl ?_
    obtain ⟨q9, h⟩ := h
    refine jv_getI d_U_matches_8 fl_U_34 rfl q9 ?_
    refine jv_aload_n d_U_matches_11 rfl rfl ?_
    obtain ⟨q10, h⟩ := h
    refine jv_getI d_U_matches_12 fl_U_18 rfl q10 ?_
    refine jv_icmp_ne (tgt := 22) d_U_matches_15 (by decide) ⟨fun c => ?_, fun c => ?_⟩
    · replace h := h.1 c
      refine jv_iconst (v := 0) d_U_matches_22 (by decide) ?_
      refine jv_goto (tgt := 47) d_U_matches_23 (by decide) ?_
      exact jv_iret d_U_matches_47 rfl (jv_nz (by decide)) h
    · replace h := h.2 c
      refine jv_iconst (v := 1) d_U_matches_18 (by decide) ?_
      refine jv_goto (tgt := 47) d_U_matches_19 (by decide) ?_
      exact jv_iret d_U_matches_47 rfl (jv_nz (by decide)) h
theorem b_U_countsDown_0 {g : jv_G} {d : Nat} {M : jv_Mem} {N cr sr : Nat} {Z : Option Value → jv_Mem → Nat → Prop} {a0 : Nat} (h : jv_Tg 8 a0 N ∧ jv_Tg 8 a0 N ∧ jv_Tg 8 a0 N ∧ ((Prod.fst (jv_si M a0 5 ((Prod.fst M a0 5) - 1)) a0 5) ≤ 0 → jv_Tg 8 a0 N ∧ jv_Tg 8 a0 N ∧ Z (some (.int 1)) (jv_si (jv_si M a0 5 ((Prod.fst M a0 5) - 1)) a0 5 (Prod.fst (jv_si M a0 5 ((Prod.fst M a0 5) - 1)) a0 4)) N) ∧ (¬ ((Prod.fst (jv_si M a0 5 ((Prod.fst M a0 5) - 1)) a0 5) ≤ 0) → Z (some (.int 0)) (jv_si M a0 5 ((Prod.fst M a0 5) - 1)) N)) : jv_J g d mt_U_countsDown 0 [some (.ref a0)] [] M N cr sr Z := by
  refine jv_aload_n d_U_countsDown_0 rfl rfl ?_
  refine jv_dup d_U_countsDown_1 rfl ?_
  obtain ⟨q1, h⟩ := h
  refine jv_getI d_U_countsDown_2 fl_U_27 rfl q1 ?_
  refine jv_iconst (v := 1) d_U_countsDown_5 (by decide) ?_
  refine jv_isub d_U_countsDown_6 ?_
  obtain ⟨q2, h⟩ := h
  refine jv_putI d_U_countsDown_7 fl_U_27 (fun r hr => by cases hr; rfl) rfl q2 ?_
  refine jv_aload_n d_U_countsDown_10 rfl rfl ?_
  obtain ⟨q3, h⟩ := h
  refine jv_getI d_U_countsDown_11 fl_U_27 rfl q3 ?_
  refine jv_if_le (tgt := 19) d_U_countsDown_14 (by decide) ⟨fun c => ?_, fun c => ?_⟩
  · replace h := h.1 c
    refine jv_aload_n d_U_countsDown_19 rfl rfl ?_
    refine jv_aload_n d_U_countsDown_20 rfl rfl ?_
    obtain ⟨q4, h⟩ := h
    refine jv_getI d_U_countsDown_21 fl_U_24 rfl q4 ?_
    obtain ⟨q5, h⟩ := h
    refine jv_putI d_U_countsDown_24 fl_U_27 (fun r hr => by cases hr; rfl) rfl q5 ?_
    refine jv_iconst (v := 1) d_U_countsDown_27 (by decide) ?_
    exact jv_iret d_U_countsDown_28 rfl (jv_nz (by decide)) h
  · replace h := h.2 c
    refine jv_iconst (v := 0) d_U_countsDown_17 (by decide) ?_
    exact jv_iret d_U_countsDown_18 rfl (jv_nz (by decide)) h
theorem b_H_sleep_0 {g : jv_G} {d : Nat} {M : jv_Mem} {N cr sr : Nat} {Z : Option Value → jv_Mem → Nat → Prop} {a0 : Nat} (h : jv_Tg 1 a0 N ∧ jv_Tg 1 a0 N ∧ Z none (jv_si (jv_si M a0 4 1) a0 6 1) N) : jv_J g d mt_H_sleep 0 [some (.ref a0)] [] M N cr sr Z := by
  refine jv_aload_n d_H_sleep_0 rfl rfl ?_
  refine jv_iconst (v := 1) d_H_sleep_1 (by decide) ?_
  obtain ⟨q1, h⟩ := h
  refine jv_putI d_H_sleep_2 fl_H_31 (fun r hr => by cases hr; rfl) rfl q1 ?_
  refine jv_aload_n d_H_sleep_5 rfl rfl ?_
  refine jv_iconst (v := 1) d_H_sleep_6 (by decide) ?_
  obtain ⟨q2, h⟩ := h
  refine jv_putZ d_H_sleep_7 fl_H_37 (fun r hr => by cases hr; rfl) rfl q2 (by decide) ?_
  exact jv_ret d_H_sleep_10 rfl h
theorem b_H_wake_0 {g : jv_G} {d : Nat} {M : jv_Mem} {N cr sr : Nat} {Z : Option Value → jv_Mem → Nat → Prop} {a0 : Nat} (h : jv_Tg 1 a0 N ∧ jv_Tg 1 a0 N ∧ ((Prod.fst (jv_si M a0 6 0) a0 4) ≠ 1 → Z none (jv_si M a0 6 0) N) ∧ ((Prod.fst (jv_si M a0 6 0) a0 4) = 1 → jv_Tg 1 a0 N ∧ Z none (jv_si (jv_si M a0 6 0) a0 4 0) N)) : jv_J g d mt_H_wake 0 [some (.ref a0)] [] M N cr sr Z := by
  refine jv_aload_n d_H_wake_0 rfl rfl ?_
  refine jv_iconst (v := 0) d_H_wake_1 (by decide) ?_
  obtain ⟨q1, h⟩ := h
  refine jv_putZ d_H_wake_2 fl_H_37 (fun r hr => by cases hr; rfl) rfl q1 (by decide) ?_
  refine jv_aload_n d_H_wake_5 rfl rfl ?_
  obtain ⟨q2, h⟩ := h
  refine jv_getI d_H_wake_6 fl_H_31 rfl q2 ?_
  refine jv_iconst (v := 1) d_H_wake_9 (by decide) ?_
  refine jv_icmp_ne (tgt := 18) d_H_wake_10 (by decide) ⟨fun c => ?_, fun c => ?_⟩
  · replace h := h.1 c
    exact jv_ret d_H_wake_18 rfl h
  · replace h := h.2 c
    refine jv_aload_n d_H_wake_13 rfl rfl ?_
    refine jv_iconst (v := 0) d_H_wake_14 (by decide) ?_
    obtain ⟨q3, h⟩ := h
    refine jv_putI d_H_wake_15 fl_H_31 (fun r hr => by cases hr; rfl) rfl q3 ?_
    exact jv_ret d_H_wake_18 rfl h
theorem b_JI_bitCount_0 {g : jv_G} {d : Nat} {M : jv_Mem} {N cr sr : Nat} {Z : Option Value → jv_Mem → Nat → Prop} {x0 : Int32} (h : Z (some (.int ((((((((x0 - ((((x0).toUInt32 >>> ((1 : Int32).toUInt32 &&& Int32.toUInt32 31)).toInt32) &&& 1431655765)) &&& 858993459) + (((((x0 - ((((x0).toUInt32 >>> ((1 : Int32).toUInt32 &&& Int32.toUInt32 31)).toInt32) &&& 1431655765))).toUInt32 >>> ((2 : Int32).toUInt32 &&& Int32.toUInt32 31)).toInt32) &&& 858993459)) + ((((((x0 - ((((x0).toUInt32 >>> ((1 : Int32).toUInt32 &&& Int32.toUInt32 31)).toInt32) &&& 1431655765)) &&& 858993459) + (((((x0 - ((((x0).toUInt32 >>> ((1 : Int32).toUInt32 &&& Int32.toUInt32 31)).toInt32) &&& 1431655765))).toUInt32 >>> ((2 : Int32).toUInt32 &&& Int32.toUInt32 31)).toInt32) &&& 858993459))).toUInt32 >>> ((4 : Int32).toUInt32 &&& Int32.toUInt32 31)).toInt32)) &&& 252645135) + ((((((((x0 - ((((x0).toUInt32 >>> ((1 : Int32).toUInt32 &&& Int32.toUInt32 31)).toInt32) &&& 1431655765)) &&& 858993459) + (((((x0 - ((((x0).toUInt32 >>> ((1 : Int32).toUInt32 &&& Int32.toUInt32 31)).toInt32) &&& 1431655765))).toUInt32 >>> ((2 : Int32).toUInt32 &&& Int32.toUInt32 31)).toInt32) &&& 858993459)) + ((((((x0 - ((((x0).toUInt32 >>> ((1 : Int32).toUInt32 &&& Int32.toUInt32 31)).toInt32) &&& 1431655765)) &&& 858993459) + (((((x0 - ((((x0).toUInt32 >>> ((1 : Int32).toUInt32 &&& Int32.toUInt32 31)).toInt32) &&& 1431655765))).toUInt32 >>> ((2 : Int32).toUInt32 &&& Int32.toUInt32 31)).toInt32) &&& 858993459))).toUInt32 >>> ((4 : Int32).toUInt32 &&& Int32.toUInt32 31)).toInt32)) &&& 252645135)).toUInt32 >>> ((8 : Int32).toUInt32 &&& Int32.toUInt32 31)).toInt32)) + (((((((((x0 - ((((x0).toUInt32 >>> ((1 : Int32).toUInt32 &&& Int32.toUInt32 31)).toInt32) &&& 1431655765)) &&& 858993459) + (((((x0 - ((((x0).toUInt32 >>> ((1 : Int32).toUInt32 &&& Int32.toUInt32 31)).toInt32) &&& 1431655765))).toUInt32 >>> ((2 : Int32).toUInt32 &&& Int32.toUInt32 31)).toInt32) &&& 858993459)) + ((((((x0 - ((((x0).toUInt32 >>> ((1 : Int32).toUInt32 &&& Int32.toUInt32 31)).toInt32) &&& 1431655765)) &&& 858993459) + (((((x0 - ((((x0).toUInt32 >>> ((1 : Int32).toUInt32 &&& Int32.toUInt32 31)).toInt32) &&& 1431655765))).toUInt32 >>> ((2 : Int32).toUInt32 &&& Int32.toUInt32 31)).toInt32) &&& 858993459))).toUInt32 >>> ((4 : Int32).toUInt32 &&& Int32.toUInt32 31)).toInt32)) &&& 252645135) + ((((((((x0 - ((((x0).toUInt32 >>> ((1 : Int32).toUInt32 &&& Int32.toUInt32 31)).toInt32) &&& 1431655765)) &&& 858993459) + (((((x0 - ((((x0).toUInt32 >>> ((1 : Int32).toUInt32 &&& Int32.toUInt32 31)).toInt32) &&& 1431655765))).toUInt32 >>> ((2 : Int32).toUInt32 &&& Int32.toUInt32 31)).toInt32) &&& 858993459)) + ((((((x0 - ((((x0).toUInt32 >>> ((1 : Int32).toUInt32 &&& Int32.toUInt32 31)).toInt32) &&& 1431655765)) &&& 858993459) + (((((x0 - ((((x0).toUInt32 >>> ((1 : Int32).toUInt32 &&& Int32.toUInt32 31)).toInt32) &&& 1431655765))).toUInt32 >>> ((2 : Int32).toUInt32 &&& Int32.toUInt32 31)).toInt32) &&& 858993459))).toUInt32 >>> ((4 : Int32).toUInt32 &&& Int32.toUInt32 31)).toInt32)) &&& 252645135)).toUInt32 >>> ((8 : Int32).toUInt32 &&& Int32.toUInt32 31)).toInt32))).toUInt32 >>> ((16 : Int32).toUInt32 &&& Int32.toUInt32 31)).toInt32)) &&& 63))) M N) : jv_J g d mt_JI_bitCount 0 [some (.int x0)] [] M N cr sr Z := by
  refine jv_iload_n d_JI_bitCount_0 rfl rfl ?_
  refine jv_iload_n d_JI_bitCount_1 rfl rfl ?_
  refine jv_iconst (v := 1) d_JI_bitCount_2 (by decide) ?_
  refine jv_iushr d_JI_bitCount_3 ?_
  refine jv_ldcw d_JI_bitCount_4 co_JI_265 ?_
  refine jv_iand d_JI_bitCount_7 ?_
  refine jv_isub d_JI_bitCount_8 ?_
  refine jv_istore_n (L' := [some (.int (x0 - ((((x0).toUInt32 >>> ((1 : Int32).toUInt32 &&& Int32.toUInt32 31)).toInt32) &&& 1431655765)))]) d_JI_bitCount_9 rfl (Nat.le_of_ble_eq_true rfl) rfl ?_
  refine jv_iload_n d_JI_bitCount_10 rfl rfl ?_
  refine jv_ldcw d_JI_bitCount_11 co_JI_266 ?_
  refine jv_iand d_JI_bitCount_14 ?_
  refine jv_iload_n d_JI_bitCount_15 rfl rfl ?_
  refine jv_iconst (v := 2) d_JI_bitCount_16 (by decide) ?_
  refine jv_iushr d_JI_bitCount_17 ?_
  refine jv_ldcw d_JI_bitCount_18 co_JI_266 ?_
  refine jv_iand d_JI_bitCount_21 ?_
  refine jv_iadd d_JI_bitCount_22 ?_
  refine jv_istore_n (L' := [some (.int (((x0 - ((((x0).toUInt32 >>> ((1 : Int32).toUInt32 &&& Int32.toUInt32 31)).toInt32) &&& 1431655765)) &&& 858993459) + (((((x0 - ((((x0).toUInt32 >>> ((1 : Int32).toUInt32 &&& Int32.toUInt32 31)).toInt32) &&& 1431655765))).toUInt32 >>> ((2 : Int32).toUInt32 &&& Int32.toUInt32 31)).toInt32) &&& 858993459)))]) d_JI_bitCount_23 rfl (Nat.le_of_ble_eq_true rfl) rfl ?_
  refine jv_iload_n d_JI_bitCount_24 rfl rfl ?_
  refine jv_iload_n d_JI_bitCount_25 rfl rfl ?_
  refine jv_iconst (v := 4) d_JI_bitCount_26 (by decide) ?_
  refine jv_iushr d_JI_bitCount_27 ?_
  refine jv_iadd d_JI_bitCount_28 ?_
  refine jv_ldcw d_JI_bitCount_29 co_JI_267 ?_
  refine jv_iand d_JI_bitCount_32 ?_
  refine jv_istore_n (L' := [some (.int (((((x0 - ((((x0).toUInt32 >>> ((1 : Int32).toUInt32 &&& Int32.toUInt32 31)).toInt32) &&& 1431655765)) &&& 858993459) + (((((x0 - ((((x0).toUInt32 >>> ((1 : Int32).toUInt32 &&& Int32.toUInt32 31)).toInt32) &&& 1431655765))).toUInt32 >>> ((2 : Int32).toUInt32 &&& Int32.toUInt32 31)).toInt32) &&& 858993459)) + ((((((x0 - ((((x0).toUInt32 >>> ((1 : Int32).toUInt32 &&& Int32.toUInt32 31)).toInt32) &&& 1431655765)) &&& 858993459) + (((((x0 - ((((x0).toUInt32 >>> ((1 : Int32).toUInt32 &&& Int32.toUInt32 31)).toInt32) &&& 1431655765))).toUInt32 >>> ((2 : Int32).toUInt32 &&& Int32.toUInt32 31)).toInt32) &&& 858993459))).toUInt32 >>> ((4 : Int32).toUInt32 &&& Int32.toUInt32 31)).toInt32)) &&& 252645135))]) d_JI_bitCount_33 rfl (Nat.le_of_ble_eq_true rfl) rfl ?_
  refine jv_iload_n d_JI_bitCount_34 rfl rfl ?_
  refine jv_iload_n d_JI_bitCount_35 rfl rfl ?_
  refine jv_bipush (v := 8) d_JI_bitCount_36 (by decide) ?_
  refine jv_iushr d_JI_bitCount_38 ?_
  refine jv_iadd d_JI_bitCount_39 ?_
  refine jv_istore_n (L' := [some (.int ((((((x0 - ((((x0).toUInt32 >>> ((1 : Int32).toUInt32 &&& Int32.toUInt32 31)).toInt32) &&& 1431655765)) &&& 858993459) + (((((x0 - ((((x0).toUInt32 >>> ((1 : Int32).toUInt32 &&& Int32.toUInt32 31)).toInt32) &&& 1431655765))).toUInt32 >>> ((2 : Int32).toUInt32 &&& Int32.toUInt32 31)).toInt32) &&& 858993459)) + ((((((x0 - ((((x0).toUInt32 >>> ((1 : Int32).toUInt32 &&& Int32.toUInt32 31)).toInt32) &&& 1431655765)) &&& 858993459) + (((((x0 - ((((x0).toUInt32 >>> ((1 : Int32).toUInt32 &&& Int32.toUInt32 31)).toInt32) &&& 1431655765))).toUInt32 >>> ((2 : Int32).toUInt32 &&& Int32.toUInt32 31)).toInt32) &&& 858993459))).toUInt32 >>> ((4 : Int32).toUInt32 &&& Int32.toUInt32 31)).toInt32)) &&& 252645135) + ((((((((x0 - ((((x0).toUInt32 >>> ((1 : Int32).toUInt32 &&& Int32.toUInt32 31)).toInt32) &&& 1431655765)) &&& 858993459) + (((((x0 - ((((x0).toUInt32 >>> ((1 : Int32).toUInt32 &&& Int32.toUInt32 31)).toInt32) &&& 1431655765))).toUInt32 >>> ((2 : Int32).toUInt32 &&& Int32.toUInt32 31)).toInt32) &&& 858993459)) + ((((((x0 - ((((x0).toUInt32 >>> ((1 : Int32).toUInt32 &&& Int32.toUInt32 31)).toInt32) &&& 1431655765)) &&& 858993459) + (((((x0 - ((((x0).toUInt32 >>> ((1 : Int32).toUInt32 &&& Int32.toUInt32 31)).toInt32) &&& 1431655765))).toUInt32 >>> ((2 : Int32).toUInt32 &&& Int32.toUInt32 31)).toInt32) &&& 858993459))).toUInt32 >>> ((4 : Int32).toUInt32 &&& Int32.toUInt32 31)).toInt32)) &&& 252645135)).toUInt32 >>> ((8 : Int32).toUInt32 &&& Int32.toUInt32 31)).toInt32)))]) d_JI_bitCount_40 rfl (Nat.le_of_ble_eq_true rfl) rfl ?_
  refine jv_iload_n d_JI_bitCount_41 rfl rfl ?_
  refine jv_iload_n d_JI_bitCount_42 rfl rfl ?_
  refine jv_bipush (v := 16) d_JI_bitCount_43 (by decide) ?_
  refine jv_iushr d_JI_bitCount_45 ?_
  refine jv_iadd d_JI_bitCount_46 ?_
  refine jv_istore_n (L' := [some (.int (((((((x0 - ((((x0).toUInt32 >>> ((1 : Int32).toUInt32 &&& Int32.toUInt32 31)).toInt32) &&& 1431655765)) &&& 858993459) + (((((x0 - ((((x0).toUInt32 >>> ((1 : Int32).toUInt32 &&& Int32.toUInt32 31)).toInt32) &&& 1431655765))).toUInt32 >>> ((2 : Int32).toUInt32 &&& Int32.toUInt32 31)).toInt32) &&& 858993459)) + ((((((x0 - ((((x0).toUInt32 >>> ((1 : Int32).toUInt32 &&& Int32.toUInt32 31)).toInt32) &&& 1431655765)) &&& 858993459) + (((((x0 - ((((x0).toUInt32 >>> ((1 : Int32).toUInt32 &&& Int32.toUInt32 31)).toInt32) &&& 1431655765))).toUInt32 >>> ((2 : Int32).toUInt32 &&& Int32.toUInt32 31)).toInt32) &&& 858993459))).toUInt32 >>> ((4 : Int32).toUInt32 &&& Int32.toUInt32 31)).toInt32)) &&& 252645135) + ((((((((x0 - ((((x0).toUInt32 >>> ((1 : Int32).toUInt32 &&& Int32.toUInt32 31)).toInt32) &&& 1431655765)) &&& 858993459) + (((((x0 - ((((x0).toUInt32 >>> ((1 : Int32).toUInt32 &&& Int32.toUInt32 31)).toInt32) &&& 1431655765))).toUInt32 >>> ((2 : Int32).toUInt32 &&& Int32.toUInt32 31)).toInt32) &&& 858993459)) + ((((((x0 - ((((x0).toUInt32 >>> ((1 : Int32).toUInt32 &&& Int32.toUInt32 31)).toInt32) &&& 1431655765)) &&& 858993459) + (((((x0 - ((((x0).toUInt32 >>> ((1 : Int32).toUInt32 &&& Int32.toUInt32 31)).toInt32) &&& 1431655765))).toUInt32 >>> ((2 : Int32).toUInt32 &&& Int32.toUInt32 31)).toInt32) &&& 858993459))).toUInt32 >>> ((4 : Int32).toUInt32 &&& Int32.toUInt32 31)).toInt32)) &&& 252645135)).toUInt32 >>> ((8 : Int32).toUInt32 &&& Int32.toUInt32 31)).toInt32)) + (((((((((x0 - ((((x0).toUInt32 >>> ((1 : Int32).toUInt32 &&& Int32.toUInt32 31)).toInt32) &&& 1431655765)) &&& 858993459) + (((((x0 - ((((x0).toUInt32 >>> ((1 : Int32).toUInt32 &&& Int32.toUInt32 31)).toInt32) &&& 1431655765))).toUInt32 >>> ((2 : Int32).toUInt32 &&& Int32.toUInt32 31)).toInt32) &&& 858993459)) + ((((((x0 - ((((x0).toUInt32 >>> ((1 : Int32).toUInt32 &&& Int32.toUInt32 31)).toInt32) &&& 1431655765)) &&& 858993459) + (((((x0 - ((((x0).toUInt32 >>> ((1 : Int32).toUInt32 &&& Int32.toUInt32 31)).toInt32) &&& 1431655765))).toUInt32 >>> ((2 : Int32).toUInt32 &&& Int32.toUInt32 31)).toInt32) &&& 858993459))).toUInt32 >>> ((4 : Int32).toUInt32 &&& Int32.toUInt32 31)).toInt32)) &&& 252645135) + ((((((((x0 - ((((x0).toUInt32 >>> ((1 : Int32).toUInt32 &&& Int32.toUInt32 31)).toInt32) &&& 1431655765)) &&& 858993459) + (((((x0 - ((((x0).toUInt32 >>> ((1 : Int32).toUInt32 &&& Int32.toUInt32 31)).toInt32) &&& 1431655765))).toUInt32 >>> ((2 : Int32).toUInt32 &&& Int32.toUInt32 31)).toInt32) &&& 858993459)) + ((((((x0 - ((((x0).toUInt32 >>> ((1 : Int32).toUInt32 &&& Int32.toUInt32 31)).toInt32) &&& 1431655765)) &&& 858993459) + (((((x0 - ((((x0).toUInt32 >>> ((1 : Int32).toUInt32 &&& Int32.toUInt32 31)).toInt32) &&& 1431655765))).toUInt32 >>> ((2 : Int32).toUInt32 &&& Int32.toUInt32 31)).toInt32) &&& 858993459))).toUInt32 >>> ((4 : Int32).toUInt32 &&& Int32.toUInt32 31)).toInt32)) &&& 252645135)).toUInt32 >>> ((8 : Int32).toUInt32 &&& Int32.toUInt32 31)).toInt32))).toUInt32 >>> ((16 : Int32).toUInt32 &&& Int32.toUInt32 31)).toInt32)))]) d_JI_bitCount_47 rfl (Nat.le_of_ble_eq_true rfl) rfl ?_
  refine jv_iload_n d_JI_bitCount_48 rfl rfl ?_
  refine jv_bipush (v := 63) d_JI_bitCount_49 (by decide) ?_
  refine jv_iand d_JI_bitCount_51 ?_
  exact jv_iret d_JI_bitCount_52 rfl rfl h
theorem b_G_range_0 {g : jv_G} {d : Nat} {M : jv_Mem} {N cr sr : Nat} {Z : Option Value → jv_Mem → Nat → Prop} {x0 : Int32} (h : (x0 = 0 → Z (some (.int 16)) M N) ∧ (x0 = 1 → Z (some (.int 3)) M N) ∧ ((x0 ≠ 0 ∧ x0 ≠ 1) → Z (some (.int 1000)) M N)) : jv_J g d mt_G_range 0 [some (.int x0)] [] M N cr sr Z := by
  refine jv_iload_n d_G_range_0 rfl rfl ?_
  have hD1 : (x0 ≠ 0 ∧ x0 ≠ 1) → jv_J g d mt_G_range 33 [some (.int x0)] [] M N cr sr Z := by
    intro c
    replace h := h.2.2 c
    refine jv_sipush (v := 1000) d_G_range_33 (by decide) ?_
    exact jv_iret d_G_range_36 rfl rfl h
  refine jv_lsw (dt := 33) [(0, 28), (1, 31)] d_G_range_1 (by decide) (by decide) (by decide) (fun q hq hx => ?_) (fun hq => ?_)
  · simp only [List.mem_cons, List.not_mem_nil, or_false] at hq
    rcases hq with rfl | rfl
    · replace h := h.1 hx
      refine jv_bipush (v := 16) d_G_range_28 (by decide) ?_
      exact jv_iret d_G_range_30 rfl rfl h
    · replace h := h.2.1 hx
      refine jv_iconst (v := 3) d_G_range_31 (by decide) ?_
      exact jv_iret d_G_range_32 rfl rfl h
  · exact hD1 ⟨hq _ (List.mem_of_getElem? (i := 0) rfl), hq _ (List.mem_of_getElem? (i := 1) rfl)⟩
theorem b_G_append_0 {g : jv_G} {d : Nat} {M : jv_Mem} {N cr sr : Nat} {Z : Option Value → jv_Mem → Nat → Prop} {a0 : Nat} {x1 : Int32} {x2 : Int32} {x3 : Int32} (h : jv_Tg 5 a0 N ∧ ((Prod.fst M a0 3) < 6 → jv_Tg 5 a0 N ∧ ∃ b3, Prod.fst (Prod.snd M) a0 0 = some b3 ∧ jv_Tg 5 a0 N ∧ jv_Tg 11 b3 N ∧ vp_in (Prod.fst M a0 3) (jv_sh b3).2 ∧ jv_Tg 5 a0 N ∧ ∃ b9, Prod.fst (Prod.snd (jv_si M b3 (Int32.toNatClampNeg (Prod.fst M a0 3)) x1)) a0 1 = some b9 ∧ jv_Tg 5 a0 N ∧ jv_Tg 11 b9 N ∧ vp_in (Prod.fst (jv_si M b3 (Int32.toNatClampNeg (Prod.fst M a0 3)) x1) a0 3) (jv_sh b9).2 ∧ jv_Tg 5 a0 N ∧ ∃ b15, Prod.fst (Prod.snd (jv_si (jv_si M b3 (Int32.toNatClampNeg (Prod.fst M a0 3)) x1) b9 (Int32.toNatClampNeg (Prod.fst (jv_si M b3 (Int32.toNatClampNeg (Prod.fst M a0 3)) x1) a0 3)) x2)) a0 2 = some b15 ∧ jv_Tg 5 a0 N ∧ jv_Tg 11 b15 N ∧ vp_in (Prod.fst (jv_si (jv_si M b3 (Int32.toNatClampNeg (Prod.fst M a0 3)) x1) b9 (Int32.toNatClampNeg (Prod.fst (jv_si M b3 (Int32.toNatClampNeg (Prod.fst M a0 3)) x1) a0 3)) x2) a0 3) (jv_sh b15).2 ∧ jv_Tg 5 a0 N ∧ jv_Tg 5 a0 N ∧ Z (some (.int 1)) (jv_si (jv_si (jv_si (jv_si M b3 (Int32.toNatClampNeg (Prod.fst M a0 3)) x1) b9 (Int32.toNatClampNeg (Prod.fst (jv_si M b3 (Int32.toNatClampNeg (Prod.fst M a0 3)) x1) a0 3)) x2) b15 (Int32.toNatClampNeg (Prod.fst (jv_si (jv_si M b3 (Int32.toNatClampNeg (Prod.fst M a0 3)) x1) b9 (Int32.toNatClampNeg (Prod.fst (jv_si M b3 (Int32.toNatClampNeg (Prod.fst M a0 3)) x1) a0 3)) x2) a0 3)) x3) a0 3 ((Prod.fst (jv_si (jv_si (jv_si M b3 (Int32.toNatClampNeg (Prod.fst M a0 3)) x1) b9 (Int32.toNatClampNeg (Prod.fst (jv_si M b3 (Int32.toNatClampNeg (Prod.fst M a0 3)) x1) a0 3)) x2) b15 (Int32.toNatClampNeg (Prod.fst (jv_si (jv_si M b3 (Int32.toNatClampNeg (Prod.fst M a0 3)) x1) b9 (Int32.toNatClampNeg (Prod.fst (jv_si M b3 (Int32.toNatClampNeg (Prod.fst M a0 3)) x1) a0 3)) x2) a0 3)) x3) a0 3) + 1)) N) ∧ (¬ ((Prod.fst M a0 3) < 6) → Z (some (.int 0)) M N)) : jv_J g d mt_G_append 0 [some (.ref a0), some (.int x1), some (.int x2), some (.int x3)] [] M N cr sr Z := by
  refine jv_aload_n d_G_append_0 rfl rfl ?_
  obtain ⟨q1, h⟩ := h
  refine jv_getI d_G_append_1 fl_G_21 rfl q1 ?_
  refine jv_bipush (v := 6) d_G_append_4 (by decide) ?_
  refine jv_icmp_lt (tgt := 11) d_G_append_6 (by decide) ⟨fun c => ?_, fun c => ?_⟩
  · replace h := h.1 c
    refine jv_aload_n d_G_append_11 rfl rfl ?_
    obtain ⟨q2, h⟩ := h
    obtain ⟨b3, e4, h⟩ := h
    refine jv_getR d_G_append_12 fl_G_9 rfl q2 e4 ?_
    refine jv_aload_n d_G_append_15 rfl rfl ?_
    obtain ⟨q5, h⟩ := h
    refine jv_getI d_G_append_16 fl_G_21 rfl q5 ?_
    refine jv_iload_n d_G_append_19 rfl rfl ?_
    obtain ⟨q6, q7, h⟩ := h
    refine jv_iast d_G_append_20 q6 q7 ?_
    refine jv_aload_n d_G_append_21 rfl rfl ?_
    obtain ⟨q8, h⟩ := h
    obtain ⟨b9, e10, h⟩ := h
    refine jv_getR d_G_append_22 fl_G_15 rfl q8 e10 ?_
    refine jv_aload_n d_G_append_25 rfl rfl ?_
    obtain ⟨q11, h⟩ := h
    refine jv_getI d_G_append_26 fl_G_21 rfl q11 ?_
    refine jv_iload_n d_G_append_29 rfl rfl ?_
    obtain ⟨q12, q13, h⟩ := h
    refine jv_iast d_G_append_30 q12 q13 ?_
    refine jv_aload_n d_G_append_31 rfl rfl ?_
    obtain ⟨q14, h⟩ := h
    obtain ⟨b15, e16, h⟩ := h
    refine jv_getR d_G_append_32 fl_G_18 rfl q14 e16 ?_
    refine jv_aload_n d_G_append_35 rfl rfl ?_
    obtain ⟨q17, h⟩ := h
    refine jv_getI d_G_append_36 fl_G_21 rfl q17 ?_
    refine jv_iload_n d_G_append_39 rfl rfl ?_
    obtain ⟨q18, q19, h⟩ := h
    refine jv_iast d_G_append_40 q18 q19 ?_
    refine jv_aload_n d_G_append_41 rfl rfl ?_
    refine jv_dup d_G_append_42 rfl ?_
    obtain ⟨q20, h⟩ := h
    refine jv_getI d_G_append_43 fl_G_21 rfl q20 ?_
    refine jv_iconst (v := 1) d_G_append_46 (by decide) ?_
    refine jv_iadd d_G_append_47 ?_
    obtain ⟨q21, h⟩ := h
    refine jv_putI d_G_append_48 fl_G_21 (fun r hr => by cases hr; rfl) rfl q21 ?_
    refine jv_iconst (v := 1) d_G_append_51 (by decide) ?_
    exact jv_iret d_G_append_52 rfl (jv_nz (by decide)) h
  · replace h := h.2 c
    refine jv_iconst (v := 0) d_G_append_9 (by decide) ?_
    exact jv_iret d_G_append_10 rfl (jv_nz (by decide)) h
theorem b_G_allow_0 {g : jv_G} {d : Nat} {M : jv_Mem} {N cr sr : Nat} {Z : Option Value → jv_Mem → Nat → Prop} {a0 : Nat} {x1 : Int32} {a2 : Nat} (h : jv_J g (d + 1) mt_G_allow 2 [some (.ref a0), some (.int x1), some (.ref a2), some (.int 0)] [] M N cr sr Z) : jv_J g (d + 1) mt_G_allow 0 [some (.ref a0), some (.int x1), some (.ref a2), none] [] M N cr sr Z := by
  refine jv_iconst (v := 0) d_G_allow_0 (by decide) ?_
  refine jv_istore_n (L' := [some (.ref a0), some (.int x1), some (.ref a2), some (.int 0)]) d_G_allow_1 rfl (Nat.le_of_ble_eq_true rfl) rfl ?_
  exact h
theorem b_G_allow_2 {g : jv_G} {d : Nat} {M : jv_Mem} {N cr sr : Nat} {Z : Option Value → jv_Mem → Nat → Prop} {a0 : Nat} {x1 : Int32} {a2 : Nat} {x3 : Int32} (h : jv_Tg 5 a0 N ∧ ((Prod.fst M a0 3) ≤ x3 → Z (some (.int 1)) M N) ∧ (¬ ((Prod.fst M a0 3) ≤ x3) → jv_Tg 5 a0 N ∧ ∃ b3, Prod.fst (Prod.snd M) a0 0 = some b3 ∧ jv_Tg 11 b3 N ∧ vp_in x3 (jv_sh b3).2 ∧ ((Prod.fst M b3 (Int32.toNatClampNeg x3)) ≠ x1 → jv_J g (d + 1) mt_G_allow 2 [some (.ref a0), some (.int x1), some (.ref a2), some (.int (x3 + 1))] [] M N cr sr Z) ∧ ((Prod.fst M b3 (Int32.toNatClampNeg x3)) = x1 → jv_Tg 5 a0 N ∧ ∃ b8, Prod.fst (Prod.snd M) a0 1 = some b8 ∧ jv_Tg 11 b8 N ∧ vp_in x3 (jv_sh b8).2 ∧ jv_Ct g d mt_G_seen [.ref a2, .int (Prod.fst M b8 (Int32.toNatClampNeg x3))] M N 0 0 (fun v M13 N13 => jv_ri v (fun r12 => jv_Tg 5 a0 N13 ∧ ∃ b15, Prod.fst (Prod.snd M13) a0 2 = some b15 ∧ jv_Tg 11 b15 N13 ∧ vp_in x3 (jv_sh b15).2 ∧ (r12 = (Prod.fst M13 b15 (Int32.toNatClampNeg x3)) → jv_J g (d + 1) mt_G_allow 2 [some (.ref a0), some (.int x1), some (.ref a2), some (.int (x3 + 1))] [] M13 N13 cr sr Z) ∧ (¬ (r12 = (Prod.fst M13 b15 (Int32.toNatClampNeg x3))) → Z (some (.int 0)) M13 N13)))))) : jv_J g (d + 1) mt_G_allow 2 [some (.ref a0), some (.int x1), some (.ref a2), some (.int x3)] [] M N cr sr Z := by
  refine jv_iload_n d_G_allow_2 rfl rfl ?_
  refine jv_aload_n d_G_allow_3 rfl rfl ?_
  obtain ⟨q1, h⟩ := h
  refine jv_getI d_G_allow_4 fl_G_21 rfl q1 ?_
  refine jv_icmp_ge (tgt := 47) d_G_allow_7 (by decide) ⟨fun c => ?_, fun c => ?_⟩
  · replace h := h.1 c
    refine jv_iconst (v := 1) d_G_allow_47 (by decide) ?_
    exact jv_iret d_G_allow_48 rfl (jv_nz (by decide)) h
  · replace h := h.2 c
    refine jv_aload_n d_G_allow_10 rfl rfl ?_
    obtain ⟨q2, h⟩ := h
    obtain ⟨b3, e4, h⟩ := h
    refine jv_getR d_G_allow_11 fl_G_9 rfl q2 e4 ?_
    refine jv_iload_n d_G_allow_14 rfl rfl ?_
    obtain ⟨q5, q6, h⟩ := h
    refine jv_iald d_G_allow_15 q5 q6 ?_
    refine jv_iload_n d_G_allow_16 rfl rfl ?_
    refine jv_icmp_ne (tgt := 41) d_G_allow_17 (by decide) ⟨fun c => ?_, fun c => ?_⟩
    · replace h := h.1 c
      refine jv_iinc (v := (x3 + 1)) (L' := [some (.ref a0), some (.int x1), some (.ref a2), some (.int (x3 + 1))]) d_G_allow_41 rfl rfl (Nat.le_of_ble_eq_true rfl) rfl ?_
      refine jv_goto (tgt := 2) d_G_allow_44 (by decide) ?_
      exact h
    · replace h := h.2 c
      refine jv_aload_n d_G_allow_20 rfl rfl ?_
      refine jv_aload_n d_G_allow_21 rfl rfl ?_
      obtain ⟨q7, h⟩ := h
      obtain ⟨b8, e9, h⟩ := h
      refine jv_getR d_G_allow_22 fl_G_15 rfl q7 e9 ?_
      refine jv_iload_n d_G_allow_25 rfl rfl ?_
      obtain ⟨q10, q11, h⟩ := h
      refine jv_iald d_G_allow_26 q10 q11 ?_
      refine jv_invS [.ref a2, .int (Prod.fst M b8 (Int32.toNatClampNeg x3))] [] d_G_allow_27 ml_G_25 rfl (Nat.le_of_ble_eq_true rfl) (Nat.zero_add _) (Nat.zero_add _) (jv_Ct.mono h (fun v M13 N13 h => ?_))
      obtain ⟨r12, rfl, h⟩ := h
      change jv_J g (d + 1) mt_G_allow 30 [some (.ref a0), some (.int x1), some (.ref a2), some (.int x3)] [.int r12] M13 N13 cr sr Z
      refine jv_aload_n d_G_allow_30 rfl rfl ?_
      obtain ⟨q14, h⟩ := h
      obtain ⟨b15, e16, h⟩ := h
      refine jv_getR d_G_allow_31 fl_G_18 rfl q14 e16 ?_
      refine jv_iload_n d_G_allow_34 rfl rfl ?_
      obtain ⟨q17, q18, h⟩ := h
      refine jv_iald d_G_allow_35 q17 q18 ?_
      refine jv_icmp_eq (tgt := 41) d_G_allow_36 (by decide) ⟨fun c => ?_, fun c => ?_⟩
      · replace h := h.1 c
        refine jv_iinc (v := (x3 + 1)) (L' := [some (.ref a0), some (.int x1), some (.ref a2), some (.int (x3 + 1))]) d_G_allow_41 rfl rfl (Nat.le_of_ble_eq_true rfl) rfl ?_
        refine jv_goto (tgt := 2) d_G_allow_44 (by decide) ?_
        exact h
      · replace h := h.2 c
        refine jv_iconst (v := 0) d_G_allow_39 (by decide) ?_
        exact jv_iret d_G_allow_40 rfl (jv_nz (by decide)) h
theorem b_G_seen_0 {g : jv_G} {d : Nat} {M : jv_Mem} {N cr sr : Nat} {Z : Option Value → jv_Mem → Nat → Prop} {a0 : Nat} {x1 : Int32} (h : (x1 = 0 → jv_Tg 1 a0 N ∧ Z (some (.int (Prod.fst M a0 3))) M N) ∧ (x1 = 1 → jv_Tg 1 a0 N ∧ Z (some (.int (Prod.fst M a0 4))) M N) ∧ ((x1 ≠ 0 ∧ x1 ≠ 1) → jv_Tg 1 a0 N ∧ ∃ b3, Prod.fst (Prod.snd M) a0 0 = some b3 ∧ jv_Tg 11 b3 N ∧ vp_in 0 (jv_sh b3).2 ∧ Z (some (.int (Prod.fst M b3 (Int32.toNatClampNeg 0)))) M N)) : jv_J g d mt_G_seen 0 [some (.ref a0), some (.int x1)] [] M N cr sr Z := by
  refine jv_iload_n d_G_seen_0 rfl rfl ?_
  have hD1 : (x1 ≠ 0 ∧ x1 ≠ 1) → jv_J g d mt_G_seen 38 [some (.ref a0), some (.int x1)] [] M N cr sr Z := by
    intro c
    replace h := h.2.2 c
    refine jv_aload_n d_G_seen_38 rfl rfl ?_
    obtain ⟨q2, h⟩ := h
    obtain ⟨b3, e4, h⟩ := h
    refine jv_getR d_G_seen_39 fl_G_37 rfl q2 e4 ?_
    refine jv_iconst (v := 0) d_G_seen_42 (by decide) ?_
    obtain ⟨q5, q6, h⟩ := h
    refine jv_iald d_G_seen_43 q5 q6 ?_
    exact jv_iret d_G_seen_44 rfl rfl h
  refine jv_lsw (dt := 38) [(0, 28), (1, 33)] d_G_seen_1 (by decide) (by decide) (by decide) (fun q hq hx => ?_) (fun hq => ?_)
  · simp only [List.mem_cons, List.not_mem_nil, or_false] at hq
    rcases hq with rfl | rfl
    · replace h := h.1 hx
      refine jv_aload_n d_G_seen_28 rfl rfl ?_
      obtain ⟨q7, h⟩ := h
      refine jv_getI d_G_seen_29 fl_G_29 rfl q7 ?_
      exact jv_iret d_G_seen_32 rfl rfl h
    · replace h := h.2.1 hx
      refine jv_aload_n d_G_seen_33 rfl rfl ?_
      obtain ⟨q8, h⟩ := h
      refine jv_getI d_G_seen_34 fl_G_34 rfl q8 ?_
      exact jv_iret d_G_seen_37 rfl rfl h
  · exact hD1 ⟨hq _ (List.mem_of_getElem? (i := 0) rfl), hq _ (List.mem_of_getElem? (i := 1) rfl)⟩
theorem b_JM_abs_0 {g : jv_G} {d : Nat} {M : jv_Mem} {N cr sr : Nat} {Z : Option Value → jv_Mem → Nat → Prop} {l0 : Int64} (h : (0 ≤ (lg_cmp l0 0) → Z (some (.long l0)) M N) ∧ (¬ (0 ≤ (lg_cmp l0 0)) → Z (some (.long (-l0))) M N)) : jv_J g d mt_JM_abs 0 [some (.long l0), none] [] M N cr sr Z := by
  refine jv_lload_n d_JM_abs_0 rfl rfl ?_
  refine jv_lconst (v := 0) d_JM_abs_1 (by decide) ?_
  refine jv_lcmp d_JM_abs_2 ?_
  refine jv_if_ge (tgt := 11) d_JM_abs_3 (by decide) ⟨fun c => ?_, fun c => ?_⟩
  · replace h := h.1 c
    refine jv_lload_n d_JM_abs_11 rfl rfl ?_
    exact jv_lret d_JM_abs_12 rfl h
  · replace h := h.2 c
    refine jv_lload_n d_JM_abs_6 rfl rfl ?_
    refine jv_lneg d_JM_abs_7 ?_
    refine jv_goto (tgt := 12) d_JM_abs_8 (by decide) ?_
    exact jv_lret d_JM_abs_12 rfl h
