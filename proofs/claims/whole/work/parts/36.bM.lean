/-! ===== blocks ===== -/
theorem b_M_init_0 {g : jv_G} {d : Nat} {M : jv_Mem} {N cr sr : Nat} {Z : Option Value → jv_Mem → Nat → Prop} {a0 : Nat} (h : jv_sh N = (11, 150) ∧ 1 ≤ cr ∧ 150 ≤ sr ∧ jv_Tg 10 a0 (N + 1) ∧ jv_sh (N + 1) = (11, 16) ∧ 1 ≤ (cr - 1) ∧ 16 ≤ (sr - 150) ∧ jv_Tg 10 a0 ((N + 1) + 1) ∧ jv_sh ((N + 1) + 1) = (11, 4) ∧ 1 ≤ ((cr - 1) - 1) ∧ 4 ≤ ((sr - 150) - 16) ∧ jv_Tg 10 a0 (((N + 1) + 1) + 1) ∧ jv_sh (((N + 1) + 1) + 1) = (11, 4) ∧ 1 ≤ (((cr - 1) - 1) - 1) ∧ 4 ≤ (((sr - 150) - 16) - 4) ∧ jv_Tg 10 a0 ((((N + 1) + 1) + 1) + 1) ∧ jv_sh ((((N + 1) + 1) + 1) + 1) = (11, 6) ∧ 1 ≤ ((((cr - 1) - 1) - 1) - 1) ∧ 6 ≤ ((((sr - 150) - 16) - 4) - 4) ∧ jv_Tg 10 a0 (((((N + 1) + 1) + 1) + 1) + 1) ∧ jv_sh (((((N + 1) + 1) + 1) + 1) + 1) = (11, 16) ∧ 1 ≤ (((((cr - 1) - 1) - 1) - 1) - 1) ∧ 16 ≤ (((((sr - 150) - 16) - 4) - 4) - 6) ∧ jv_Tg 10 a0 ((((((N + 1) + 1) + 1) + 1) + 1) + 1) ∧ jv_sh ((((((N + 1) + 1) + 1) + 1) + 1) + 1) = (11, 4) ∧ 1 ≤ ((((((cr - 1) - 1) - 1) - 1) - 1) - 1) ∧ 4 ≤ ((((((sr - 150) - 16) - 4) - 4) - 6) - 16) ∧ jv_Tg 10 a0 (((((((N + 1) + 1) + 1) + 1) + 1) + 1) + 1) ∧ jv_sh (((((((N + 1) + 1) + 1) + 1) + 1) + 1) + 1) = (11, 4) ∧ 1 ≤ (((((((cr - 1) - 1) - 1) - 1) - 1) - 1) - 1) ∧ 4 ≤ (((((((sr - 150) - 16) - 4) - 4) - 6) - 16) - 4) ∧ jv_Tg 10 a0 ((((((((N + 1) + 1) + 1) + 1) + 1) + 1) + 1) + 1) ∧ jv_sh ((((((((N + 1) + 1) + 1) + 1) + 1) + 1) + 1) + 1) = (11, 6) ∧ 1 ≤ ((((((((cr - 1) - 1) - 1) - 1) - 1) - 1) - 1) - 1) ∧ 6 ≤ ((((((((sr - 150) - 16) - 4) - 4) - 6) - 16) - 4) - 4) ∧ jv_Tg 10 a0 (((((((((N + 1) + 1) + 1) + 1) + 1) + 1) + 1) + 1) + 1) ∧ jv_sh (((((((((N + 1) + 1) + 1) + 1) + 1) + 1) + 1) + 1) + 1) = (11, 165) ∧ 1 ≤ (((((((((cr - 1) - 1) - 1) - 1) - 1) - 1) - 1) - 1) - 1) ∧ 165 ≤ (((((((((sr - 150) - 16) - 4) - 4) - 6) - 16) - 4) - 4) - 6) ∧ jv_Tg 10 a0 ((((((((((N + 1) + 1) + 1) + 1) + 1) + 1) + 1) + 1) + 1) + 1) ∧ jv_sh ((((((((((N + 1) + 1) + 1) + 1) + 1) + 1) + 1) + 1) + 1) + 1) = (11, 165) ∧ 1 ≤ ((((((((((cr - 1) - 1) - 1) - 1) - 1) - 1) - 1) - 1) - 1) - 1) ∧ 165 ≤ ((((((((((sr - 150) - 16) - 4) - 4) - 6) - 16) - 4) - 4) - 6) - 165) ∧ jv_Tg 10 a0 (((((((((((N + 1) + 1) + 1) + 1) + 1) + 1) + 1) + 1) + 1) + 1) + 1) ∧ jv_sh (((((((((((N + 1) + 1) + 1) + 1) + 1) + 1) + 1) + 1) + 1) + 1) + 1) = (11, 165) ∧ 1 ≤ (((((((((((cr - 1) - 1) - 1) - 1) - 1) - 1) - 1) - 1) - 1) - 1) - 1) ∧ 165 ≤ (((((((((((sr - 150) - 16) - 4) - 4) - 6) - 16) - 4) - 4) - 6) - 165) - 165) ∧ jv_Tg 10 a0 ((((((((((((N + 1) + 1) + 1) + 1) + 1) + 1) + 1) + 1) + 1) + 1) + 1) + 1) ∧ jv_sh ((((((((((((N + 1) + 1) + 1) + 1) + 1) + 1) + 1) + 1) + 1) + 1) + 1) + 1) = (11, 165) ∧ 1 ≤ ((((((((((((cr - 1) - 1) - 1) - 1) - 1) - 1) - 1) - 1) - 1) - 1) - 1) - 1) ∧ 165 ≤ ((((((((((((sr - 150) - 16) - 4) - 4) - 6) - 16) - 4) - 4) - 6) - 165) - 165) - 165) ∧ jv_Tg 10 a0 (((((((((((((N + 1) + 1) + 1) + 1) + 1) + 1) + 1) + 1) + 1) + 1) + 1) + 1) + 1) ∧ jv_sh (((((((((((((N + 1) + 1) + 1) + 1) + 1) + 1) + 1) + 1) + 1) + 1) + 1) + 1) + 1) = (11, 2310) ∧ 1 ≤ (((((((((((((cr - 1) - 1) - 1) - 1) - 1) - 1) - 1) - 1) - 1) - 1) - 1) - 1) - 1) ∧ 2310 ≤ (((((((((((((sr - 150) - 16) - 4) - 4) - 6) - 16) - 4) - 4) - 6) - 165) - 165) - 165) - 165) ∧ jv_Tg 10 a0 ((((((((((((((N + 1) + 1) + 1) + 1) + 1) + 1) + 1) + 1) + 1) + 1) + 1) + 1) + 1) + 1) ∧ jv_sh ((((((((((((((N + 1) + 1) + 1) + 1) + 1) + 1) + 1) + 1) + 1) + 1) + 1) + 1) + 1) + 1) = (11, 330) ∧ 1 ≤ ((((((((((((((cr - 1) - 1) - 1) - 1) - 1) - 1) - 1) - 1) - 1) - 1) - 1) - 1) - 1) - 1) ∧ 330 ≤ ((((((((((((((sr - 150) - 16) - 4) - 4) - 6) - 16) - 4) - 4) - 6) - 165) - 165) - 165) - 165) - 2310) ∧ jv_Tg 10 a0 (((((((((((((((N + 1) + 1) + 1) + 1) + 1) + 1) + 1) + 1) + 1) + 1) + 1) + 1) + 1) + 1) + 1) ∧ jv_sh (((((((((((((((N + 1) + 1) + 1) + 1) + 1) + 1) + 1) + 1) + 1) + 1) + 1) + 1) + 1) + 1) + 1) = (12, 2) ∧ 1 ≤ (((((((((((((((cr - 1) - 1) - 1) - 1) - 1) - 1) - 1) - 1) - 1) - 1) - 1) - 1) - 1) - 1) - 1) ∧ 2 ≤ (((((((((((((((sr - 150) - 16) - 4) - 4) - 6) - 16) - 4) - 4) - 6) - 165) - 165) - 165) - 165) - 2310) - 330) ∧ jv_Tg 10 a0 ((((((((((((((((N + 1) + 1) + 1) + 1) + 1) + 1) + 1) + 1) + 1) + 1) + 1) + 1) + 1) + 1) + 1) + 1) ∧ jv_sh ((((((((((((((((N + 1) + 1) + 1) + 1) + 1) + 1) + 1) + 1) + 1) + 1) + 1) + 1) + 1) + 1) + 1) + 1) = (11, 6) ∧ 1 ≤ ((((((((((((((((cr - 1) - 1) - 1) - 1) - 1) - 1) - 1) - 1) - 1) - 1) - 1) - 1) - 1) - 1) - 1) - 1) ∧ 6 ≤ ((((((((((((((((sr - 150) - 16) - 4) - 4) - 6) - 16) - 4) - 4) - 6) - 165) - 165) - 165) - 165) - 2310) - 330) - 2) ∧ jv_Tg 10 a0 (((((((((((((((((N + 1) + 1) + 1) + 1) + 1) + 1) + 1) + 1) + 1) + 1) + 1) + 1) + 1) + 1) + 1) + 1) + 1) ∧ jv_sh (((((((((((((((((N + 1) + 1) + 1) + 1) + 1) + 1) + 1) + 1) + 1) + 1) + 1) + 1) + 1) + 1) + 1) + 1) + 1) = (11, 6) ∧ 1 ≤ (((((((((((((((((cr - 1) - 1) - 1) - 1) - 1) - 1) - 1) - 1) - 1) - 1) - 1) - 1) - 1) - 1) - 1) - 1) - 1) ∧ 6 ≤ (((((((((((((((((sr - 150) - 16) - 4) - 4) - 6) - 16) - 4) - 4) - 6) - 165) - 165) - 165) - 165) - 2310) - 330) - 2) - 6) ∧ jv_Tg 10 a0 ((((((((((((((((((N + 1) + 1) + 1) + 1) + 1) + 1) + 1) + 1) + 1) + 1) + 1) + 1) + 1) + 1) + 1) + 1) + 1) + 1) ∧ jv_sh ((((((((((((((((((N + 1) + 1) + 1) + 1) + 1) + 1) + 1) + 1) + 1) + 1) + 1) + 1) + 1) + 1) + 1) + 1) + 1) + 1) = (11, 6) ∧ 1 ≤ ((((((((((((((((((cr - 1) - 1) - 1) - 1) - 1) - 1) - 1) - 1) - 1) - 1) - 1) - 1) - 1) - 1) - 1) - 1) - 1) - 1) ∧ 6 ≤ ((((((((((((((((((sr - 150) - 16) - 4) - 4) - 6) - 16) - 4) - 4) - 6) - 165) - 165) - 165) - 165) - 2310) - 330) - 2) - 6) - 6) ∧ jv_Tg 10 a0 (((((((((((((((((((N + 1) + 1) + 1) + 1) + 1) + 1) + 1) + 1) + 1) + 1) + 1) + 1) + 1) + 1) + 1) + 1) + 1) + 1) + 1) ∧ jv_Tg 10 a0 (((((((((((((((((((N + 1) + 1) + 1) + 1) + 1) + 1) + 1) + 1) + 1) + 1) + 1) + 1) + 1) + 1) + 1) + 1) + 1) + 1) + 1) ∧ jv_sh (((((((((((((((((((N + 1) + 1) + 1) + 1) + 1) + 1) + 1) + 1) + 1) + 1) + 1) + 1) + 1) + 1) + 1) + 1) + 1) + 1) + 1) = (11, 64) ∧ 1 ≤ (((((((((((((((((((cr - 1) - 1) - 1) - 1) - 1) - 1) - 1) - 1) - 1) - 1) - 1) - 1) - 1) - 1) - 1) - 1) - 1) - 1) - 1) ∧ 64 ≤ (((((((((((((((((((sr - 150) - 16) - 4) - 4) - 6) - 16) - 4) - 4) - 6) - 165) - 165) - 165) - 165) - 2310) - 330) - 2) - 6) - 6) - 6) ∧ jv_Tg 10 a0 ((((((((((((((((((((N + 1) + 1) + 1) + 1) + 1) + 1) + 1) + 1) + 1) + 1) + 1) + 1) + 1) + 1) + 1) + 1) + 1) + 1) + 1) + 1) ∧ Z none (jv_sr (jv_zero (jv_si (jv_sr (jv_zero (jv_sr (jv_zero (jv_sr (jv_zero (jv_sr (jv_zero (jv_sr (jv_zero (jv_sr (jv_zero (jv_sr (jv_zero (jv_sr (jv_zero (jv_sr (jv_zero (jv_sr (jv_zero (jv_sr (jv_zero (jv_sr (jv_zero (jv_sr (jv_zero (jv_sr (jv_zero (jv_sr (jv_zero (jv_sr (jv_zero (jv_sr (jv_zero (jv_sr (jv_zero (jv_sr (jv_zero M N) a0 1 (some N)) (N + 1)) a0 5 (some (N + 1))) ((N + 1) + 1)) a0 7 (some ((N + 1) + 1))) (((N + 1) + 1) + 1)) a0 8 (some (((N + 1) + 1) + 1))) ((((N + 1) + 1) + 1) + 1)) a0 10 (some ((((N + 1) + 1) + 1) + 1))) (((((N + 1) + 1) + 1) + 1) + 1)) a0 12 (some (((((N + 1) + 1) + 1) + 1) + 1))) ((((((N + 1) + 1) + 1) + 1) + 1) + 1)) a0 14 (some ((((((N + 1) + 1) + 1) + 1) + 1) + 1))) (((((((N + 1) + 1) + 1) + 1) + 1) + 1) + 1)) a0 15 (some (((((((N + 1) + 1) + 1) + 1) + 1) + 1) + 1))) ((((((((N + 1) + 1) + 1) + 1) + 1) + 1) + 1) + 1)) a0 17 (some ((((((((N + 1) + 1) + 1) + 1) + 1) + 1) + 1) + 1))) (((((((((N + 1) + 1) + 1) + 1) + 1) + 1) + 1) + 1) + 1)) a0 18 (some (((((((((N + 1) + 1) + 1) + 1) + 1) + 1) + 1) + 1) + 1))) ((((((((((N + 1) + 1) + 1) + 1) + 1) + 1) + 1) + 1) + 1) + 1)) a0 19 (some ((((((((((N + 1) + 1) + 1) + 1) + 1) + 1) + 1) + 1) + 1) + 1))) (((((((((((N + 1) + 1) + 1) + 1) + 1) + 1) + 1) + 1) + 1) + 1) + 1)) a0 20 (some (((((((((((N + 1) + 1) + 1) + 1) + 1) + 1) + 1) + 1) + 1) + 1) + 1))) ((((((((((((N + 1) + 1) + 1) + 1) + 1) + 1) + 1) + 1) + 1) + 1) + 1) + 1)) a0 21 (some ((((((((((((N + 1) + 1) + 1) + 1) + 1) + 1) + 1) + 1) + 1) + 1) + 1) + 1))) (((((((((((((N + 1) + 1) + 1) + 1) + 1) + 1) + 1) + 1) + 1) + 1) + 1) + 1) + 1)) a0 22 (some (((((((((((((N + 1) + 1) + 1) + 1) + 1) + 1) + 1) + 1) + 1) + 1) + 1) + 1) + 1))) ((((((((((((((N + 1) + 1) + 1) + 1) + 1) + 1) + 1) + 1) + 1) + 1) + 1) + 1) + 1) + 1)) a0 24 (some ((((((((((((((N + 1) + 1) + 1) + 1) + 1) + 1) + 1) + 1) + 1) + 1) + 1) + 1) + 1) + 1))) (((((((((((((((N + 1) + 1) + 1) + 1) + 1) + 1) + 1) + 1) + 1) + 1) + 1) + 1) + 1) + 1) + 1)) a0 25 (some (((((((((((((((N + 1) + 1) + 1) + 1) + 1) + 1) + 1) + 1) + 1) + 1) + 1) + 1) + 1) + 1) + 1))) ((((((((((((((((N + 1) + 1) + 1) + 1) + 1) + 1) + 1) + 1) + 1) + 1) + 1) + 1) + 1) + 1) + 1) + 1)) a0 27 (some ((((((((((((((((N + 1) + 1) + 1) + 1) + 1) + 1) + 1) + 1) + 1) + 1) + 1) + 1) + 1) + 1) + 1) + 1))) (((((((((((((((((N + 1) + 1) + 1) + 1) + 1) + 1) + 1) + 1) + 1) + 1) + 1) + 1) + 1) + 1) + 1) + 1) + 1)) a0 28 (some (((((((((((((((((N + 1) + 1) + 1) + 1) + 1) + 1) + 1) + 1) + 1) + 1) + 1) + 1) + 1) + 1) + 1) + 1) + 1))) ((((((((((((((((((N + 1) + 1) + 1) + 1) + 1) + 1) + 1) + 1) + 1) + 1) + 1) + 1) + 1) + 1) + 1) + 1) + 1) + 1)) a0 29 (some ((((((((((((((((((N + 1) + 1) + 1) + 1) + 1) + 1) + 1) + 1) + 1) + 1) + 1) + 1) + 1) + 1) + 1) + 1) + 1) + 1))) a0 32 63) (((((((((((((((((((N + 1) + 1) + 1) + 1) + 1) + 1) + 1) + 1) + 1) + 1) + 1) + 1) + 1) + 1) + 1) + 1) + 1) + 1) + 1)) a0 33 (some (((((((((((((((((((N + 1) + 1) + 1) + 1) + 1) + 1) + 1) + 1) + 1) + 1) + 1) + 1) + 1) + 1) + 1) + 1) + 1) + 1) + 1))) ((((((((((((((((((((N + 1) + 1) + 1) + 1) + 1) + 1) + 1) + 1) + 1) + 1) + 1) + 1) + 1) + 1) + 1) + 1) + 1) + 1) + 1) + 1)) : jv_J g (d + 1) mt_M_init 0 [some (.ref a0)] [] M N cr sr Z := by
  refine jv_aload_n d_M_init_0 rfl rfl ?_
  refine jv_objI d_M_init_1 oi_M_1 oi_w2 oi_w3 (Nat.le_of_ble_eq_true rfl) ?_
  refine jv_aload_n d_M_init_4 rfl rfl ?_
  refine jv_sipush (v := 150) d_M_init_5 (by decide) ?_
  obtain ⟨q1, q2, q3, h⟩ := h
  refine jv_newI (n := 150) d_M_init_8 arr_int (by decide) (by decide) (by decide) q1 (Nat.sub_add_cancel q2) (Nat.sub_add_cancel q3) ?_
  obtain ⟨q4, h⟩ := h
  refine jv_putR d_M_init_10 fl_M_7 rfl (fun r hr => by cases hr; exact Or.inr ⟨rfl, rfl, rfl⟩) q4 ?_
  refine jv_aload_n d_M_init_13 rfl rfl ?_
  refine jv_bipush (v := 16) d_M_init_14 (by decide) ?_
  obtain ⟨q5, q6, q7, h⟩ := h
  refine jv_newI (n := 16) d_M_init_16 arr_int (by decide) (by decide) (by decide) q5 (Nat.sub_add_cancel q6) (Nat.sub_add_cancel q7) ?_
  obtain ⟨q8, h⟩ := h
  refine jv_putR d_M_init_18 fl_M_13 rfl (fun r hr => by cases hr; exact Or.inr ⟨rfl, rfl, rfl⟩) q8 ?_
  refine jv_aload_n d_M_init_21 rfl rfl ?_
  refine jv_iconst (v := 4) d_M_init_22 (by decide) ?_
  obtain ⟨q9, q10, q11, h⟩ := h
  refine jv_newI (n := 4) d_M_init_23 arr_int (by decide) (by decide) (by decide) q9 (Nat.sub_add_cancel q10) (Nat.sub_add_cancel q11) ?_
  obtain ⟨q12, h⟩ := h
  refine jv_putR d_M_init_25 fl_M_16 rfl (fun r hr => by cases hr; exact Or.inr ⟨rfl, rfl, rfl⟩) q12 ?_
  refine jv_aload_n d_M_init_28 rfl rfl ?_
  refine jv_iconst (v := 4) d_M_init_29 (by decide) ?_
  obtain ⟨q13, q14, q15, h⟩ := h
  refine jv_newI (n := 4) d_M_init_30 arr_int (by decide) (by decide) (by decide) q13 (Nat.sub_add_cancel q14) (Nat.sub_add_cancel q15) ?_
  obtain ⟨q16, h⟩ := h
  refine jv_putR d_M_init_32 fl_M_19 rfl (fun r hr => by cases hr; exact Or.inr ⟨rfl, rfl, rfl⟩) q16 ?_
  refine jv_aload_n d_M_init_35 rfl rfl ?_
  refine jv_bipush (v := 6) d_M_init_36 (by decide) ?_
  obtain ⟨q17, q18, q19, h⟩ := h
  refine jv_newI (n := 6) d_M_init_38 arr_int (by decide) (by decide) (by decide) q17 (Nat.sub_add_cancel q18) (Nat.sub_add_cancel q19) ?_
  obtain ⟨q20, h⟩ := h
  refine jv_putR d_M_init_40 fl_M_22 rfl (fun r hr => by cases hr; exact Or.inr ⟨rfl, rfl, rfl⟩) q20 ?_
  refine jv_aload_n d_M_init_43 rfl rfl ?_
  refine jv_bipush (v := 16) d_M_init_44 (by decide) ?_
  obtain ⟨q21, q22, q23, h⟩ := h
  refine jv_newI (n := 16) d_M_init_46 arr_int (by decide) (by decide) (by decide) q21 (Nat.sub_add_cancel q22) (Nat.sub_add_cancel q23) ?_
  obtain ⟨q24, h⟩ := h
  refine jv_putR d_M_init_48 fl_M_25 rfl (fun r hr => by cases hr; exact Or.inr ⟨rfl, rfl, rfl⟩) q24 ?_
  refine jv_aload_n d_M_init_51 rfl rfl ?_
  refine jv_iconst (v := 4) d_M_init_52 (by decide) ?_
  obtain ⟨q25, q26, q27, h⟩ := h
  refine jv_newI (n := 4) d_M_init_53 arr_int (by decide) (by decide) (by decide) q25 (Nat.sub_add_cancel q26) (Nat.sub_add_cancel q27) ?_
  obtain ⟨q28, h⟩ := h
  refine jv_putR d_M_init_55 fl_M_28 rfl (fun r hr => by cases hr; exact Or.inr ⟨rfl, rfl, rfl⟩) q28 ?_
  refine jv_aload_n d_M_init_58 rfl rfl ?_
  refine jv_iconst (v := 4) d_M_init_59 (by decide) ?_
  obtain ⟨q29, q30, q31, h⟩ := h
  refine jv_newI (n := 4) d_M_init_60 arr_int (by decide) (by decide) (by decide) q29 (Nat.sub_add_cancel q30) (Nat.sub_add_cancel q31) ?_
  obtain ⟨q32, h⟩ := h
  refine jv_putR d_M_init_62 fl_M_31 rfl (fun r hr => by cases hr; exact Or.inr ⟨rfl, rfl, rfl⟩) q32 ?_
  refine jv_aload_n d_M_init_65 rfl rfl ?_
  refine jv_bipush (v := 6) d_M_init_66 (by decide) ?_
  obtain ⟨q33, q34, q35, h⟩ := h
  refine jv_newI (n := 6) d_M_init_68 arr_int (by decide) (by decide) (by decide) q33 (Nat.sub_add_cancel q34) (Nat.sub_add_cancel q35) ?_
  obtain ⟨q36, h⟩ := h
  refine jv_putR d_M_init_70 fl_M_34 rfl (fun r hr => by cases hr; exact Or.inr ⟨rfl, rfl, rfl⟩) q36 ?_
  refine jv_aload_n d_M_init_73 rfl rfl ?_
  refine jv_sipush (v := 165) d_M_init_74 (by decide) ?_
  obtain ⟨q37, q38, q39, h⟩ := h
  refine jv_newI (n := 165) d_M_init_77 arr_int (by decide) (by decide) (by decide) q37 (Nat.sub_add_cancel q38) (Nat.sub_add_cancel q39) ?_
  obtain ⟨q40, h⟩ := h
  refine jv_putR d_M_init_79 fl_M_37 rfl (fun r hr => by cases hr; exact Or.inr ⟨rfl, rfl, rfl⟩) q40 ?_
  refine jv_aload_n d_M_init_82 rfl rfl ?_
  refine jv_sipush (v := 165) d_M_init_83 (by decide) ?_
  obtain ⟨q41, q42, q43, h⟩ := h
  refine jv_newI (n := 165) d_M_init_86 arr_int (by decide) (by decide) (by decide) q41 (Nat.sub_add_cancel q42) (Nat.sub_add_cancel q43) ?_
  obtain ⟨q44, h⟩ := h
  refine jv_putR d_M_init_88 fl_M_40 rfl (fun r hr => by cases hr; exact Or.inr ⟨rfl, rfl, rfl⟩) q44 ?_
  refine jv_aload_n d_M_init_91 rfl rfl ?_
  refine jv_sipush (v := 165) d_M_init_92 (by decide) ?_
  obtain ⟨q45, q46, q47, h⟩ := h
  refine jv_newI (n := 165) d_M_init_95 arr_int (by decide) (by decide) (by decide) q45 (Nat.sub_add_cancel q46) (Nat.sub_add_cancel q47) ?_
  obtain ⟨q48, h⟩ := h
  refine jv_putR d_M_init_97 fl_M_43 rfl (fun r hr => by cases hr; exact Or.inr ⟨rfl, rfl, rfl⟩) q48 ?_
  refine jv_aload_n d_M_init_100 rfl rfl ?_
  refine jv_sipush (v := 165) d_M_init_101 (by decide) ?_
  obtain ⟨q49, q50, q51, h⟩ := h
  refine jv_newI (n := 165) d_M_init_104 arr_int (by decide) (by decide) (by decide) q49 (Nat.sub_add_cancel q50) (Nat.sub_add_cancel q51) ?_
  obtain ⟨q52, h⟩ := h
  refine jv_putR d_M_init_106 fl_M_46 rfl (fun r hr => by cases hr; exact Or.inr ⟨rfl, rfl, rfl⟩) q52 ?_
  refine jv_aload_n d_M_init_109 rfl rfl ?_
  refine jv_sipush (v := 2310) d_M_init_110 (by decide) ?_
  obtain ⟨q53, q54, q55, h⟩ := h
  refine jv_newI (n := 2310) d_M_init_113 arr_int (by decide) (by decide) (by decide) q53 (Nat.sub_add_cancel q54) (Nat.sub_add_cancel q55) ?_
  obtain ⟨q56, h⟩ := h
  refine jv_putR d_M_init_115 fl_M_49 rfl (fun r hr => by cases hr; exact Or.inr ⟨rfl, rfl, rfl⟩) q56 ?_
  refine jv_aload_n d_M_init_118 rfl rfl ?_
  refine jv_sipush (v := 330) d_M_init_119 (by decide) ?_
  obtain ⟨q57, q58, q59, h⟩ := h
  refine jv_newI (n := 330) d_M_init_122 arr_int (by decide) (by decide) (by decide) q57 (Nat.sub_add_cancel q58) (Nat.sub_add_cancel q59) ?_
  obtain ⟨q60, h⟩ := h
  refine jv_putR d_M_init_124 fl_M_52 rfl (fun r hr => by cases hr; exact Or.inr ⟨rfl, rfl, rfl⟩) q60 ?_
  refine jv_aload_n d_M_init_127 rfl rfl ?_
  refine jv_iconst (v := 2) d_M_init_128 (by decide) ?_
  obtain ⟨q61, q62, q63, h⟩ := h
  refine jv_newZ (n := 2) d_M_init_129 arr_boolean (by decide) (by decide) (by decide) q61 (Nat.sub_add_cancel q62) (Nat.sub_add_cancel q63) ?_
  obtain ⟨q64, h⟩ := h
  refine jv_putR d_M_init_131 fl_M_55 rfl (fun r hr => by cases hr; exact Or.inr ⟨rfl, rfl, rfl⟩) q64 ?_
  refine jv_aload_n d_M_init_134 rfl rfl ?_
  refine jv_bipush (v := 6) d_M_init_135 (by decide) ?_
  obtain ⟨q65, q66, q67, h⟩ := h
  refine jv_newI (n := 6) d_M_init_137 arr_int (by decide) (by decide) (by decide) q65 (Nat.sub_add_cancel q66) (Nat.sub_add_cancel q67) ?_
  obtain ⟨q68, h⟩ := h
  refine jv_putR d_M_init_139 fl_M_59 rfl (fun r hr => by cases hr; exact Or.inr ⟨rfl, rfl, rfl⟩) q68 ?_
  refine jv_aload_n d_M_init_142 rfl rfl ?_
  refine jv_bipush (v := 6) d_M_init_143 (by decide) ?_
  obtain ⟨q69, q70, q71, h⟩ := h
  refine jv_newI (n := 6) d_M_init_145 arr_int (by decide) (by decide) (by decide) q69 (Nat.sub_add_cancel q70) (Nat.sub_add_cancel q71) ?_
  obtain ⟨q72, h⟩ := h
  refine jv_putR d_M_init_147 fl_M_62 rfl (fun r hr => by cases hr; exact Or.inr ⟨rfl, rfl, rfl⟩) q72 ?_
  refine jv_aload_n d_M_init_150 rfl rfl ?_
  refine jv_bipush (v := 6) d_M_init_151 (by decide) ?_
  obtain ⟨q73, q74, q75, h⟩ := h
  refine jv_newI (n := 6) d_M_init_153 arr_int (by decide) (by decide) (by decide) q73 (Nat.sub_add_cancel q74) (Nat.sub_add_cancel q75) ?_
  obtain ⟨q76, h⟩ := h
  refine jv_putR d_M_init_155 fl_M_65 rfl (fun r hr => by cases hr; exact Or.inr ⟨rfl, rfl, rfl⟩) q76 ?_
  refine jv_aload_n d_M_init_158 rfl rfl ?_
  refine jv_bipush (v := 63) d_M_init_159 (by decide) ?_
  obtain ⟨q77, h⟩ := h
  refine jv_putI d_M_init_161 fl_M_68 (fun r hr => by cases hr; rfl) rfl q77 ?_
  refine jv_aload_n d_M_init_164 rfl rfl ?_
  refine jv_bipush (v := 64) d_M_init_165 (by decide) ?_
  obtain ⟨q78, q79, q80, h⟩ := h
  refine jv_newI (n := 64) d_M_init_167 arr_int (by decide) (by decide) (by decide) q78 (Nat.sub_add_cancel q79) (Nat.sub_add_cancel q80) ?_
  obtain ⟨q81, h⟩ := h
  refine jv_putR d_M_init_169 fl_M_72 rfl (fun r hr => by cases hr; exact Or.inr ⟨rfl, rfl, rfl⟩) q81 ?_
  exact jv_ret d_M_init_172 rfl h
theorem b_M_write_0 {g : jv_G} {d : Nat} {M : jv_Mem} {N cr sr : Nat} {Z : Option Value → jv_Mem → Nat → Prop} {a0 : Nat} {x1 : Int32} (h : jv_Tg 10 a0 N ∧ jv_Ct g d mt_M_in [.long (Int32.toInt64 x1), .long 0, .long 255] (jv_si M a0 0 0) N 0 0 (fun v M3 N3 => jv_ri v (fun r2 => (r2 ≠ 0 → jv_Tg 10 a0 N3 ∧ ((Prod.fst M3 a0 2) ≠ 150 → jv_Tg 10 a0 N3 ∧ ∃ b6, Prod.fst (Prod.snd M3) a0 1 = some b6 ∧ jv_Tg 10 a0 N3 ∧ jv_Tg 11 b6 N3 ∧ vp_in (Prod.fst M3 a0 2) (jv_sh b6).2 ∧ jv_Tg 10 a0 N3 ∧ jv_Tg 10 a0 N3 ∧ jv_Tg 10 a0 N3 ∧ Z (some (.int (Prod.fst (jv_si (jv_si M3 b6 (Int32.toNatClampNeg (Prod.fst M3 a0 2)) x1) a0 2 ((Prod.fst (jv_si M3 b6 (Int32.toNatClampNeg (Prod.fst M3 a0 2)) x1) a0 2) + 1)) a0 2))) (jv_si (jv_si M3 b6 (Int32.toNatClampNeg (Prod.fst M3 a0 2)) x1) a0 2 ((Prod.fst (jv_si M3 b6 (Int32.toNatClampNeg (Prod.fst M3 a0 2)) x1) a0 2) + 1)) N3) ∧ ((Prod.fst M3 a0 2) = 150 → Z (some (.int (-4))) M3 N3)) ∧ (r2 = 0 → Z (some (.int (-2))) M3 N3)))) : jv_J g (d + 1) mt_M_write 0 [some (.ref a0), some (.int x1)] [] M N cr sr Z := by
  refine jv_aload_n d_M_write_0 rfl rfl ?_
  refine jv_iconst (v := 0) d_M_write_1 (by decide) ?_
  obtain ⟨q1, h⟩ := h
  refine jv_putI d_M_write_2 fl_M_75 (fun r hr => by cases hr; rfl) rfl q1 ?_
  refine jv_iload_n d_M_write_5 rfl rfl ?_
  refine jv_i2l d_M_write_6 ?_
  refine jv_lconst (v := 0) d_M_write_7 (by decide) ?_
  refine jv_ldc2 d_M_write_8 co_M_85 ?_
  refine jv_invS [.long (Int32.toInt64 x1), .long 0, .long 255] [] d_M_write_11 ml_M_81 rfl (Nat.le_of_ble_eq_true rfl) (Nat.zero_add _) (Nat.zero_add _) (jv_Ct.mono h (fun v M3 N3 h => ?_))
  obtain ⟨r2, rfl, h⟩ := h
  change jv_J g (d + 1) mt_M_write 14 [some (.ref a0), some (.int x1)] [.int r2] M3 N3 cr sr Z
  refine jv_if_ne (tgt := 20) d_M_write_14 (by decide) ⟨fun c => ?_, fun c => ?_⟩
  · replace h := h.1 c
    refine jv_aload_n d_M_write_20 rfl rfl ?_
    obtain ⟨q4, h⟩ := h
    refine jv_getI d_M_write_21 fl_M_87 rfl q4 ?_
    refine jv_sipush (v := 150) d_M_write_24 (by decide) ?_
    refine jv_icmp_ne (tgt := 33) d_M_write_27 (by decide) ⟨fun c => ?_, fun c => ?_⟩
    · replace h := h.1 c
      refine jv_aload_n d_M_write_33 rfl rfl ?_
      obtain ⟨q5, h⟩ := h
      obtain ⟨b6, e7, h⟩ := h
      refine jv_getR d_M_write_34 fl_M_7 rfl q5 e7 ?_
      refine jv_aload_n d_M_write_37 rfl rfl ?_
      obtain ⟨q8, h⟩ := h
      refine jv_getI d_M_write_38 fl_M_87 rfl q8 ?_
      refine jv_iload_n d_M_write_41 rfl rfl ?_
      obtain ⟨q9, q10, h⟩ := h
      refine jv_iast d_M_write_42 q9 q10 ?_
      refine jv_aload_n d_M_write_43 rfl rfl ?_
      refine jv_dup d_M_write_44 rfl ?_
      obtain ⟨q11, h⟩ := h
      refine jv_getI d_M_write_45 fl_M_87 rfl q11 ?_
      refine jv_iconst (v := 1) d_M_write_48 (by decide) ?_
      refine jv_iadd d_M_write_49 ?_
      obtain ⟨q12, h⟩ := h
      refine jv_putI d_M_write_50 fl_M_87 (fun r hr => by cases hr; rfl) rfl q12 ?_
      refine jv_aload_n d_M_write_53 rfl rfl ?_
      obtain ⟨q13, h⟩ := h
      refine jv_getI d_M_write_54 fl_M_87 rfl q13 ?_
      exact jv_iret d_M_write_57 rfl rfl h
    · replace h := h.2 c
      refine jv_bipush (v := (-4)) d_M_write_30 (by decide) ?_
      exact jv_iret d_M_write_32 rfl rfl h
  · replace h := h.2 c
    refine jv_bipush (v := (-2)) d_M_write_17 (by decide) ?_
    exact jv_iret d_M_write_19 rfl rfl h
theorem b_M_in_0 {g : jv_G} {d : Nat} {M : jv_Mem} {N cr sr : Nat} {Z : Option Value → jv_Mem → Nat → Prop} {l0 : Int64} {l2 : Int64} {l4 : Int64} (h : ((lg_cmp l0 l2) < 0 → Z (some (.int 0)) M N) ∧ (¬ ((lg_cmp l0 l2) < 0) → (0 < (lg_cmp l0 l4) → Z (some (.int 0)) M N) ∧ (¬ (0 < (lg_cmp l0 l4)) → Z (some (.int 1)) M N))) : jv_J g d mt_M_in 0 [some (.long l0), none, some (.long l2), none, some (.long l4), none] [] M N cr sr Z := by
  refine jv_lload_n d_M_in_0 rfl rfl ?_
  refine jv_lload_n d_M_in_1 rfl rfl ?_
  refine jv_lcmp d_M_in_2 ?_
  refine jv_if_lt (tgt := 17) d_M_in_3 (by decide) ⟨fun c => ?_, fun c => ?_⟩
  · replace h := h.1 c
    refine jv_iconst (v := 0) d_M_in_17 (by decide) ?_
    exact jv_iret d_M_in_18 rfl (jv_nz (by decide)) h
  · replace h := h.2 c
    refine jv_lload_n d_M_in_6 rfl rfl ?_
    refine jv_lload d_M_in_7 rfl ?_
    refine jv_lcmp d_M_in_9 ?_
    refine jv_if_gt (tgt := 17) d_M_in_10 (by decide) ⟨fun c => ?_, fun c => ?_⟩
    · replace h := h.1 c
      refine jv_iconst (v := 0) d_M_in_17 (by decide) ?_
      exact jv_iret d_M_in_18 rfl (jv_nz (by decide)) h
    · replace h := h.2 c
      refine jv_iconst (v := 1) d_M_in_13 (by decide) ?_
      refine jv_goto (tgt := 18) d_M_in_14 (by decide) ?_
      exact jv_iret d_M_in_18 rfl (jv_nz (by decide)) h
theorem b_M_wipe_0 {g : jv_G} {d : Nat} {M : jv_Mem} {N cr sr : Nat} {Z : Option Value → jv_Mem → Nat → Prop} {a0 : Nat} (h : jv_Tg 10 a0 N ∧ jv_Tg 10 a0 N ∧ jv_Tg 10 a0 N ∧ Z (some (.int (Prod.fst (jv_si M a0 0 0) a0 2))) (jv_si (jv_si M a0 0 0) a0 2 0) N) : jv_J g d mt_M_wipe 0 [some (.ref a0), none] [] M N cr sr Z := by
  refine jv_aload_n d_M_wipe_0 rfl rfl ?_
  refine jv_iconst (v := 0) d_M_wipe_1 (by decide) ?_
  obtain ⟨q1, h⟩ := h
  refine jv_putI d_M_wipe_2 fl_M_75 (fun r hr => by cases hr; rfl) rfl q1 ?_
  refine jv_aload_n d_M_wipe_5 rfl rfl ?_
  obtain ⟨q2, h⟩ := h
  refine jv_getI d_M_wipe_6 fl_M_87 rfl q2 ?_
  refine jv_istore_n (L' := [some (.ref a0), some (.int (Prod.fst (jv_si M a0 0 0) a0 2))]) d_M_wipe_9 rfl (Nat.le_of_ble_eq_true rfl) rfl ?_
  refine jv_aload_n d_M_wipe_10 rfl rfl ?_
  refine jv_iconst (v := 0) d_M_wipe_11 (by decide) ?_
  obtain ⟨q3, h⟩ := h
  refine jv_putI d_M_wipe_12 fl_M_87 (fun r hr => by cases hr; rfl) rfl q3 ?_
  refine jv_iload_n d_M_wipe_15 rfl rfl ?_
  exact jv_iret d_M_wipe_16 rfl rfl h
theorem b_M_fault_0 {g : jv_G} {d : Nat} {M : jv_Mem} {N cr sr : Nat} {Z : Option Value → jv_Mem → Nat → Prop} {a0 : Nat} (h : jv_Tg 10 a0 N ∧ jv_Tg 10 a0 N ∧ jv_Ct g d mt_M_readBoard [.ref a0] (jv_si M a0 0 0) N 0 0 (fun v M4 N4 => jv_ri v (fun r3 => Z (some (.int r3)) M4 N4))) : jv_J g (d + 1) mt_M_fault 0 [some (.ref a0)] [] M N cr sr Z := by
  refine jv_aload_n d_M_fault_0 rfl rfl ?_
  refine jv_iconst (v := 0) d_M_fault_1 (by decide) ?_
  obtain ⟨q1, h⟩ := h
  refine jv_putI d_M_fault_2 fl_M_75 (fun r hr => by cases hr; rfl) rfl q1 ?_
  refine jv_aload_n d_M_fault_5 rfl rfl ?_
  obtain ⟨q2, h⟩ := h
  refine jv_invV [] [] d_M_fault_6 ml_M_127 q2 rfl (Nat.le_of_ble_eq_true rfl) (Nat.zero_add _) (Nat.zero_add _) (jv_Ct.mono h (fun v M4 N4 h => ?_))
  obtain ⟨r3, rfl, h⟩ := h
  change jv_J g (d + 1) mt_M_fault 9 [some (.ref a0)] [.int r3] M4 N4 cr sr Z
  exact jv_iret d_M_fault_9 rfl rfl h
theorem b_M_readBoard_0 {g : jv_G} {d : Nat} {M : jv_Mem} {N cr sr : Nat} {Z : Option Value → jv_Mem → Nat → Prop} {a0 : Nat} (h : jv_Tg 10 a0 N ∧ jv_Tg 10 a0 N ∧ jv_Tg 10 a0 N ∧ jv_J g (d + 1) mt_M_readBoard 17 [some (.ref a0), some (.int 0)] [] (jv_si (jv_si (jv_si M a0 11 0) a0 13 0) a0 16 0) N cr sr Z) : jv_J g (d + 1) mt_M_readBoard 0 [some (.ref a0), none] [] M N cr sr Z := by
  refine jv_aload_n d_M_readBoard_0 rfl rfl ?_
  refine jv_iconst (v := 0) d_M_readBoard_1 (by decide) ?_
  obtain ⟨q1, h⟩ := h
  refine jv_putI d_M_readBoard_2 fl_M_93 (fun r hr => by cases hr; rfl) rfl q1 ?_
  refine jv_aload_n d_M_readBoard_5 rfl rfl ?_
  refine jv_iconst (v := 0) d_M_readBoard_6 (by decide) ?_
  obtain ⟨q2, h⟩ := h
  refine jv_putI d_M_readBoard_7 fl_M_107 (fun r hr => by cases hr; rfl) rfl q2 ?_
  refine jv_aload_n d_M_readBoard_10 rfl rfl ?_
  refine jv_iconst (v := 0) d_M_readBoard_11 (by decide) ?_
  obtain ⟨q3, h⟩ := h
  refine jv_putI d_M_readBoard_12 fl_M_110 (fun r hr => by cases hr; rfl) rfl q3 ?_
  refine jv_iconst (v := 0) d_M_readBoard_15 (by decide) ?_
  refine jv_istore_n (L' := [some (.ref a0), some (.int 0)]) d_M_readBoard_16 rfl (Nat.le_of_ble_eq_true rfl) rfl ?_
  exact h
theorem b_M_readBoard_17 {g : jv_G} {d : Nat} {M : jv_Mem} {N cr sr : Nat} {Z : Option Value → jv_Mem → Nat → Prop} {a0 : Nat} {x1 : Int32} (h : (165 ≤ x1 → jv_Tg 10 a0 N ∧ ((Prod.fst M a0 2) = 0 → Z (some (.int 0)) M N) ∧ (¬ ((Prod.fst M a0 2) = 0) → jv_Tg 10 a0 N ∧ ∃ b3, Prod.fst (Prod.snd M) a0 1 = some b3 ∧ jv_Tg 11 b3 N ∧ vp_in 0 (jv_sh b3).2 ∧ ((Prod.fst M b3 (Int32.toNatClampNeg 0)) = 82 → jv_Tg 10 a0 N ∧ jv_J g (d + 1) mt_M_readBoard 62 [some (.ref a0), none] [] (jv_si M a0 3 1) N cr sr Z) ∧ (¬ ((Prod.fst M b3 (Int32.toNatClampNeg 0)) = 82) → Z (some (.int 0)) M N))) ∧ (¬ (165 ≤ x1) → jv_Tg 10 a0 N ∧ ∃ b9, Prod.fst (Prod.snd M) a0 18 = some b9 ∧ jv_Tg 11 b9 N ∧ vp_in x1 (jv_sh b9).2 ∧ jv_J g (d + 1) mt_M_readBoard 17 [some (.ref a0), some (.int (x1 + 1))] [] (jv_si M b9 (Int32.toNatClampNeg x1) 0) N cr sr Z)) : jv_J g (d + 1) mt_M_readBoard 17 [some (.ref a0), some (.int x1)] [] M N cr sr Z := by
  refine jv_iload_n d_M_readBoard_17 rfl rfl ?_
  refine jv_sipush (v := 165) d_M_readBoard_18 (by decide) ?_
  refine jv_icmp_ge (tgt := 37) d_M_readBoard_21 (by decide) ⟨fun c => ?_, fun c => ?_⟩
  · replace h := h.1 c
    refine jv_aload_n d_M_readBoard_37 rfl rfl ?_
    obtain ⟨q1, h⟩ := h
    refine jv_getI d_M_readBoard_38 fl_M_87 rfl q1 ?_
    refine jv_if_eq (tgt := 55) d_M_readBoard_41 (by decide) ⟨fun c => ?_, fun c => ?_⟩
    · replace h := h.1 c
      refine jv_iconst (v := 0) d_M_readBoard_55 (by decide) ?_
      exact jv_iret d_M_readBoard_56 rfl rfl h
    · replace h := h.2 c
      refine jv_aload_n d_M_readBoard_44 rfl rfl ?_
      obtain ⟨q2, h⟩ := h
      obtain ⟨b3, e4, h⟩ := h
      refine jv_getR d_M_readBoard_45 fl_M_7 rfl q2 e4 ?_
      refine jv_iconst (v := 0) d_M_readBoard_48 (by decide) ?_
      obtain ⟨q5, q6, h⟩ := h
      refine jv_iald d_M_readBoard_49 q5 q6 ?_
      refine jv_bipush (v := 82) d_M_readBoard_50 (by decide) ?_
      refine jv_icmp_eq (tgt := 57) d_M_readBoard_52 (by decide) ⟨fun c => ?_, fun c => ?_⟩
      · replace h := h.1 c
        refine jv_aload_n d_M_readBoard_57 rfl rfl ?_
        refine jv_iconst (v := 1) d_M_readBoard_58 (by decide) ?_
        obtain ⟨q7, h⟩ := h
        refine jv_putI d_M_readBoard_59 fl_M_90 (fun r hr => by cases hr; rfl) rfl q7 ?_
        refine jv_weak (L' := [some (.ref a0), none]) (by simp [jv_le]) ?_
        exact h
      · replace h := h.2 c
        refine jv_iconst (v := 0) d_M_readBoard_55 (by decide) ?_
        exact jv_iret d_M_readBoard_56 rfl rfl h
  · replace h := h.2 c
    refine jv_aload_n d_M_readBoard_24 rfl rfl ?_
    obtain ⟨q8, h⟩ := h
    obtain ⟨b9, e10, h⟩ := h
    refine jv_getR d_M_readBoard_25 fl_M_37 rfl q8 e10 ?_
    refine jv_iload_n d_M_readBoard_28 rfl rfl ?_
    refine jv_iconst (v := 0) d_M_readBoard_29 (by decide) ?_
    obtain ⟨q11, q12, h⟩ := h
    refine jv_iast d_M_readBoard_30 q11 q12 ?_
    refine jv_iinc (v := (x1 + 1)) (L' := [some (.ref a0), some (.int (x1 + 1))]) d_M_readBoard_31 rfl rfl (Nat.le_of_ble_eq_true rfl) rfl ?_
    refine jv_goto (tgt := 17) d_M_readBoard_34 (by decide) ?_
    exact h
theorem b_M_readBoard_62 {g : jv_G} {d : Nat} {M : jv_Mem} {N cr sr : Nat} {Z : Option Value → jv_Mem → Nat → Prop} {a0 : Nat} (h : jv_Tg 10 a0 N ∧ jv_Tg 10 a0 N ∧ ((Prod.fst M a0 2) ≤ (Prod.fst M a0 3) → Z (some (.int (-9))) M N) ∧ (¬ ((Prod.fst M a0 2) ≤ (Prod.fst M a0 3)) → jv_Tg 10 a0 N ∧ jv_Ct g d mt_M_readPart [.ref a0] M N 0 0 (fun v M5 N5 => jv_ri v (fun r4 => (r4 ≠ 0 → jv_J g (d + 1) mt_M_readBoard 62 [some (.ref a0), none] [] M5 N5 cr sr Z) ∧ (r4 = 0 → jv_Tg 10 a0 N5 ∧ Z (some (.int (Prod.fst M5 a0 3))) M5 N5))))) : jv_J g (d + 1) mt_M_readBoard 62 [some (.ref a0), none] [] M N cr sr Z := by
  refine jv_aload_n d_M_readBoard_62 rfl rfl ?_
  obtain ⟨q1, h⟩ := h
  refine jv_getI d_M_readBoard_63 fl_M_90 rfl q1 ?_
  refine jv_aload_n d_M_readBoard_66 rfl rfl ?_
  obtain ⟨q2, h⟩ := h
  refine jv_getI d_M_readBoard_67 fl_M_87 rfl q2 ?_
  refine jv_icmp_ge (tgt := 85) d_M_readBoard_70 (by decide) ⟨fun c => ?_, fun c => ?_⟩
  · replace h := h.1 c
    refine jv_bipush (v := (-9)) d_M_readBoard_85 (by decide) ?_
    exact jv_iret d_M_readBoard_87 rfl rfl h
  · replace h := h.2 c
    refine jv_aload_n d_M_readBoard_73 rfl rfl ?_
    obtain ⟨q3, h⟩ := h
    refine jv_invV [] [] d_M_readBoard_74 ml_M_124 q3 rfl (Nat.le_of_ble_eq_true rfl) (Nat.zero_add _) (Nat.zero_add _) (jv_Ct.mono h (fun v M5 N5 h => ?_))
    obtain ⟨r4, rfl, h⟩ := h
    change jv_J g (d + 1) mt_M_readBoard 77 [some (.ref a0), none] [.int r4] M5 N5 cr sr Z
    refine jv_if_ne (tgt := 62) d_M_readBoard_77 (by decide) ⟨fun c => ?_, fun c => ?_⟩
    · replace h := h.1 c
      exact h
    · replace h := h.2 c
      refine jv_aload_n d_M_readBoard_80 rfl rfl ?_
      obtain ⟨q6, h⟩ := h
      refine jv_getI d_M_readBoard_81 fl_M_90 rfl q6 ?_
      exact jv_iret d_M_readBoard_84 rfl rfl h
theorem b_M_readPart_0 {g : jv_G} {d : Nat} {M : jv_Mem} {N cr sr : Nat} {Z : Option Value → jv_Mem → Nat → Prop} {a0 : Nat} (h : jv_Tg 10 a0 N ∧ ∃ b2, Prod.fst (Prod.snd M) a0 1 = some b2 ∧ jv_Tg 10 a0 N ∧ jv_Tg 11 b2 N ∧ vp_in (Prod.fst M a0 3) (jv_sh b2).2 ∧ ((Prod.fst M b2 (Int32.toNatClampNeg (Prod.fst M a0 3))) = 84 → jv_Tg 10 a0 N ∧ jv_Ct g d mt_M_readTrigger [.ref a0, .int 1] M N 0 0 (fun v M10 N10 => jv_ri v (fun r9 => (r9 = 0 ∨ r9 = 1) ∧ Z (some (.int r9)) M10 N10))) ∧ ((Prod.fst M b2 (Int32.toNatClampNeg (Prod.fst M a0 3))) = 104 → jv_Tg 10 a0 N ∧ jv_Ct g d mt_M_readHart [.ref a0] M N 0 0 (fun v M13 N13 => jv_ri v (fun r12 => (r12 = 0 ∨ r12 = 1) ∧ Z (some (.int r12)) M13 N13))) ∧ ((Prod.fst M b2 (Int32.toNatClampNeg (Prod.fst M a0 3))) = 105 → jv_Tg 10 a0 N ∧ jv_Ct g d mt_M_readInstruction [.ref a0] M N 0 0 (fun v M16 N16 => jv_ri v (fun r15 => (r15 = 0 ∨ r15 = 1) ∧ Z (some (.int r15)) M16 N16))) ∧ ((Prod.fst M b2 (Int32.toNatClampNeg (Prod.fst M a0 3))) = 116 → jv_Tg 10 a0 N ∧ jv_Ct g d mt_M_readTrigger [.ref a0, .int 0] M N 0 0 (fun v M19 N19 => jv_ri v (fun r18 => (r18 = 0 ∨ r18 = 1) ∧ Z (some (.int r18)) M19 N19))) ∧ (((Prod.fst M b2 (Int32.toNatClampNeg (Prod.fst M a0 3))) ≠ 84 ∧ (Prod.fst M b2 (Int32.toNatClampNeg (Prod.fst M a0 3))) ≠ 104 ∧ (Prod.fst M b2 (Int32.toNatClampNeg (Prod.fst M a0 3))) ≠ 105 ∧ (Prod.fst M b2 (Int32.toNatClampNeg (Prod.fst M a0 3))) ≠ 116) → Z (some (.int 0)) M N)) : jv_J g (d + 1) mt_M_readPart 0 [some (.ref a0)] [] M N cr sr Z := by
  refine jv_aload_n d_M_readPart_0 rfl rfl ?_
  obtain ⟨q1, h⟩ := h
  obtain ⟨b2, e3, h⟩ := h
  refine jv_getR d_M_readPart_1 fl_M_7 rfl q1 e3 ?_
  refine jv_aload_n d_M_readPart_4 rfl rfl ?_
  obtain ⟨q4, h⟩ := h
  refine jv_getI d_M_readPart_5 fl_M_90 rfl q4 ?_
  obtain ⟨q5, q6, h⟩ := h
  refine jv_iald d_M_readPart_8 q5 q6 ?_
  have hD7 : ((Prod.fst M b2 (Int32.toNatClampNeg (Prod.fst M a0 3))) ≠ 84 ∧ (Prod.fst M b2 (Int32.toNatClampNeg (Prod.fst M a0 3))) ≠ 104 ∧ (Prod.fst M b2 (Int32.toNatClampNeg (Prod.fst M a0 3))) ≠ 105 ∧ (Prod.fst M b2 (Int32.toNatClampNeg (Prod.fst M a0 3))) ≠ 116) → jv_J g (d + 1) mt_M_readPart 74 [some (.ref a0)] [] M N cr sr Z := by
    intro c
    replace h := h.2.2.2.2 c
    refine jv_iconst (v := 0) d_M_readPart_74 (by decide) ?_
    exact jv_iret d_M_readPart_75 rfl (jv_nz (by decide)) h
  refine jv_lsw (dt := 74) [(84, 68), (104, 57), (105, 52), (116, 62)] d_M_readPart_9 (by decide) (by decide) (by decide) (fun q hq hx => ?_) (fun hq => ?_)
  · simp only [List.mem_cons, List.not_mem_nil, or_false] at hq
    rcases hq with rfl | rfl | rfl | rfl
    · replace h := h.1 hx
      refine jv_aload_n d_M_readPart_68 rfl rfl ?_
      refine jv_iconst (v := 1) d_M_readPart_69 (by decide) ?_
      obtain ⟨q8, h⟩ := h
      refine jv_invV [.int 1] [] d_M_readPart_70 ml_M_120 q8 rfl (Nat.le_of_ble_eq_true rfl) (Nat.zero_add _) (Nat.zero_add _) (jv_Ct.mono h (fun v M10 N10 h => ?_))
      obtain ⟨r9, rfl, h⟩ := h
      change jv_J g (d + 1) mt_M_readPart 73 [some (.ref a0)] [.int r9] M10 N10 cr sr Z
      exact jv_iret d_M_readPart_73 rfl (jv_nz h.1) h.2
    · replace h := h.2.1 hx
      refine jv_aload_n d_M_readPart_57 rfl rfl ?_
      obtain ⟨q11, h⟩ := h
      refine jv_invV [] [] d_M_readPart_58 ml_M_117 q11 rfl (Nat.le_of_ble_eq_true rfl) (Nat.zero_add _) (Nat.zero_add _) (jv_Ct.mono h (fun v M13 N13 h => ?_))
      obtain ⟨r12, rfl, h⟩ := h
      change jv_J g (d + 1) mt_M_readPart 61 [some (.ref a0)] [.int r12] M13 N13 cr sr Z
      exact jv_iret d_M_readPart_61 rfl (jv_nz h.1) h.2
    · replace h := h.2.2.1 hx
      refine jv_aload_n d_M_readPart_52 rfl rfl ?_
      obtain ⟨q14, h⟩ := h
      refine jv_invV [] [] d_M_readPart_53 ml_M_113 q14 rfl (Nat.le_of_ble_eq_true rfl) (Nat.zero_add _) (Nat.zero_add _) (jv_Ct.mono h (fun v M16 N16 h => ?_))
      obtain ⟨r15, rfl, h⟩ := h
      change jv_J g (d + 1) mt_M_readPart 56 [some (.ref a0)] [.int r15] M16 N16 cr sr Z
      exact jv_iret d_M_readPart_56 rfl (jv_nz h.1) h.2
    · replace h := h.2.2.2.1 hx
      refine jv_aload_n d_M_readPart_62 rfl rfl ?_
      refine jv_iconst (v := 0) d_M_readPart_63 (by decide) ?_
      obtain ⟨q17, h⟩ := h
      refine jv_invV [.int 0] [] d_M_readPart_64 ml_M_120 q17 rfl (Nat.le_of_ble_eq_true rfl) (Nat.zero_add _) (Nat.zero_add _) (jv_Ct.mono h (fun v M19 N19 h => ?_))
      obtain ⟨r18, rfl, h⟩ := h
      change jv_J g (d + 1) mt_M_readPart 67 [some (.ref a0)] [.int r18] M19 N19 cr sr Z
      exact jv_iret d_M_readPart_67 rfl (jv_nz h.1) h.2
  · exact hD7 ⟨hq _ (List.mem_of_getElem? (i := 0) rfl), hq _ (List.mem_of_getElem? (i := 1) rfl), hq _ (List.mem_of_getElem? (i := 2) rfl), hq _ (List.mem_of_getElem? (i := 3) rfl)⟩
theorem b_M_readInstruction_0 {g : jv_G} {d : Nat} {M : jv_Mem} {N cr sr : Nat} {Z : Option Value → jv_Mem → Nat → Prop} {a0 : Nat} (h : jv_Tg 10 a0 N ∧ ((Prod.fst M a0 11) ≠ 16 → jv_Tg 10 a0 N ∧ jv_Tg 10 a0 N ∧ jv_Tg 10 a0 N ∧ jv_Tg 10 a0 N ∧ ((Prod.fst (jv_si M a0 3 ((Prod.fst M a0 3) + 1)) a0 2) ≤ (Prod.fst (jv_si M a0 3 ((Prod.fst M a0 3) + 1)) a0 3) → jv_J g (d + 1) mt_M_readInstruction 48 [some (.ref a0), none, none] [.int 0] (jv_si M a0 3 ((Prod.fst M a0 3) + 1)) N cr sr Z) ∧ (¬ ((Prod.fst (jv_si M a0 3 ((Prod.fst M a0 3) + 1)) a0 2) ≤ (Prod.fst (jv_si M a0 3 ((Prod.fst M a0 3) + 1)) a0 3)) → jv_Tg 10 a0 N ∧ ∃ b7, Prod.fst (Prod.snd (jv_si M a0 3 ((Prod.fst M a0 3) + 1))) a0 1 = some b7 ∧ jv_Tg 10 a0 N ∧ jv_Tg 11 b7 N ∧ vp_in (Prod.fst (jv_si M a0 3 ((Prod.fst M a0 3) + 1)) a0 3) (jv_sh b7).2 ∧ jv_Ct g d mt_M_kindOf [.int (Prod.fst (jv_si M a0 3 ((Prod.fst M a0 3) + 1)) b7 (Int32.toNatClampNeg (Prod.fst (jv_si M a0 3 ((Prod.fst M a0 3) + 1)) a0 3)))] (jv_si M a0 3 ((Prod.fst M a0 3) + 1)) N 0 0 (fun v M13 N13 => jv_ri v (fun r12 => jv_J g (d + 1) mt_M_readInstruction 48 [some (.ref a0), none, none] [.int r12] M13 N13 cr sr Z)))) ∧ ((Prod.fst M a0 11) = 16 → Z (some (.int 0)) M N)) : jv_J g (d + 1) mt_M_readInstruction 0 [some (.ref a0), none, none] [] M N cr sr Z := by
  refine jv_aload_n d_M_readInstruction_0 rfl rfl ?_
  obtain ⟨q1, h⟩ := h
  refine jv_getI d_M_readInstruction_1 fl_M_93 rfl q1 ?_
  refine jv_bipush (v := 16) d_M_readInstruction_4 (by decide) ?_
  refine jv_icmp_ne (tgt := 11) d_M_readInstruction_6 (by decide) ⟨fun c => ?_, fun c => ?_⟩
  · replace h := h.1 c
    refine jv_aload_n d_M_readInstruction_11 rfl rfl ?_
    refine jv_dup d_M_readInstruction_12 rfl ?_
    obtain ⟨q2, h⟩ := h
    refine jv_getI d_M_readInstruction_13 fl_M_90 rfl q2 ?_
    refine jv_iconst (v := 1) d_M_readInstruction_16 (by decide) ?_
    refine jv_iadd d_M_readInstruction_17 ?_
    obtain ⟨q3, h⟩ := h
    refine jv_putI d_M_readInstruction_18 fl_M_90 (fun r hr => by cases hr; rfl) rfl q3 ?_
    refine jv_aload_n d_M_readInstruction_21 rfl rfl ?_
    obtain ⟨q4, h⟩ := h
    refine jv_getI d_M_readInstruction_22 fl_M_90 rfl q4 ?_
    refine jv_aload_n d_M_readInstruction_25 rfl rfl ?_
    obtain ⟨q5, h⟩ := h
    refine jv_getI d_M_readInstruction_26 fl_M_87 rfl q5 ?_
    refine jv_icmp_ge (tgt := 47) d_M_readInstruction_29 (by decide) ⟨fun c => ?_, fun c => ?_⟩
    · replace h := h.1 c
      refine jv_iconst (v := 0) d_M_readInstruction_47 (by decide) ?_
      exact h
    · replace h := h.2 c
      refine jv_aload_n d_M_readInstruction_32 rfl rfl ?_
      obtain ⟨q6, h⟩ := h
      obtain ⟨b7, e8, h⟩ := h
      refine jv_getR d_M_readInstruction_33 fl_M_7 rfl q6 e8 ?_
      refine jv_aload_n d_M_readInstruction_36 rfl rfl ?_
      obtain ⟨q9, h⟩ := h
      refine jv_getI d_M_readInstruction_37 fl_M_90 rfl q9 ?_
      obtain ⟨q10, q11, h⟩ := h
      refine jv_iald d_M_readInstruction_40 q10 q11 ?_
      refine jv_invS [.int (Prod.fst (jv_si M a0 3 ((Prod.fst M a0 3) + 1)) b7 (Int32.toNatClampNeg (Prod.fst (jv_si M a0 3 ((Prod.fst M a0 3) + 1)) a0 3)))] [] d_M_readInstruction_41 ml_M_96 rfl (Nat.le_of_ble_eq_true rfl) (Nat.zero_add _) (Nat.zero_add _) (jv_Ct.mono h (fun v M13 N13 h => ?_))
      obtain ⟨r12, rfl, h⟩ := h
      change jv_J g (d + 1) mt_M_readInstruction 44 [some (.ref a0), none, none] [.int r12] M13 N13 cr sr Z
      refine jv_goto (tgt := 48) d_M_readInstruction_44 (by decide) ?_
      exact h
  · replace h := h.2 c
    refine jv_iconst (v := 0) d_M_readInstruction_9 (by decide) ?_
    exact jv_iret d_M_readInstruction_10 rfl (jv_nz (by decide)) h
theorem b_M_readInstruction_48 {g : jv_G} {d : Nat} {M : jv_Mem} {N cr sr : Nat} {Z : Option Value → jv_Mem → Nat → Prop} {a0 : Nat} {y0 : Int32} (h : (y0 ≠ 0 → jv_Tg 10 a0 N ∧ jv_Tg 10 a0 N ∧ (7 ≤ y0 → jv_J g (d + 1) mt_M_readInstruction 102 [some (.ref a0), some (.int y0), some (.int (1000 * y0))] [] (jv_si M a0 3 ((Prod.fst M a0 3) + 1)) N cr sr Z) ∧ (¬ (7 ≤ y0) → jv_Tg 10 a0 N ∧ jv_Ct g d mt_M_isNext [.ref a0, .int 48, .int 0, .int 3] (jv_si M a0 3 ((Prod.fst M a0 3) + 1)) N 0 0 (fun v M5 N5 => jv_ri v (fun r4 => (r4 ≠ 0 → jv_Tg 10 a0 N5 ∧ jv_Ct g d mt_M_taken [.ref a0, .int 48] M5 N5 0 0 (fun v M8 N8 => jv_ri v (fun r7 => jv_J g (d + 1) mt_M_readInstruction 102 [some (.ref a0), some (.int y0), some (.int ((1000 * y0) + (100 * r7)))] [] M8 N8 cr sr Z))) ∧ (r4 = 0 → Z (some (.int 0)) M5 N5))))) ∧ (y0 = 0 → Z (some (.int 0)) M N)) : jv_J g (d + 1) mt_M_readInstruction 48 [some (.ref a0), none, none] [.int y0] M N cr sr Z := by
  refine jv_istore_n (L' := [some (.ref a0), some (.int y0), none]) d_M_readInstruction_48 rfl (Nat.le_of_ble_eq_true rfl) rfl ?_
  refine jv_iload_n d_M_readInstruction_49 rfl rfl ?_
  refine jv_if_ne (tgt := 55) d_M_readInstruction_50 (by decide) ⟨fun c => ?_, fun c => ?_⟩
  · replace h := h.1 c
    refine jv_aload_n d_M_readInstruction_55 rfl rfl ?_
    refine jv_dup d_M_readInstruction_56 rfl ?_
    obtain ⟨q1, h⟩ := h
    refine jv_getI d_M_readInstruction_57 fl_M_90 rfl q1 ?_
    refine jv_iconst (v := 1) d_M_readInstruction_60 (by decide) ?_
    refine jv_iadd d_M_readInstruction_61 ?_
    obtain ⟨q2, h⟩ := h
    refine jv_putI d_M_readInstruction_62 fl_M_90 (fun r hr => by cases hr; rfl) rfl q2 ?_
    refine jv_sipush (v := 1000) d_M_readInstruction_65 (by decide) ?_
    refine jv_iload_n d_M_readInstruction_68 rfl rfl ?_
    refine jv_imul d_M_readInstruction_69 ?_
    refine jv_istore_n (L' := [some (.ref a0), some (.int y0), some (.int (1000 * y0))]) d_M_readInstruction_70 rfl (Nat.le_of_ble_eq_true rfl) rfl ?_
    refine jv_iload_n d_M_readInstruction_71 rfl rfl ?_
    refine jv_bipush (v := 7) d_M_readInstruction_72 (by decide) ?_
    refine jv_icmp_ge (tgt := 102) d_M_readInstruction_74 (by decide) ⟨fun c => ?_, fun c => ?_⟩
    · replace h := h.1 c
      exact h
    · replace h := h.2 c
      refine jv_aload_n d_M_readInstruction_77 rfl rfl ?_
      refine jv_bipush (v := 48) d_M_readInstruction_78 (by decide) ?_
      refine jv_iconst (v := 0) d_M_readInstruction_80 (by decide) ?_
      refine jv_iconst (v := 3) d_M_readInstruction_81 (by decide) ?_
      obtain ⟨q3, h⟩ := h
      refine jv_invV [.int 48, .int 0, .int 3] [] d_M_readInstruction_82 ml_M_100 q3 rfl (Nat.le_of_ble_eq_true rfl) (Nat.zero_add _) (Nat.zero_add _) (jv_Ct.mono h (fun v M5 N5 h => ?_))
      obtain ⟨r4, rfl, h⟩ := h
      change jv_J g (d + 1) mt_M_readInstruction 85 [some (.ref a0), some (.int y0), some (.int (1000 * y0))] [.int r4] M5 N5 cr sr Z
      refine jv_if_ne (tgt := 90) d_M_readInstruction_85 (by decide) ⟨fun c => ?_, fun c => ?_⟩
      · replace h := h.1 c
        refine jv_iload_n d_M_readInstruction_90 rfl rfl ?_
        refine jv_bipush (v := 100) d_M_readInstruction_91 (by decide) ?_
        refine jv_aload_n d_M_readInstruction_93 rfl rfl ?_
        refine jv_bipush (v := 48) d_M_readInstruction_94 (by decide) ?_
        obtain ⟨q6, h⟩ := h
        refine jv_invV [.int 48] [.int 100, .int (1000 * y0)] d_M_readInstruction_96 ml_M_104 q6 rfl (Nat.le_of_ble_eq_true rfl) (Nat.zero_add _) (Nat.zero_add _) (jv_Ct.mono h (fun v M8 N8 h => ?_))
        obtain ⟨r7, rfl, h⟩ := h
        change jv_J g (d + 1) mt_M_readInstruction 99 [some (.ref a0), some (.int y0), some (.int (1000 * y0))] [.int r7, .int 100, .int (1000 * y0)] M8 N8 cr sr Z
        refine jv_imul d_M_readInstruction_99 ?_
        refine jv_iadd d_M_readInstruction_100 ?_
        refine jv_istore_n (L' := [some (.ref a0), some (.int y0), some (.int ((1000 * y0) + (100 * r7)))]) d_M_readInstruction_101 rfl (Nat.le_of_ble_eq_true rfl) rfl ?_
        exact h
      · replace h := h.2 c
        refine jv_iconst (v := 0) d_M_readInstruction_88 (by decide) ?_
        exact jv_iret d_M_readInstruction_89 rfl (jv_nz (by decide)) h
  · replace h := h.2 c
    refine jv_iconst (v := 0) d_M_readInstruction_53 (by decide) ?_
    exact jv_iret d_M_readInstruction_54 rfl (jv_nz (by decide)) h
theorem b_M_readInstruction_102 {g : jv_G} {d : Nat} {M : jv_Mem} {N cr sr : Nat} {Z : Option Value → jv_Mem → Nat → Prop} {a0 : Nat} {x1 : Int32} {x2 : Int32} (h : (x1 ≠ 6 → (6 ≤ x1 → jv_J g (d + 1) mt_M_readInstruction 187 [some (.ref a0), none, some (.int x2)] [] M N cr sr Z) ∧ (¬ (6 ≤ x1) → (x1 = 2 → jv_J g (d + 1) mt_M_readInstruction 187 [some (.ref a0), none, some (.int x2)] [] M N cr sr Z) ∧ (¬ (x1 = 2) → (x1 ≠ 1 → (x1 ≠ 3 → jv_Tg 10 a0 N ∧ jv_Ct g d mt_M_isNext [.ref a0, .int 48, .int 0, .int 7] M N 0 0 (fun v M3 N3 => jv_ri v (fun r2 => (r2 ≠ 0 → jv_Tg 10 a0 N3 ∧ jv_Ct g d mt_M_taken [.ref a0, .int 48] M3 N3 0 0 (fun v M6 N6 => jv_ri v (fun r5 => jv_J g (d + 1) mt_M_readInstruction 187 [some (.ref a0), none, some (.int (x2 + r5))] [] M6 N6 cr sr Z))) ∧ (r2 = 0 → Z (some (.int 0)) M3 N3)))) ∧ (x1 = 3 → jv_Tg 10 a0 N ∧ jv_Ct g d mt_M_isNext [.ref a0, .int 48, .int 0, .int 3] M N 0 0 (fun v M9 N9 => jv_ri v (fun r8 => (r8 ≠ 0 → jv_Tg 10 a0 N9 ∧ jv_Ct g d mt_M_taken [.ref a0, .int 48] M9 N9 0 0 (fun v M12 N12 => jv_ri v (fun r11 => jv_J g (d + 1) mt_M_readInstruction 187 [some (.ref a0), none, some (.int (x2 + r11))] [] M12 N12 cr sr Z))) ∧ (r8 = 0 → Z (some (.int 0)) M9 N9))))) ∧ (x1 = 1 → jv_Tg 10 a0 N ∧ jv_Ct g d mt_M_isNext [.ref a0, .int 48, .int 0, .int 9] M N 0 0 (fun v M15 N15 => jv_ri v (fun r14 => (r14 ≠ 0 → jv_Tg 10 a0 N15 ∧ jv_Ct g d mt_M_taken [.ref a0, .int 48] M15 N15 0 0 (fun v M18 N18 => jv_ri v (fun r17 => jv_J g (d + 1) mt_M_readInstruction 187 [some (.ref a0), none, some (.int (x2 + r17))] [] M18 N18 cr sr Z))) ∧ (r14 = 0 → Z (some (.int 0)) M15 N15))))))) ∧ (x1 = 6 → jv_Tg 10 a0 N ∧ jv_Ct g d mt_M_isNext [.ref a0, .int 97, .int 0, .int 15] M N 0 0 (fun v M21 N21 => jv_ri v (fun r20 => (r20 ≠ 0 → jv_Tg 10 a0 N21 ∧ jv_Ct g d mt_M_taken [.ref a0, .int 97] M21 N21 0 0 (fun v M24 N24 => jv_ri v (fun r23 => jv_J g (d + 1) mt_M_readInstruction 187 [some (.ref a0), none, some (.int (x2 + r23))] [] M24 N24 cr sr Z))) ∧ (r20 = 0 → Z (some (.int 0)) M21 N21))))) : jv_J g (d + 1) mt_M_readInstruction 102 [some (.ref a0), some (.int x1), some (.int x2)] [] M N cr sr Z := by
  refine jv_iload_n d_M_readInstruction_102 rfl rfl ?_
  refine jv_bipush (v := 6) d_M_readInstruction_103 (by decide) ?_
  refine jv_icmp_ne (tgt := 134) d_M_readInstruction_105 (by decide) ⟨fun c => ?_, fun c => ?_⟩
  · replace h := h.1 c
    refine jv_iload_n d_M_readInstruction_134 rfl rfl ?_
    refine jv_bipush (v := 6) d_M_readInstruction_135 (by decide) ?_
    refine jv_icmp_ge (tgt := 187) d_M_readInstruction_137 (by decide) ⟨fun c => ?_, fun c => ?_⟩
    · replace h := h.1 c
      refine jv_weak (L' := [some (.ref a0), none, some (.int x2)]) (by simp [jv_le]) ?_
      exact h
    · replace h := h.2 c
      refine jv_iload_n d_M_readInstruction_140 rfl rfl ?_
      refine jv_iconst (v := 2) d_M_readInstruction_141 (by decide) ?_
      refine jv_icmp_eq (tgt := 187) d_M_readInstruction_142 (by decide) ⟨fun c => ?_, fun c => ?_⟩
      · replace h := h.1 c
        refine jv_weak (L' := [some (.ref a0), none, some (.int x2)]) (by simp [jv_le]) ?_
        exact h
      · replace h := h.2 c
        refine jv_aload_n d_M_readInstruction_145 rfl rfl ?_
        refine jv_bipush (v := 48) d_M_readInstruction_146 (by decide) ?_
        refine jv_iconst (v := 0) d_M_readInstruction_148 (by decide) ?_
        refine jv_iload_n d_M_readInstruction_149 rfl rfl ?_
        refine jv_iconst (v := 1) d_M_readInstruction_150 (by decide) ?_
        refine jv_icmp_ne (tgt := 159) d_M_readInstruction_151 (by decide) ⟨fun c => ?_, fun c => ?_⟩
        · replace h := h.1 c
          refine jv_iload_n d_M_readInstruction_159 rfl rfl ?_
          refine jv_iconst (v := 3) d_M_readInstruction_160 (by decide) ?_
          refine jv_icmp_ne (tgt := 168) d_M_readInstruction_161 (by decide) ⟨fun c => ?_, fun c => ?_⟩
          · replace h := h.1 c
            refine jv_bipush (v := 7) d_M_readInstruction_168 (by decide) ?_
            obtain ⟨q1, h⟩ := h
            refine jv_invV [.int 48, .int 0, .int 7] [] d_M_readInstruction_170 ml_M_100 q1 rfl (Nat.le_of_ble_eq_true rfl) (Nat.zero_add _) (Nat.zero_add _) (jv_Ct.mono h (fun v M3 N3 h => ?_))
            obtain ⟨r2, rfl, h⟩ := h
            change jv_J g (d + 1) mt_M_readInstruction 173 [some (.ref a0), some (.int x1), some (.int x2)] [.int r2] M3 N3 cr sr Z
            refine jv_if_ne (tgt := 178) d_M_readInstruction_173 (by decide) ⟨fun c => ?_, fun c => ?_⟩
            · replace h := h.1 c
              refine jv_iload_n d_M_readInstruction_178 rfl rfl ?_
              refine jv_aload_n d_M_readInstruction_179 rfl rfl ?_
              refine jv_bipush (v := 48) d_M_readInstruction_180 (by decide) ?_
              obtain ⟨q4, h⟩ := h
              refine jv_invV [.int 48] [.int x2] d_M_readInstruction_182 ml_M_104 q4 rfl (Nat.le_of_ble_eq_true rfl) (Nat.zero_add _) (Nat.zero_add _) (jv_Ct.mono h (fun v M6 N6 h => ?_))
              obtain ⟨r5, rfl, h⟩ := h
              change jv_J g (d + 1) mt_M_readInstruction 185 [some (.ref a0), some (.int x1), some (.int x2)] [.int r5, .int x2] M6 N6 cr sr Z
              refine jv_iadd d_M_readInstruction_185 ?_
              refine jv_istore_n (L' := [some (.ref a0), some (.int x1), some (.int (x2 + r5))]) d_M_readInstruction_186 rfl (Nat.le_of_ble_eq_true rfl) rfl ?_
              refine jv_weak (L' := [some (.ref a0), none, some (.int (x2 + r5))]) (by simp [jv_le]) ?_
              exact h
            · replace h := h.2 c
              refine jv_iconst (v := 0) d_M_readInstruction_176 (by decide) ?_
              exact jv_iret d_M_readInstruction_177 rfl (jv_nz (by decide)) h
          · replace h := h.2 c
            refine jv_iconst (v := 3) d_M_readInstruction_164 (by decide) ?_
            refine jv_goto (tgt := 170) d_M_readInstruction_165 (by decide) ?_
            obtain ⟨q7, h⟩ := h
            refine jv_invV [.int 48, .int 0, .int 3] [] d_M_readInstruction_170 ml_M_100 q7 rfl (Nat.le_of_ble_eq_true rfl) (Nat.zero_add _) (Nat.zero_add _) (jv_Ct.mono h (fun v M9 N9 h => ?_))
            obtain ⟨r8, rfl, h⟩ := h
            change jv_J g (d + 1) mt_M_readInstruction 173 [some (.ref a0), some (.int x1), some (.int x2)] [.int r8] M9 N9 cr sr Z
            refine jv_if_ne (tgt := 178) d_M_readInstruction_173 (by decide) ⟨fun c => ?_, fun c => ?_⟩
            · replace h := h.1 c
              refine jv_iload_n d_M_readInstruction_178 rfl rfl ?_
              refine jv_aload_n d_M_readInstruction_179 rfl rfl ?_
              refine jv_bipush (v := 48) d_M_readInstruction_180 (by decide) ?_
              obtain ⟨q10, h⟩ := h
              refine jv_invV [.int 48] [.int x2] d_M_readInstruction_182 ml_M_104 q10 rfl (Nat.le_of_ble_eq_true rfl) (Nat.zero_add _) (Nat.zero_add _) (jv_Ct.mono h (fun v M12 N12 h => ?_))
              obtain ⟨r11, rfl, h⟩ := h
              change jv_J g (d + 1) mt_M_readInstruction 185 [some (.ref a0), some (.int x1), some (.int x2)] [.int r11, .int x2] M12 N12 cr sr Z
              refine jv_iadd d_M_readInstruction_185 ?_
              refine jv_istore_n (L' := [some (.ref a0), some (.int x1), some (.int (x2 + r11))]) d_M_readInstruction_186 rfl (Nat.le_of_ble_eq_true rfl) rfl ?_
              refine jv_weak (L' := [some (.ref a0), none, some (.int (x2 + r11))]) (by simp [jv_le]) ?_
              exact h
            · replace h := h.2 c
              refine jv_iconst (v := 0) d_M_readInstruction_176 (by decide) ?_
              exact jv_iret d_M_readInstruction_177 rfl (jv_nz (by decide)) h
        · replace h := h.2 c
          refine jv_bipush (v := 9) d_M_readInstruction_154 (by decide) ?_
          refine jv_goto (tgt := 170) d_M_readInstruction_156 (by decide) ?_
          obtain ⟨q13, h⟩ := h
          refine jv_invV [.int 48, .int 0, .int 9] [] d_M_readInstruction_170 ml_M_100 q13 rfl (Nat.le_of_ble_eq_true rfl) (Nat.zero_add _) (Nat.zero_add _) (jv_Ct.mono h (fun v M15 N15 h => ?_))
          obtain ⟨r14, rfl, h⟩ := h
          change jv_J g (d + 1) mt_M_readInstruction 173 [some (.ref a0), some (.int x1), some (.int x2)] [.int r14] M15 N15 cr sr Z
          refine jv_if_ne (tgt := 178) d_M_readInstruction_173 (by decide) ⟨fun c => ?_, fun c => ?_⟩
          · replace h := h.1 c
            refine jv_iload_n d_M_readInstruction_178 rfl rfl ?_
            refine jv_aload_n d_M_readInstruction_179 rfl rfl ?_
            refine jv_bipush (v := 48) d_M_readInstruction_180 (by decide) ?_
            obtain ⟨q16, h⟩ := h
            refine jv_invV [.int 48] [.int x2] d_M_readInstruction_182 ml_M_104 q16 rfl (Nat.le_of_ble_eq_true rfl) (Nat.zero_add _) (Nat.zero_add _) (jv_Ct.mono h (fun v M18 N18 h => ?_))
            obtain ⟨r17, rfl, h⟩ := h
            change jv_J g (d + 1) mt_M_readInstruction 185 [some (.ref a0), some (.int x1), some (.int x2)] [.int r17, .int x2] M18 N18 cr sr Z
            refine jv_iadd d_M_readInstruction_185 ?_
            refine jv_istore_n (L' := [some (.ref a0), some (.int x1), some (.int (x2 + r17))]) d_M_readInstruction_186 rfl (Nat.le_of_ble_eq_true rfl) rfl ?_
            refine jv_weak (L' := [some (.ref a0), none, some (.int (x2 + r17))]) (by simp [jv_le]) ?_
            exact h
          · replace h := h.2 c
            refine jv_iconst (v := 0) d_M_readInstruction_176 (by decide) ?_
            exact jv_iret d_M_readInstruction_177 rfl (jv_nz (by decide)) h
  · replace h := h.2 c
    refine jv_aload_n d_M_readInstruction_108 rfl rfl ?_
    refine jv_bipush (v := 97) d_M_readInstruction_109 (by decide) ?_
    refine jv_iconst (v := 0) d_M_readInstruction_111 (by decide) ?_
    refine jv_bipush (v := 15) d_M_readInstruction_112 (by decide) ?_
    obtain ⟨q19, h⟩ := h
    refine jv_invV [.int 97, .int 0, .int 15] [] d_M_readInstruction_114 ml_M_100 q19 rfl (Nat.le_of_ble_eq_true rfl) (Nat.zero_add _) (Nat.zero_add _) (jv_Ct.mono h (fun v M21 N21 h => ?_))
    obtain ⟨r20, rfl, h⟩ := h
    change jv_J g (d + 1) mt_M_readInstruction 117 [some (.ref a0), some (.int x1), some (.int x2)] [.int r20] M21 N21 cr sr Z
    refine jv_if_ne (tgt := 122) d_M_readInstruction_117 (by decide) ⟨fun c => ?_, fun c => ?_⟩
    · replace h := h.1 c
      refine jv_iload_n d_M_readInstruction_122 rfl rfl ?_
      refine jv_aload_n d_M_readInstruction_123 rfl rfl ?_
      refine jv_bipush (v := 97) d_M_readInstruction_124 (by decide) ?_
      obtain ⟨q22, h⟩ := h
      refine jv_invV [.int 97] [.int x2] d_M_readInstruction_126 ml_M_104 q22 rfl (Nat.le_of_ble_eq_true rfl) (Nat.zero_add _) (Nat.zero_add _) (jv_Ct.mono h (fun v M24 N24 h => ?_))
      obtain ⟨r23, rfl, h⟩ := h
      change jv_J g (d + 1) mt_M_readInstruction 129 [some (.ref a0), some (.int x1), some (.int x2)] [.int r23, .int x2] M24 N24 cr sr Z
      refine jv_iadd d_M_readInstruction_129 ?_
      refine jv_istore_n (L' := [some (.ref a0), some (.int x1), some (.int (x2 + r23))]) d_M_readInstruction_130 rfl (Nat.le_of_ble_eq_true rfl) rfl ?_
      refine jv_goto (tgt := 187) d_M_readInstruction_131 (by decide) ?_
      refine jv_weak (L' := [some (.ref a0), none, some (.int (x2 + r23))]) (by simp [jv_le]) ?_
      exact h
    · replace h := h.2 c
      refine jv_iconst (v := 0) d_M_readInstruction_120 (by decide) ?_
      exact jv_iret d_M_readInstruction_121 rfl (jv_nz (by decide)) h
theorem b_M_readInstruction_187 {g : jv_G} {d : Nat} {M : jv_Mem} {N cr sr : Nat} {Z : Option Value → jv_Mem → Nat → Prop} {a0 : Nat} {x2 : Int32} (h : jv_Tg 10 a0 N ∧ ∃ b2, Prod.fst (Prod.snd M) a0 12 = some b2 ∧ jv_Tg 10 a0 N ∧ jv_Tg 11 b2 N ∧ vp_in (Prod.fst M a0 11) (jv_sh b2).2 ∧ jv_Tg 10 a0 N ∧ jv_Tg 10 a0 N ∧ Z (some (.int 1)) (jv_si (jv_si M b2 (Int32.toNatClampNeg (Prod.fst M a0 11)) x2) a0 11 ((Prod.fst (jv_si M b2 (Int32.toNatClampNeg (Prod.fst M a0 11)) x2) a0 11) + 1)) N) : jv_J g (d + 1) mt_M_readInstruction 187 [some (.ref a0), none, some (.int x2)] [] M N cr sr Z := by
  refine jv_aload_n d_M_readInstruction_187 rfl rfl ?_
  obtain ⟨q1, h⟩ := h
  obtain ⟨b2, e3, h⟩ := h
  refine jv_getR d_M_readInstruction_188 fl_M_25 rfl q1 e3 ?_
  refine jv_aload_n d_M_readInstruction_191 rfl rfl ?_
  obtain ⟨q4, h⟩ := h
  refine jv_getI d_M_readInstruction_192 fl_M_93 rfl q4 ?_
  refine jv_iload_n d_M_readInstruction_195 rfl rfl ?_
  obtain ⟨q5, q6, h⟩ := h
  refine jv_iast d_M_readInstruction_196 q5 q6 ?_
  refine jv_aload_n d_M_readInstruction_197 rfl rfl ?_
  refine jv_dup d_M_readInstruction_198 rfl ?_
  obtain ⟨q7, h⟩ := h
  refine jv_getI d_M_readInstruction_199 fl_M_93 rfl q7 ?_
  refine jv_iconst (v := 1) d_M_readInstruction_202 (by decide) ?_
  refine jv_iadd d_M_readInstruction_203 ?_
  obtain ⟨q8, h⟩ := h
  refine jv_putI d_M_readInstruction_204 fl_M_93 (fun r hr => by cases hr; rfl) rfl q8 ?_
  refine jv_iconst (v := 1) d_M_readInstruction_207 (by decide) ?_
  exact jv_iret d_M_readInstruction_208 rfl (jv_nz (by decide)) h
theorem b_M_kindOf_0 {g : jv_G} {d : Nat} {M : jv_Mem} {N cr sr : Nat} {Z : Option Value → jv_Mem → Nat → Prop} {x0 : Int32} (h : (x0 = 97 → Z (some (.int 1)) M N) ∧ (x0 = 98 → Z (some (.int 8)) M N) ∧ (x0 = 99 → Z (some (.int 3)) M N) ∧ (x0 = 100 → Z (some (.int 2)) M N) ∧ (x0 = 106 → Z (some (.int 6)) M N) ∧ (x0 = 108 → Z (some (.int 4)) M N) ∧ (x0 = 119 → Z (some (.int 5)) M N) ∧ (x0 = 122 → Z (some (.int 7)) M N) ∧ ((x0 ≠ 97 ∧ x0 ≠ 98 ∧ x0 ≠ 99 ∧ x0 ≠ 100 ∧ x0 ≠ 106 ∧ x0 ≠ 108 ∧ x0 ≠ 119 ∧ x0 ≠ 122) → Z (some (.int 0)) M N)) : jv_J g d mt_M_kindOf 0 [some (.int x0)] [] M N cr sr Z := by
  refine jv_iload_n d_M_kindOf_0 rfl rfl ?_
  have hD1 : (x0 ≠ 97 ∧ x0 ≠ 98 ∧ x0 ≠ 99 ∧ x0 ≠ 100 ∧ x0 ≠ 106 ∧ x0 ≠ 108 ∧ x0 ≠ 119 ∧ x0 ≠ 122) → jv_J g d mt_M_kindOf 139 [some (.int x0)] [] M N cr sr Z := by
    intro c
    replace h := h.2.2.2.2.2.2.2.2 c
    refine jv_iconst (v := 0) d_M_kindOf_139 (by decide) ?_
    exact jv_iret d_M_kindOf_140 rfl rfl h
  refine jv_tsw (dt := 139) [(97, 120), (98, 136), (99, 124), (100, 122), (101, 139), (102, 139), (103, 139), (104, 139), (105, 139), (106, 130), (107, 139), (108, 126), (109, 139), (110, 139), (111, 139), (112, 139), (113, 139), (114, 139), (115, 139), (116, 139), (117, 139), (118, 139), (119, 128), (120, 139), (121, 139), (122, 133)] d_M_kindOf_1 (by decide) (by decide) (by decide) (fun q hq hx => ?_) (fun hq => ?_)
  · simp only [List.mem_cons, List.not_mem_nil, or_false] at hq
    rcases hq with rfl | rfl | rfl | rfl | rfl | rfl | rfl | rfl | rfl | rfl | rfl | rfl | rfl | rfl | rfl | rfl | rfl | rfl | rfl | rfl | rfl | rfl | rfl | rfl | rfl | rfl
    · replace h := h.1 hx
      refine jv_iconst (v := 1) d_M_kindOf_120 (by decide) ?_
      exact jv_iret d_M_kindOf_121 rfl rfl h
    · replace h := h.2.1 hx
      refine jv_bipush (v := 8) d_M_kindOf_136 (by decide) ?_
      exact jv_iret d_M_kindOf_138 rfl rfl h
    · replace h := h.2.2.1 hx
      refine jv_iconst (v := 3) d_M_kindOf_124 (by decide) ?_
      exact jv_iret d_M_kindOf_125 rfl rfl h
    · replace h := h.2.2.2.1 hx
      refine jv_iconst (v := 2) d_M_kindOf_122 (by decide) ?_
      exact jv_iret d_M_kindOf_123 rfl rfl h
    · exact hD1 (by simp only at hx; rw [hx]; decide)
    · exact hD1 (by simp only at hx; rw [hx]; decide)
    · exact hD1 (by simp only at hx; rw [hx]; decide)
    · exact hD1 (by simp only at hx; rw [hx]; decide)
    · exact hD1 (by simp only at hx; rw [hx]; decide)
    · replace h := h.2.2.2.2.1 hx
      refine jv_bipush (v := 6) d_M_kindOf_130 (by decide) ?_
      exact jv_iret d_M_kindOf_132 rfl rfl h
    · exact hD1 (by simp only at hx; rw [hx]; decide)
    · replace h := h.2.2.2.2.2.1 hx
      refine jv_iconst (v := 4) d_M_kindOf_126 (by decide) ?_
      exact jv_iret d_M_kindOf_127 rfl rfl h
    · exact hD1 (by simp only at hx; rw [hx]; decide)
    · exact hD1 (by simp only at hx; rw [hx]; decide)
    · exact hD1 (by simp only at hx; rw [hx]; decide)
    · exact hD1 (by simp only at hx; rw [hx]; decide)
    · exact hD1 (by simp only at hx; rw [hx]; decide)
    · exact hD1 (by simp only at hx; rw [hx]; decide)
    · exact hD1 (by simp only at hx; rw [hx]; decide)
    · exact hD1 (by simp only at hx; rw [hx]; decide)
    · exact hD1 (by simp only at hx; rw [hx]; decide)
    · exact hD1 (by simp only at hx; rw [hx]; decide)
    · replace h := h.2.2.2.2.2.2.1 hx
      refine jv_iconst (v := 5) d_M_kindOf_128 (by decide) ?_
      exact jv_iret d_M_kindOf_129 rfl rfl h
    · exact hD1 (by simp only at hx; rw [hx]; decide)
    · exact hD1 (by simp only at hx; rw [hx]; decide)
    · replace h := h.2.2.2.2.2.2.2.1 hx
      refine jv_bipush (v := 7) d_M_kindOf_133 (by decide) ?_
      exact jv_iret d_M_kindOf_135 rfl rfl h
  · exact hD1 ⟨hq _ (List.mem_of_getElem? (i := 0) rfl), hq _ (List.mem_of_getElem? (i := 1) rfl), hq _ (List.mem_of_getElem? (i := 2) rfl), hq _ (List.mem_of_getElem? (i := 3) rfl), hq _ (List.mem_of_getElem? (i := 9) rfl), hq _ (List.mem_of_getElem? (i := 11) rfl), hq _ (List.mem_of_getElem? (i := 22) rfl), hq _ (List.mem_of_getElem? (i := 25) rfl)⟩
theorem b_M_isNext_0 {g : jv_G} {d : Nat} {M : jv_Mem} {N cr sr : Nat} {Z : Option Value → jv_Mem → Nat → Prop} {a0 : Nat} {x1 : Int32} {x2 : Int32} {x3 : Int32} (h : jv_Tg 10 a0 N ∧ jv_Tg 10 a0 N ∧ ((Prod.fst M a0 2) ≤ (Prod.fst M a0 3) → jv_Tg 10 a0 N ∧ jv_Tg 10 a0 N ∧ Z (some (.int 0)) (jv_si M a0 3 ((Prod.fst M a0 3) + 0)) N) ∧ (¬ ((Prod.fst M a0 2) ≤ (Prod.fst M a0 3)) → jv_Tg 10 a0 N ∧ ∃ b6, Prod.fst (Prod.snd M) a0 1 = some b6 ∧ jv_Tg 10 a0 N ∧ jv_Tg 11 b6 N ∧ vp_in (Prod.fst M a0 3) (jv_sh b6).2 ∧ jv_Ct g d mt_M_in [.long (Int32.toInt64 ((Prod.fst M b6 (Int32.toNatClampNeg (Prod.fst M a0 3))) - x1)), .long (Int32.toInt64 x2), .long (Int32.toInt64 x3)] M N 0 0 (fun v M12 N12 => jv_ri v (fun r11 => (r11 = 0 → jv_Tg 10 a0 N12 ∧ jv_Tg 10 a0 N12 ∧ Z (some (.int 0)) (jv_si M12 a0 3 ((Prod.fst M12 a0 3) + 0)) N12) ∧ (¬ (r11 = 0) → jv_Tg 10 a0 N12 ∧ jv_Tg 10 a0 N12 ∧ Z (some (.int 1)) (jv_si M12 a0 3 ((Prod.fst M12 a0 3) + 1)) N12))))) : jv_J g (d + 1) mt_M_isNext 0 [some (.ref a0), some (.int x1), some (.int x2), some (.int x3), none] [] M N cr sr Z := by
  refine jv_aload_n d_M_isNext_0 rfl rfl ?_
  obtain ⟨q1, h⟩ := h
  refine jv_getI d_M_isNext_1 fl_M_90 rfl q1 ?_
  refine jv_aload_n d_M_isNext_4 rfl rfl ?_
  obtain ⟨q2, h⟩ := h
  refine jv_getI d_M_isNext_5 fl_M_87 rfl q2 ?_
  refine jv_icmp_ge (tgt := 37) d_M_isNext_8 (by decide) ⟨fun c => ?_, fun c => ?_⟩
  · replace h := h.1 c
    refine jv_iconst (v := 0) d_M_isNext_37 (by decide) ?_
    refine jv_istore (L' := [some (.ref a0), some (.int x1), some (.int x2), some (.int x3), some (.int 0)]) d_M_isNext_38 (Nat.le_of_ble_eq_true rfl) rfl ?_
    refine jv_aload_n d_M_isNext_40 rfl rfl ?_
    refine jv_dup d_M_isNext_41 rfl ?_
    obtain ⟨q3, h⟩ := h
    refine jv_getI d_M_isNext_42 fl_M_90 rfl q3 ?_
    refine jv_iload d_M_isNext_45 rfl ?_
    refine jv_if_eq (tgt := 54) d_M_isNext_47 (by decide) ⟨fun c => ?_, fun c => absurd c (by decide)⟩
    refine jv_iconst (v := 0) d_M_isNext_54 (by decide) ?_
    refine jv_iadd d_M_isNext_55 ?_
    obtain ⟨q4, h⟩ := h
    refine jv_putI d_M_isNext_56 fl_M_90 (fun r hr => by cases hr; rfl) rfl q4 ?_
    refine jv_iload d_M_isNext_59 rfl ?_
    exact jv_iret d_M_isNext_61 rfl (jv_nz (by decide)) h
  · replace h := h.2 c
    refine jv_aload_n d_M_isNext_11 rfl rfl ?_
    obtain ⟨q5, h⟩ := h
    obtain ⟨b6, e7, h⟩ := h
    refine jv_getR d_M_isNext_12 fl_M_7 rfl q5 e7 ?_
    refine jv_aload_n d_M_isNext_15 rfl rfl ?_
    obtain ⟨q8, h⟩ := h
    refine jv_getI d_M_isNext_16 fl_M_90 rfl q8 ?_
    obtain ⟨q9, q10, h⟩ := h
    refine jv_iald d_M_isNext_19 q9 q10 ?_
    refine jv_iload_n d_M_isNext_20 rfl rfl ?_
    refine jv_isub d_M_isNext_21 ?_
    refine jv_i2l d_M_isNext_22 ?_
    refine jv_iload_n d_M_isNext_23 rfl rfl ?_
    refine jv_i2l d_M_isNext_24 ?_
    refine jv_iload_n d_M_isNext_25 rfl rfl ?_
    refine jv_i2l d_M_isNext_26 ?_
    refine jv_invS [.long (Int32.toInt64 ((Prod.fst M b6 (Int32.toNatClampNeg (Prod.fst M a0 3))) - x1)), .long (Int32.toInt64 x2), .long (Int32.toInt64 x3)] [] d_M_isNext_27 ml_M_81 rfl (Nat.le_of_ble_eq_true rfl) (Nat.zero_add _) (Nat.zero_add _) (jv_Ct.mono h (fun v M12 N12 h => ?_))
    obtain ⟨r11, rfl, h⟩ := h
    change jv_J g (d + 1) mt_M_isNext 30 [some (.ref a0), some (.int x1), some (.int x2), some (.int x3), none] [.int r11] M12 N12 cr sr Z
    refine jv_if_eq (tgt := 37) d_M_isNext_30 (by decide) ⟨fun c => ?_, fun c => ?_⟩
    · replace h := h.1 c
      refine jv_iconst (v := 0) d_M_isNext_37 (by decide) ?_
      refine jv_istore (L' := [some (.ref a0), some (.int x1), some (.int x2), some (.int x3), some (.int 0)]) d_M_isNext_38 (Nat.le_of_ble_eq_true rfl) rfl ?_
      refine jv_aload_n d_M_isNext_40 rfl rfl ?_
      refine jv_dup d_M_isNext_41 rfl ?_
      obtain ⟨q13, h⟩ := h
      refine jv_getI d_M_isNext_42 fl_M_90 rfl q13 ?_
      refine jv_iload d_M_isNext_45 rfl ?_
      refine jv_if_eq (tgt := 54) d_M_isNext_47 (by decide) ⟨fun c => ?_, fun c => absurd c (by decide)⟩
      refine jv_iconst (v := 0) d_M_isNext_54 (by decide) ?_
      refine jv_iadd d_M_isNext_55 ?_
      obtain ⟨q14, h⟩ := h
      refine jv_putI d_M_isNext_56 fl_M_90 (fun r hr => by cases hr; rfl) rfl q14 ?_
      refine jv_iload d_M_isNext_59 rfl ?_
      exact jv_iret d_M_isNext_61 rfl (jv_nz (by decide)) h
    · replace h := h.2 c
      refine jv_iconst (v := 1) d_M_isNext_33 (by decide) ?_
      refine jv_goto (tgt := 38) d_M_isNext_34 (by decide) ?_
      refine jv_istore (L' := [some (.ref a0), some (.int x1), some (.int x2), some (.int x3), some (.int 1)]) d_M_isNext_38 (Nat.le_of_ble_eq_true rfl) rfl ?_
      refine jv_aload_n d_M_isNext_40 rfl rfl ?_
      refine jv_dup d_M_isNext_41 rfl ?_
      obtain ⟨q15, h⟩ := h
      refine jv_getI d_M_isNext_42 fl_M_90 rfl q15 ?_
      refine jv_iload d_M_isNext_45 rfl ?_
      refine jv_if_eq (tgt := 54) d_M_isNext_47 (by decide) ⟨fun c => absurd c (by decide), fun c => ?_⟩
      refine jv_iconst (v := 1) d_M_isNext_50 (by decide) ?_
      refine jv_goto (tgt := 55) d_M_isNext_51 (by decide) ?_
      refine jv_iadd d_M_isNext_55 ?_
      obtain ⟨q16, h⟩ := h
      refine jv_putI d_M_isNext_56 fl_M_90 (fun r hr => by cases hr; rfl) rfl q16 ?_
      refine jv_iload d_M_isNext_59 rfl ?_
      exact jv_iret d_M_isNext_61 rfl (jv_nz (by decide)) h
theorem b_M_taken_0 {g : jv_G} {d : Nat} {M : jv_Mem} {N cr sr : Nat} {Z : Option Value → jv_Mem → Nat → Prop} {a0 : Nat} {x1 : Int32} (h : jv_Tg 10 a0 N ∧ ∃ b2, Prod.fst (Prod.snd M) a0 1 = some b2 ∧ jv_Tg 10 a0 N ∧ jv_Tg 11 b2 N ∧ vp_in ((Prod.fst M a0 3) - 1) (jv_sh b2).2 ∧ Z (some (.int ((Prod.fst M b2 (Int32.toNatClampNeg ((Prod.fst M a0 3) - 1))) - x1))) M N) : jv_J g d mt_M_taken 0 [some (.ref a0), some (.int x1)] [] M N cr sr Z := by
  refine jv_aload_n d_M_taken_0 rfl rfl ?_
  obtain ⟨q1, h⟩ := h
  obtain ⟨b2, e3, h⟩ := h
  refine jv_getR d_M_taken_1 fl_M_7 rfl q1 e3 ?_
  refine jv_aload_n d_M_taken_4 rfl rfl ?_
  obtain ⟨q4, h⟩ := h
  refine jv_getI d_M_taken_5 fl_M_90 rfl q4 ?_
  refine jv_iconst (v := 1) d_M_taken_8 (by decide) ?_
  refine jv_isub d_M_taken_9 ?_
  obtain ⟨q5, q6, h⟩ := h
  refine jv_iald d_M_taken_10 q5 q6 ?_
  refine jv_iload_n d_M_taken_11 rfl rfl ?_
  refine jv_isub d_M_taken_12 ?_
  exact jv_iret d_M_taken_13 rfl rfl h
theorem b_M_readHart_0 {g : jv_G} {d : Nat} {M : jv_Mem} {N cr sr : Nat} {Z : Option Value → jv_Mem → Nat → Prop} {a0 : Nat} (h : jv_Tg 10 a0 N ∧ ((Prod.fst M a0 13) ≠ 4 → jv_Tg 10 a0 N ∧ jv_Tg 10 a0 N ∧ jv_Tg 10 a0 N ∧ jv_Ct g d mt_M_isNext [.ref a0, .int 97, .int 0, .int 15] (jv_si M a0 3 ((Prod.fst M a0 3) + 1)) N 0 0 (fun v M6 N6 => jv_ri v (fun r5 => (r5 ≠ 0 → jv_Tg 10 a0 N6 ∧ ∃ b8, Prod.fst (Prod.snd M6) a0 14 = some b8 ∧ jv_Tg 10 a0 N6 ∧ jv_Tg 10 a0 N6 ∧ jv_Ct g d mt_M_taken [.ref a0, .int 97] M6 N6 0 0 (fun v M13 N13 => jv_ri v (fun r12 => jv_Tg 11 b8 N13 ∧ vp_in (Prod.fst M6 a0 13) (jv_sh b8).2 ∧ jv_Tg 10 a0 N13 ∧ jv_Ct g d mt_M_isNext [.ref a0, .int 48, .int 0, .int 2] (jv_si M13 b8 (Int32.toNatClampNeg (Prod.fst M6 a0 13)) r12) N13 0 0 (fun v M18 N18 => jv_ri v (fun r17 => (r17 ≠ 0 → jv_Tg 10 a0 N18 ∧ ∃ b20, Prod.fst (Prod.snd M18) a0 15 = some b20 ∧ jv_Tg 10 a0 N18 ∧ jv_Tg 10 a0 N18 ∧ jv_Ct g d mt_M_taken [.ref a0, .int 48] M18 N18 0 0 (fun v M25 N25 => jv_ri v (fun r24 => jv_Tg 11 b20 N25 ∧ vp_in (Prod.fst M18 a0 13) (jv_sh b20).2 ∧ jv_Tg 10 a0 N25 ∧ ∃ b29, Prod.fst (Prod.snd (jv_si M25 b20 (Int32.toNatClampNeg (Prod.fst M18 a0 13)) r24)) a0 18 = some b29 ∧ jv_Tg 10 a0 N25 ∧ jv_Tg 10 a0 N25 ∧ ∃ b33, Prod.fst (Prod.snd (jv_si M25 b20 (Int32.toNatClampNeg (Prod.fst M18 a0 13)) r24)) a0 14 = some b33 ∧ jv_Tg 10 a0 N25 ∧ jv_Tg 11 b33 N25 ∧ vp_in (Prod.fst (jv_si M25 b20 (Int32.toNatClampNeg (Prod.fst M18 a0 13)) r24) a0 13) (jv_sh b33).2 ∧ jv_Tg 11 b29 N25 ∧ vp_in (8 * (Prod.fst (jv_si M25 b20 (Int32.toNatClampNeg (Prod.fst M18 a0 13)) r24) a0 13)) (jv_sh b29).2 ∧ jv_Tg 10 a0 N25 ∧ jv_Tg 10 a0 N25 ∧ Z (some (.int 1)) (jv_si (jv_si (jv_si M25 b20 (Int32.toNatClampNeg (Prod.fst M18 a0 13)) r24) b29 (Int32.toNatClampNeg (8 * (Prod.fst (jv_si M25 b20 (Int32.toNatClampNeg (Prod.fst M18 a0 13)) r24) a0 13))) (Prod.fst (jv_si M25 b20 (Int32.toNatClampNeg (Prod.fst M18 a0 13)) r24) b33 (Int32.toNatClampNeg (Prod.fst (jv_si M25 b20 (Int32.toNatClampNeg (Prod.fst M18 a0 13)) r24) a0 13)))) a0 13 ((Prod.fst (jv_si (jv_si M25 b20 (Int32.toNatClampNeg (Prod.fst M18 a0 13)) r24) b29 (Int32.toNatClampNeg (8 * (Prod.fst (jv_si M25 b20 (Int32.toNatClampNeg (Prod.fst M18 a0 13)) r24) a0 13))) (Prod.fst (jv_si M25 b20 (Int32.toNatClampNeg (Prod.fst M18 a0 13)) r24) b33 (Int32.toNatClampNeg (Prod.fst (jv_si M25 b20 (Int32.toNatClampNeg (Prod.fst M18 a0 13)) r24) a0 13)))) a0 13) + 1)) N25))) ∧ (r17 = 0 → Z (some (.int 0)) M18 N18)))))) ∧ (r5 = 0 → Z (some (.int 0)) M6 N6)))) ∧ ((Prod.fst M a0 13) = 4 → Z (some (.int 0)) M N)) : jv_J g (d + 1) mt_M_readHart 0 [some (.ref a0)] [] M N cr sr Z := by
  refine jv_aload_n d_M_readHart_0 rfl rfl ?_
  obtain ⟨q1, h⟩ := h
  refine jv_getI d_M_readHart_1 fl_M_107 rfl q1 ?_
  refine jv_iconst (v := 4) d_M_readHart_4 (by decide) ?_
  refine jv_icmp_ne (tgt := 10) d_M_readHart_5 (by decide) ⟨fun c => ?_, fun c => ?_⟩
  · replace h := h.1 c
    refine jv_aload_n d_M_readHart_10 rfl rfl ?_
    refine jv_dup d_M_readHart_11 rfl ?_
    obtain ⟨q2, h⟩ := h
    refine jv_getI d_M_readHart_12 fl_M_90 rfl q2 ?_
    refine jv_iconst (v := 1) d_M_readHart_15 (by decide) ?_
    refine jv_iadd d_M_readHart_16 ?_
    obtain ⟨q3, h⟩ := h
    refine jv_putI d_M_readHart_17 fl_M_90 (fun r hr => by cases hr; rfl) rfl q3 ?_
    refine jv_aload_n d_M_readHart_20 rfl rfl ?_
    refine jv_bipush (v := 97) d_M_readHart_21 (by decide) ?_
    refine jv_iconst (v := 0) d_M_readHart_23 (by decide) ?_
    refine jv_bipush (v := 15) d_M_readHart_24 (by decide) ?_
    obtain ⟨q4, h⟩ := h
    refine jv_invV [.int 97, .int 0, .int 15] [] d_M_readHart_26 ml_M_100 q4 rfl (Nat.le_of_ble_eq_true rfl) (Nat.zero_add _) (Nat.zero_add _) (jv_Ct.mono h (fun v M6 N6 h => ?_))
    obtain ⟨r5, rfl, h⟩ := h
    change jv_J g (d + 1) mt_M_readHart 29 [some (.ref a0)] [.int r5] M6 N6 cr sr Z
    refine jv_if_ne (tgt := 34) d_M_readHart_29 (by decide) ⟨fun c => ?_, fun c => ?_⟩
    · replace h := h.1 c
      refine jv_aload_n d_M_readHart_34 rfl rfl ?_
      obtain ⟨q7, h⟩ := h
      obtain ⟨b8, e9, h⟩ := h
      refine jv_getR d_M_readHart_35 fl_M_28 rfl q7 e9 ?_
      refine jv_aload_n d_M_readHart_38 rfl rfl ?_
      obtain ⟨q10, h⟩ := h
      refine jv_getI d_M_readHart_39 fl_M_107 rfl q10 ?_
      refine jv_aload_n d_M_readHart_42 rfl rfl ?_
      refine jv_bipush (v := 97) d_M_readHart_43 (by decide) ?_
      obtain ⟨q11, h⟩ := h
      refine jv_invV [.int 97] [.int (Prod.fst M6 a0 13), .ref b8] d_M_readHart_45 ml_M_104 q11 rfl (Nat.le_of_ble_eq_true rfl) (Nat.zero_add _) (Nat.zero_add _) (jv_Ct.mono h (fun v M13 N13 h => ?_))
      obtain ⟨r12, rfl, h⟩ := h
      change jv_J g (d + 1) mt_M_readHart 48 [some (.ref a0)] [.int r12, .int (Prod.fst M6 a0 13), .ref b8] M13 N13 cr sr Z
      obtain ⟨q14, q15, h⟩ := h
      refine jv_iast d_M_readHart_48 q14 q15 ?_
      refine jv_aload_n d_M_readHart_49 rfl rfl ?_
      refine jv_bipush (v := 48) d_M_readHart_50 (by decide) ?_
      refine jv_iconst (v := 0) d_M_readHart_52 (by decide) ?_
      refine jv_iconst (v := 2) d_M_readHart_53 (by decide) ?_
      obtain ⟨q16, h⟩ := h
      refine jv_invV [.int 48, .int 0, .int 2] [] d_M_readHart_54 ml_M_100 q16 rfl (Nat.le_of_ble_eq_true rfl) (Nat.zero_add _) (Nat.zero_add _) (jv_Ct.mono h (fun v M18 N18 h => ?_))
      obtain ⟨r17, rfl, h⟩ := h
      change jv_J g (d + 1) mt_M_readHart 57 [some (.ref a0)] [.int r17] M18 N18 cr sr Z
      refine jv_if_ne (tgt := 62) d_M_readHart_57 (by decide) ⟨fun c => ?_, fun c => ?_⟩
      · replace h := h.1 c
        refine jv_aload_n d_M_readHart_62 rfl rfl ?_
        obtain ⟨q19, h⟩ := h
        obtain ⟨b20, e21, h⟩ := h
        refine jv_getR d_M_readHart_63 fl_M_31 rfl q19 e21 ?_
        refine jv_aload_n d_M_readHart_66 rfl rfl ?_
        obtain ⟨q22, h⟩ := h
        refine jv_getI d_M_readHart_67 fl_M_107 rfl q22 ?_
        refine jv_aload_n d_M_readHart_70 rfl rfl ?_
        refine jv_bipush (v := 48) d_M_readHart_71 (by decide) ?_
        obtain ⟨q23, h⟩ := h
        refine jv_invV [.int 48] [.int (Prod.fst M18 a0 13), .ref b20] d_M_readHart_73 ml_M_104 q23 rfl (Nat.le_of_ble_eq_true rfl) (Nat.zero_add _) (Nat.zero_add _) (jv_Ct.mono h (fun v M25 N25 h => ?_))
        obtain ⟨r24, rfl, h⟩ := h
        change jv_J g (d + 1) mt_M_readHart 76 [some (.ref a0)] [.int r24, .int (Prod.fst M18 a0 13), .ref b20] M25 N25 cr sr Z
        obtain ⟨q26, q27, h⟩ := h
        refine jv_iast d_M_readHart_76 q26 q27 ?_
        refine jv_aload_n d_M_readHart_77 rfl rfl ?_
        obtain ⟨q28, h⟩ := h
        obtain ⟨b29, e30, h⟩ := h
        refine jv_getR d_M_readHart_78 fl_M_37 rfl q28 e30 ?_
        refine jv_bipush (v := 8) d_M_readHart_81 (by decide) ?_
        refine jv_aload_n d_M_readHart_83 rfl rfl ?_
        obtain ⟨q31, h⟩ := h
        refine jv_getI d_M_readHart_84 fl_M_107 rfl q31 ?_
        refine jv_imul d_M_readHart_87 ?_
        refine jv_aload_n d_M_readHart_88 rfl rfl ?_
        obtain ⟨q32, h⟩ := h
        obtain ⟨b33, e34, h⟩ := h
        refine jv_getR d_M_readHart_89 fl_M_28 rfl q32 e34 ?_
        refine jv_aload_n d_M_readHart_92 rfl rfl ?_
        obtain ⟨q35, h⟩ := h
        refine jv_getI d_M_readHart_93 fl_M_107 rfl q35 ?_
        obtain ⟨q36, q37, h⟩ := h
        refine jv_iald d_M_readHart_96 q36 q37 ?_
        obtain ⟨q38, q39, h⟩ := h
        refine jv_iast d_M_readHart_97 q38 q39 ?_
        refine jv_aload_n d_M_readHart_98 rfl rfl ?_
        refine jv_dup d_M_readHart_99 rfl ?_
        obtain ⟨q40, h⟩ := h
        refine jv_getI d_M_readHart_100 fl_M_107 rfl q40 ?_
        refine jv_iconst (v := 1) d_M_readHart_103 (by decide) ?_
        refine jv_iadd d_M_readHart_104 ?_
        obtain ⟨q41, h⟩ := h
        refine jv_putI d_M_readHart_105 fl_M_107 (fun r hr => by cases hr; rfl) rfl q41 ?_
        refine jv_iconst (v := 1) d_M_readHart_108 (by decide) ?_
        exact jv_iret d_M_readHart_109 rfl (jv_nz (by decide)) h
      · replace h := h.2 c
        refine jv_iconst (v := 0) d_M_readHart_60 (by decide) ?_
        exact jv_iret d_M_readHart_61 rfl (jv_nz (by decide)) h
    · replace h := h.2 c
      refine jv_iconst (v := 0) d_M_readHart_32 (by decide) ?_
      exact jv_iret d_M_readHart_33 rfl (jv_nz (by decide)) h
  · replace h := h.2 c
    refine jv_iconst (v := 0) d_M_readHart_8 (by decide) ?_
    exact jv_iret d_M_readHart_9 rfl (jv_nz (by decide)) h
theorem b_M_readTrigger_0 {g : jv_G} {d : Nat} {M : jv_Mem} {N cr sr : Nat} {Z : Option Value → jv_Mem → Nat → Prop} {a0 : Nat} {x1 : Int32} (h : jv_Tg 10 a0 N ∧ ((Prod.fst M a0 16) = 6 → Z (some (.int 0)) M N) ∧ (¬ ((Prod.fst M a0 16) = 6) → jv_Tg 10 a0 N ∧ ((Prod.fst M a0 13) ≠ 0 → jv_Tg 10 a0 N ∧ jv_Tg 10 a0 N ∧ jv_Tg 10 a0 N ∧ jv_Tg 10 a0 N ∧ jv_Tg 10 a0 N ∧ jv_Ct g d mt_M_isNext [.ref a0, .int 48, .int 0, .int ((Prod.fst (jv_si M a0 3 ((Prod.fst M a0 3) + 1)) a0 13) - 1)] (jv_si M a0 3 ((Prod.fst M a0 3) + 1)) N 0 0 (fun v M9 N9 => jv_ri v (fun r8 => (r8 ≠ 0 → jv_Tg 10 a0 N9 ∧ ∃ b11, Prod.fst (Prod.snd M9) a0 17 = some b11 ∧ jv_Tg 10 a0 N9 ∧ jv_Tg 10 a0 N9 ∧ jv_Ct g d mt_M_taken [.ref a0, .int 48] M9 N9 0 0 (fun v M16 N16 => jv_ri v (fun r15 => jv_Tg 11 b11 N16 ∧ vp_in (Prod.fst M9 a0 16) (jv_sh b11).2 ∧ jv_Tg 10 a0 N16 ∧ jv_Tg 10 a0 N16 ∧ ((Prod.fst (jv_si M16 b11 (Int32.toNatClampNeg (Prod.fst M9 a0 16)) r15) a0 3) = (Prod.fst (jv_si M16 b11 (Int32.toNatClampNeg (Prod.fst M9 a0 16)) r15) a0 2) → Z (some (.int 0)) (jv_si M16 b11 (Int32.toNatClampNeg (Prod.fst M9 a0 16)) r15) N16) ∧ (¬ ((Prod.fst (jv_si M16 b11 (Int32.toNatClampNeg (Prod.fst M9 a0 16)) r15) a0 3) = (Prod.fst (jv_si M16 b11 (Int32.toNatClampNeg (Prod.fst M9 a0 16)) r15) a0 2)) → jv_Tg 10 a0 N16 ∧ ∃ b22, Prod.fst (Prod.snd (jv_si M16 b11 (Int32.toNatClampNeg (Prod.fst M9 a0 16)) r15)) a0 1 = some b22 ∧ jv_Tg 10 a0 N16 ∧ jv_Tg 11 b22 N16 ∧ vp_in (Prod.fst (jv_si M16 b11 (Int32.toNatClampNeg (Prod.fst M9 a0 16)) r15) a0 3) (jv_sh b22).2 ∧ ((Prod.fst (jv_si M16 b11 (Int32.toNatClampNeg (Prod.fst M9 a0 16)) r15) b22 (Int32.toNatClampNeg (Prod.fst (jv_si M16 b11 (Int32.toNatClampNeg (Prod.fst M9 a0 16)) r15) a0 3))) = 112 → jv_Tg 10 a0 N16 ∧ ∃ b28, Prod.fst (Prod.snd (jv_si M16 b11 (Int32.toNatClampNeg (Prod.fst M9 a0 16)) r15)) a0 1 = some b28 ∧ jv_Tg 10 a0 N16 ∧ jv_Tg 11 b28 N16 ∧ vp_in (Prod.fst (jv_si M16 b11 (Int32.toNatClampNeg (Prod.fst M9 a0 16)) r15) a0 3) (jv_sh b28).2 ∧ jv_Tg 10 a0 N16 ∧ jv_Tg 10 a0 N16 ∧ jv_Tg 10 a0 N16 ∧ ∃ b36, Prod.fst (Prod.snd (jv_si (jv_si M16 b11 (Int32.toNatClampNeg (Prod.fst M9 a0 16)) r15) a0 3 ((Prod.fst (jv_si M16 b11 (Int32.toNatClampNeg (Prod.fst M9 a0 16)) r15) a0 3) + 1))) a0 18 = some b36 ∧ jv_Tg 11 b36 N16 ∧ vp_in (40 + (6 * (Prod.fst (jv_si M a0 3 ((Prod.fst M a0 3) + 1)) a0 16))) (jv_sh b36).2 ∧ jv_Tg 10 a0 N16 ∧ ∃ b41, Prod.fst (Prod.snd (jv_si (jv_si (jv_si M16 b11 (Int32.toNatClampNeg (Prod.fst M9 a0 16)) r15) a0 3 ((Prod.fst (jv_si M16 b11 (Int32.toNatClampNeg (Prod.fst M9 a0 16)) r15) a0 3) + 1)) b36 (Int32.toNatClampNeg (40 + (6 * (Prod.fst (jv_si M a0 3 ((Prod.fst M a0 3) + 1)) a0 16)))) ((Prod.fst (jv_si M16 b11 (Int32.toNatClampNeg (Prod.fst M9 a0 16)) r15) b28 (Int32.toNatClampNeg (Prod.fst (jv_si M16 b11 (Int32.toNatClampNeg (Prod.fst M9 a0 16)) r15) a0 3))) - 112))) a0 18 = some b41 ∧ jv_Tg 11 b41 N16 ∧ vp_in ((40 + (6 * (Prod.fst (jv_si M a0 3 ((Prod.fst M a0 3) + 1)) a0 16))) + 2) (jv_sh b41).2 ∧ (((Prod.fst (jv_si M16 b11 (Int32.toNatClampNeg (Prod.fst M9 a0 16)) r15) b28 (Int32.toNatClampNeg (Prod.fst (jv_si M16 b11 (Int32.toNatClampNeg (Prod.fst M9 a0 16)) r15) a0 3))) - 112) ≠ 0 → jv_Tg 10 a0 N16 ∧ jv_Ct g d mt_M_isNext [.ref a0, .int 48, .int 0, .int 3] (jv_si (jv_si (jv_si (jv_si M16 b11 (Int32.toNatClampNeg (Prod.fst M9 a0 16)) r15) a0 3 ((Prod.fst (jv_si M16 b11 (Int32.toNatClampNeg (Prod.fst M9 a0 16)) r15) a0 3) + 1)) b36 (Int32.toNatClampNeg (40 + (6 * (Prod.fst (jv_si M a0 3 ((Prod.fst M a0 3) + 1)) a0 16)))) ((Prod.fst (jv_si M16 b11 (Int32.toNatClampNeg (Prod.fst M9 a0 16)) r15) b28 (Int32.toNatClampNeg (Prod.fst (jv_si M16 b11 (Int32.toNatClampNeg (Prod.fst M9 a0 16)) r15) a0 3))) - 112)) b41 (Int32.toNatClampNeg ((40 + (6 * (Prod.fst (jv_si M a0 3 ((Prod.fst M a0 3) + 1)) a0 16))) + 2)) 0) N16 0 0 (fun v M47 N47 => jv_ri v (fun r46 => (r46 ≠ 0 → jv_Tg 10 a0 N47 ∧ ∃ b49, Prod.fst (Prod.snd M47) a0 18 = some b49 ∧ (((Prod.fst (jv_si M16 b11 (Int32.toNatClampNeg (Prod.fst M9 a0 16)) r15) b28 (Int32.toNatClampNeg (Prod.fst (jv_si M16 b11 (Int32.toNatClampNeg (Prod.fst M9 a0 16)) r15) a0 3))) - 112) ≠ 0 → jv_J g (d + 1) mt_M_readTrigger 203 [some (.ref a0), some (.int x1), some (.int (40 + (6 * (Prod.fst (jv_si M a0 3 ((Prod.fst M a0 3) + 1)) a0 16)))), some (.int ((Prod.fst (jv_si M16 b11 (Int32.toNatClampNeg (Prod.fst M9 a0 16)) r15) b28 (Int32.toNatClampNeg (Prod.fst (jv_si M16 b11 (Int32.toNatClampNeg (Prod.fst M9 a0 16)) r15) a0 3))) - 112)), none] [.int 48, .ref a0, .int ((40 + (6 * (Prod.fst (jv_si M a0 3 ((Prod.fst M a0 3) + 1)) a0 16))) + 1), .ref b49] M47 N47 cr sr Z) ∧ (((Prod.fst (jv_si M16 b11 (Int32.toNatClampNeg (Prod.fst M9 a0 16)) r15) b28 (Int32.toNatClampNeg (Prod.fst (jv_si M16 b11 (Int32.toNatClampNeg (Prod.fst M9 a0 16)) r15) a0 3))) - 112) = 0 → jv_J g (d + 1) mt_M_readTrigger 203 [some (.ref a0), some (.int x1), some (.int (40 + (6 * (Prod.fst (jv_si M a0 3 ((Prod.fst M a0 3) + 1)) a0 16)))), some (.int ((Prod.fst (jv_si M16 b11 (Int32.toNatClampNeg (Prod.fst M9 a0 16)) r15) b28 (Int32.toNatClampNeg (Prod.fst (jv_si M16 b11 (Int32.toNatClampNeg (Prod.fst M9 a0 16)) r15) a0 3))) - 112)), none] [.int 97, .ref a0, .int ((40 + (6 * (Prod.fst (jv_si M a0 3 ((Prod.fst M a0 3) + 1)) a0 16))) + 1), .ref b49] M47 N47 cr sr Z)) ∧ (r46 = 0 → Z (some (.int 0)) M47 N47)))) ∧ (((Prod.fst (jv_si M16 b11 (Int32.toNatClampNeg (Prod.fst M9 a0 16)) r15) b28 (Int32.toNatClampNeg (Prod.fst (jv_si M16 b11 (Int32.toNatClampNeg (Prod.fst M9 a0 16)) r15) a0 3))) - 112) = 0 → jv_Tg 10 a0 N16 ∧ jv_Ct g d mt_M_isNext [.ref a0, .int 97, .int 0, .int 15] (jv_si (jv_si (jv_si (jv_si M16 b11 (Int32.toNatClampNeg (Prod.fst M9 a0 16)) r15) a0 3 ((Prod.fst (jv_si M16 b11 (Int32.toNatClampNeg (Prod.fst M9 a0 16)) r15) a0 3) + 1)) b36 (Int32.toNatClampNeg (40 + (6 * (Prod.fst (jv_si M a0 3 ((Prod.fst M a0 3) + 1)) a0 16)))) ((Prod.fst (jv_si M16 b11 (Int32.toNatClampNeg (Prod.fst M9 a0 16)) r15) b28 (Int32.toNatClampNeg (Prod.fst (jv_si M16 b11 (Int32.toNatClampNeg (Prod.fst M9 a0 16)) r15) a0 3))) - 112)) b41 (Int32.toNatClampNeg ((40 + (6 * (Prod.fst (jv_si M a0 3 ((Prod.fst M a0 3) + 1)) a0 16))) + 2)) 0) N16 0 0 (fun v M53 N53 => jv_ri v (fun r52 => (r52 = 0 → Z (some (.int 0)) M53 N53) ∧ (¬ (r52 = 0) → jv_Tg 10 a0 N53 ∧ ∃ b55, Prod.fst (Prod.snd M53) a0 18 = some b55 ∧ (((Prod.fst (jv_si M16 b11 (Int32.toNatClampNeg (Prod.fst M9 a0 16)) r15) b28 (Int32.toNatClampNeg (Prod.fst (jv_si M16 b11 (Int32.toNatClampNeg (Prod.fst M9 a0 16)) r15) a0 3))) - 112) ≠ 0 → jv_J g (d + 1) mt_M_readTrigger 203 [some (.ref a0), some (.int x1), some (.int (40 + (6 * (Prod.fst (jv_si M a0 3 ((Prod.fst M a0 3) + 1)) a0 16)))), some (.int ((Prod.fst (jv_si M16 b11 (Int32.toNatClampNeg (Prod.fst M9 a0 16)) r15) b28 (Int32.toNatClampNeg (Prod.fst (jv_si M16 b11 (Int32.toNatClampNeg (Prod.fst M9 a0 16)) r15) a0 3))) - 112)), none] [.int 48, .ref a0, .int ((40 + (6 * (Prod.fst (jv_si M a0 3 ((Prod.fst M a0 3) + 1)) a0 16))) + 1), .ref b55] M53 N53 cr sr Z) ∧ (((Prod.fst (jv_si M16 b11 (Int32.toNatClampNeg (Prod.fst M9 a0 16)) r15) b28 (Int32.toNatClampNeg (Prod.fst (jv_si M16 b11 (Int32.toNatClampNeg (Prod.fst M9 a0 16)) r15) a0 3))) - 112) = 0 → jv_J g (d + 1) mt_M_readTrigger 203 [some (.ref a0), some (.int x1), some (.int (40 + (6 * (Prod.fst (jv_si M a0 3 ((Prod.fst M a0 3) + 1)) a0 16)))), some (.int ((Prod.fst (jv_si M16 b11 (Int32.toNatClampNeg (Prod.fst M9 a0 16)) r15) b28 (Int32.toNatClampNeg (Prod.fst (jv_si M16 b11 (Int32.toNatClampNeg (Prod.fst M9 a0 16)) r15) a0 3))) - 112)), none] [.int 97, .ref a0, .int ((40 + (6 * (Prod.fst (jv_si M a0 3 ((Prod.fst M a0 3) + 1)) a0 16))) + 1), .ref b55] M53 N53 cr sr Z)))))) ∧ (¬ ((Prod.fst (jv_si M16 b11 (Int32.toNatClampNeg (Prod.fst M9 a0 16)) r15) b22 (Int32.toNatClampNeg (Prod.fst (jv_si M16 b11 (Int32.toNatClampNeg (Prod.fst M9 a0 16)) r15) a0 3))) = 112) → jv_Tg 10 a0 N16 ∧ ∃ b58, Prod.fst (Prod.snd (jv_si M16 b11 (Int32.toNatClampNeg (Prod.fst M9 a0 16)) r15)) a0 1 = some b58 ∧ jv_Tg 10 a0 N16 ∧ jv_Tg 11 b58 N16 ∧ vp_in (Prod.fst (jv_si M16 b11 (Int32.toNatClampNeg (Prod.fst M9 a0 16)) r15) a0 3) (jv_sh b58).2 ∧ ((Prod.fst (jv_si M16 b11 (Int32.toNatClampNeg (Prod.fst M9 a0 16)) r15) b58 (Int32.toNatClampNeg (Prod.fst (jv_si M16 b11 (Int32.toNatClampNeg (Prod.fst M9 a0 16)) r15) a0 3))) = 113 → jv_Tg 10 a0 N16 ∧ ∃ b64, Prod.fst (Prod.snd (jv_si M16 b11 (Int32.toNatClampNeg (Prod.fst M9 a0 16)) r15)) a0 1 = some b64 ∧ jv_Tg 10 a0 N16 ∧ jv_Tg 11 b64 N16 ∧ vp_in (Prod.fst (jv_si M16 b11 (Int32.toNatClampNeg (Prod.fst M9 a0 16)) r15) a0 3) (jv_sh b64).2 ∧ jv_Tg 10 a0 N16 ∧ jv_Tg 10 a0 N16 ∧ jv_Tg 10 a0 N16 ∧ ∃ b72, Prod.fst (Prod.snd (jv_si (jv_si M16 b11 (Int32.toNatClampNeg (Prod.fst M9 a0 16)) r15) a0 3 ((Prod.fst (jv_si M16 b11 (Int32.toNatClampNeg (Prod.fst M9 a0 16)) r15) a0 3) + 1))) a0 18 = some b72 ∧ jv_Tg 11 b72 N16 ∧ vp_in (40 + (6 * (Prod.fst (jv_si M a0 3 ((Prod.fst M a0 3) + 1)) a0 16))) (jv_sh b72).2 ∧ jv_Tg 10 a0 N16 ∧ ∃ b77, Prod.fst (Prod.snd (jv_si (jv_si (jv_si M16 b11 (Int32.toNatClampNeg (Prod.fst M9 a0 16)) r15) a0 3 ((Prod.fst (jv_si M16 b11 (Int32.toNatClampNeg (Prod.fst M9 a0 16)) r15) a0 3) + 1)) b72 (Int32.toNatClampNeg (40 + (6 * (Prod.fst (jv_si M a0 3 ((Prod.fst M a0 3) + 1)) a0 16)))) ((Prod.fst (jv_si M16 b11 (Int32.toNatClampNeg (Prod.fst M9 a0 16)) r15) b64 (Int32.toNatClampNeg (Prod.fst (jv_si M16 b11 (Int32.toNatClampNeg (Prod.fst M9 a0 16)) r15) a0 3))) - 112))) a0 18 = some b77 ∧ jv_Tg 11 b77 N16 ∧ vp_in ((40 + (6 * (Prod.fst (jv_si M a0 3 ((Prod.fst M a0 3) + 1)) a0 16))) + 2) (jv_sh b77).2 ∧ (((Prod.fst (jv_si M16 b11 (Int32.toNatClampNeg (Prod.fst M9 a0 16)) r15) b64 (Int32.toNatClampNeg (Prod.fst (jv_si M16 b11 (Int32.toNatClampNeg (Prod.fst M9 a0 16)) r15) a0 3))) - 112) ≠ 0 → jv_Tg 10 a0 N16 ∧ jv_Ct g d mt_M_isNext [.ref a0, .int 48, .int 0, .int 3] (jv_si (jv_si (jv_si (jv_si M16 b11 (Int32.toNatClampNeg (Prod.fst M9 a0 16)) r15) a0 3 ((Prod.fst (jv_si M16 b11 (Int32.toNatClampNeg (Prod.fst M9 a0 16)) r15) a0 3) + 1)) b72 (Int32.toNatClampNeg (40 + (6 * (Prod.fst (jv_si M a0 3 ((Prod.fst M a0 3) + 1)) a0 16)))) ((Prod.fst (jv_si M16 b11 (Int32.toNatClampNeg (Prod.fst M9 a0 16)) r15) b64 (Int32.toNatClampNeg (Prod.fst (jv_si M16 b11 (Int32.toNatClampNeg (Prod.fst M9 a0 16)) r15) a0 3))) - 112)) b77 (Int32.toNatClampNeg ((40 + (6 * (Prod.fst (jv_si M a0 3 ((Prod.fst M a0 3) + 1)) a0 16))) + 2)) 0) N16 0 0 (fun v M83 N83 => jv_ri v (fun r82 => (r82 ≠ 0 → jv_Tg 10 a0 N83 ∧ ∃ b85, Prod.fst (Prod.snd M83) a0 18 = some b85 ∧ (((Prod.fst (jv_si M16 b11 (Int32.toNatClampNeg (Prod.fst M9 a0 16)) r15) b64 (Int32.toNatClampNeg (Prod.fst (jv_si M16 b11 (Int32.toNatClampNeg (Prod.fst M9 a0 16)) r15) a0 3))) - 112) ≠ 0 → jv_J g (d + 1) mt_M_readTrigger 203 [some (.ref a0), some (.int x1), some (.int (40 + (6 * (Prod.fst (jv_si M a0 3 ((Prod.fst M a0 3) + 1)) a0 16)))), some (.int ((Prod.fst (jv_si M16 b11 (Int32.toNatClampNeg (Prod.fst M9 a0 16)) r15) b64 (Int32.toNatClampNeg (Prod.fst (jv_si M16 b11 (Int32.toNatClampNeg (Prod.fst M9 a0 16)) r15) a0 3))) - 112)), none] [.int 48, .ref a0, .int ((40 + (6 * (Prod.fst (jv_si M a0 3 ((Prod.fst M a0 3) + 1)) a0 16))) + 1), .ref b85] M83 N83 cr sr Z) ∧ (((Prod.fst (jv_si M16 b11 (Int32.toNatClampNeg (Prod.fst M9 a0 16)) r15) b64 (Int32.toNatClampNeg (Prod.fst (jv_si M16 b11 (Int32.toNatClampNeg (Prod.fst M9 a0 16)) r15) a0 3))) - 112) = 0 → jv_J g (d + 1) mt_M_readTrigger 203 [some (.ref a0), some (.int x1), some (.int (40 + (6 * (Prod.fst (jv_si M a0 3 ((Prod.fst M a0 3) + 1)) a0 16)))), some (.int ((Prod.fst (jv_si M16 b11 (Int32.toNatClampNeg (Prod.fst M9 a0 16)) r15) b64 (Int32.toNatClampNeg (Prod.fst (jv_si M16 b11 (Int32.toNatClampNeg (Prod.fst M9 a0 16)) r15) a0 3))) - 112)), none] [.int 97, .ref a0, .int ((40 + (6 * (Prod.fst (jv_si M a0 3 ((Prod.fst M a0 3) + 1)) a0 16))) + 1), .ref b85] M83 N83 cr sr Z)) ∧ (r82 = 0 → Z (some (.int 0)) M83 N83)))) ∧ (((Prod.fst (jv_si M16 b11 (Int32.toNatClampNeg (Prod.fst M9 a0 16)) r15) b64 (Int32.toNatClampNeg (Prod.fst (jv_si M16 b11 (Int32.toNatClampNeg (Prod.fst M9 a0 16)) r15) a0 3))) - 112) = 0 → jv_Tg 10 a0 N16 ∧ jv_Ct g d mt_M_isNext [.ref a0, .int 97, .int 0, .int 15] (jv_si (jv_si (jv_si (jv_si M16 b11 (Int32.toNatClampNeg (Prod.fst M9 a0 16)) r15) a0 3 ((Prod.fst (jv_si M16 b11 (Int32.toNatClampNeg (Prod.fst M9 a0 16)) r15) a0 3) + 1)) b72 (Int32.toNatClampNeg (40 + (6 * (Prod.fst (jv_si M a0 3 ((Prod.fst M a0 3) + 1)) a0 16)))) ((Prod.fst (jv_si M16 b11 (Int32.toNatClampNeg (Prod.fst M9 a0 16)) r15) b64 (Int32.toNatClampNeg (Prod.fst (jv_si M16 b11 (Int32.toNatClampNeg (Prod.fst M9 a0 16)) r15) a0 3))) - 112)) b77 (Int32.toNatClampNeg ((40 + (6 * (Prod.fst (jv_si M a0 3 ((Prod.fst M a0 3) + 1)) a0 16))) + 2)) 0) N16 0 0 (fun v M89 N89 => jv_ri v (fun r88 => (r88 = 0 → Z (some (.int 0)) M89 N89) ∧ (¬ (r88 = 0) → jv_Tg 10 a0 N89 ∧ ∃ b91, Prod.fst (Prod.snd M89) a0 18 = some b91 ∧ (((Prod.fst (jv_si M16 b11 (Int32.toNatClampNeg (Prod.fst M9 a0 16)) r15) b64 (Int32.toNatClampNeg (Prod.fst (jv_si M16 b11 (Int32.toNatClampNeg (Prod.fst M9 a0 16)) r15) a0 3))) - 112) ≠ 0 → jv_J g (d + 1) mt_M_readTrigger 203 [some (.ref a0), some (.int x1), some (.int (40 + (6 * (Prod.fst (jv_si M a0 3 ((Prod.fst M a0 3) + 1)) a0 16)))), some (.int ((Prod.fst (jv_si M16 b11 (Int32.toNatClampNeg (Prod.fst M9 a0 16)) r15) b64 (Int32.toNatClampNeg (Prod.fst (jv_si M16 b11 (Int32.toNatClampNeg (Prod.fst M9 a0 16)) r15) a0 3))) - 112)), none] [.int 48, .ref a0, .int ((40 + (6 * (Prod.fst (jv_si M a0 3 ((Prod.fst M a0 3) + 1)) a0 16))) + 1), .ref b91] M89 N89 cr sr Z) ∧ (((Prod.fst (jv_si M16 b11 (Int32.toNatClampNeg (Prod.fst M9 a0 16)) r15) b64 (Int32.toNatClampNeg (Prod.fst (jv_si M16 b11 (Int32.toNatClampNeg (Prod.fst M9 a0 16)) r15) a0 3))) - 112) = 0 → jv_J g (d + 1) mt_M_readTrigger 203 [some (.ref a0), some (.int x1), some (.int (40 + (6 * (Prod.fst (jv_si M a0 3 ((Prod.fst M a0 3) + 1)) a0 16)))), some (.int ((Prod.fst (jv_si M16 b11 (Int32.toNatClampNeg (Prod.fst M9 a0 16)) r15) b64 (Int32.toNatClampNeg (Prod.fst (jv_si M16 b11 (Int32.toNatClampNeg (Prod.fst M9 a0 16)) r15) a0 3))) - 112)), none] [.int 97, .ref a0, .int ((40 + (6 * (Prod.fst (jv_si M a0 3 ((Prod.fst M a0 3) + 1)) a0 16))) + 1), .ref b91] M89 N89 cr sr Z)))))) ∧ (¬ ((Prod.fst (jv_si M16 b11 (Int32.toNatClampNeg (Prod.fst M9 a0 16)) r15) b58 (Int32.toNatClampNeg (Prod.fst (jv_si M16 b11 (Int32.toNatClampNeg (Prod.fst M9 a0 16)) r15) a0 3))) = 113) → Z (some (.int 0)) (jv_si M16 b11 (Int32.toNatClampNeg (Prod.fst M9 a0 16)) r15) N16)))))) ∧ (r8 = 0 → Z (some (.int 0)) M9 N9)))) ∧ ((Prod.fst M a0 13) = 0 → Z (some (.int 0)) M N))) : jv_J g (d + 1) mt_M_readTrigger 0 [some (.ref a0), some (.int x1), none, none, none] [] M N cr sr Z := by
  refine jv_aload_n d_M_readTrigger_0 rfl rfl ?_
  obtain ⟨q1, h⟩ := h
  refine jv_getI d_M_readTrigger_1 fl_M_110 rfl q1 ?_
  refine jv_bipush (v := 6) d_M_readTrigger_4 (by decide) ?_
  refine jv_icmp_eq (tgt := 16) d_M_readTrigger_6 (by decide) ⟨fun c => ?_, fun c => ?_⟩
  · replace h := h.1 c
    refine jv_iconst (v := 0) d_M_readTrigger_16 (by decide) ?_
    exact jv_iret d_M_readTrigger_17 rfl (jv_nz (by decide)) h
  · replace h := h.2 c
    refine jv_aload_n d_M_readTrigger_9 rfl rfl ?_
    obtain ⟨q2, h⟩ := h
    refine jv_getI d_M_readTrigger_10 fl_M_107 rfl q2 ?_
    refine jv_if_ne (tgt := 18) d_M_readTrigger_13 (by decide) ⟨fun c => ?_, fun c => ?_⟩
    · replace h := h.1 c
      refine jv_aload_n d_M_readTrigger_18 rfl rfl ?_
      refine jv_dup d_M_readTrigger_19 rfl ?_
      obtain ⟨q3, h⟩ := h
      refine jv_getI d_M_readTrigger_20 fl_M_90 rfl q3 ?_
      refine jv_iconst (v := 1) d_M_readTrigger_23 (by decide) ?_
      refine jv_iadd d_M_readTrigger_24 ?_
      obtain ⟨q4, h⟩ := h
      refine jv_putI d_M_readTrigger_25 fl_M_90 (fun r hr => by cases hr; rfl) rfl q4 ?_
      refine jv_bipush (v := 40) d_M_readTrigger_28 (by decide) ?_
      refine jv_bipush (v := 6) d_M_readTrigger_30 (by decide) ?_
      refine jv_aload_n d_M_readTrigger_32 rfl rfl ?_
      obtain ⟨q5, h⟩ := h
      refine jv_getI d_M_readTrigger_33 fl_M_110 rfl q5 ?_
      refine jv_imul d_M_readTrigger_36 ?_
      refine jv_iadd d_M_readTrigger_37 ?_
      refine jv_istore_n (L' := [some (.ref a0), some (.int x1), some (.int (40 + (6 * (Prod.fst (jv_si M a0 3 ((Prod.fst M a0 3) + 1)) a0 16)))), none, none]) d_M_readTrigger_38 rfl (Nat.le_of_ble_eq_true rfl) rfl ?_
      refine jv_aload_n d_M_readTrigger_39 rfl rfl ?_
      refine jv_bipush (v := 48) d_M_readTrigger_40 (by decide) ?_
      refine jv_iconst (v := 0) d_M_readTrigger_42 (by decide) ?_
      refine jv_aload_n d_M_readTrigger_43 rfl rfl ?_
      obtain ⟨q6, h⟩ := h
      refine jv_getI d_M_readTrigger_44 fl_M_107 rfl q6 ?_
      refine jv_iconst (v := 1) d_M_readTrigger_47 (by decide) ?_
      refine jv_isub d_M_readTrigger_48 ?_
      obtain ⟨q7, h⟩ := h
      refine jv_invV [.int 48, .int 0, .int ((Prod.fst (jv_si M a0 3 ((Prod.fst M a0 3) + 1)) a0 13) - 1)] [] d_M_readTrigger_49 ml_M_100 q7 rfl (Nat.le_of_ble_eq_true rfl) (Nat.zero_add _) (Nat.zero_add _) (jv_Ct.mono h (fun v M9 N9 h => ?_))
      obtain ⟨r8, rfl, h⟩ := h
      change jv_J g (d + 1) mt_M_readTrigger 52 [some (.ref a0), some (.int x1), some (.int (40 + (6 * (Prod.fst (jv_si M a0 3 ((Prod.fst M a0 3) + 1)) a0 16)))), none, none] [.int r8] M9 N9 cr sr Z
      refine jv_if_ne (tgt := 57) d_M_readTrigger_52 (by decide) ⟨fun c => ?_, fun c => ?_⟩
      · replace h := h.1 c
        refine jv_aload_n d_M_readTrigger_57 rfl rfl ?_
        obtain ⟨q10, h⟩ := h
        obtain ⟨b11, e12, h⟩ := h
        refine jv_getR d_M_readTrigger_58 fl_M_34 rfl q10 e12 ?_
        refine jv_aload_n d_M_readTrigger_61 rfl rfl ?_
        obtain ⟨q13, h⟩ := h
        refine jv_getI d_M_readTrigger_62 fl_M_110 rfl q13 ?_
        refine jv_aload_n d_M_readTrigger_65 rfl rfl ?_
        refine jv_bipush (v := 48) d_M_readTrigger_66 (by decide) ?_
        obtain ⟨q14, h⟩ := h
        refine jv_invV [.int 48] [.int (Prod.fst M9 a0 16), .ref b11] d_M_readTrigger_68 ml_M_104 q14 rfl (Nat.le_of_ble_eq_true rfl) (Nat.zero_add _) (Nat.zero_add _) (jv_Ct.mono h (fun v M16 N16 h => ?_))
        obtain ⟨r15, rfl, h⟩ := h
        change jv_J g (d + 1) mt_M_readTrigger 71 [some (.ref a0), some (.int x1), some (.int (40 + (6 * (Prod.fst (jv_si M a0 3 ((Prod.fst M a0 3) + 1)) a0 16)))), none, none] [.int r15, .int (Prod.fst M9 a0 16), .ref b11] M16 N16 cr sr Z
        obtain ⟨q17, q18, h⟩ := h
        refine jv_iast d_M_readTrigger_71 q17 q18 ?_
        refine jv_aload_n d_M_readTrigger_72 rfl rfl ?_
        obtain ⟨q19, h⟩ := h
        refine jv_getI d_M_readTrigger_73 fl_M_90 rfl q19 ?_
        refine jv_aload_n d_M_readTrigger_76 rfl rfl ?_
        obtain ⟨q20, h⟩ := h
        refine jv_getI d_M_readTrigger_77 fl_M_87 rfl q20 ?_
        refine jv_icmp_eq (tgt := 111) d_M_readTrigger_80 (by decide) ⟨fun c => ?_, fun c => ?_⟩
        · replace h := h.1 c
          refine jv_iconst (v := 0) d_M_readTrigger_111 (by decide) ?_
          exact jv_iret d_M_readTrigger_112 rfl (jv_nz (by decide)) h
        · replace h := h.2 c
          refine jv_aload_n d_M_readTrigger_83 rfl rfl ?_
          obtain ⟨q21, h⟩ := h
          obtain ⟨b22, e23, h⟩ := h
          refine jv_getR d_M_readTrigger_84 fl_M_7 rfl q21 e23 ?_
          refine jv_aload_n d_M_readTrigger_87 rfl rfl ?_
          obtain ⟨q24, h⟩ := h
          refine jv_getI d_M_readTrigger_88 fl_M_90 rfl q24 ?_
          obtain ⟨q25, q26, h⟩ := h
          refine jv_iald d_M_readTrigger_91 q25 q26 ?_
          refine jv_bipush (v := 112) d_M_readTrigger_92 (by decide) ?_
          refine jv_icmp_eq (tgt := 113) d_M_readTrigger_94 (by decide) ⟨fun c => ?_, fun c => ?_⟩
          · replace h := h.1 c
            refine jv_aload_n d_M_readTrigger_113 rfl rfl ?_
            obtain ⟨q27, h⟩ := h
            obtain ⟨b28, e29, h⟩ := h
            refine jv_getR d_M_readTrigger_114 fl_M_7 rfl q27 e29 ?_
            refine jv_aload_n d_M_readTrigger_117 rfl rfl ?_
            obtain ⟨q30, h⟩ := h
            refine jv_getI d_M_readTrigger_118 fl_M_90 rfl q30 ?_
            obtain ⟨q31, q32, h⟩ := h
            refine jv_iald d_M_readTrigger_121 q31 q32 ?_
            refine jv_bipush (v := 112) d_M_readTrigger_122 (by decide) ?_
            refine jv_isub d_M_readTrigger_124 ?_
            refine jv_istore_n (L' := [some (.ref a0), some (.int x1), some (.int (40 + (6 * (Prod.fst (jv_si M a0 3 ((Prod.fst M a0 3) + 1)) a0 16)))), some (.int ((Prod.fst (jv_si M16 b11 (Int32.toNatClampNeg (Prod.fst M9 a0 16)) r15) b28 (Int32.toNatClampNeg (Prod.fst (jv_si M16 b11 (Int32.toNatClampNeg (Prod.fst M9 a0 16)) r15) a0 3))) - 112)), none]) d_M_readTrigger_125 rfl (Nat.le_of_ble_eq_true rfl) rfl ?_
            refine jv_aload_n d_M_readTrigger_126 rfl rfl ?_
            refine jv_dup d_M_readTrigger_127 rfl ?_
            obtain ⟨q33, h⟩ := h
            refine jv_getI d_M_readTrigger_128 fl_M_90 rfl q33 ?_
            refine jv_iconst (v := 1) d_M_readTrigger_131 (by decide) ?_
            refine jv_iadd d_M_readTrigger_132 ?_
            obtain ⟨q34, h⟩ := h
            refine jv_putI d_M_readTrigger_133 fl_M_90 (fun r hr => by cases hr; rfl) rfl q34 ?_
            refine jv_aload_n d_M_readTrigger_136 rfl rfl ?_
            obtain ⟨q35, h⟩ := h
            obtain ⟨b36, e37, h⟩ := h
            refine jv_getR d_M_readTrigger_137 fl_M_37 rfl q35 e37 ?_
            refine jv_iload_n d_M_readTrigger_140 rfl rfl ?_
            refine jv_iload_n d_M_readTrigger_141 rfl rfl ?_
            obtain ⟨q38, q39, h⟩ := h
            refine jv_iast d_M_readTrigger_142 q38 q39 ?_
            refine jv_aload_n d_M_readTrigger_143 rfl rfl ?_
            obtain ⟨q40, h⟩ := h
            obtain ⟨b41, e42, h⟩ := h
            refine jv_getR d_M_readTrigger_144 fl_M_37 rfl q40 e42 ?_
            refine jv_iload_n d_M_readTrigger_147 rfl rfl ?_
            refine jv_iconst (v := 2) d_M_readTrigger_148 (by decide) ?_
            refine jv_iadd d_M_readTrigger_149 ?_
            refine jv_iconst (v := 0) d_M_readTrigger_150 (by decide) ?_
            obtain ⟨q43, q44, h⟩ := h
            refine jv_iast d_M_readTrigger_151 q43 q44 ?_
            refine jv_iload_n d_M_readTrigger_152 rfl rfl ?_
            refine jv_if_ne (tgt := 171) d_M_readTrigger_153 (by decide) ⟨fun c => ?_, fun c => ?_⟩
            · replace h := h.1 c
              refine jv_aload_n d_M_readTrigger_171 rfl rfl ?_
              refine jv_bipush (v := 48) d_M_readTrigger_172 (by decide) ?_
              refine jv_iconst (v := 0) d_M_readTrigger_174 (by decide) ?_
              refine jv_iconst (v := 3) d_M_readTrigger_175 (by decide) ?_
              obtain ⟨q45, h⟩ := h
              refine jv_invV [.int 48, .int 0, .int 3] [] d_M_readTrigger_176 ml_M_100 q45 rfl (Nat.le_of_ble_eq_true rfl) (Nat.zero_add _) (Nat.zero_add _) (jv_Ct.mono h (fun v M47 N47 h => ?_))
              obtain ⟨r46, rfl, h⟩ := h
              change jv_J g (d + 1) mt_M_readTrigger 179 [some (.ref a0), some (.int x1), some (.int (40 + (6 * (Prod.fst (jv_si M a0 3 ((Prod.fst M a0 3) + 1)) a0 16)))), some (.int ((Prod.fst (jv_si M16 b11 (Int32.toNatClampNeg (Prod.fst M9 a0 16)) r15) b28 (Int32.toNatClampNeg (Prod.fst (jv_si M16 b11 (Int32.toNatClampNeg (Prod.fst M9 a0 16)) r15) a0 3))) - 112)), none] [.int r46] M47 N47 cr sr Z
              refine jv_if_ne (tgt := 184) d_M_readTrigger_179 (by decide) ⟨fun c => ?_, fun c => ?_⟩
              · replace h := h.1 c
                refine jv_aload_n d_M_readTrigger_184 rfl rfl ?_
                obtain ⟨q48, h⟩ := h
                obtain ⟨b49, e50, h⟩ := h
                refine jv_getR d_M_readTrigger_185 fl_M_37 rfl q48 e50 ?_
                refine jv_iload_n d_M_readTrigger_188 rfl rfl ?_
                refine jv_iconst (v := 1) d_M_readTrigger_189 (by decide) ?_
                refine jv_iadd d_M_readTrigger_190 ?_
                refine jv_aload_n d_M_readTrigger_191 rfl rfl ?_
                refine jv_iload_n d_M_readTrigger_192 rfl rfl ?_
                refine jv_if_ne (tgt := 201) d_M_readTrigger_193 (by decide) ⟨fun c => ?_, fun c => ?_⟩
                · replace h := h.1 c
                  refine jv_bipush (v := 48) d_M_readTrigger_201 (by decide) ?_
                  exact h
                · replace h := h.2 c
                  refine jv_bipush (v := 97) d_M_readTrigger_196 (by decide) ?_
                  refine jv_goto (tgt := 203) d_M_readTrigger_198 (by decide) ?_
                  exact h
              · replace h := h.2 c
                refine jv_iconst (v := 0) d_M_readTrigger_182 (by decide) ?_
                exact jv_iret d_M_readTrigger_183 rfl (jv_nz (by decide)) h
            · replace h := h.2 c
              refine jv_aload_n d_M_readTrigger_156 rfl rfl ?_
              refine jv_bipush (v := 97) d_M_readTrigger_157 (by decide) ?_
              refine jv_iconst (v := 0) d_M_readTrigger_159 (by decide) ?_
              refine jv_bipush (v := 15) d_M_readTrigger_160 (by decide) ?_
              obtain ⟨q51, h⟩ := h
              refine jv_invV [.int 97, .int 0, .int 15] [] d_M_readTrigger_162 ml_M_100 q51 rfl (Nat.le_of_ble_eq_true rfl) (Nat.zero_add _) (Nat.zero_add _) (jv_Ct.mono h (fun v M53 N53 h => ?_))
              obtain ⟨r52, rfl, h⟩ := h
              change jv_J g (d + 1) mt_M_readTrigger 165 [some (.ref a0), some (.int x1), some (.int (40 + (6 * (Prod.fst (jv_si M a0 3 ((Prod.fst M a0 3) + 1)) a0 16)))), some (.int ((Prod.fst (jv_si M16 b11 (Int32.toNatClampNeg (Prod.fst M9 a0 16)) r15) b28 (Int32.toNatClampNeg (Prod.fst (jv_si M16 b11 (Int32.toNatClampNeg (Prod.fst M9 a0 16)) r15) a0 3))) - 112)), none] [.int r52] M53 N53 cr sr Z
              refine jv_if_eq (tgt := 182) d_M_readTrigger_165 (by decide) ⟨fun c => ?_, fun c => ?_⟩
              · replace h := h.1 c
                refine jv_iconst (v := 0) d_M_readTrigger_182 (by decide) ?_
                exact jv_iret d_M_readTrigger_183 rfl (jv_nz (by decide)) h
              · replace h := h.2 c
                refine jv_goto (tgt := 184) d_M_readTrigger_168 (by decide) ?_
                refine jv_aload_n d_M_readTrigger_184 rfl rfl ?_
                obtain ⟨q54, h⟩ := h
                obtain ⟨b55, e56, h⟩ := h
                refine jv_getR d_M_readTrigger_185 fl_M_37 rfl q54 e56 ?_
                refine jv_iload_n d_M_readTrigger_188 rfl rfl ?_
                refine jv_iconst (v := 1) d_M_readTrigger_189 (by decide) ?_
                refine jv_iadd d_M_readTrigger_190 ?_
                refine jv_aload_n d_M_readTrigger_191 rfl rfl ?_
                refine jv_iload_n d_M_readTrigger_192 rfl rfl ?_
                refine jv_if_ne (tgt := 201) d_M_readTrigger_193 (by decide) ⟨fun c => ?_, fun c => ?_⟩
                · replace h := h.1 c
                  refine jv_bipush (v := 48) d_M_readTrigger_201 (by decide) ?_
                  exact h
                · replace h := h.2 c
                  refine jv_bipush (v := 97) d_M_readTrigger_196 (by decide) ?_
                  refine jv_goto (tgt := 203) d_M_readTrigger_198 (by decide) ?_
                  exact h
          · replace h := h.2 c
            refine jv_aload_n d_M_readTrigger_97 rfl rfl ?_
            obtain ⟨q57, h⟩ := h
            obtain ⟨b58, e59, h⟩ := h
            refine jv_getR d_M_readTrigger_98 fl_M_7 rfl q57 e59 ?_
            refine jv_aload_n d_M_readTrigger_101 rfl rfl ?_
            obtain ⟨q60, h⟩ := h
            refine jv_getI d_M_readTrigger_102 fl_M_90 rfl q60 ?_
            obtain ⟨q61, q62, h⟩ := h
            refine jv_iald d_M_readTrigger_105 q61 q62 ?_
            refine jv_bipush (v := 113) d_M_readTrigger_106 (by decide) ?_
            refine jv_icmp_eq (tgt := 113) d_M_readTrigger_108 (by decide) ⟨fun c => ?_, fun c => ?_⟩
            · replace h := h.1 c
              refine jv_aload_n d_M_readTrigger_113 rfl rfl ?_
              obtain ⟨q63, h⟩ := h
              obtain ⟨b64, e65, h⟩ := h
              refine jv_getR d_M_readTrigger_114 fl_M_7 rfl q63 e65 ?_
              refine jv_aload_n d_M_readTrigger_117 rfl rfl ?_
              obtain ⟨q66, h⟩ := h
              refine jv_getI d_M_readTrigger_118 fl_M_90 rfl q66 ?_
              obtain ⟨q67, q68, h⟩ := h
              refine jv_iald d_M_readTrigger_121 q67 q68 ?_
              refine jv_bipush (v := 112) d_M_readTrigger_122 (by decide) ?_
              refine jv_isub d_M_readTrigger_124 ?_
              refine jv_istore_n (L' := [some (.ref a0), some (.int x1), some (.int (40 + (6 * (Prod.fst (jv_si M a0 3 ((Prod.fst M a0 3) + 1)) a0 16)))), some (.int ((Prod.fst (jv_si M16 b11 (Int32.toNatClampNeg (Prod.fst M9 a0 16)) r15) b64 (Int32.toNatClampNeg (Prod.fst (jv_si M16 b11 (Int32.toNatClampNeg (Prod.fst M9 a0 16)) r15) a0 3))) - 112)), none]) d_M_readTrigger_125 rfl (Nat.le_of_ble_eq_true rfl) rfl ?_
              refine jv_aload_n d_M_readTrigger_126 rfl rfl ?_
              refine jv_dup d_M_readTrigger_127 rfl ?_
              obtain ⟨q69, h⟩ := h
              refine jv_getI d_M_readTrigger_128 fl_M_90 rfl q69 ?_
              refine jv_iconst (v := 1) d_M_readTrigger_131 (by decide) ?_
              refine jv_iadd d_M_readTrigger_132 ?_
              obtain ⟨q70, h⟩ := h
              refine jv_putI d_M_readTrigger_133 fl_M_90 (fun r hr => by cases hr; rfl) rfl q70 ?_
              refine jv_aload_n d_M_readTrigger_136 rfl rfl ?_
              obtain ⟨q71, h⟩ := h
              obtain ⟨b72, e73, h⟩ := h
              refine jv_getR d_M_readTrigger_137 fl_M_37 rfl q71 e73 ?_
              refine jv_iload_n d_M_readTrigger_140 rfl rfl ?_
              refine jv_iload_n d_M_readTrigger_141 rfl rfl ?_
              obtain ⟨q74, q75, h⟩ := h
              refine jv_iast d_M_readTrigger_142 q74 q75 ?_
              refine jv_aload_n d_M_readTrigger_143 rfl rfl ?_
              obtain ⟨q76, h⟩ := h
              obtain ⟨b77, e78, h⟩ := h
              refine jv_getR d_M_readTrigger_144 fl_M_37 rfl q76 e78 ?_
              refine jv_iload_n d_M_readTrigger_147 rfl rfl ?_
              refine jv_iconst (v := 2) d_M_readTrigger_148 (by decide) ?_
              refine jv_iadd d_M_readTrigger_149 ?_
              refine jv_iconst (v := 0) d_M_readTrigger_150 (by decide) ?_
              obtain ⟨q79, q80, h⟩ := h
              refine jv_iast d_M_readTrigger_151 q79 q80 ?_
              refine jv_iload_n d_M_readTrigger_152 rfl rfl ?_
              refine jv_if_ne (tgt := 171) d_M_readTrigger_153 (by decide) ⟨fun c => ?_, fun c => ?_⟩
              · replace h := h.1 c
                refine jv_aload_n d_M_readTrigger_171 rfl rfl ?_
                refine jv_bipush (v := 48) d_M_readTrigger_172 (by decide) ?_
                refine jv_iconst (v := 0) d_M_readTrigger_174 (by decide) ?_
                refine jv_iconst (v := 3) d_M_readTrigger_175 (by decide) ?_
                obtain ⟨q81, h⟩ := h
                refine jv_invV [.int 48, .int 0, .int 3] [] d_M_readTrigger_176 ml_M_100 q81 rfl (Nat.le_of_ble_eq_true rfl) (Nat.zero_add _) (Nat.zero_add _) (jv_Ct.mono h (fun v M83 N83 h => ?_))
                obtain ⟨r82, rfl, h⟩ := h
                change jv_J g (d + 1) mt_M_readTrigger 179 [some (.ref a0), some (.int x1), some (.int (40 + (6 * (Prod.fst (jv_si M a0 3 ((Prod.fst M a0 3) + 1)) a0 16)))), some (.int ((Prod.fst (jv_si M16 b11 (Int32.toNatClampNeg (Prod.fst M9 a0 16)) r15) b64 (Int32.toNatClampNeg (Prod.fst (jv_si M16 b11 (Int32.toNatClampNeg (Prod.fst M9 a0 16)) r15) a0 3))) - 112)), none] [.int r82] M83 N83 cr sr Z
                refine jv_if_ne (tgt := 184) d_M_readTrigger_179 (by decide) ⟨fun c => ?_, fun c => ?_⟩
                · replace h := h.1 c
                  refine jv_aload_n d_M_readTrigger_184 rfl rfl ?_
                  obtain ⟨q84, h⟩ := h
                  obtain ⟨b85, e86, h⟩ := h
                  refine jv_getR d_M_readTrigger_185 fl_M_37 rfl q84 e86 ?_
                  refine jv_iload_n d_M_readTrigger_188 rfl rfl ?_
                  refine jv_iconst (v := 1) d_M_readTrigger_189 (by decide) ?_
                  refine jv_iadd d_M_readTrigger_190 ?_
                  refine jv_aload_n d_M_readTrigger_191 rfl rfl ?_
                  refine jv_iload_n d_M_readTrigger_192 rfl rfl ?_
                  refine jv_if_ne (tgt := 201) d_M_readTrigger_193 (by decide) ⟨fun c => ?_, fun c => ?_⟩
                  · replace h := h.1 c
                    refine jv_bipush (v := 48) d_M_readTrigger_201 (by decide) ?_
                    exact h
                  · replace h := h.2 c
                    refine jv_bipush (v := 97) d_M_readTrigger_196 (by decide) ?_
                    refine jv_goto (tgt := 203) d_M_readTrigger_198 (by decide) ?_
                    exact h
                · replace h := h.2 c
                  refine jv_iconst (v := 0) d_M_readTrigger_182 (by decide) ?_
                  exact jv_iret d_M_readTrigger_183 rfl (jv_nz (by decide)) h
              · replace h := h.2 c
                refine jv_aload_n d_M_readTrigger_156 rfl rfl ?_
                refine jv_bipush (v := 97) d_M_readTrigger_157 (by decide) ?_
                refine jv_iconst (v := 0) d_M_readTrigger_159 (by decide) ?_
                refine jv_bipush (v := 15) d_M_readTrigger_160 (by decide) ?_
                obtain ⟨q87, h⟩ := h
                refine jv_invV [.int 97, .int 0, .int 15] [] d_M_readTrigger_162 ml_M_100 q87 rfl (Nat.le_of_ble_eq_true rfl) (Nat.zero_add _) (Nat.zero_add _) (jv_Ct.mono h (fun v M89 N89 h => ?_))
                obtain ⟨r88, rfl, h⟩ := h
                change jv_J g (d + 1) mt_M_readTrigger 165 [some (.ref a0), some (.int x1), some (.int (40 + (6 * (Prod.fst (jv_si M a0 3 ((Prod.fst M a0 3) + 1)) a0 16)))), some (.int ((Prod.fst (jv_si M16 b11 (Int32.toNatClampNeg (Prod.fst M9 a0 16)) r15) b64 (Int32.toNatClampNeg (Prod.fst (jv_si M16 b11 (Int32.toNatClampNeg (Prod.fst M9 a0 16)) r15) a0 3))) - 112)), none] [.int r88] M89 N89 cr sr Z
                refine jv_if_eq (tgt := 182) d_M_readTrigger_165 (by decide) ⟨fun c => ?_, fun c => ?_⟩
                · replace h := h.1 c
                  refine jv_iconst (v := 0) d_M_readTrigger_182 (by decide) ?_
                  exact jv_iret d_M_readTrigger_183 rfl (jv_nz (by decide)) h
                · replace h := h.2 c
                  refine jv_goto (tgt := 184) d_M_readTrigger_168 (by decide) ?_
                  refine jv_aload_n d_M_readTrigger_184 rfl rfl ?_
                  obtain ⟨q90, h⟩ := h
                  obtain ⟨b91, e92, h⟩ := h
                  refine jv_getR d_M_readTrigger_185 fl_M_37 rfl q90 e92 ?_
                  refine jv_iload_n d_M_readTrigger_188 rfl rfl ?_
                  refine jv_iconst (v := 1) d_M_readTrigger_189 (by decide) ?_
                  refine jv_iadd d_M_readTrigger_190 ?_
                  refine jv_aload_n d_M_readTrigger_191 rfl rfl ?_
                  refine jv_iload_n d_M_readTrigger_192 rfl rfl ?_
                  refine jv_if_ne (tgt := 201) d_M_readTrigger_193 (by decide) ⟨fun c => ?_, fun c => ?_⟩
                  · replace h := h.1 c
                    refine jv_bipush (v := 48) d_M_readTrigger_201 (by decide) ?_
                    exact h
                  · replace h := h.2 c
                    refine jv_bipush (v := 97) d_M_readTrigger_196 (by decide) ?_
                    refine jv_goto (tgt := 203) d_M_readTrigger_198 (by decide) ?_
                    exact h
            · replace h := h.2 c
              refine jv_iconst (v := 0) d_M_readTrigger_111 (by decide) ?_
              exact jv_iret d_M_readTrigger_112 rfl (jv_nz (by decide)) h
      · replace h := h.2 c
        refine jv_iconst (v := 0) d_M_readTrigger_55 (by decide) ?_
        exact jv_iret d_M_readTrigger_56 rfl (jv_nz (by decide)) h
    · replace h := h.2 c
      refine jv_iconst (v := 0) d_M_readTrigger_16 (by decide) ?_
      exact jv_iret d_M_readTrigger_17 rfl (jv_nz (by decide)) h
theorem b_M_readTrigger_203 {g : jv_G} {d : Nat} {M : jv_Mem} {N cr sr : Nat} {Z : Option Value → jv_Mem → Nat → Prop} {a0 : Nat} {x1 : Int32} {x2 : Int32} {x3 : Int32} {b0 : Nat} {y1 : Int32} {b2 : Nat} {y3 : Int32} (h : jv_Tg 10 b2 N ∧ jv_Ct g d mt_M_taken [.ref b2, .int y3] M N 0 0 (fun v M3 N3 => jv_ri v (fun r2 => jv_Tg 11 b0 N3 ∧ vp_in y1 (jv_sh b0).2 ∧ jv_J g (d + 1) mt_M_readTrigger 210 [some (.ref a0), some (.int x1), some (.int x2), some (.int x3), some (.int 0)] [] (jv_si M3 b0 (Int32.toNatClampNeg y1) r2) N3 cr sr Z))) : jv_J g (d + 1) mt_M_readTrigger 203 [some (.ref a0), some (.int x1), some (.int x2), some (.int x3), none] [.int y3, .ref b2, .int y1, .ref b0] M N cr sr Z := by
  obtain ⟨q1, h⟩ := h
  refine jv_invV [.int y3] [.int y1, .ref b0] d_M_readTrigger_203 ml_M_104 q1 rfl (Nat.le_of_ble_eq_true rfl) (Nat.zero_add _) (Nat.zero_add _) (jv_Ct.mono h (fun v M3 N3 h => ?_))
  obtain ⟨r2, rfl, h⟩ := h
  change jv_J g (d + 1) mt_M_readTrigger 206 [some (.ref a0), some (.int x1), some (.int x2), some (.int x3), none] [.int r2, .int y1, .ref b0] M3 N3 cr sr Z
  obtain ⟨q4, q5, h⟩ := h
  refine jv_iast d_M_readTrigger_206 q4 q5 ?_
  refine jv_iconst (v := 0) d_M_readTrigger_207 (by decide) ?_
  refine jv_istore (L' := [some (.ref a0), some (.int x1), some (.int x2), some (.int x3), some (.int 0)]) d_M_readTrigger_208 (Nat.le_of_ble_eq_true rfl) rfl ?_
  exact h
theorem b_M_readTrigger_210 {g : jv_G} {d : Nat} {M : jv_Mem} {N cr sr : Nat} {Z : Option Value → jv_Mem → Nat → Prop} {a0 : Nat} {x1 : Int32} {x2 : Int32} {x3 : Int32} {x4 : Int32} (h : ((3 * x3) ≤ x4 → jv_Tg 10 a0 N ∧ jv_Ct g d mt_M_isNext [.ref a0, .int 48, .int 1, .int 9] M N 0 0 (fun v M3 N3 => jv_ri v (fun r2 => (r2 ≠ 0 → jv_Tg 10 a0 N3 ∧ ∃ b5, Prod.fst (Prod.snd M3) a0 18 = some b5 ∧ jv_Tg 10 a0 N3 ∧ jv_Ct g d mt_M_taken [.ref a0, .int 48] M3 N3 0 0 (fun v M9 N9 => jv_ri v (fun r8 => jv_Tg 11 b5 N9 ∧ vp_in (x2 + 3) (jv_sh b5).2 ∧ jv_Tg 10 a0 N9 ∧ ∃ b13, Prod.fst (Prod.snd (jv_si M9 b5 (Int32.toNatClampNeg (x2 + 3)) r8)) a0 18 = some b13 ∧ jv_Tg 10 a0 N9 ∧ jv_Ct g d mt_M_taken [.ref a0, .int 48] (jv_si M9 b5 (Int32.toNatClampNeg (x2 + 3)) r8) N9 0 0 (fun v M17 N17 => jv_ri v (fun r16 => jv_Tg 11 b13 N17 ∧ vp_in (x2 + 4) (jv_sh b13).2 ∧ jv_Tg 10 a0 N17 ∧ ∃ b21, Prod.fst (Prod.snd (jv_si M17 b13 (Int32.toNatClampNeg (x2 + 4)) r16)) a0 18 = some b21 ∧ (x1 = 0 → jv_Tg 11 b21 N17 ∧ vp_in (x2 + 5) (jv_sh b21).2 ∧ jv_Tg 10 a0 N17 ∧ jv_Tg 10 a0 N17 ∧ Z (some (.int 1)) (jv_si (jv_si (jv_si M17 b13 (Int32.toNatClampNeg (x2 + 4)) r16) b21 (Int32.toNatClampNeg (x2 + 5)) 0) a0 16 ((Prod.fst (jv_si (jv_si M17 b13 (Int32.toNatClampNeg (x2 + 4)) r16) b21 (Int32.toNatClampNeg (x2 + 5)) 0) a0 16) + 1)) N17) ∧ (¬ (x1 = 0) → jv_Tg 11 b21 N17 ∧ vp_in (x2 + 5) (jv_sh b21).2 ∧ jv_Tg 10 a0 N17 ∧ jv_Tg 10 a0 N17 ∧ Z (some (.int 1)) (jv_si (jv_si (jv_si M17 b13 (Int32.toNatClampNeg (x2 + 4)) r16) b21 (Int32.toNatClampNeg (x2 + 5)) 1) a0 16 ((Prod.fst (jv_si (jv_si M17 b13 (Int32.toNatClampNeg (x2 + 4)) r16) b21 (Int32.toNatClampNeg (x2 + 5)) 1) a0 16) + 1)) N17)))))) ∧ (r2 = 0 → Z (some (.int 0)) M3 N3)))) ∧ (¬ ((3 * x3) ≤ x4) → jv_Tg 10 a0 N ∧ jv_Ct g d mt_M_isNext [.ref a0, .int 48, .int 0, .int 9] M N 0 0 (fun v M33 N33 => jv_ri v (fun r32 => (r32 ≠ 0 → jv_Tg 10 a0 N33 ∧ ∃ b35, Prod.fst (Prod.snd M33) a0 18 = some b35 ∧ jv_Tg 10 a0 N33 ∧ ∃ b38, Prod.fst (Prod.snd M33) a0 18 = some b38 ∧ jv_Tg 11 b38 N33 ∧ vp_in (x2 + 2) (jv_sh b38).2 ∧ jv_Tg 10 a0 N33 ∧ jv_Ct g d mt_M_taken [.ref a0, .int 48] M33 N33 0 0 (fun v M44 N44 => jv_ri v (fun r43 => jv_Tg 11 b35 N44 ∧ vp_in (x2 + 2) (jv_sh b35).2 ∧ jv_J g (d + 1) mt_M_readTrigger 210 [some (.ref a0), some (.int x1), some (.int x2), some (.int x3), some (.int (x4 + 1))] [] (jv_si M44 b35 (Int32.toNatClampNeg (x2 + 2)) ((10 * (Prod.fst M33 b38 (Int32.toNatClampNeg (x2 + 2)))) + r43)) N44 cr sr Z))) ∧ (r32 = 0 → Z (some (.int 0)) M33 N33))))) : jv_J g (d + 1) mt_M_readTrigger 210 [some (.ref a0), some (.int x1), some (.int x2), some (.int x3), some (.int x4)] [] M N cr sr Z := by
  refine jv_iload d_M_readTrigger_210 rfl ?_
  refine jv_iconst (v := 3) d_M_readTrigger_212 (by decide) ?_
  refine jv_iload_n d_M_readTrigger_213 rfl rfl ?_
  refine jv_imul d_M_readTrigger_214 ?_
  refine jv_icmp_ge (tgt := 264) d_M_readTrigger_215 (by decide) ⟨fun c => ?_, fun c => ?_⟩
  · replace h := h.1 c
    refine jv_aload_n d_M_readTrigger_264 rfl rfl ?_
    refine jv_bipush (v := 48) d_M_readTrigger_265 (by decide) ?_
    refine jv_iconst (v := 1) d_M_readTrigger_267 (by decide) ?_
    refine jv_bipush (v := 9) d_M_readTrigger_268 (by decide) ?_
    obtain ⟨q1, h⟩ := h
    refine jv_invV [.int 48, .int 1, .int 9] [] d_M_readTrigger_270 ml_M_100 q1 rfl (Nat.le_of_ble_eq_true rfl) (Nat.zero_add _) (Nat.zero_add _) (jv_Ct.mono h (fun v M3 N3 h => ?_))
    obtain ⟨r2, rfl, h⟩ := h
    change jv_J g (d + 1) mt_M_readTrigger 273 [some (.ref a0), some (.int x1), some (.int x2), some (.int x3), some (.int x4)] [.int r2] M3 N3 cr sr Z
    refine jv_if_ne (tgt := 278) d_M_readTrigger_273 (by decide) ⟨fun c => ?_, fun c => ?_⟩
    · replace h := h.1 c
      refine jv_aload_n d_M_readTrigger_278 rfl rfl ?_
      obtain ⟨q4, h⟩ := h
      obtain ⟨b5, e6, h⟩ := h
      refine jv_getR d_M_readTrigger_279 fl_M_37 rfl q4 e6 ?_
      refine jv_iload_n d_M_readTrigger_282 rfl rfl ?_
      refine jv_iconst (v := 3) d_M_readTrigger_283 (by decide) ?_
      refine jv_iadd d_M_readTrigger_284 ?_
      refine jv_aload_n d_M_readTrigger_285 rfl rfl ?_
      refine jv_bipush (v := 48) d_M_readTrigger_286 (by decide) ?_
      obtain ⟨q7, h⟩ := h
      refine jv_invV [.int 48] [.int (x2 + 3), .ref b5] d_M_readTrigger_288 ml_M_104 q7 rfl (Nat.le_of_ble_eq_true rfl) (Nat.zero_add _) (Nat.zero_add _) (jv_Ct.mono h (fun v M9 N9 h => ?_))
      obtain ⟨r8, rfl, h⟩ := h
      change jv_J g (d + 1) mt_M_readTrigger 291 [some (.ref a0), some (.int x1), some (.int x2), some (.int x3), some (.int x4)] [.int r8, .int (x2 + 3), .ref b5] M9 N9 cr sr Z
      obtain ⟨q10, q11, h⟩ := h
      refine jv_iast d_M_readTrigger_291 q10 q11 ?_
      refine jv_aload_n d_M_readTrigger_292 rfl rfl ?_
      obtain ⟨q12, h⟩ := h
      obtain ⟨b13, e14, h⟩ := h
      refine jv_getR d_M_readTrigger_293 fl_M_37 rfl q12 e14 ?_
      refine jv_iload_n d_M_readTrigger_296 rfl rfl ?_
      refine jv_iconst (v := 4) d_M_readTrigger_297 (by decide) ?_
      refine jv_iadd d_M_readTrigger_298 ?_
      refine jv_aload_n d_M_readTrigger_299 rfl rfl ?_
      refine jv_bipush (v := 48) d_M_readTrigger_300 (by decide) ?_
      obtain ⟨q15, h⟩ := h
      refine jv_invV [.int 48] [.int (x2 + 4), .ref b13] d_M_readTrigger_302 ml_M_104 q15 rfl (Nat.le_of_ble_eq_true rfl) (Nat.zero_add _) (Nat.zero_add _) (jv_Ct.mono h (fun v M17 N17 h => ?_))
      obtain ⟨r16, rfl, h⟩ := h
      change jv_J g (d + 1) mt_M_readTrigger 305 [some (.ref a0), some (.int x1), some (.int x2), some (.int x3), some (.int x4)] [.int r16, .int (x2 + 4), .ref b13] M17 N17 cr sr Z
      obtain ⟨q18, q19, h⟩ := h
      refine jv_iast d_M_readTrigger_305 q18 q19 ?_
      refine jv_aload_n d_M_readTrigger_306 rfl rfl ?_
      obtain ⟨q20, h⟩ := h
      obtain ⟨b21, e22, h⟩ := h
      refine jv_getR d_M_readTrigger_307 fl_M_37 rfl q20 e22 ?_
      refine jv_iload_n d_M_readTrigger_310 rfl rfl ?_
      refine jv_iconst (v := 5) d_M_readTrigger_311 (by decide) ?_
      refine jv_iadd d_M_readTrigger_312 ?_
      refine jv_iload_n d_M_readTrigger_313 rfl rfl ?_
      refine jv_if_eq (tgt := 321) d_M_readTrigger_314 (by decide) ⟨fun c => ?_, fun c => ?_⟩
      · replace h := h.1 c
        refine jv_iconst (v := 0) d_M_readTrigger_321 (by decide) ?_
        obtain ⟨q23, q24, h⟩ := h
        refine jv_iast d_M_readTrigger_322 q23 q24 ?_
        refine jv_aload_n d_M_readTrigger_323 rfl rfl ?_
        refine jv_dup d_M_readTrigger_324 rfl ?_
        obtain ⟨q25, h⟩ := h
        refine jv_getI d_M_readTrigger_325 fl_M_110 rfl q25 ?_
        refine jv_iconst (v := 1) d_M_readTrigger_328 (by decide) ?_
        refine jv_iadd d_M_readTrigger_329 ?_
        obtain ⟨q26, h⟩ := h
        refine jv_putI d_M_readTrigger_330 fl_M_110 (fun r hr => by cases hr; rfl) rfl q26 ?_
        refine jv_iconst (v := 1) d_M_readTrigger_333 (by decide) ?_
        exact jv_iret d_M_readTrigger_334 rfl (jv_nz (by decide)) h
      · replace h := h.2 c
        refine jv_iconst (v := 1) d_M_readTrigger_317 (by decide) ?_
        refine jv_goto (tgt := 322) d_M_readTrigger_318 (by decide) ?_
        obtain ⟨q27, q28, h⟩ := h
        refine jv_iast d_M_readTrigger_322 q27 q28 ?_
        refine jv_aload_n d_M_readTrigger_323 rfl rfl ?_
        refine jv_dup d_M_readTrigger_324 rfl ?_
        obtain ⟨q29, h⟩ := h
        refine jv_getI d_M_readTrigger_325 fl_M_110 rfl q29 ?_
        refine jv_iconst (v := 1) d_M_readTrigger_328 (by decide) ?_
        refine jv_iadd d_M_readTrigger_329 ?_
        obtain ⟨q30, h⟩ := h
        refine jv_putI d_M_readTrigger_330 fl_M_110 (fun r hr => by cases hr; rfl) rfl q30 ?_
        refine jv_iconst (v := 1) d_M_readTrigger_333 (by decide) ?_
        exact jv_iret d_M_readTrigger_334 rfl (jv_nz (by decide)) h
    · replace h := h.2 c
      refine jv_iconst (v := 0) d_M_readTrigger_276 (by decide) ?_
      exact jv_iret d_M_readTrigger_277 rfl (jv_nz (by decide)) h
  · replace h := h.2 c
    refine jv_aload_n d_M_readTrigger_218 rfl rfl ?_
    refine jv_bipush (v := 48) d_M_readTrigger_219 (by decide) ?_
    refine jv_iconst (v := 0) d_M_readTrigger_221 (by decide) ?_
    refine jv_bipush (v := 9) d_M_readTrigger_222 (by decide) ?_
    obtain ⟨q31, h⟩ := h
    refine jv_invV [.int 48, .int 0, .int 9] [] d_M_readTrigger_224 ml_M_100 q31 rfl (Nat.le_of_ble_eq_true rfl) (Nat.zero_add _) (Nat.zero_add _) (jv_Ct.mono h (fun v M33 N33 h => ?_))
    obtain ⟨r32, rfl, h⟩ := h
    change jv_J g (d + 1) mt_M_readTrigger 227 [some (.ref a0), some (.int x1), some (.int x2), some (.int x3), some (.int x4)] [.int r32] M33 N33 cr sr Z
    refine jv_if_ne (tgt := 232) d_M_readTrigger_227 (by decide) ⟨fun c => ?_, fun c => ?_⟩
    · replace h := h.1 c
      refine jv_aload_n d_M_readTrigger_232 rfl rfl ?_
      obtain ⟨q34, h⟩ := h
      obtain ⟨b35, e36, h⟩ := h
      refine jv_getR d_M_readTrigger_233 fl_M_37 rfl q34 e36 ?_
      refine jv_iload_n d_M_readTrigger_236 rfl rfl ?_
      refine jv_iconst (v := 2) d_M_readTrigger_237 (by decide) ?_
      refine jv_iadd d_M_readTrigger_238 ?_
      refine jv_bipush (v := 10) d_M_readTrigger_239 (by decide) ?_
      refine jv_aload_n d_M_readTrigger_241 rfl rfl ?_
      obtain ⟨q37, h⟩ := h
      obtain ⟨b38, e39, h⟩ := h
      refine jv_getR d_M_readTrigger_242 fl_M_37 rfl q37 e39 ?_
      refine jv_iload_n d_M_readTrigger_245 rfl rfl ?_
      refine jv_iconst (v := 2) d_M_readTrigger_246 (by decide) ?_
      refine jv_iadd d_M_readTrigger_247 ?_
      obtain ⟨q40, q41, h⟩ := h
      refine jv_iald d_M_readTrigger_248 q40 q41 ?_
      refine jv_imul d_M_readTrigger_249 ?_
      refine jv_aload_n d_M_readTrigger_250 rfl rfl ?_
      refine jv_bipush (v := 48) d_M_readTrigger_251 (by decide) ?_
      obtain ⟨q42, h⟩ := h
      refine jv_invV [.int 48] [.int (10 * (Prod.fst M33 b38 (Int32.toNatClampNeg (x2 + 2)))), .int (x2 + 2), .ref b35] d_M_readTrigger_253 ml_M_104 q42 rfl (Nat.le_of_ble_eq_true rfl) (Nat.zero_add _) (Nat.zero_add _) (jv_Ct.mono h (fun v M44 N44 h => ?_))
      obtain ⟨r43, rfl, h⟩ := h
      change jv_J g (d + 1) mt_M_readTrigger 256 [some (.ref a0), some (.int x1), some (.int x2), some (.int x3), some (.int x4)] [.int r43, .int (10 * (Prod.fst M33 b38 (Int32.toNatClampNeg (x2 + 2)))), .int (x2 + 2), .ref b35] M44 N44 cr sr Z
      refine jv_iadd d_M_readTrigger_256 ?_
      obtain ⟨q45, q46, h⟩ := h
      refine jv_iast d_M_readTrigger_257 q45 q46 ?_
      refine jv_iinc (v := (x4 + 1)) (L' := [some (.ref a0), some (.int x1), some (.int x2), some (.int x3), some (.int (x4 + 1))]) d_M_readTrigger_258 rfl rfl (Nat.le_of_ble_eq_true rfl) rfl ?_
      refine jv_goto (tgt := 210) d_M_readTrigger_261 (by decide) ?_
      exact h
    · replace h := h.2 c
      refine jv_iconst (v := 0) d_M_readTrigger_230 (by decide) ?_
      exact jv_iret d_M_readTrigger_231 rfl (jv_nz (by decide)) h
theorem b_M_board_0 {g : jv_G} {d : Nat} {M : jv_Mem} {N cr sr : Nat} {Z : Option Value → jv_Mem → Nat → Prop} {a0 : Nat} (h : jv_Tg 10 a0 N ∧ jv_Tg 10 a0 N ∧ jv_Ct g d mt_M_readBoard [.ref a0] (jv_si M a0 0 0) N 0 0 (fun v M4 N4 => jv_ri v (fun r3 => (r3 = (-9) → jv_Tg 10 a0 N4 ∧ ∃ b6, Prod.fst (Prod.snd M4) a0 19 = some b6 ∧ jv_Tg 10 a0 N4 ∧ ∃ b9, Prod.fst (Prod.snd M4) a0 18 = some b9 ∧ jv_Ct g d mt_M_lay [.ref b6, .ref b9] M4 N4 0 0 (fun v M12 N12 => jv_rv v (jv_Tg 10 a0 N12 ∧ jv_Tg 10 a0 N12 ∧ jv_Tg 10 a0 N12 ∧ jv_Tg 10 a0 N12 ∧ jv_Tg 10 a0 N12 ∧ jv_Tg 10 a0 N12 ∧ jv_J g (d + 1) mt_M_board 54 [some (.ref a0), some (.int 0)] [] (jv_si (jv_si (jv_si M12 a0 4 (Prod.fst M12 a0 11)) a0 6 (Prod.fst (jv_si M12 a0 4 (Prod.fst M12 a0 11)) a0 13)) a0 9 (Prod.fst (jv_si (jv_si M12 a0 4 (Prod.fst M12 a0 11)) a0 6 (Prod.fst (jv_si M12 a0 4 (Prod.fst M12 a0 11)) a0 13)) a0 16)) N12 cr sr Z))) ∧ (¬ (r3 = (-9)) → Z (some (.int (-3))) M4 N4)))) : jv_J g (d + 1) mt_M_board 0 [some (.ref a0), none] [] M N cr sr Z := by
  refine jv_aload_n d_M_board_0 rfl rfl ?_
  refine jv_iconst (v := 0) d_M_board_1 (by decide) ?_
  obtain ⟨q1, h⟩ := h
  refine jv_putI d_M_board_2 fl_M_75 (fun r hr => by cases hr; rfl) rfl q1 ?_
  refine jv_aload_n d_M_board_5 rfl rfl ?_
  obtain ⟨q2, h⟩ := h
  refine jv_invV [] [] d_M_board_6 ml_M_127 q2 rfl (Nat.le_of_ble_eq_true rfl) (Nat.zero_add _) (Nat.zero_add _) (jv_Ct.mono h (fun v M4 N4 h => ?_))
  obtain ⟨r3, rfl, h⟩ := h
  change jv_J g (d + 1) mt_M_board 9 [some (.ref a0), none] [.int r3] M4 N4 cr sr Z
  refine jv_bipush (v := (-9)) d_M_board_9 (by decide) ?_
  refine jv_icmp_eq (tgt := 17) d_M_board_11 (by decide) ⟨fun c => ?_, fun c => ?_⟩
  · replace h := h.1 c
    refine jv_aload_n d_M_board_17 rfl rfl ?_
    obtain ⟨q5, h⟩ := h
    obtain ⟨b6, e7, h⟩ := h
    refine jv_getR d_M_board_18 fl_M_40 rfl q5 e7 ?_
    refine jv_aload_n d_M_board_21 rfl rfl ?_
    obtain ⟨q8, h⟩ := h
    obtain ⟨b9, e10, h⟩ := h
    refine jv_getR d_M_board_22 fl_M_37 rfl q8 e10 ?_
    refine jv_invS [.ref b6, .ref b9] [] d_M_board_25 ml_M_131 rfl (Nat.le_of_ble_eq_true rfl) (Nat.zero_add _) (Nat.zero_add _) (jv_Ct.mono h (fun v M12 N12 h => ?_))
    obtain ⟨rfl, h⟩ := h
    change jv_J g (d + 1) mt_M_board 28 [some (.ref a0), none] [] M12 N12 cr sr Z
    refine jv_aload_n d_M_board_28 rfl rfl ?_
    refine jv_aload_n d_M_board_29 rfl rfl ?_
    obtain ⟨q13, h⟩ := h
    refine jv_getI d_M_board_30 fl_M_93 rfl q13 ?_
    obtain ⟨q14, h⟩ := h
    refine jv_putI d_M_board_33 fl_M_135 (fun r hr => by cases hr; rfl) rfl q14 ?_
    refine jv_aload_n d_M_board_36 rfl rfl ?_
    refine jv_aload_n d_M_board_37 rfl rfl ?_
    obtain ⟨q15, h⟩ := h
    refine jv_getI d_M_board_38 fl_M_107 rfl q15 ?_
    obtain ⟨q16, h⟩ := h
    refine jv_putI d_M_board_41 fl_M_78 (fun r hr => by cases hr; rfl) rfl q16 ?_
    refine jv_aload_n d_M_board_44 rfl rfl ?_
    refine jv_aload_n d_M_board_45 rfl rfl ?_
    obtain ⟨q17, h⟩ := h
    refine jv_getI d_M_board_46 fl_M_110 rfl q17 ?_
    obtain ⟨q18, h⟩ := h
    refine jv_putI d_M_board_49 fl_M_138 (fun r hr => by cases hr; rfl) rfl q18 ?_
    refine jv_iconst (v := 0) d_M_board_52 (by decide) ?_
    refine jv_istore_n (L' := [some (.ref a0), some (.int 0)]) d_M_board_53 rfl (Nat.le_of_ble_eq_true rfl) rfl ?_
    exact h
  · replace h := h.2 c
    refine jv_bipush (v := (-3)) d_M_board_14 (by decide) ?_
    exact jv_iret d_M_board_16 rfl rfl h
theorem b_M_board_54 {g : jv_G} {d : Nat} {M : jv_Mem} {N cr sr : Nat} {Z : Option Value → jv_Mem → Nat → Prop} {a0 : Nat} {x1 : Int32} (h : (16 ≤ x1 → jv_J g (d + 1) mt_M_board 80 [some (.ref a0), some (.int 0)] [] M N cr sr Z) ∧ (¬ (16 ≤ x1) → jv_Tg 10 a0 N ∧ ∃ b2, Prod.fst (Prod.snd M) a0 5 = some b2 ∧ jv_Tg 10 a0 N ∧ ∃ b5, Prod.fst (Prod.snd M) a0 12 = some b5 ∧ jv_Tg 11 b5 N ∧ vp_in x1 (jv_sh b5).2 ∧ jv_Tg 11 b2 N ∧ vp_in x1 (jv_sh b2).2 ∧ jv_J g (d + 1) mt_M_board 54 [some (.ref a0), some (.int (x1 + 1))] [] (jv_si M b2 (Int32.toNatClampNeg x1) (Prod.fst M b5 (Int32.toNatClampNeg x1))) N cr sr Z)) : jv_J g (d + 1) mt_M_board 54 [some (.ref a0), some (.int x1)] [] M N cr sr Z := by
  refine jv_iload_n d_M_board_54 rfl rfl ?_
  refine jv_bipush (v := 16) d_M_board_55 (by decide) ?_
  refine jv_icmp_ge (tgt := 78) d_M_board_57 (by decide) ⟨fun c => ?_, fun c => ?_⟩
  · replace h := h.1 c
    refine jv_iconst (v := 0) d_M_board_78 (by decide) ?_
    refine jv_istore_n (L' := [some (.ref a0), some (.int 0)]) d_M_board_79 rfl (Nat.le_of_ble_eq_true rfl) rfl ?_
    exact h
  · replace h := h.2 c
    refine jv_aload_n d_M_board_60 rfl rfl ?_
    obtain ⟨q1, h⟩ := h
    obtain ⟨b2, e3, h⟩ := h
    refine jv_getR d_M_board_61 fl_M_13 rfl q1 e3 ?_
    refine jv_iload_n d_M_board_64 rfl rfl ?_
    refine jv_aload_n d_M_board_65 rfl rfl ?_
    obtain ⟨q4, h⟩ := h
    obtain ⟨b5, e6, h⟩ := h
    refine jv_getR d_M_board_66 fl_M_25 rfl q4 e6 ?_
    refine jv_iload_n d_M_board_69 rfl rfl ?_
    obtain ⟨q7, q8, h⟩ := h
    refine jv_iald d_M_board_70 q7 q8 ?_
    obtain ⟨q9, q10, h⟩ := h
    refine jv_iast d_M_board_71 q9 q10 ?_
    refine jv_iinc (v := (x1 + 1)) (L' := [some (.ref a0), some (.int (x1 + 1))]) d_M_board_72 rfl rfl (Nat.le_of_ble_eq_true rfl) rfl ?_
    refine jv_goto (tgt := 54) d_M_board_75 (by decide) ?_
    exact h
theorem b_M_board_80 {g : jv_G} {d : Nat} {M : jv_Mem} {N cr sr : Nat} {Z : Option Value → jv_Mem → Nat → Prop} {a0 : Nat} {x1 : Int32} (h : (4 ≤ x1 → jv_J g (d + 1) mt_M_board 117 [some (.ref a0), some (.int 0)] [] M N cr sr Z) ∧ (¬ (4 ≤ x1) → jv_Tg 10 a0 N ∧ ∃ b2, Prod.fst (Prod.snd M) a0 7 = some b2 ∧ jv_Tg 10 a0 N ∧ ∃ b5, Prod.fst (Prod.snd M) a0 14 = some b5 ∧ jv_Tg 11 b5 N ∧ vp_in x1 (jv_sh b5).2 ∧ jv_Tg 11 b2 N ∧ vp_in x1 (jv_sh b2).2 ∧ jv_Tg 10 a0 N ∧ ∃ b12, Prod.fst (Prod.snd (jv_si M b2 (Int32.toNatClampNeg x1) (Prod.fst M b5 (Int32.toNatClampNeg x1)))) a0 8 = some b12 ∧ jv_Tg 10 a0 N ∧ ∃ b15, Prod.fst (Prod.snd (jv_si M b2 (Int32.toNatClampNeg x1) (Prod.fst M b5 (Int32.toNatClampNeg x1)))) a0 15 = some b15 ∧ jv_Tg 11 b15 N ∧ vp_in x1 (jv_sh b15).2 ∧ jv_Tg 11 b12 N ∧ vp_in x1 (jv_sh b12).2 ∧ jv_J g (d + 1) mt_M_board 80 [some (.ref a0), some (.int (x1 + 1))] [] (jv_si (jv_si M b2 (Int32.toNatClampNeg x1) (Prod.fst M b5 (Int32.toNatClampNeg x1))) b12 (Int32.toNatClampNeg x1) (Prod.fst (jv_si M b2 (Int32.toNatClampNeg x1) (Prod.fst M b5 (Int32.toNatClampNeg x1))) b15 (Int32.toNatClampNeg x1))) N cr sr Z)) : jv_J g (d + 1) mt_M_board 80 [some (.ref a0), some (.int x1)] [] M N cr sr Z := by
  refine jv_iload_n d_M_board_80 rfl rfl ?_
  refine jv_iconst (v := 4) d_M_board_81 (by decide) ?_
  refine jv_icmp_ge (tgt := 115) d_M_board_82 (by decide) ⟨fun c => ?_, fun c => ?_⟩
  · replace h := h.1 c
    refine jv_iconst (v := 0) d_M_board_115 (by decide) ?_
    refine jv_istore_n (L' := [some (.ref a0), some (.int 0)]) d_M_board_116 rfl (Nat.le_of_ble_eq_true rfl) rfl ?_
    exact h
  · replace h := h.2 c
    refine jv_aload_n d_M_board_85 rfl rfl ?_
    obtain ⟨q1, h⟩ := h
    obtain ⟨b2, e3, h⟩ := h
    refine jv_getR d_M_board_86 fl_M_16 rfl q1 e3 ?_
    refine jv_iload_n d_M_board_89 rfl rfl ?_
    refine jv_aload_n d_M_board_90 rfl rfl ?_
    obtain ⟨q4, h⟩ := h
    obtain ⟨b5, e6, h⟩ := h
    refine jv_getR d_M_board_91 fl_M_28 rfl q4 e6 ?_
    refine jv_iload_n d_M_board_94 rfl rfl ?_
    obtain ⟨q7, q8, h⟩ := h
    refine jv_iald d_M_board_95 q7 q8 ?_
    obtain ⟨q9, q10, h⟩ := h
    refine jv_iast d_M_board_96 q9 q10 ?_
    refine jv_aload_n d_M_board_97 rfl rfl ?_
    obtain ⟨q11, h⟩ := h
    obtain ⟨b12, e13, h⟩ := h
    refine jv_getR d_M_board_98 fl_M_19 rfl q11 e13 ?_
    refine jv_iload_n d_M_board_101 rfl rfl ?_
    refine jv_aload_n d_M_board_102 rfl rfl ?_
    obtain ⟨q14, h⟩ := h
    obtain ⟨b15, e16, h⟩ := h
    refine jv_getR d_M_board_103 fl_M_31 rfl q14 e16 ?_
    refine jv_iload_n d_M_board_106 rfl rfl ?_
    obtain ⟨q17, q18, h⟩ := h
    refine jv_iald d_M_board_107 q17 q18 ?_
    obtain ⟨q19, q20, h⟩ := h
    refine jv_iast d_M_board_108 q19 q20 ?_
    refine jv_iinc (v := (x1 + 1)) (L' := [some (.ref a0), some (.int (x1 + 1))]) d_M_board_109 rfl rfl (Nat.le_of_ble_eq_true rfl) rfl ?_
    refine jv_goto (tgt := 80) d_M_board_112 (by decide) ?_
    exact h
theorem b_M_board_117 {g : jv_G} {d : Nat} {M : jv_Mem} {N cr sr : Nat} {Z : Option Value → jv_Mem → Nat → Prop} {a0 : Nat} {x1 : Int32} (h : (6 ≤ x1 → jv_Tg 10 a0 N ∧ jv_Tg 10 a0 N ∧ ∃ b3, Prod.fst (Prod.snd (jv_si M a0 23 0)) a0 25 = some b3 ∧ jv_Tg 12 b3 N ∧ vp_in 0 (jv_sh b3).2 ∧ jv_Tg 10 a0 N ∧ ∃ b8, Prod.fst (Prod.snd (jv_si (jv_si M a0 23 0) b3 (Int32.toNatClampNeg 0) 0)) a0 25 = some b8 ∧ jv_Tg 12 b8 N ∧ vp_in 1 (jv_sh b8).2 ∧ jv_Tg 10 a0 N ∧ Z (some (.int (Prod.fst (jv_si (jv_si (jv_si M a0 23 0) b3 (Int32.toNatClampNeg 0) 0) b8 (Int32.toNatClampNeg 1) 0) a0 6))) (jv_si (jv_si (jv_si M a0 23 0) b3 (Int32.toNatClampNeg 0) 0) b8 (Int32.toNatClampNeg 1) 0) N) ∧ (¬ (6 ≤ x1) → jv_Tg 10 a0 N ∧ ∃ b14, Prod.fst (Prod.snd M) a0 10 = some b14 ∧ jv_Tg 10 a0 N ∧ ∃ b17, Prod.fst (Prod.snd M) a0 17 = some b17 ∧ jv_Tg 11 b17 N ∧ vp_in x1 (jv_sh b17).2 ∧ jv_Tg 11 b14 N ∧ vp_in x1 (jv_sh b14).2 ∧ jv_J g (d + 1) mt_M_board 117 [some (.ref a0), some (.int (x1 + 1))] [] (jv_si M b14 (Int32.toNatClampNeg x1) (Prod.fst M b17 (Int32.toNatClampNeg x1))) N cr sr Z)) : jv_J g (d + 1) mt_M_board 117 [some (.ref a0), some (.int x1)] [] M N cr sr Z := by
  refine jv_iload_n d_M_board_117 rfl rfl ?_
  refine jv_bipush (v := 6) d_M_board_118 (by decide) ?_
  refine jv_icmp_ge (tgt := 141) d_M_board_120 (by decide) ⟨fun c => ?_, fun c => ?_⟩
  · replace h := h.1 c
    refine jv_aload_n d_M_board_141 rfl rfl ?_
    refine jv_iconst (v := 0) d_M_board_142 (by decide) ?_
    obtain ⟨q1, h⟩ := h
    refine jv_putI d_M_board_143 fl_M_141 (fun r hr => by cases hr; rfl) rfl q1 ?_
    refine jv_aload_n d_M_board_146 rfl rfl ?_
    obtain ⟨q2, h⟩ := h
    obtain ⟨b3, e4, h⟩ := h
    refine jv_getR d_M_board_147 fl_M_55 rfl q2 e4 ?_
    refine jv_iconst (v := 0) d_M_board_150 (by decide) ?_
    refine jv_iconst (v := 0) d_M_board_151 (by decide) ?_
    obtain ⟨q5, q6, h⟩ := h
    refine jv_zast d_M_board_152 q5 q6 (by decide) ?_
    refine jv_aload_n d_M_board_153 rfl rfl ?_
    obtain ⟨q7, h⟩ := h
    obtain ⟨b8, e9, h⟩ := h
    refine jv_getR d_M_board_154 fl_M_55 rfl q7 e9 ?_
    refine jv_iconst (v := 1) d_M_board_157 (by decide) ?_
    refine jv_iconst (v := 0) d_M_board_158 (by decide) ?_
    obtain ⟨q10, q11, h⟩ := h
    refine jv_zast d_M_board_159 q10 q11 (by decide) ?_
    refine jv_aload_n d_M_board_160 rfl rfl ?_
    obtain ⟨q12, h⟩ := h
    refine jv_getI d_M_board_161 fl_M_78 rfl q12 ?_
    exact jv_iret d_M_board_164 rfl rfl h
  · replace h := h.2 c
    refine jv_aload_n d_M_board_123 rfl rfl ?_
    obtain ⟨q13, h⟩ := h
    obtain ⟨b14, e15, h⟩ := h
    refine jv_getR d_M_board_124 fl_M_22 rfl q13 e15 ?_
    refine jv_iload_n d_M_board_127 rfl rfl ?_
    refine jv_aload_n d_M_board_128 rfl rfl ?_
    obtain ⟨q16, h⟩ := h
    obtain ⟨b17, e18, h⟩ := h
    refine jv_getR d_M_board_129 fl_M_34 rfl q16 e18 ?_
    refine jv_iload_n d_M_board_132 rfl rfl ?_
    obtain ⟨q19, q20, h⟩ := h
    refine jv_iald d_M_board_133 q19 q20 ?_
    obtain ⟨q21, q22, h⟩ := h
    refine jv_iast d_M_board_134 q21 q22 ?_
    refine jv_iinc (v := (x1 + 1)) (L' := [some (.ref a0), some (.int (x1 + 1))]) d_M_board_135 rfl rfl (Nat.le_of_ble_eq_true rfl) rfl ?_
    refine jv_goto (tgt := 117) d_M_board_138 (by decide) ?_
    exact h
theorem b_M_lay_0 {g : jv_G} {d : Nat} {M : jv_Mem} {N cr sr : Nat} {Z : Option Value → jv_Mem → Nat → Prop} {a0 : Nat} {a1 : Nat} (h : jv_J g d mt_M_lay 2 [some (.ref a0), some (.ref a1), some (.int 0)] [] M N cr sr Z) : jv_J g d mt_M_lay 0 [some (.ref a0), some (.ref a1), none] [] M N cr sr Z := by
  refine jv_iconst (v := 0) d_M_lay_0 (by decide) ?_
  refine jv_istore_n (L' := [some (.ref a0), some (.ref a1), some (.int 0)]) d_M_lay_1 rfl (Nat.le_of_ble_eq_true rfl) rfl ?_
  exact h
theorem b_M_lay_2 {g : jv_G} {d : Nat} {M : jv_Mem} {N cr sr : Nat} {Z : Option Value → jv_Mem → Nat → Prop} {a0 : Nat} {a1 : Nat} {x2 : Int32} (h : (165 ≤ x2 → Z none M N) ∧ (¬ (165 ≤ x2) → jv_Tg 11 a1 N ∧ vp_in x2 (jv_sh a1).2 ∧ jv_Tg 11 a0 N ∧ vp_in x2 (jv_sh a0).2 ∧ jv_J g d mt_M_lay 2 [some (.ref a0), some (.ref a1), some (.int (x2 + 1))] [] (jv_si M a0 (Int32.toNatClampNeg x2) (Prod.fst M a1 (Int32.toNatClampNeg x2))) N cr sr Z)) : jv_J g d mt_M_lay 2 [some (.ref a0), some (.ref a1), some (.int x2)] [] M N cr sr Z := by
  refine jv_iload_n d_M_lay_2 rfl rfl ?_
  refine jv_sipush (v := 165) d_M_lay_3 (by decide) ?_
  refine jv_icmp_ge (tgt := 21) d_M_lay_6 (by decide) ⟨fun c => ?_, fun c => ?_⟩
  · replace h := h.1 c
    exact jv_ret d_M_lay_21 rfl h
  · replace h := h.2 c
    refine jv_aload_n d_M_lay_9 rfl rfl ?_
    refine jv_iload_n d_M_lay_10 rfl rfl ?_
    refine jv_aload_n d_M_lay_11 rfl rfl ?_
    refine jv_iload_n d_M_lay_12 rfl rfl ?_
    obtain ⟨q1, q2, h⟩ := h
    refine jv_iald d_M_lay_13 q1 q2 ?_
    obtain ⟨q3, q4, h⟩ := h
    refine jv_iast d_M_lay_14 q3 q4 ?_
    refine jv_iinc (v := (x2 + 1)) (L' := [some (.ref a0), some (.ref a1), some (.int (x2 + 1))]) d_M_lay_15 rfl rfl (Nat.le_of_ble_eq_true rfl) rfl ?_
    refine jv_goto (tgt := 2) d_M_lay_18 (by decide) ?_
    exact h
theorem b_M_hart_0 {g : jv_G} {d : Nat} {M : jv_Mem} {N cr sr : Nat} {Z : Option Value → jv_Mem → Nat → Prop} {a0 : Nat} {x1 : Int32} {x2 : Int32} (h : jv_Tg 10 a0 N ∧ jv_Tg 10 a0 N ∧ jv_Ct g d mt_M_noHart [.ref a0, .int x1] (jv_si M a0 0 0) N 0 0 (fun v M4 N4 => jv_ri v (fun r3 => (r3 = 0 → jv_Ct g d mt_M_in [.long (Int32.toInt64 x2), .long 0, .long 9] M4 N4 0 0 (fun v M6 N6 => jv_ri v (fun r5 => (r5 = 0 → Z (some (.int (-2))) M6 N6) ∧ (¬ (r5 = 0) → jv_Tg 10 a0 N6 ∧ ∃ b8, Prod.fst (Prod.snd M6) a0 19 = some b8 ∧ jv_Tg 10 a0 N6 ∧ jv_Ct g d mt_M_tellHart [.ref a0, .ref b8, .int x1, .int x2] M6 N6 0 0 (fun v M12 N12 => jv_ri v (fun r11 => Z (some (.int r11)) M12 N12)))))) ∧ (¬ (r3 = 0) → Z (some (.int (-1))) M4 N4)))) : jv_J g (d + 1) mt_M_hart 0 [some (.ref a0), some (.int x1), some (.int x2)] [] M N cr sr Z := by
  refine jv_aload_n d_M_hart_0 rfl rfl ?_
  refine jv_iconst (v := 0) d_M_hart_1 (by decide) ?_
  obtain ⟨q1, h⟩ := h
  refine jv_putI d_M_hart_2 fl_M_75 (fun r hr => by cases hr; rfl) rfl q1 ?_
  refine jv_aload_n d_M_hart_5 rfl rfl ?_
  refine jv_iload_n d_M_hart_6 rfl rfl ?_
  obtain ⟨q2, h⟩ := h
  refine jv_invV [.int x1] [] d_M_hart_7 ml_M_206 q2 rfl (Nat.le_of_ble_eq_true rfl) (Nat.zero_add _) (Nat.zero_add _) (jv_Ct.mono h (fun v M4 N4 h => ?_))
  obtain ⟨r3, rfl, h⟩ := h
  change jv_J g (d + 1) mt_M_hart 10 [some (.ref a0), some (.int x1), some (.int x2)] [.int r3] M4 N4 cr sr Z
  refine jv_if_eq (tgt := 15) d_M_hart_10 (by decide) ⟨fun c => ?_, fun c => ?_⟩
  · replace h := h.1 c
    refine jv_iload_n d_M_hart_15 rfl rfl ?_
    refine jv_i2l d_M_hart_16 ?_
    refine jv_lconst (v := 0) d_M_hart_17 (by decide) ?_
    refine jv_ldc2 d_M_hart_18 co_M_210 ?_
    refine jv_invS [.long (Int32.toInt64 x2), .long 0, .long 9] [] d_M_hart_21 ml_M_81 rfl (Nat.le_of_ble_eq_true rfl) (Nat.zero_add _) (Nat.zero_add _) (jv_Ct.mono h (fun v M6 N6 h => ?_))
    obtain ⟨r5, rfl, h⟩ := h
    change jv_J g (d + 1) mt_M_hart 24 [some (.ref a0), some (.int x1), some (.int x2)] [.int r5] M6 N6 cr sr Z
    refine jv_if_eq (tgt := 40) d_M_hart_24 (by decide) ⟨fun c => ?_, fun c => ?_⟩
    · replace h := h.1 c
      refine jv_bipush (v := (-2)) d_M_hart_40 (by decide) ?_
      exact jv_iret d_M_hart_42 rfl rfl h
    · replace h := h.2 c
      refine jv_aload_n d_M_hart_27 rfl rfl ?_
      refine jv_aload_n d_M_hart_28 rfl rfl ?_
      obtain ⟨q7, h⟩ := h
      obtain ⟨b8, e9, h⟩ := h
      refine jv_getR d_M_hart_29 fl_M_40 rfl q7 e9 ?_
      refine jv_iload_n d_M_hart_32 rfl rfl ?_
      refine jv_iload_n d_M_hart_33 rfl rfl ?_
      obtain ⟨q10, h⟩ := h
      refine jv_invV [.ref b8, .int x1, .int x2] [] d_M_hart_34 ml_M_212 q10 rfl (Nat.le_of_ble_eq_true rfl) (Nat.zero_add _) (Nat.zero_add _) (jv_Ct.mono h (fun v M12 N12 h => ?_))
      obtain ⟨r11, rfl, h⟩ := h
      change jv_J g (d + 1) mt_M_hart 37 [some (.ref a0), some (.int x1), some (.int x2)] [.int r11] M12 N12 cr sr Z
      refine jv_goto (tgt := 42) d_M_hart_37 (by decide) ?_
      exact jv_iret d_M_hart_42 rfl rfl h
  · replace h := h.2 c
    refine jv_iconst (v := (-1)) d_M_hart_13 (by decide) ?_
    exact jv_iret d_M_hart_14 rfl rfl h
theorem b_M_noHart_0 {g : jv_G} {d : Nat} {M : jv_Mem} {N cr sr : Nat} {Z : Option Value → jv_Mem → Nat → Prop} {a0 : Nat} {x1 : Int32} (h : jv_Tg 10 a0 N ∧ jv_Ct g d mt_M_in [.long (Int32.toInt64 x1), .long 0, .long (Int32.toInt64 ((Prod.fst M a0 6) - 1))] M N 0 0 (fun v M3 N3 => jv_ri v (fun r2 => (r2 ≠ 0 → Z (some (.int 0)) M3 N3) ∧ (r2 = 0 → Z (some (.int 1)) M3 N3)))) : jv_J g (d + 1) mt_M_noHart 0 [some (.ref a0), some (.int x1)] [] M N cr sr Z := by
  refine jv_iload_n d_M_noHart_0 rfl rfl ?_
  refine jv_i2l d_M_noHart_1 ?_
  refine jv_lconst (v := 0) d_M_noHart_2 (by decide) ?_
  refine jv_aload_n d_M_noHart_3 rfl rfl ?_
  obtain ⟨q1, h⟩ := h
  refine jv_getI d_M_noHart_4 fl_M_78 rfl q1 ?_
  refine jv_iconst (v := 1) d_M_noHart_7 (by decide) ?_
  refine jv_isub d_M_noHart_8 ?_
  refine jv_i2l d_M_noHart_9 ?_
  refine jv_invS [.long (Int32.toInt64 x1), .long 0, .long (Int32.toInt64 ((Prod.fst M a0 6) - 1))] [] d_M_noHart_10 ml_M_81 rfl (Nat.le_of_ble_eq_true rfl) (Nat.zero_add _) (Nat.zero_add _) (jv_Ct.mono h (fun v M3 N3 h => ?_))
  obtain ⟨r2, rfl, h⟩ := h
  change jv_J g (d + 1) mt_M_noHart 13 [some (.ref a0), some (.int x1)] [.int r2] M3 N3 cr sr Z
  refine jv_if_ne (tgt := 20) d_M_noHart_13 (by decide) ⟨fun c => ?_, fun c => ?_⟩
  · replace h := h.1 c
    refine jv_iconst (v := 0) d_M_noHart_20 (by decide) ?_
    exact jv_iret d_M_noHart_21 rfl (jv_nz (by decide)) h
  · replace h := h.2 c
    refine jv_iconst (v := 1) d_M_noHart_16 (by decide) ?_
    refine jv_goto (tgt := 21) d_M_noHart_17 (by decide) ?_
    exact jv_iret d_M_noHart_21 rfl (jv_nz (by decide)) h
theorem b_M_tellHart_0 {g : jv_G} {d : Nat} {M : jv_Mem} {N cr sr : Nat} {Z : Option Value → jv_Mem → Nat → Prop} {a0 : Nat} {a1 : Nat} {x2 : Int32} {x3 : Int32} (h : (8 ≤ x3 → (x3 ≠ 8 → jv_Tg 10 a0 N ∧ ∃ b2, Prod.fst (Prod.snd M) a0 7 = some b2 ∧ jv_Tg 11 b2 N ∧ vp_in x2 (jv_sh b2).2 ∧ Z (some (.int (Prod.fst M b2 (Int32.toNatClampNeg x2)))) M N) ∧ (x3 = 8 → jv_Tg 10 a0 N ∧ ∃ b7, Prod.fst (Prod.snd M) a0 8 = some b7 ∧ jv_Tg 11 b7 N ∧ vp_in x2 (jv_sh b7).2 ∧ Z (some (.int (Prod.fst M b7 (Int32.toNatClampNeg x2)))) M N)) ∧ (¬ (8 ≤ x3) → jv_Ct g d mt_M_hartOf [.ref a1, .int x2, .int x3] M N 0 0 (fun v M12 N12 => jv_ri v (fun r11 => Z (some (.int r11)) M12 N12)))) : jv_J g (d + 1) mt_M_tellHart 0 [some (.ref a0), some (.ref a1), some (.int x2), some (.int x3)] [] M N cr sr Z := by
  refine jv_iload_n d_M_tellHart_0 rfl rfl ?_
  refine jv_bipush (v := 8) d_M_tellHart_1 (by decide) ?_
  refine jv_icmp_ge (tgt := 15) d_M_tellHart_3 (by decide) ⟨fun c => ?_, fun c => ?_⟩
  · replace h := h.1 c
    refine jv_iload_n d_M_tellHart_15 rfl rfl ?_
    refine jv_bipush (v := 8) d_M_tellHart_16 (by decide) ?_
    refine jv_icmp_ne (tgt := 30) d_M_tellHart_18 (by decide) ⟨fun c => ?_, fun c => ?_⟩
    · replace h := h.1 c
      refine jv_aload_n d_M_tellHart_30 rfl rfl ?_
      obtain ⟨q1, h⟩ := h
      obtain ⟨b2, e3, h⟩ := h
      refine jv_getR d_M_tellHart_31 fl_M_16 rfl q1 e3 ?_
      refine jv_iload_n d_M_tellHart_34 rfl rfl ?_
      obtain ⟨q4, q5, h⟩ := h
      refine jv_iald d_M_tellHart_35 q4 q5 ?_
      exact jv_iret d_M_tellHart_36 rfl rfl h
    · replace h := h.2 c
      refine jv_aload_n d_M_tellHart_21 rfl rfl ?_
      obtain ⟨q6, h⟩ := h
      obtain ⟨b7, e8, h⟩ := h
      refine jv_getR d_M_tellHart_22 fl_M_19 rfl q6 e8 ?_
      refine jv_iload_n d_M_tellHart_25 rfl rfl ?_
      obtain ⟨q9, q10, h⟩ := h
      refine jv_iald d_M_tellHart_26 q9 q10 ?_
      refine jv_goto (tgt := 36) d_M_tellHart_27 (by decide) ?_
      exact jv_iret d_M_tellHart_36 rfl rfl h
  · replace h := h.2 c
    refine jv_aload_n d_M_tellHart_6 rfl rfl ?_
    refine jv_iload_n d_M_tellHart_7 rfl rfl ?_
    refine jv_iload_n d_M_tellHart_8 rfl rfl ?_
    refine jv_invS [.ref a1, .int x2, .int x3] [] d_M_tellHart_9 ml_M_202 rfl (Nat.le_of_ble_eq_true rfl) (Nat.zero_add _) (Nat.zero_add _) (jv_Ct.mono h (fun v M12 N12 h => ?_))
    obtain ⟨r11, rfl, h⟩ := h
    change jv_J g (d + 1) mt_M_tellHart 12 [some (.ref a0), some (.ref a1), some (.int x2), some (.int x3)] [.int r11] M12 N12 cr sr Z
    refine jv_goto (tgt := 36) d_M_tellHart_12 (by decide) ?_
    exact jv_iret d_M_tellHart_36 rfl rfl h
theorem b_M_hartOf_0 {g : jv_G} {d : Nat} {M : jv_Mem} {N cr sr : Nat} {Z : Option Value → jv_Mem → Nat → Prop} {a0 : Nat} {x1 : Int32} {x2 : Int32} (h : (x2 = 0 → jv_Tg 11 a0 N ∧ vp_in (8 * x1) (jv_sh a0).2 ∧ Z (some (.int (Prod.fst M a0 (Int32.toNatClampNeg (8 * x1))))) M N) ∧ (x2 = 1 → jv_Tg 11 a0 N ∧ vp_in ((8 * x1) + 1) (jv_sh a0).2 ∧ Z (some (.int (Prod.fst M a0 (Int32.toNatClampNeg ((8 * x1) + 1))))) M N) ∧ (x2 = 2 → jv_Tg 11 a0 N ∧ vp_in ((8 * x1) + 3) (jv_sh a0).2 ∧ Z (some (.int (Prod.fst M a0 (Int32.toNatClampNeg ((8 * x1) + 3))))) M N) ∧ (x2 = 3 → jv_Tg 11 a0 N ∧ vp_in ((8 * x1) + 1) (jv_sh a0).2 ∧ ((Prod.fst M a0 (Int32.toNatClampNeg ((8 * x1) + 1))) ≠ 1 → jv_Tg 11 a0 N ∧ vp_in ((8 * x1) + 2) (jv_sh a0).2 ∧ Z (some (.int (Prod.fst M a0 (Int32.toNatClampNeg ((8 * x1) + 2))))) M N) ∧ ((Prod.fst M a0 (Int32.toNatClampNeg ((8 * x1) + 1))) = 1 → Z (some (.int 1)) M N)) ∧ ((x2 ≠ 0 ∧ x2 ≠ 1 ∧ x2 ≠ 2 ∧ x2 ≠ 3) → jv_Tg 11 a0 N ∧ vp_in ((8 * x1) + x2) (jv_sh a0).2 ∧ Z (some (.int (Prod.fst M a0 (Int32.toNatClampNeg ((8 * x1) + x2))))) M N)) : jv_J g d mt_M_hartOf 0 [some (.ref a0), some (.int x1), some (.int x2)] [] M N cr sr Z := by
  refine jv_iload_n d_M_hartOf_0 rfl rfl ?_
  have hD1 : (x2 ≠ 0 ∧ x2 ≠ 1 ∧ x2 ≠ 2 ∧ x2 ≠ 3) → jv_J g d mt_M_hartOf 82 [some (.ref a0), some (.int x1), some (.int x2)] [] M N cr sr Z := by
    intro c
    replace h := h.2.2.2.2 c
    refine jv_aload_n d_M_hartOf_82 rfl rfl ?_
    refine jv_bipush (v := 8) d_M_hartOf_83 (by decide) ?_
    refine jv_iload_n d_M_hartOf_85 rfl rfl ?_
    refine jv_imul d_M_hartOf_86 ?_
    refine jv_iload_n d_M_hartOf_87 rfl rfl ?_
    refine jv_iadd d_M_hartOf_88 ?_
    obtain ⟨q2, q3, h⟩ := h
    refine jv_iald d_M_hartOf_89 q2 q3 ?_
    exact jv_iret d_M_hartOf_90 rfl rfl h
  refine jv_tsw (dt := 82) [(0, 32), (1, 39), (2, 48), (3, 57)] d_M_hartOf_1 (by decide) (by decide) (by decide) (fun q hq hx => ?_) (fun hq => ?_)
  · simp only [List.mem_cons, List.not_mem_nil, or_false] at hq
    rcases hq with rfl | rfl | rfl | rfl
    · replace h := h.1 hx
      refine jv_aload_n d_M_hartOf_32 rfl rfl ?_
      refine jv_bipush (v := 8) d_M_hartOf_33 (by decide) ?_
      refine jv_iload_n d_M_hartOf_35 rfl rfl ?_
      refine jv_imul d_M_hartOf_36 ?_
      obtain ⟨q4, q5, h⟩ := h
      refine jv_iald d_M_hartOf_37 q4 q5 ?_
      exact jv_iret d_M_hartOf_38 rfl rfl h
    · replace h := h.2.1 hx
      refine jv_aload_n d_M_hartOf_39 rfl rfl ?_
      refine jv_bipush (v := 8) d_M_hartOf_40 (by decide) ?_
      refine jv_iload_n d_M_hartOf_42 rfl rfl ?_
      refine jv_imul d_M_hartOf_43 ?_
      refine jv_iconst (v := 1) d_M_hartOf_44 (by decide) ?_
      refine jv_iadd d_M_hartOf_45 ?_
      obtain ⟨q6, q7, h⟩ := h
      refine jv_iald d_M_hartOf_46 q6 q7 ?_
      exact jv_iret d_M_hartOf_47 rfl rfl h
    · replace h := h.2.2.1 hx
      refine jv_aload_n d_M_hartOf_48 rfl rfl ?_
      refine jv_bipush (v := 8) d_M_hartOf_49 (by decide) ?_
      refine jv_iload_n d_M_hartOf_51 rfl rfl ?_
      refine jv_imul d_M_hartOf_52 ?_
      refine jv_iconst (v := 3) d_M_hartOf_53 (by decide) ?_
      refine jv_iadd d_M_hartOf_54 ?_
      obtain ⟨q8, q9, h⟩ := h
      refine jv_iald d_M_hartOf_55 q8 q9 ?_
      exact jv_iret d_M_hartOf_56 rfl rfl h
    · replace h := h.2.2.2.1 hx
      refine jv_aload_n d_M_hartOf_57 rfl rfl ?_
      refine jv_bipush (v := 8) d_M_hartOf_58 (by decide) ?_
      refine jv_iload_n d_M_hartOf_60 rfl rfl ?_
      refine jv_imul d_M_hartOf_61 ?_
      refine jv_iconst (v := 1) d_M_hartOf_62 (by decide) ?_
      refine jv_iadd d_M_hartOf_63 ?_
      obtain ⟨q10, q11, h⟩ := h
      refine jv_iald d_M_hartOf_64 q10 q11 ?_
      refine jv_iconst (v := 1) d_M_hartOf_65 (by decide) ?_
      refine jv_icmp_ne (tgt := 73) d_M_hartOf_66 (by decide) ⟨fun c => ?_, fun c => ?_⟩
      · replace h := h.1 c
        refine jv_aload_n d_M_hartOf_73 rfl rfl ?_
        refine jv_bipush (v := 8) d_M_hartOf_74 (by decide) ?_
        refine jv_iload_n d_M_hartOf_76 rfl rfl ?_
        refine jv_imul d_M_hartOf_77 ?_
        refine jv_iconst (v := 2) d_M_hartOf_78 (by decide) ?_
        refine jv_iadd d_M_hartOf_79 ?_
        obtain ⟨q12, q13, h⟩ := h
        refine jv_iald d_M_hartOf_80 q12 q13 ?_
        exact jv_iret d_M_hartOf_81 rfl rfl h
      · replace h := h.2 c
        refine jv_iconst (v := 1) d_M_hartOf_69 (by decide) ?_
        refine jv_goto (tgt := 81) d_M_hartOf_70 (by decide) ?_
        exact jv_iret d_M_hartOf_81 rfl rfl h
  · exact hD1 ⟨hq _ (List.mem_of_getElem? (i := 0) rfl), hq _ (List.mem_of_getElem? (i := 1) rfl), hq _ (List.mem_of_getElem? (i := 2) rfl), hq _ (List.mem_of_getElem? (i := 3) rfl)⟩
theorem b_M_trigger_0 {g : jv_G} {d : Nat} {M : jv_Mem} {N cr sr : Nat} {Z : Option Value → jv_Mem → Nat → Prop} {a0 : Nat} {x1 : Int32} {x2 : Int32} (h : jv_Tg 10 a0 N ∧ jv_Tg 10 a0 N ∧ jv_Ct g d mt_M_in [.long (Int32.toInt64 x1), .long 0, .long (Int32.toInt64 ((Prod.fst (jv_si M a0 0 0) a0 9) - 1))] (jv_si M a0 0 0) N 0 0 (fun v M4 N4 => jv_ri v (fun r3 => (r3 ≠ 0 → jv_Ct g d mt_M_in [.long (Int32.toInt64 x2), .long 0, .long 6] M4 N4 0 0 (fun v M6 N6 => jv_ri v (fun r5 => (r5 ≠ 0 → (x2 ≠ 0 → jv_Tg 10 a0 N6 ∧ ∃ b8, Prod.fst (Prod.snd M6) a0 19 = some b8 ∧ jv_Tg 11 b8 N6 ∧ vp_in (((40 + (6 * x1)) + x2) - 1) (jv_sh b8).2 ∧ Z (some (.int (Prod.fst M6 b8 (Int32.toNatClampNeg (((40 + (6 * x1)) + x2) - 1))))) M6 N6) ∧ (x2 = 0 → jv_Tg 10 a0 N6 ∧ ∃ b13, Prod.fst (Prod.snd M6) a0 10 = some b13 ∧ jv_Tg 11 b13 N6 ∧ vp_in x1 (jv_sh b13).2 ∧ Z (some (.int (Prod.fst M6 b13 (Int32.toNatClampNeg x1)))) M6 N6)) ∧ (r5 = 0 → Z (some (.int (-2))) M6 N6)))) ∧ (r3 = 0 → Z (some (.int (-1))) M4 N4)))) : jv_J g (d + 1) mt_M_trigger 0 [some (.ref a0), some (.int x1), some (.int x2)] [] M N cr sr Z := by
  refine jv_aload_n d_M_trigger_0 rfl rfl ?_
  refine jv_iconst (v := 0) d_M_trigger_1 (by decide) ?_
  obtain ⟨q1, h⟩ := h
  refine jv_putI d_M_trigger_2 fl_M_75 (fun r hr => by cases hr; rfl) rfl q1 ?_
  refine jv_iload_n d_M_trigger_5 rfl rfl ?_
  refine jv_i2l d_M_trigger_6 ?_
  refine jv_lconst (v := 0) d_M_trigger_7 (by decide) ?_
  refine jv_aload_n d_M_trigger_8 rfl rfl ?_
  obtain ⟨q2, h⟩ := h
  refine jv_getI d_M_trigger_9 fl_M_138 rfl q2 ?_
  refine jv_iconst (v := 1) d_M_trigger_12 (by decide) ?_
  refine jv_isub d_M_trigger_13 ?_
  refine jv_i2l d_M_trigger_14 ?_
  refine jv_invS [.long (Int32.toInt64 x1), .long 0, .long (Int32.toInt64 ((Prod.fst (jv_si M a0 0 0) a0 9) - 1))] [] d_M_trigger_15 ml_M_81 rfl (Nat.le_of_ble_eq_true rfl) (Nat.zero_add _) (Nat.zero_add _) (jv_Ct.mono h (fun v M4 N4 h => ?_))
  obtain ⟨r3, rfl, h⟩ := h
  change jv_J g (d + 1) mt_M_trigger 18 [some (.ref a0), some (.int x1), some (.int x2)] [.int r3] M4 N4 cr sr Z
  refine jv_if_ne (tgt := 23) d_M_trigger_18 (by decide) ⟨fun c => ?_, fun c => ?_⟩
  · replace h := h.1 c
    refine jv_iload_n d_M_trigger_23 rfl rfl ?_
    refine jv_i2l d_M_trigger_24 ?_
    refine jv_lconst (v := 0) d_M_trigger_25 (by decide) ?_
    refine jv_ldc2 d_M_trigger_26 co_M_215 ?_
    refine jv_invS [.long (Int32.toInt64 x2), .long 0, .long 6] [] d_M_trigger_29 ml_M_81 rfl (Nat.le_of_ble_eq_true rfl) (Nat.zero_add _) (Nat.zero_add _) (jv_Ct.mono h (fun v M6 N6 h => ?_))
    obtain ⟨r5, rfl, h⟩ := h
    change jv_J g (d + 1) mt_M_trigger 32 [some (.ref a0), some (.int x1), some (.int x2)] [.int r5] M6 N6 cr sr Z
    refine jv_if_ne (tgt := 38) d_M_trigger_32 (by decide) ⟨fun c => ?_, fun c => ?_⟩
    · replace h := h.1 c
      refine jv_iload_n d_M_trigger_38 rfl rfl ?_
      refine jv_if_ne (tgt := 51) d_M_trigger_39 (by decide) ⟨fun c => ?_, fun c => ?_⟩
      · replace h := h.1 c
        refine jv_aload_n d_M_trigger_51 rfl rfl ?_
        obtain ⟨q7, h⟩ := h
        obtain ⟨b8, e9, h⟩ := h
        refine jv_getR d_M_trigger_52 fl_M_40 rfl q7 e9 ?_
        refine jv_bipush (v := 40) d_M_trigger_55 (by decide) ?_
        refine jv_bipush (v := 6) d_M_trigger_57 (by decide) ?_
        refine jv_iload_n d_M_trigger_59 rfl rfl ?_
        refine jv_imul d_M_trigger_60 ?_
        refine jv_iadd d_M_trigger_61 ?_
        refine jv_iload_n d_M_trigger_62 rfl rfl ?_
        refine jv_iadd d_M_trigger_63 ?_
        refine jv_iconst (v := 1) d_M_trigger_64 (by decide) ?_
        refine jv_isub d_M_trigger_65 ?_
        obtain ⟨q10, q11, h⟩ := h
        refine jv_iald d_M_trigger_66 q10 q11 ?_
        exact jv_iret d_M_trigger_67 rfl rfl h
      · replace h := h.2 c
        refine jv_aload_n d_M_trigger_42 rfl rfl ?_
        obtain ⟨q12, h⟩ := h
        obtain ⟨b13, e14, h⟩ := h
        refine jv_getR d_M_trigger_43 fl_M_22 rfl q12 e14 ?_
        refine jv_iload_n d_M_trigger_46 rfl rfl ?_
        obtain ⟨q15, q16, h⟩ := h
        refine jv_iald d_M_trigger_47 q15 q16 ?_
        refine jv_goto (tgt := 67) d_M_trigger_48 (by decide) ?_
        exact jv_iret d_M_trigger_67 rfl rfl h
    · replace h := h.2 c
      refine jv_bipush (v := (-2)) d_M_trigger_35 (by decide) ?_
      exact jv_iret d_M_trigger_37 rfl rfl h
  · replace h := h.2 c
    refine jv_iconst (v := (-1)) d_M_trigger_21 (by decide) ?_
    exact jv_iret d_M_trigger_22 rfl rfl h
theorem b_M_cell_0 {g : jv_G} {d : Nat} {M : jv_Mem} {N cr sr : Nat} {Z : Option Value → jv_Mem → Nat → Prop} {a0 : Nat} {x1 : Int32} (h : jv_Tg 10 a0 N ∧ jv_Ct g d mt_M_in [.long (Int32.toInt64 x1), .long 0, .long 7] (jv_si M a0 0 0) N 0 0 (fun v M3 N3 => jv_ri v (fun r2 => (r2 = 0 → Z (some (.int (-2))) M3 N3) ∧ (¬ (r2 = 0) → jv_Tg 10 a0 N3 ∧ ∃ b5, Prod.fst (Prod.snd M3) a0 19 = some b5 ∧ jv_Tg 11 b5 N3 ∧ vp_in (32 + x1) (jv_sh b5).2 ∧ Z (some (.int (Prod.fst M3 b5 (Int32.toNatClampNeg (32 + x1))))) M3 N3)))) : jv_J g (d + 1) mt_M_cell 0 [some (.ref a0), some (.int x1)] [] M N cr sr Z := by
  refine jv_aload_n d_M_cell_0 rfl rfl ?_
  refine jv_iconst (v := 0) d_M_cell_1 (by decide) ?_
  obtain ⟨q1, h⟩ := h
  refine jv_putI d_M_cell_2 fl_M_75 (fun r hr => by cases hr; rfl) rfl q1 ?_
  refine jv_iload_n d_M_cell_5 rfl rfl ?_
  refine jv_i2l d_M_cell_6 ?_
  refine jv_lconst (v := 0) d_M_cell_7 (by decide) ?_
  refine jv_ldc2 d_M_cell_8 co_M_217 ?_
  refine jv_invS [.long (Int32.toInt64 x1), .long 0, .long 7] [] d_M_cell_11 ml_M_81 rfl (Nat.le_of_ble_eq_true rfl) (Nat.zero_add _) (Nat.zero_add _) (jv_Ct.mono h (fun v M3 N3 h => ?_))
  obtain ⟨r2, rfl, h⟩ := h
  change jv_J g (d + 1) mt_M_cell 14 [some (.ref a0), some (.int x1)] [.int r2] M3 N3 cr sr Z
  refine jv_if_eq (tgt := 29) d_M_cell_14 (by decide) ⟨fun c => ?_, fun c => ?_⟩
  · replace h := h.1 c
    refine jv_bipush (v := (-2)) d_M_cell_29 (by decide) ?_
    exact jv_iret d_M_cell_31 rfl rfl h
  · replace h := h.2 c
    refine jv_aload_n d_M_cell_17 rfl rfl ?_
    obtain ⟨q4, h⟩ := h
    obtain ⟨b5, e6, h⟩ := h
    refine jv_getR d_M_cell_18 fl_M_40 rfl q4 e6 ?_
    refine jv_bipush (v := 32) d_M_cell_21 (by decide) ?_
    refine jv_iload_n d_M_cell_23 rfl rfl ?_
    refine jv_iadd d_M_cell_24 ?_
    obtain ⟨q7, q8, h⟩ := h
    refine jv_iald d_M_cell_25 q7 q8 ?_
    refine jv_goto (tgt := 31) d_M_cell_26 (by decide) ?_
    exact jv_iret d_M_cell_31 rfl rfl h
theorem b_M_order_0 {g : jv_G} {d : Nat} {M : jv_Mem} {N cr sr : Nat} {Z : Option Value → jv_Mem → Nat → Prop} {a0 : Nat} {x1 : Int32} {x2 : Int32} (h : jv_Tg 10 a0 N ∧ jv_Tg 10 a0 N ∧ ∃ b3, Prod.fst (Prod.snd (jv_si M a0 0 0)) a0 19 = some b3 ∧ jv_Tg 11 b3 N ∧ vp_in 80 (jv_sh b3).2 ∧ jv_Ct g d mt_M_in [.long (Int32.toInt64 x1), .long 0, .long (Int32.toInt64 ((Prod.fst (jv_si M a0 0 0) b3 (Int32.toNatClampNeg 80)) - 1))] (jv_si M a0 0 0) N 0 0 (fun v M8 N8 => jv_ri v (fun r7 => (r7 ≠ 0 → jv_Ct g d mt_M_in [.long (Int32.toInt64 x2), .long 0, .long 3] M8 N8 0 0 (fun v M10 N10 => jv_ri v (fun r9 => (r9 = 0 → Z (some (.int (-2))) M10 N10) ∧ (¬ (r9 = 0) → jv_Tg 10 a0 N10 ∧ ∃ b12, Prod.fst (Prod.snd M10) a0 19 = some b12 ∧ jv_Tg 11 b12 N10 ∧ vp_in ((81 + (7 * x1)) + x2) (jv_sh b12).2 ∧ Z (some (.int (Prod.fst M10 b12 (Int32.toNatClampNeg ((81 + (7 * x1)) + x2))))) M10 N10)))) ∧ (r7 = 0 → Z (some (.int (-1))) M8 N8)))) : jv_J g (d + 1) mt_M_order 0 [some (.ref a0), some (.int x1), some (.int x2)] [] M N cr sr Z := by
  refine jv_aload_n d_M_order_0 rfl rfl ?_
  refine jv_iconst (v := 0) d_M_order_1 (by decide) ?_
  obtain ⟨q1, h⟩ := h
  refine jv_putI d_M_order_2 fl_M_75 (fun r hr => by cases hr; rfl) rfl q1 ?_
  refine jv_iload_n d_M_order_5 rfl rfl ?_
  refine jv_i2l d_M_order_6 ?_
  refine jv_lconst (v := 0) d_M_order_7 (by decide) ?_
  refine jv_aload_n d_M_order_8 rfl rfl ?_
  obtain ⟨q2, h⟩ := h
  obtain ⟨b3, e4, h⟩ := h
  refine jv_getR d_M_order_9 fl_M_40 rfl q2 e4 ?_
  refine jv_bipush (v := 80) d_M_order_12 (by decide) ?_
  obtain ⟨q5, q6, h⟩ := h
  refine jv_iald d_M_order_14 q5 q6 ?_
  refine jv_iconst (v := 1) d_M_order_15 (by decide) ?_
  refine jv_isub d_M_order_16 ?_
  refine jv_i2l d_M_order_17 ?_
  refine jv_invS [.long (Int32.toInt64 x1), .long 0, .long (Int32.toInt64 ((Prod.fst (jv_si M a0 0 0) b3 (Int32.toNatClampNeg 80)) - 1))] [] d_M_order_18 ml_M_81 rfl (Nat.le_of_ble_eq_true rfl) (Nat.zero_add _) (Nat.zero_add _) (jv_Ct.mono h (fun v M8 N8 h => ?_))
  obtain ⟨r7, rfl, h⟩ := h
  change jv_J g (d + 1) mt_M_order 21 [some (.ref a0), some (.int x1), some (.int x2)] [.int r7] M8 N8 cr sr Z
  refine jv_if_ne (tgt := 26) d_M_order_21 (by decide) ⟨fun c => ?_, fun c => ?_⟩
  · replace h := h.1 c
    refine jv_iload_n d_M_order_26 rfl rfl ?_
    refine jv_i2l d_M_order_27 ?_
    refine jv_lconst (v := 0) d_M_order_28 (by decide) ?_
    refine jv_ldc2 d_M_order_29 co_M_219 ?_
    refine jv_invS [.long (Int32.toInt64 x2), .long 0, .long 3] [] d_M_order_32 ml_M_81 rfl (Nat.le_of_ble_eq_true rfl) (Nat.zero_add _) (Nat.zero_add _) (jv_Ct.mono h (fun v M10 N10 h => ?_))
    obtain ⟨r9, rfl, h⟩ := h
    change jv_J g (d + 1) mt_M_order 35 [some (.ref a0), some (.int x1), some (.int x2)] [.int r9] M10 N10 cr sr Z
    refine jv_if_eq (tgt := 55) d_M_order_35 (by decide) ⟨fun c => ?_, fun c => ?_⟩
    · replace h := h.1 c
      refine jv_bipush (v := (-2)) d_M_order_55 (by decide) ?_
      exact jv_iret d_M_order_57 rfl rfl h
    · replace h := h.2 c
      refine jv_aload_n d_M_order_38 rfl rfl ?_
      obtain ⟨q11, h⟩ := h
      obtain ⟨b12, e13, h⟩ := h
      refine jv_getR d_M_order_39 fl_M_40 rfl q11 e13 ?_
      refine jv_bipush (v := 81) d_M_order_42 (by decide) ?_
      refine jv_bipush (v := 7) d_M_order_44 (by decide) ?_
      refine jv_iload_n d_M_order_46 rfl rfl ?_
      refine jv_imul d_M_order_47 ?_
      refine jv_iadd d_M_order_48 ?_
      refine jv_iload_n d_M_order_49 rfl rfl ?_
      refine jv_iadd d_M_order_50 ?_
      obtain ⟨q14, q15, h⟩ := h
      refine jv_iald d_M_order_51 q14 q15 ?_
      refine jv_goto (tgt := 57) d_M_order_52 (by decide) ?_
      exact jv_iret d_M_order_57 rfl rfl h
  · replace h := h.2 c
    refine jv_iconst (v := (-1)) d_M_order_24 (by decide) ?_
    exact jv_iret d_M_order_25 rfl rfl h
theorem b_M_tick_0 {g : jv_G} {d : Nat} {M : jv_Mem} {N cr sr : Nat} {Z : Option Value → jv_Mem → Nat → Prop} {a0 : Nat} {x1 : Int32} (h : jv_Tg 10 a0 N ∧ jv_Ct g d mt_M_in [.long (Int32.toInt64 x1), .long 1, .long 99] (jv_si M a0 0 0) N 0 0 (fun v M3 N3 => jv_ri v (fun r2 => (r2 ≠ 0 → jv_Tg 10 a0 N3 ∧ jv_Ct g d mt_M_note [.ref a0] M3 N3 0 0 (fun v M6 N6 => jv_rv v (jv_Tg 10 a0 N6 ∧ ∃ b8, Prod.fst (Prod.snd M6) a0 19 = some b8 ∧ jv_Tg 10 a0 N6 ∧ jv_Ct g d mt_M_tickMany [.ref a0, .ref b8, .int x1] M6 N6 0 0 (fun v M12 N12 => jv_rv v (jv_Tg 10 a0 N12 ∧ ∃ b14, Prod.fst (Prod.snd M12) a0 19 = some b14 ∧ jv_Tg 10 a0 N12 ∧ jv_Ct g d mt_M_haltedOf [.ref b14, .int (Prod.fst M12 a0 6)] M12 N12 0 0 (fun v M18 N18 => jv_ri v (fun r17 => jv_Ct g d mt_M_ones [.int r17] M18 N18 0 0 (fun v M20 N20 => jv_ri v (fun r19 => Z (some (.int r19)) M20 N20))))))))) ∧ (r2 = 0 → Z (some (.int (-2))) M3 N3)))) : jv_J g (d + 1) mt_M_tick 0 [some (.ref a0), some (.int x1)] [] M N cr sr Z := by
  refine jv_aload_n d_M_tick_0 rfl rfl ?_
  refine jv_iconst (v := 0) d_M_tick_1 (by decide) ?_
  obtain ⟨q1, h⟩ := h
  refine jv_putI d_M_tick_2 fl_M_75 (fun r hr => by cases hr; rfl) rfl q1 ?_
  refine jv_iload_n d_M_tick_5 rfl rfl ?_
  refine jv_i2l d_M_tick_6 ?_
  refine jv_lconst (v := 1) d_M_tick_7 (by decide) ?_
  refine jv_ldc2 d_M_tick_8 co_M_221 ?_
  refine jv_invS [.long (Int32.toInt64 x1), .long 1, .long 99] [] d_M_tick_11 ml_M_81 rfl (Nat.le_of_ble_eq_true rfl) (Nat.zero_add _) (Nat.zero_add _) (jv_Ct.mono h (fun v M3 N3 h => ?_))
  obtain ⟨r2, rfl, h⟩ := h
  change jv_J g (d + 1) mt_M_tick 14 [some (.ref a0), some (.int x1)] [.int r2] M3 N3 cr sr Z
  refine jv_if_ne (tgt := 20) d_M_tick_14 (by decide) ⟨fun c => ?_, fun c => ?_⟩
  · replace h := h.1 c
    refine jv_aload_n d_M_tick_20 rfl rfl ?_
    obtain ⟨q4, h⟩ := h
    refine jv_invV [] [] d_M_tick_21 ml_M_223 q4 rfl (Nat.le_of_ble_eq_true rfl) (Nat.zero_add _) (Nat.zero_add _) (jv_Ct.mono h (fun v M6 N6 h => ?_))
    obtain ⟨rfl, h⟩ := h
    change jv_J g (d + 1) mt_M_tick 24 [some (.ref a0), some (.int x1)] [] M6 N6 cr sr Z
    refine jv_aload_n d_M_tick_24 rfl rfl ?_
    refine jv_aload_n d_M_tick_25 rfl rfl ?_
    obtain ⟨q7, h⟩ := h
    obtain ⟨b8, e9, h⟩ := h
    refine jv_getR d_M_tick_26 fl_M_40 rfl q7 e9 ?_
    refine jv_iload_n d_M_tick_29 rfl rfl ?_
    obtain ⟨q10, h⟩ := h
    refine jv_invV [.ref b8, .int x1] [] d_M_tick_30 ml_M_226 q10 rfl (Nat.le_of_ble_eq_true rfl) (Nat.zero_add _) (Nat.zero_add _) (jv_Ct.mono h (fun v M12 N12 h => ?_))
    obtain ⟨rfl, h⟩ := h
    change jv_J g (d + 1) mt_M_tick 33 [some (.ref a0), some (.int x1)] [] M12 N12 cr sr Z
    refine jv_aload_n d_M_tick_33 rfl rfl ?_
    obtain ⟨q13, h⟩ := h
    obtain ⟨b14, e15, h⟩ := h
    refine jv_getR d_M_tick_34 fl_M_40 rfl q13 e15 ?_
    refine jv_aload_n d_M_tick_37 rfl rfl ?_
    obtain ⟨q16, h⟩ := h
    refine jv_getI d_M_tick_38 fl_M_78 rfl q16 ?_
    refine jv_invS [.ref b14, .int (Prod.fst M12 a0 6)] [] d_M_tick_41 ml_M_189 rfl (Nat.le_of_ble_eq_true rfl) (Nat.zero_add _) (Nat.zero_add _) (jv_Ct.mono h (fun v M18 N18 h => ?_))
    obtain ⟨r17, rfl, h⟩ := h
    change jv_J g (d + 1) mt_M_tick 44 [some (.ref a0), some (.int x1)] [.int r17] M18 N18 cr sr Z
    refine jv_invS [.int r17] [] d_M_tick_44 ml_M_229 rfl (Nat.le_of_ble_eq_true rfl) (Nat.zero_add _) (Nat.zero_add _) (jv_Ct.mono h (fun v M20 N20 h => ?_))
    obtain ⟨r19, rfl, h⟩ := h
    change jv_J g (d + 1) mt_M_tick 47 [some (.ref a0), some (.int x1)] [.int r19] M20 N20 cr sr Z
    exact jv_iret d_M_tick_47 rfl rfl h
  · replace h := h.2 c
    refine jv_bipush (v := (-2)) d_M_tick_17 (by decide) ?_
    exact jv_iret d_M_tick_19 rfl rfl h
theorem b_M_note_0 {g : jv_G} {d : Nat} {M : jv_Mem} {N cr sr : Nat} {Z : Option Value → jv_Mem → Nat → Prop} {a0 : Nat} (h : jv_Tg 10 a0 N ∧ ((Prod.fst M a0 23) ≠ 14 → jv_J g d mt_M_note 52 [some (.ref a0), some (.int 0)] [] M N cr sr Z) ∧ ((Prod.fst M a0 23) = 14 → jv_J g d mt_M_note 11 [some (.ref a0), some (.int 0)] [] M N cr sr Z)) : jv_J g d mt_M_note 0 [some (.ref a0), none] [] M N cr sr Z := by
  refine jv_aload_n d_M_note_0 rfl rfl ?_
  obtain ⟨q1, h⟩ := h
  refine jv_getI d_M_note_1 fl_M_141 rfl q1 ?_
  refine jv_bipush (v := 14) d_M_note_4 (by decide) ?_
  refine jv_icmp_ne (tgt := 50) d_M_note_6 (by decide) ⟨fun c => ?_, fun c => ?_⟩
  · replace h := h.1 c
    refine jv_iconst (v := 0) d_M_note_50 (by decide) ?_
    refine jv_istore_n (L' := [some (.ref a0), some (.int 0)]) d_M_note_51 rfl (Nat.le_of_ble_eq_true rfl) rfl ?_
    exact h
  · replace h := h.2 c
    refine jv_iconst (v := 0) d_M_note_9 (by decide) ?_
    refine jv_istore_n (L' := [some (.ref a0), some (.int 0)]) d_M_note_10 rfl (Nat.le_of_ble_eq_true rfl) rfl ?_
    exact h
theorem b_M_note_11 {g : jv_G} {d : Nat} {M : jv_Mem} {N cr sr : Nat} {Z : Option Value → jv_Mem → Nat → Prop} {a0 : Nat} {x1 : Int32} (h : (2145 ≤ x1 → jv_Tg 10 a0 N ∧ jv_Tg 10 a0 N ∧ jv_J g d mt_M_note 52 [some (.ref a0), some (.int 0)] [] (jv_si M a0 23 ((Prod.fst M a0 23) - 1)) N cr sr Z) ∧ (¬ (2145 ≤ x1) → jv_Tg 10 a0 N ∧ ∃ b4, Prod.fst (Prod.snd M) a0 22 = some b4 ∧ jv_Tg 10 a0 N ∧ ∃ b7, Prod.fst (Prod.snd M) a0 22 = some b7 ∧ jv_Tg 11 b7 N ∧ vp_in (x1 + 165) (jv_sh b7).2 ∧ jv_Tg 11 b4 N ∧ vp_in x1 (jv_sh b4).2 ∧ jv_J g d mt_M_note 11 [some (.ref a0), some (.int (x1 + 1))] [] (jv_si M b4 (Int32.toNatClampNeg x1) (Prod.fst M b7 (Int32.toNatClampNeg (x1 + 165)))) N cr sr Z)) : jv_J g d mt_M_note 11 [some (.ref a0), some (.int x1)] [] M N cr sr Z := by
  refine jv_iload_n d_M_note_11 rfl rfl ?_
  refine jv_sipush (v := 2145) d_M_note_12 (by decide) ?_
  refine jv_icmp_ge (tgt := 40) d_M_note_15 (by decide) ⟨fun c => ?_, fun c => ?_⟩
  · replace h := h.1 c
    refine jv_aload_n d_M_note_40 rfl rfl ?_
    refine jv_dup d_M_note_41 rfl ?_
    obtain ⟨q1, h⟩ := h
    refine jv_getI d_M_note_42 fl_M_141 rfl q1 ?_
    refine jv_iconst (v := 1) d_M_note_45 (by decide) ?_
    refine jv_isub d_M_note_46 ?_
    obtain ⟨q2, h⟩ := h
    refine jv_putI d_M_note_47 fl_M_141 (fun r hr => by cases hr; rfl) rfl q2 ?_
    refine jv_iconst (v := 0) d_M_note_50 (by decide) ?_
    refine jv_istore_n (L' := [some (.ref a0), some (.int 0)]) d_M_note_51 rfl (Nat.le_of_ble_eq_true rfl) rfl ?_
    exact h
  · replace h := h.2 c
    refine jv_aload_n d_M_note_18 rfl rfl ?_
    obtain ⟨q3, h⟩ := h
    obtain ⟨b4, e5, h⟩ := h
    refine jv_getR d_M_note_19 fl_M_49 rfl q3 e5 ?_
    refine jv_iload_n d_M_note_22 rfl rfl ?_
    refine jv_aload_n d_M_note_23 rfl rfl ?_
    obtain ⟨q6, h⟩ := h
    obtain ⟨b7, e8, h⟩ := h
    refine jv_getR d_M_note_24 fl_M_49 rfl q6 e8 ?_
    refine jv_iload_n d_M_note_27 rfl rfl ?_
    refine jv_sipush (v := 165) d_M_note_28 (by decide) ?_
    refine jv_iadd d_M_note_31 ?_
    obtain ⟨q9, q10, h⟩ := h
    refine jv_iald d_M_note_32 q9 q10 ?_
    obtain ⟨q11, q12, h⟩ := h
    refine jv_iast d_M_note_33 q11 q12 ?_
    refine jv_iinc (v := (x1 + 1)) (L' := [some (.ref a0), some (.int (x1 + 1))]) d_M_note_34 rfl rfl (Nat.le_of_ble_eq_true rfl) rfl ?_
    refine jv_goto (tgt := 11) d_M_note_37 (by decide) ?_
    exact h
theorem b_M_note_52 {g : jv_G} {d : Nat} {M : jv_Mem} {N cr sr : Nat} {Z : Option Value → jv_Mem → Nat → Prop} {a0 : Nat} {x1 : Int32} (h : (165 ≤ x1 → jv_Tg 10 a0 N ∧ jv_Tg 10 a0 N ∧ Z none (jv_si M a0 23 ((Prod.fst M a0 23) + 1)) N) ∧ (¬ (165 ≤ x1) → jv_Tg 10 a0 N ∧ ∃ b4, Prod.fst (Prod.snd M) a0 22 = some b4 ∧ jv_Tg 10 a0 N ∧ jv_Tg 10 a0 N ∧ ∃ b8, Prod.fst (Prod.snd M) a0 19 = some b8 ∧ jv_Tg 11 b8 N ∧ vp_in x1 (jv_sh b8).2 ∧ jv_Tg 11 b4 N ∧ vp_in ((165 * (Prod.fst M a0 23)) + x1) (jv_sh b4).2 ∧ jv_J g d mt_M_note 52 [some (.ref a0), some (.int (x1 + 1))] [] (jv_si M b4 (Int32.toNatClampNeg ((165 * (Prod.fst M a0 23)) + x1)) (Prod.fst M b8 (Int32.toNatClampNeg x1))) N cr sr Z)) : jv_J g d mt_M_note 52 [some (.ref a0), some (.int x1)] [] M N cr sr Z := by
  refine jv_iload_n d_M_note_52 rfl rfl ?_
  refine jv_sipush (v := 165) d_M_note_53 (by decide) ?_
  refine jv_icmp_ge (tgt := 86) d_M_note_56 (by decide) ⟨fun c => ?_, fun c => ?_⟩
  · replace h := h.1 c
    refine jv_aload_n d_M_note_86 rfl rfl ?_
    refine jv_dup d_M_note_87 rfl ?_
    obtain ⟨q1, h⟩ := h
    refine jv_getI d_M_note_88 fl_M_141 rfl q1 ?_
    refine jv_iconst (v := 1) d_M_note_91 (by decide) ?_
    refine jv_iadd d_M_note_92 ?_
    obtain ⟨q2, h⟩ := h
    refine jv_putI d_M_note_93 fl_M_141 (fun r hr => by cases hr; rfl) rfl q2 ?_
    exact jv_ret d_M_note_96 rfl h
  · replace h := h.2 c
    refine jv_aload_n d_M_note_59 rfl rfl ?_
    obtain ⟨q3, h⟩ := h
    obtain ⟨b4, e5, h⟩ := h
    refine jv_getR d_M_note_60 fl_M_49 rfl q3 e5 ?_
    refine jv_sipush (v := 165) d_M_note_63 (by decide) ?_
    refine jv_aload_n d_M_note_66 rfl rfl ?_
    obtain ⟨q6, h⟩ := h
    refine jv_getI d_M_note_67 fl_M_141 rfl q6 ?_
    refine jv_imul d_M_note_70 ?_
    refine jv_iload_n d_M_note_71 rfl rfl ?_
    refine jv_iadd d_M_note_72 ?_
    refine jv_aload_n d_M_note_73 rfl rfl ?_
    obtain ⟨q7, h⟩ := h
    obtain ⟨b8, e9, h⟩ := h
    refine jv_getR d_M_note_74 fl_M_40 rfl q7 e9 ?_
    refine jv_iload_n d_M_note_77 rfl rfl ?_
    obtain ⟨q10, q11, h⟩ := h
    refine jv_iald d_M_note_78 q10 q11 ?_
    obtain ⟨q12, q13, h⟩ := h
    refine jv_iast d_M_note_79 q12 q13 ?_
    refine jv_iinc (v := (x1 + 1)) (L' := [some (.ref a0), some (.int (x1 + 1))]) d_M_note_80 rfl rfl (Nat.le_of_ble_eq_true rfl) rfl ?_
    refine jv_goto (tgt := 52) d_M_note_83 (by decide) ?_
    exact h
theorem b_M_tickMany_0 {g : jv_G} {d : Nat} {M : jv_Mem} {N cr sr : Nat} {Z : Option Value → jv_Mem → Nat → Prop} {a0 : Nat} {a1 : Nat} {x2 : Int32} (h : jv_J g (d + 1) mt_M_tickMany 2 [some (.ref a0), some (.ref a1), some (.int x2), some (.int 0)] [] M N cr sr Z) : jv_J g (d + 1) mt_M_tickMany 0 [some (.ref a0), some (.ref a1), some (.int x2), none] [] M N cr sr Z := by
  refine jv_iconst (v := 0) d_M_tickMany_0 (by decide) ?_
  refine jv_istore_n (L' := [some (.ref a0), some (.ref a1), some (.int x2), some (.int 0)]) d_M_tickMany_1 rfl (Nat.le_of_ble_eq_true rfl) rfl ?_
  exact h
theorem b_M_tickMany_2 {g : jv_G} {d : Nat} {M : jv_Mem} {N cr sr : Nat} {Z : Option Value → jv_Mem → Nat → Prop} {a0 : Nat} {a1 : Nat} {x2 : Int32} {x3 : Int32} (h : (x2 ≤ x3 → Z none M N) ∧ (¬ (x2 ≤ x3) → jv_Tg 10 a0 N ∧ jv_Ct g d mt_M_tickOn [.ref a0, .ref a1] M N 0 0 (fun v M3 N3 => jv_rv v (jv_J g (d + 1) mt_M_tickMany 2 [some (.ref a0), some (.ref a1), some (.int x2), some (.int (x3 + 1))] [] M3 N3 cr sr Z)))) : jv_J g (d + 1) mt_M_tickMany 2 [some (.ref a0), some (.ref a1), some (.int x2), some (.int x3)] [] M N cr sr Z := by
  refine jv_iload_n d_M_tickMany_2 rfl rfl ?_
  refine jv_iload_n d_M_tickMany_3 rfl rfl ?_
  refine jv_icmp_ge (tgt := 18) d_M_tickMany_4 (by decide) ⟨fun c => ?_, fun c => ?_⟩
  · replace h := h.1 c
    exact jv_ret d_M_tickMany_18 rfl h
  · replace h := h.2 c
    refine jv_aload_n d_M_tickMany_7 rfl rfl ?_
    refine jv_aload_n d_M_tickMany_8 rfl rfl ?_
    obtain ⟨q1, h⟩ := h
    refine jv_invV [.ref a1] [] d_M_tickMany_9 ml_M_199 q1 rfl (Nat.le_of_ble_eq_true rfl) (Nat.zero_add _) (Nat.zero_add _) (jv_Ct.mono h (fun v M3 N3 h => ?_))
    obtain ⟨rfl, h⟩ := h
    change jv_J g (d + 1) mt_M_tickMany 12 [some (.ref a0), some (.ref a1), some (.int x2), some (.int x3)] [] M3 N3 cr sr Z
    refine jv_iinc (v := (x3 + 1)) (L' := [some (.ref a0), some (.ref a1), some (.int x2), some (.int (x3 + 1))]) d_M_tickMany_12 rfl rfl (Nat.le_of_ble_eq_true rfl) rfl ?_
    refine jv_goto (tgt := 2) d_M_tickMany_15 (by decide) ?_
    exact h
theorem b_M_tickOn_0 {g : jv_G} {d : Nat} {M : jv_Mem} {N cr sr : Nat} {Z : Option Value → jv_Mem → Nat → Prop} {a0 : Nat} {a1 : Nat} (h : jv_Tg 10 a0 N ∧ jv_Ct g d mt_M_haltedOf [.ref a1, .int (Prod.fst M a0 6)] M N 0 0 (fun v M3 N3 => jv_ri v (fun r2 => jv_Tg 10 a0 N3 ∧ jv_Tg 10 a0 N3 ∧ jv_Ct g d mt_M_goRound [.ref a0, .ref a1] (jv_si M3 a0 31 0) N3 0 0 (fun v M7 N7 => jv_rv v (jv_J g (d + 1) mt_M_tickOn 21 [some (.ref a0), some (.ref a1), some (.int r2), some (.int 0), none, none, none] [] M7 N7 cr sr Z))))) : jv_J g (d + 1) mt_M_tickOn 0 [some (.ref a0), some (.ref a1), none, none, none, none, none] [] M N cr sr Z := by
  refine jv_aload_n d_M_tickOn_0 rfl rfl ?_
  refine jv_aload_n d_M_tickOn_1 rfl rfl ?_
  obtain ⟨q1, h⟩ := h
  refine jv_getI d_M_tickOn_2 fl_M_78 rfl q1 ?_
  refine jv_invS [.ref a1, .int (Prod.fst M a0 6)] [] d_M_tickOn_5 ml_M_189 rfl (Nat.le_of_ble_eq_true rfl) (Nat.zero_add _) (Nat.zero_add _) (jv_Ct.mono h (fun v M3 N3 h => ?_))
  obtain ⟨r2, rfl, h⟩ := h
  change jv_J g (d + 1) mt_M_tickOn 8 [some (.ref a0), some (.ref a1), none, none, none, none, none] [.int r2] M3 N3 cr sr Z
  refine jv_istore_n (L' := [some (.ref a0), some (.ref a1), some (.int r2), none, none, none, none]) d_M_tickOn_8 rfl (Nat.le_of_ble_eq_true rfl) rfl ?_
  refine jv_aload_n d_M_tickOn_9 rfl rfl ?_
  refine jv_iconst (v := 0) d_M_tickOn_10 (by decide) ?_
  obtain ⟨q4, h⟩ := h
  refine jv_putZ d_M_tickOn_11 fl_M_144 (fun r hr => by cases hr; rfl) rfl q4 (by decide) ?_
  refine jv_aload_n d_M_tickOn_14 rfl rfl ?_
  refine jv_aload_n d_M_tickOn_15 rfl rfl ?_
  obtain ⟨q5, h⟩ := h
  refine jv_invV [.ref a1] [] d_M_tickOn_16 ml_M_192 q5 rfl (Nat.le_of_ble_eq_true rfl) (Nat.zero_add _) (Nat.zero_add _) (jv_Ct.mono h (fun v M7 N7 h => ?_))
  obtain ⟨rfl, h⟩ := h
  change jv_J g (d + 1) mt_M_tickOn 19 [some (.ref a0), some (.ref a1), some (.int r2), none, none, none, none] [] M7 N7 cr sr Z
  refine jv_iconst (v := 0) d_M_tickOn_19 (by decide) ?_
  refine jv_istore_n (L' := [some (.ref a0), some (.ref a1), some (.int r2), some (.int 0), none, none, none]) d_M_tickOn_20 rfl (Nat.le_of_ble_eq_true rfl) rfl ?_
  exact h
theorem b_M_tickOn_21 {g : jv_G} {d : Nat} {M : jv_Mem} {N cr sr : Nat} {Z : Option Value → jv_Mem → Nat → Prop} {a0 : Nat} {a1 : Nat} {x2 : Int32} {x3 : Int32} (h : jv_Tg 10 a0 N ∧ ((Prod.fst M a0 6) ≤ x3 → jv_Tg 10 a0 N ∧ jv_Ct g d mt_M_haltedOf [.ref a1, .int (Prod.fst M a0 6)] M N 0 0 (fun v M4 N4 => jv_ri v (fun r3 => jv_J g (d + 1) mt_M_tickOn 53 [some (.ref a0), some (.ref a1), some (.int x2), some (.int r3), some (.int 1), none, none] [] M4 N4 cr sr Z))) ∧ (¬ ((Prod.fst M a0 6) ≤ x3) → jv_Tg 10 a0 N ∧ jv_Ct g d mt_M_runHart [.ref a0, .ref a1, .int x3] M N 0 0 (fun v M7 N7 => jv_rv v (jv_J g (d + 1) mt_M_tickOn 21 [some (.ref a0), some (.ref a1), some (.int x2), some (.int (x3 + 1)), none, none, none] [] M7 N7 cr sr Z)))) : jv_J g (d + 1) mt_M_tickOn 21 [some (.ref a0), some (.ref a1), some (.int x2), some (.int x3), none, none, none] [] M N cr sr Z := by
  refine jv_iload_n d_M_tickOn_21 rfl rfl ?_
  refine jv_aload_n d_M_tickOn_22 rfl rfl ?_
  obtain ⟨q1, h⟩ := h
  refine jv_getI d_M_tickOn_23 fl_M_78 rfl q1 ?_
  refine jv_icmp_ge (tgt := 41) d_M_tickOn_26 (by decide) ⟨fun c => ?_, fun c => ?_⟩
  · replace h := h.1 c
    refine jv_aload_n d_M_tickOn_41 rfl rfl ?_
    refine jv_aload_n d_M_tickOn_42 rfl rfl ?_
    obtain ⟨q2, h⟩ := h
    refine jv_getI d_M_tickOn_43 fl_M_78 rfl q2 ?_
    refine jv_invS [.ref a1, .int (Prod.fst M a0 6)] [] d_M_tickOn_46 ml_M_189 rfl (Nat.le_of_ble_eq_true rfl) (Nat.zero_add _) (Nat.zero_add _) (jv_Ct.mono h (fun v M4 N4 h => ?_))
    obtain ⟨r3, rfl, h⟩ := h
    change jv_J g (d + 1) mt_M_tickOn 49 [some (.ref a0), some (.ref a1), some (.int x2), some (.int x3), none, none, none] [.int r3] M4 N4 cr sr Z
    refine jv_istore_n (L' := [some (.ref a0), some (.ref a1), some (.int x2), some (.int r3), none, none, none]) d_M_tickOn_49 rfl (Nat.le_of_ble_eq_true rfl) rfl ?_
    refine jv_iconst (v := 1) d_M_tickOn_50 (by decide) ?_
    refine jv_istore (L' := [some (.ref a0), some (.ref a1), some (.int x2), some (.int r3), some (.int 1), none, none]) d_M_tickOn_51 (Nat.le_of_ble_eq_true rfl) rfl ?_
    exact h
  · replace h := h.2 c
    refine jv_aload_n d_M_tickOn_29 rfl rfl ?_
    refine jv_aload_n d_M_tickOn_30 rfl rfl ?_
    refine jv_iload_n d_M_tickOn_31 rfl rfl ?_
    obtain ⟨q5, h⟩ := h
    refine jv_invV [.ref a1, .int x3] [] d_M_tickOn_32 ml_M_196 q5 rfl (Nat.le_of_ble_eq_true rfl) (Nat.zero_add _) (Nat.zero_add _) (jv_Ct.mono h (fun v M7 N7 h => ?_))
    obtain ⟨rfl, h⟩ := h
    change jv_J g (d + 1) mt_M_tickOn 35 [some (.ref a0), some (.ref a1), some (.int x2), some (.int x3), none, none, none] [] M7 N7 cr sr Z
    refine jv_iinc (v := (x3 + 1)) (L' := [some (.ref a0), some (.ref a1), some (.int x2), some (.int (x3 + 1)), none, none, none]) d_M_tickOn_35 rfl rfl (Nat.le_of_ble_eq_true rfl) rfl ?_
    refine jv_goto (tgt := 21) d_M_tickOn_38 (by decide) ?_
    exact h
theorem b_M_tickOn_53 {g : jv_G} {d : Nat} {M : jv_Mem} {N cr sr : Nat} {Z : Option Value → jv_Mem → Nat → Prop} {a0 : Nat} {a1 : Nat} {x2 : Int32} {x3 : Int32} {x4 : Int32} (h : (3 ≤ x4 → jv_J g (d + 1) mt_M_tickOn 173 [some (.ref a0), some (.ref a1), none, none, some (.int 0), none, none] [] M N cr sr Z) ∧ (¬ (3 ≤ x4) → jv_J g (d + 1) mt_M_tickOn 65 [some (.ref a0), some (.ref a1), some (.int x2), some (.int x3), some (.int x4), some (.int 0), some (.int 0)] [] M N cr sr Z)) : jv_J g (d + 1) mt_M_tickOn 53 [some (.ref a0), some (.ref a1), some (.int x2), some (.int x3), some (.int x4), none, none] [] M N cr sr Z := by
  refine jv_iload d_M_tickOn_53 rfl ?_
  refine jv_iconst (v := 3) d_M_tickOn_55 (by decide) ?_
  refine jv_icmp_ge (tgt := 170) d_M_tickOn_56 (by decide) ⟨fun c => ?_, fun c => ?_⟩
  · replace h := h.1 c
    refine jv_iconst (v := 0) d_M_tickOn_170 (by decide) ?_
    refine jv_istore (L' := [some (.ref a0), some (.ref a1), some (.int x2), some (.int x3), some (.int 0), none, none]) d_M_tickOn_171 (Nat.le_of_ble_eq_true rfl) rfl ?_
    refine jv_weak (L' := [some (.ref a0), some (.ref a1), none, none, some (.int 0), none, none]) (by simp [jv_le]) ?_
    exact h
  · replace h := h.2 c
    refine jv_iconst (v := 0) d_M_tickOn_59 (by decide) ?_
    refine jv_istore (L' := [some (.ref a0), some (.ref a1), some (.int x2), some (.int x3), some (.int x4), some (.int 0), none]) d_M_tickOn_60 (Nat.le_of_ble_eq_true rfl) rfl ?_
    refine jv_iconst (v := 0) d_M_tickOn_62 (by decide) ?_
    refine jv_istore (L' := [some (.ref a0), some (.ref a1), some (.int x2), some (.int x3), some (.int x4), some (.int 0), some (.int 0)]) d_M_tickOn_63 (Nat.le_of_ble_eq_true rfl) rfl ?_
    exact h
theorem b_M_tickOn_65 {g : jv_G} {d : Nat} {M : jv_Mem} {N cr sr : Nat} {Z : Option Value → jv_Mem → Nat → Prop} {a0 : Nat} {a1 : Nat} {x2 : Int32} {x3 : Int32} {x4 : Int32} {x5 : Int32} {x6 : Int32} (h : jv_Tg 10 a0 N ∧ ((Prod.fst M a0 6) ≤ x6 → jv_J g (d + 1) mt_M_tickOn 125 [some (.ref a0), some (.ref a1), some (.int x2), some (.int x3), some (.int x4), some (.int x5), some (.int 0)] [] M N cr sr Z) ∧ (¬ ((Prod.fst M a0 6) ≤ x6) → (x5 ≠ 0 → jv_J g (d + 1) mt_M_tickOn 65 [some (.ref a0), some (.ref a1), some (.int x2), some (.int x3), some (.int x4), some (.int 1), some (.int (x6 + 1))] [] M N cr sr Z) ∧ (x5 = 0 → jv_Tg 10 a0 N ∧ ∃ b3, Prod.fst (Prod.snd M) a0 8 = some b3 ∧ jv_Tg 11 b3 N ∧ vp_in x6 (jv_sh b3).2 ∧ ((Prod.fst M b3 (Int32.toNatClampNeg x6)) ≠ x4 → jv_J g (d + 1) mt_M_tickOn 65 [some (.ref a0), some (.ref a1), some (.int x2), some (.int x3), some (.int x4), some (.int 0), some (.int (x6 + 1))] [] M N cr sr Z) ∧ ((Prod.fst M b3 (Int32.toNatClampNeg x6)) = x4 → jv_Ct g d mt_M_has [.int x3, .int x6] M N 0 0 (fun v M8 N8 => jv_ri v (fun r7 => (r7 = 0 → jv_J g (d + 1) mt_M_tickOn 65 [some (.ref a0), some (.ref a1), some (.int x2), some (.int x3), some (.int x4), some (.int 0), some (.int (x6 + 1))] [] M8 N8 cr sr Z) ∧ (¬ (r7 = 0) → jv_Ct g d mt_M_has [.int x2, .int x6] M8 N8 0 0 (fun v M10 N10 => jv_ri v (fun r9 => (r9 ≠ 0 → jv_J g (d + 1) mt_M_tickOn 65 [some (.ref a0), some (.ref a1), some (.int x2), some (.int x3), some (.int x4), some (.int 0), some (.int (x6 + 1))] [] M10 N10 cr sr Z) ∧ (r9 = 0 → jv_J g (d + 1) mt_M_tickOn 65 [some (.ref a0), some (.ref a1), some (.int x2), some (.int x3), some (.int x4), some (.int 1), some (.int (x6 + 1))] [] M10 N10 cr sr Z)))))))))) : jv_J g (d + 1) mt_M_tickOn 65 [some (.ref a0), some (.ref a1), some (.int x2), some (.int x3), some (.int x4), some (.int x5), some (.int x6)] [] M N cr sr Z := by
  refine jv_iload d_M_tickOn_65 rfl ?_
  refine jv_aload_n d_M_tickOn_67 rfl rfl ?_
  obtain ⟨q1, h⟩ := h
  refine jv_getI d_M_tickOn_68 fl_M_78 rfl q1 ?_
  refine jv_icmp_ge (tgt := 122) d_M_tickOn_71 (by decide) ⟨fun c => ?_, fun c => ?_⟩
  · replace h := h.1 c
    refine jv_iconst (v := 0) d_M_tickOn_122 (by decide) ?_
    refine jv_istore (L' := [some (.ref a0), some (.ref a1), some (.int x2), some (.int x3), some (.int x4), some (.int x5), some (.int 0)]) d_M_tickOn_123 (Nat.le_of_ble_eq_true rfl) rfl ?_
    exact h
  · replace h := h.2 c
    refine jv_iload d_M_tickOn_74 rfl ?_
    refine jv_if_ne (tgt := 109) d_M_tickOn_76 (by decide) ⟨fun c => ?_, fun c => ?_⟩
    · replace h := h.1 c
      refine jv_iconst (v := 1) d_M_tickOn_109 (by decide) ?_
      refine jv_goto (tgt := 114) d_M_tickOn_110 (by decide) ?_
      refine jv_istore (L' := [some (.ref a0), some (.ref a1), some (.int x2), some (.int x3), some (.int x4), some (.int 1), some (.int x6)]) d_M_tickOn_114 (Nat.le_of_ble_eq_true rfl) rfl ?_
      refine jv_iinc (v := (x6 + 1)) (L' := [some (.ref a0), some (.ref a1), some (.int x2), some (.int x3), some (.int x4), some (.int 1), some (.int (x6 + 1))]) d_M_tickOn_116 rfl rfl (Nat.le_of_ble_eq_true rfl) rfl ?_
      refine jv_goto (tgt := 65) d_M_tickOn_119 (by decide) ?_
      exact h
    · replace h := h.2 c
      refine jv_aload_n d_M_tickOn_79 rfl rfl ?_
      obtain ⟨q2, h⟩ := h
      obtain ⟨b3, e4, h⟩ := h
      refine jv_getR d_M_tickOn_80 fl_M_19 rfl q2 e4 ?_
      refine jv_iload d_M_tickOn_83 rfl ?_
      obtain ⟨q5, q6, h⟩ := h
      refine jv_iald d_M_tickOn_85 q5 q6 ?_
      refine jv_iload d_M_tickOn_86 rfl ?_
      refine jv_icmp_ne (tgt := 113) d_M_tickOn_88 (by decide) ⟨fun c => ?_, fun c => ?_⟩
      · replace h := h.1 c
        refine jv_iconst (v := 0) d_M_tickOn_113 (by decide) ?_
        refine jv_istore (L' := [some (.ref a0), some (.ref a1), some (.int x2), some (.int x3), some (.int x4), some (.int 0), some (.int x6)]) d_M_tickOn_114 (Nat.le_of_ble_eq_true rfl) rfl ?_
        refine jv_iinc (v := (x6 + 1)) (L' := [some (.ref a0), some (.ref a1), some (.int x2), some (.int x3), some (.int x4), some (.int 0), some (.int (x6 + 1))]) d_M_tickOn_116 rfl rfl (Nat.le_of_ble_eq_true rfl) rfl ?_
        refine jv_goto (tgt := 65) d_M_tickOn_119 (by decide) ?_
        exact h
      · replace h := h.2 c
        refine jv_iload_n d_M_tickOn_91 rfl rfl ?_
        refine jv_iload d_M_tickOn_92 rfl ?_
        refine jv_invS [.int x3, .int x6] [] d_M_tickOn_94 ml_M_175 rfl (Nat.le_of_ble_eq_true rfl) (Nat.zero_add _) (Nat.zero_add _) (jv_Ct.mono h (fun v M8 N8 h => ?_))
        obtain ⟨r7, rfl, h⟩ := h
        change jv_J g (d + 1) mt_M_tickOn 97 [some (.ref a0), some (.ref a1), some (.int x2), some (.int x3), some (.int x4), some (.int x5), some (.int x6)] [.int r7] M8 N8 cr sr Z
        refine jv_if_eq (tgt := 113) d_M_tickOn_97 (by decide) ⟨fun c => ?_, fun c => ?_⟩
        · replace h := h.1 c
          refine jv_iconst (v := 0) d_M_tickOn_113 (by decide) ?_
          refine jv_istore (L' := [some (.ref a0), some (.ref a1), some (.int x2), some (.int x3), some (.int x4), some (.int 0), some (.int x6)]) d_M_tickOn_114 (Nat.le_of_ble_eq_true rfl) rfl ?_
          refine jv_iinc (v := (x6 + 1)) (L' := [some (.ref a0), some (.ref a1), some (.int x2), some (.int x3), some (.int x4), some (.int 0), some (.int (x6 + 1))]) d_M_tickOn_116 rfl rfl (Nat.le_of_ble_eq_true rfl) rfl ?_
          refine jv_goto (tgt := 65) d_M_tickOn_119 (by decide) ?_
          exact h
        · replace h := h.2 c
          refine jv_iload_n d_M_tickOn_100 rfl rfl ?_
          refine jv_iload d_M_tickOn_101 rfl ?_
          refine jv_invS [.int x2, .int x6] [] d_M_tickOn_103 ml_M_175 rfl (Nat.le_of_ble_eq_true rfl) (Nat.zero_add _) (Nat.zero_add _) (jv_Ct.mono h (fun v M10 N10 h => ?_))
          obtain ⟨r9, rfl, h⟩ := h
          change jv_J g (d + 1) mt_M_tickOn 106 [some (.ref a0), some (.ref a1), some (.int x2), some (.int x3), some (.int x4), some (.int x5), some (.int x6)] [.int r9] M10 N10 cr sr Z
          refine jv_if_ne (tgt := 113) d_M_tickOn_106 (by decide) ⟨fun c => ?_, fun c => ?_⟩
          · replace h := h.1 c
            refine jv_iconst (v := 0) d_M_tickOn_113 (by decide) ?_
            refine jv_istore (L' := [some (.ref a0), some (.ref a1), some (.int x2), some (.int x3), some (.int x4), some (.int 0), some (.int x6)]) d_M_tickOn_114 (Nat.le_of_ble_eq_true rfl) rfl ?_
            refine jv_iinc (v := (x6 + 1)) (L' := [some (.ref a0), some (.ref a1), some (.int x2), some (.int x3), some (.int x4), some (.int 0), some (.int (x6 + 1))]) d_M_tickOn_116 rfl rfl (Nat.le_of_ble_eq_true rfl) rfl ?_
            refine jv_goto (tgt := 65) d_M_tickOn_119 (by decide) ?_
            exact h
          · replace h := h.2 c
            refine jv_iconst (v := 1) d_M_tickOn_109 (by decide) ?_
            refine jv_goto (tgt := 114) d_M_tickOn_110 (by decide) ?_
            refine jv_istore (L' := [some (.ref a0), some (.ref a1), some (.int x2), some (.int x3), some (.int x4), some (.int 1), some (.int x6)]) d_M_tickOn_114 (Nat.le_of_ble_eq_true rfl) rfl ?_
            refine jv_iinc (v := (x6 + 1)) (L' := [some (.ref a0), some (.ref a1), some (.int x2), some (.int x3), some (.int x4), some (.int 1), some (.int (x6 + 1))]) d_M_tickOn_116 rfl rfl (Nat.le_of_ble_eq_true rfl) rfl ?_
            refine jv_goto (tgt := 65) d_M_tickOn_119 (by decide) ?_
            exact h
theorem b_M_tickOn_125 {g : jv_G} {d : Nat} {M : jv_Mem} {N cr sr : Nat} {Z : Option Value → jv_Mem → Nat → Prop} {a0 : Nat} {a1 : Nat} {x2 : Int32} {x3 : Int32} {x4 : Int32} {x5 : Int32} {x6 : Int32} (h : jv_Tg 10 a0 N ∧ ((Prod.fst M a0 6) ≤ x6 → jv_J g (d + 1) mt_M_tickOn 53 [some (.ref a0), some (.ref a1), some (.int x2), some (.int x3), some (.int (x4 + 1)), none, none] [] M N cr sr Z) ∧ (¬ ((Prod.fst M a0 6) ≤ x6) → (x5 = 0 → jv_J g (d + 1) mt_M_tickOn 125 [some (.ref a0), some (.ref a1), some (.int x2), some (.int x3), some (.int x4), some (.int x5), some (.int (x6 + 1))] [] M N cr sr Z) ∧ (¬ (x5 = 0) → jv_Tg 10 a0 N ∧ ∃ b3, Prod.fst (Prod.snd M) a0 8 = some b3 ∧ jv_Tg 11 b3 N ∧ vp_in x6 (jv_sh b3).2 ∧ ((Prod.fst M b3 (Int32.toNatClampNeg x6)) ≠ x4 → jv_J g (d + 1) mt_M_tickOn 125 [some (.ref a0), some (.ref a1), some (.int x2), some (.int x3), some (.int x4), some (.int x5), some (.int (x6 + 1))] [] M N cr sr Z) ∧ ((Prod.fst M b3 (Int32.toNatClampNeg x6)) = x4 → jv_Ct g d mt_M_halt [.ref a1, .int x6, .int 4] M N 0 0 (fun v M8 N8 => jv_rv v (jv_J g (d + 1) mt_M_tickOn 125 [some (.ref a0), some (.ref a1), some (.int x2), some (.int x3), some (.int x4), some (.int x5), some (.int (x6 + 1))] [] M8 N8 cr sr Z)))))) : jv_J g (d + 1) mt_M_tickOn 125 [some (.ref a0), some (.ref a1), some (.int x2), some (.int x3), some (.int x4), some (.int x5), some (.int x6)] [] M N cr sr Z := by
  refine jv_iload d_M_tickOn_125 rfl ?_
  refine jv_aload_n d_M_tickOn_127 rfl rfl ?_
  obtain ⟨q1, h⟩ := h
  refine jv_getI d_M_tickOn_128 fl_M_78 rfl q1 ?_
  refine jv_icmp_ge (tgt := 164) d_M_tickOn_131 (by decide) ⟨fun c => ?_, fun c => ?_⟩
  · replace h := h.1 c
    refine jv_iinc (v := (x4 + 1)) (L' := [some (.ref a0), some (.ref a1), some (.int x2), some (.int x3), some (.int (x4 + 1)), some (.int x5), some (.int x6)]) d_M_tickOn_164 rfl rfl (Nat.le_of_ble_eq_true rfl) rfl ?_
    refine jv_goto (tgt := 53) d_M_tickOn_167 (by decide) ?_
    refine jv_weak (L' := [some (.ref a0), some (.ref a1), some (.int x2), some (.int x3), some (.int (x4 + 1)), none, none]) (by simp [jv_le]) ?_
    exact h
  · replace h := h.2 c
    refine jv_iload d_M_tickOn_134 rfl ?_
    refine jv_if_eq (tgt := 158) d_M_tickOn_136 (by decide) ⟨fun c => ?_, fun c => ?_⟩
    · replace h := h.1 c
      refine jv_iinc (v := (x6 + 1)) (L' := [some (.ref a0), some (.ref a1), some (.int x2), some (.int x3), some (.int x4), some (.int x5), some (.int (x6 + 1))]) d_M_tickOn_158 rfl rfl (Nat.le_of_ble_eq_true rfl) rfl ?_
      refine jv_goto (tgt := 125) d_M_tickOn_161 (by decide) ?_
      exact h
    · replace h := h.2 c
      refine jv_aload_n d_M_tickOn_139 rfl rfl ?_
      obtain ⟨q2, h⟩ := h
      obtain ⟨b3, e4, h⟩ := h
      refine jv_getR d_M_tickOn_140 fl_M_19 rfl q2 e4 ?_
      refine jv_iload d_M_tickOn_143 rfl ?_
      obtain ⟨q5, q6, h⟩ := h
      refine jv_iald d_M_tickOn_145 q5 q6 ?_
      refine jv_iload d_M_tickOn_146 rfl ?_
      refine jv_icmp_ne (tgt := 158) d_M_tickOn_148 (by decide) ⟨fun c => ?_, fun c => ?_⟩
      · replace h := h.1 c
        refine jv_iinc (v := (x6 + 1)) (L' := [some (.ref a0), some (.ref a1), some (.int x2), some (.int x3), some (.int x4), some (.int x5), some (.int (x6 + 1))]) d_M_tickOn_158 rfl rfl (Nat.le_of_ble_eq_true rfl) rfl ?_
        refine jv_goto (tgt := 125) d_M_tickOn_161 (by decide) ?_
        exact h
      · replace h := h.2 c
        refine jv_aload_n d_M_tickOn_151 rfl rfl ?_
        refine jv_iload d_M_tickOn_152 rfl ?_
        refine jv_iconst (v := 4) d_M_tickOn_154 (by decide) ?_
        refine jv_invS [.ref a1, .int x6, .int 4] [] d_M_tickOn_155 ml_M_155 rfl (Nat.le_of_ble_eq_true rfl) (Nat.zero_add _) (Nat.zero_add _) (jv_Ct.mono h (fun v M8 N8 h => ?_))
        obtain ⟨rfl, h⟩ := h
        change jv_J g (d + 1) mt_M_tickOn 158 [some (.ref a0), some (.ref a1), some (.int x2), some (.int x3), some (.int x4), some (.int x5), some (.int x6)] [] M8 N8 cr sr Z
        refine jv_iinc (v := (x6 + 1)) (L' := [some (.ref a0), some (.ref a1), some (.int x2), some (.int x3), some (.int x4), some (.int x5), some (.int (x6 + 1))]) d_M_tickOn_158 rfl rfl (Nat.le_of_ble_eq_true rfl) rfl ?_
        refine jv_goto (tgt := 125) d_M_tickOn_161 (by decide) ?_
        exact h
theorem b_M_tickOn_173 {g : jv_G} {d : Nat} {M : jv_Mem} {N cr sr : Nat} {Z : Option Value → jv_Mem → Nat → Prop} {a0 : Nat} {a1 : Nat} {x4 : Int32} (h : jv_Tg 10 a0 N ∧ ((Prod.fst M a0 6) ≤ x4 → Z none M N) ∧ (¬ ((Prod.fst M a0 6) ≤ x4) → jv_Tg 10 a0 N ∧ ((Prod.fst M a0 31) = 0 → Z none M N) ∧ (¬ ((Prod.fst M a0 31) = 0) → jv_Tg 11 a1 N ∧ vp_in ((8 * x4) + 1) (jv_sh a1).2 ∧ ((Prod.fst M a1 (Int32.toNatClampNeg ((8 * x4) + 1))) ≠ 1 → jv_Tg 11 a1 N ∧ vp_in ((8 * x4) + 1) (jv_sh a1).2 ∧ jv_Tg 11 a1 N ∧ vp_in ((8 * x4) + 1) (jv_sh a1).2 ∧ jv_Tg 11 a1 N ∧ vp_in ((8 * x4) + 2) (jv_sh a1).2 ∧ jv_J g (d + 1) mt_M_tickOn 173 [some (.ref a0), some (.ref a1), none, none, some (.int (x4 + 1)), none, none] [] (jv_si (jv_si M a1 (Int32.toNatClampNeg ((8 * x4) + 1)) (Prod.fst M a1 (Int32.toNatClampNeg ((8 * x4) + 1)))) a1 (Int32.toNatClampNeg ((8 * x4) + 2)) 0) N cr sr Z) ∧ ((Prod.fst M a1 (Int32.toNatClampNeg ((8 * x4) + 1))) = 1 → jv_Tg 11 a1 N ∧ vp_in ((8 * x4) + 1) (jv_sh a1).2 ∧ jv_Tg 11 a1 N ∧ vp_in ((8 * x4) + 2) (jv_sh a1).2 ∧ jv_J g (d + 1) mt_M_tickOn 173 [some (.ref a0), some (.ref a1), none, none, some (.int (x4 + 1)), none, none] [] (jv_si (jv_si M a1 (Int32.toNatClampNeg ((8 * x4) + 1)) 0) a1 (Int32.toNatClampNeg ((8 * x4) + 2)) 0) N cr sr Z)))) : jv_J g (d + 1) mt_M_tickOn 173 [some (.ref a0), some (.ref a1), none, none, some (.int x4), none, none] [] M N cr sr Z := by
  refine jv_iload d_M_tickOn_173 rfl ?_
  refine jv_aload_n d_M_tickOn_175 rfl rfl ?_
  obtain ⟨q1, h⟩ := h
  refine jv_getI d_M_tickOn_176 fl_M_78 rfl q1 ?_
  refine jv_icmp_ge (tgt := 240) d_M_tickOn_179 (by decide) ⟨fun c => ?_, fun c => ?_⟩
  · replace h := h.1 c
    exact jv_ret d_M_tickOn_240 rfl h
  · replace h := h.2 c
    refine jv_aload_n d_M_tickOn_182 rfl rfl ?_
    obtain ⟨q2, h⟩ := h
    refine jv_getI d_M_tickOn_183 fl_M_144 rfl q2 ?_
    refine jv_if_eq (tgt := 240) d_M_tickOn_186 (by decide) ⟨fun c => ?_, fun c => ?_⟩
    · replace h := h.1 c
      exact jv_ret d_M_tickOn_240 rfl h
    · replace h := h.2 c
      refine jv_aload_n d_M_tickOn_189 rfl rfl ?_
      refine jv_bipush (v := 8) d_M_tickOn_190 (by decide) ?_
      refine jv_iload d_M_tickOn_192 rfl ?_
      refine jv_imul d_M_tickOn_194 ?_
      refine jv_iconst (v := 1) d_M_tickOn_195 (by decide) ?_
      refine jv_iadd d_M_tickOn_196 ?_
      refine jv_aload_n d_M_tickOn_197 rfl rfl ?_
      refine jv_bipush (v := 8) d_M_tickOn_198 (by decide) ?_
      refine jv_iload d_M_tickOn_200 rfl ?_
      refine jv_imul d_M_tickOn_202 ?_
      refine jv_iconst (v := 1) d_M_tickOn_203 (by decide) ?_
      refine jv_iadd d_M_tickOn_204 ?_
      obtain ⟨q3, q4, h⟩ := h
      refine jv_iald d_M_tickOn_205 q3 q4 ?_
      refine jv_iconst (v := 1) d_M_tickOn_206 (by decide) ?_
      refine jv_icmp_ne (tgt := 214) d_M_tickOn_207 (by decide) ⟨fun c => ?_, fun c => ?_⟩
      · replace h := h.1 c
        refine jv_aload_n d_M_tickOn_214 rfl rfl ?_
        refine jv_bipush (v := 8) d_M_tickOn_215 (by decide) ?_
        refine jv_iload d_M_tickOn_217 rfl ?_
        refine jv_imul d_M_tickOn_219 ?_
        refine jv_iconst (v := 1) d_M_tickOn_220 (by decide) ?_
        refine jv_iadd d_M_tickOn_221 ?_
        obtain ⟨q5, q6, h⟩ := h
        refine jv_iald d_M_tickOn_222 q5 q6 ?_
        obtain ⟨q7, q8, h⟩ := h
        refine jv_iast d_M_tickOn_223 q7 q8 ?_
        refine jv_aload_n d_M_tickOn_224 rfl rfl ?_
        refine jv_bipush (v := 8) d_M_tickOn_225 (by decide) ?_
        refine jv_iload d_M_tickOn_227 rfl ?_
        refine jv_imul d_M_tickOn_229 ?_
        refine jv_iconst (v := 2) d_M_tickOn_230 (by decide) ?_
        refine jv_iadd d_M_tickOn_231 ?_
        refine jv_iconst (v := 0) d_M_tickOn_232 (by decide) ?_
        obtain ⟨q9, q10, h⟩ := h
        refine jv_iast d_M_tickOn_233 q9 q10 ?_
        refine jv_iinc (v := (x4 + 1)) (L' := [some (.ref a0), some (.ref a1), none, none, some (.int (x4 + 1)), none, none]) d_M_tickOn_234 rfl rfl (Nat.le_of_ble_eq_true rfl) rfl ?_
        refine jv_goto (tgt := 173) d_M_tickOn_237 (by decide) ?_
        exact h
      · replace h := h.2 c
        refine jv_iconst (v := 0) d_M_tickOn_210 (by decide) ?_
        refine jv_goto (tgt := 223) d_M_tickOn_211 (by decide) ?_
        obtain ⟨q11, q12, h⟩ := h
        refine jv_iast d_M_tickOn_223 q11 q12 ?_
        refine jv_aload_n d_M_tickOn_224 rfl rfl ?_
        refine jv_bipush (v := 8) d_M_tickOn_225 (by decide) ?_
        refine jv_iload d_M_tickOn_227 rfl ?_
        refine jv_imul d_M_tickOn_229 ?_
        refine jv_iconst (v := 2) d_M_tickOn_230 (by decide) ?_
        refine jv_iadd d_M_tickOn_231 ?_
        refine jv_iconst (v := 0) d_M_tickOn_232 (by decide) ?_
        obtain ⟨q13, q14, h⟩ := h
        refine jv_iast d_M_tickOn_233 q13 q14 ?_
        refine jv_iinc (v := (x4 + 1)) (L' := [some (.ref a0), some (.ref a1), none, none, some (.int (x4 + 1)), none, none]) d_M_tickOn_234 rfl rfl (Nat.le_of_ble_eq_true rfl) rfl ?_
        refine jv_goto (tgt := 173) d_M_tickOn_237 (by decide) ?_
        exact h
theorem b_M_haltedOf_0 {g : jv_G} {d : Nat} {M : jv_Mem} {N cr sr : Nat} {Z : Option Value → jv_Mem → Nat → Prop} {a0 : Nat} {x1 : Int32} (h : jv_J g d mt_M_haltedOf 4 [some (.ref a0), some (.int x1), some (.int 0), some (.int 0)] [] M N cr sr Z) : jv_J g d mt_M_haltedOf 0 [some (.ref a0), some (.int x1), none, none] [] M N cr sr Z := by
  refine jv_iconst (v := 0) d_M_haltedOf_0 (by decide) ?_
  refine jv_istore_n (L' := [some (.ref a0), some (.int x1), some (.int 0), none]) d_M_haltedOf_1 rfl (Nat.le_of_ble_eq_true rfl) rfl ?_
  refine jv_iconst (v := 0) d_M_haltedOf_2 (by decide) ?_
  refine jv_istore_n (L' := [some (.ref a0), some (.int x1), some (.int 0), some (.int 0)]) d_M_haltedOf_3 rfl (Nat.le_of_ble_eq_true rfl) rfl ?_
  exact h
theorem b_M_haltedOf_4 {g : jv_G} {d : Nat} {M : jv_Mem} {N cr sr : Nat} {Z : Option Value → jv_Mem → Nat → Prop} {a0 : Nat} {x1 : Int32} {x2 : Int32} {x3 : Int32} (h : (x1 ≤ x3 → Z (some (.int x2)) M N) ∧ (¬ (x1 ≤ x3) → jv_Tg 11 a0 N ∧ vp_in ((8 * x3) + 1) (jv_sh a0).2 ∧ ((Prod.fst M a0 (Int32.toNatClampNeg ((8 * x3) + 1))) ≠ 2 → jv_J g d mt_M_haltedOf 4 [some (.ref a0), some (.int x1), some (.int (x2 ||| 0)), some (.int (x3 + 1))] [] M N cr sr Z) ∧ ((Prod.fst M a0 (Int32.toNatClampNeg ((8 * x3) + 1))) = 2 → jv_J g d mt_M_haltedOf 4 [some (.ref a0), some (.int x1), some (.int (x2 ||| (1 <<< (x3 &&& 31)))), some (.int (x3 + 1))] [] M N cr sr Z))) : jv_J g d mt_M_haltedOf 4 [some (.ref a0), some (.int x1), some (.int x2), some (.int x3)] [] M N cr sr Z := by
  refine jv_iload_n d_M_haltedOf_4 rfl rfl ?_
  refine jv_iload_n d_M_haltedOf_5 rfl rfl ?_
  refine jv_icmp_ge (tgt := 37) d_M_haltedOf_6 (by decide) ⟨fun c => ?_, fun c => ?_⟩
  · replace h := h.1 c
    refine jv_iload_n d_M_haltedOf_37 rfl rfl ?_
    exact jv_iret d_M_haltedOf_38 rfl rfl h
  · replace h := h.2 c
    refine jv_iload_n d_M_haltedOf_9 rfl rfl ?_
    refine jv_aload_n d_M_haltedOf_10 rfl rfl ?_
    refine jv_bipush (v := 8) d_M_haltedOf_11 (by decide) ?_
    refine jv_iload_n d_M_haltedOf_13 rfl rfl ?_
    refine jv_imul d_M_haltedOf_14 ?_
    refine jv_iconst (v := 1) d_M_haltedOf_15 (by decide) ?_
    refine jv_iadd d_M_haltedOf_16 ?_
    obtain ⟨q1, q2, h⟩ := h
    refine jv_iald d_M_haltedOf_17 q1 q2 ?_
    refine jv_iconst (v := 2) d_M_haltedOf_18 (by decide) ?_
    refine jv_icmp_ne (tgt := 28) d_M_haltedOf_19 (by decide) ⟨fun c => ?_, fun c => ?_⟩
    · replace h := h.1 c
      refine jv_iconst (v := 0) d_M_haltedOf_28 (by decide) ?_
      refine jv_ior d_M_haltedOf_29 ?_
      refine jv_istore_n (L' := [some (.ref a0), some (.int x1), some (.int (x2 ||| 0)), some (.int x3)]) d_M_haltedOf_30 rfl (Nat.le_of_ble_eq_true rfl) rfl ?_
      refine jv_iinc (v := (x3 + 1)) (L' := [some (.ref a0), some (.int x1), some (.int (x2 ||| 0)), some (.int (x3 + 1))]) d_M_haltedOf_31 rfl rfl (Nat.le_of_ble_eq_true rfl) rfl ?_
      refine jv_goto (tgt := 4) d_M_haltedOf_34 (by decide) ?_
      exact h
    · replace h := h.2 c
      refine jv_iconst (v := 1) d_M_haltedOf_22 (by decide) ?_
      refine jv_iload_n d_M_haltedOf_23 rfl rfl ?_
      refine jv_ishl d_M_haltedOf_24 ?_
      refine jv_goto (tgt := 29) d_M_haltedOf_25 (by decide) ?_
      refine jv_ior d_M_haltedOf_29 ?_
      refine jv_istore_n (L' := [some (.ref a0), some (.int x1), some (.int (x2 ||| (1 <<< (x3 &&& 31)))), some (.int x3)]) d_M_haltedOf_30 rfl (Nat.le_of_ble_eq_true rfl) rfl ?_
      refine jv_iinc (v := (x3 + 1)) (L' := [some (.ref a0), some (.int x1), some (.int (x2 ||| (1 <<< (x3 &&& 31)))), some (.int (x3 + 1))]) d_M_haltedOf_31 rfl rfl (Nat.le_of_ble_eq_true rfl) rfl ?_
      refine jv_goto (tgt := 4) d_M_haltedOf_34 (by decide) ?_
      exact h
theorem b_M_goRound_0 {g : jv_G} {d : Nat} {M : jv_Mem} {N cr sr : Nat} {Z : Option Value → jv_Mem → Nat → Prop} {a0 : Nat} {a1 : Nat} (h : jv_J g (d + 1) mt_M_goRound 2 [some (.ref a0), some (.ref a1), some (.int 0), none] [] M N cr sr Z) : jv_J g (d + 1) mt_M_goRound 0 [some (.ref a0), some (.ref a1), none, none] [] M N cr sr Z := by
  refine jv_iconst (v := 0) d_M_goRound_0 (by decide) ?_
  refine jv_istore_n (L' := [some (.ref a0), some (.ref a1), some (.int 0), none]) d_M_goRound_1 rfl (Nat.le_of_ble_eq_true rfl) rfl ?_
  exact h
theorem b_M_goRound_2 {g : jv_G} {d : Nat} {M : jv_Mem} {N cr sr : Nat} {Z : Option Value → jv_Mem → Nat → Prop} {a0 : Nat} {a1 : Nat} {x2 : Int32} (h : jv_Tg 11 a1 N ∧ vp_in 80 (jv_sh a1).2 ∧ ((Prod.fst M a1 (Int32.toNatClampNeg 80)) ≤ x2 → Z none M N) ∧ (¬ ((Prod.fst M a1 (Int32.toNatClampNeg 80)) ≤ x2) → jv_Tg 11 a1 N ∧ vp_in ((81 + (7 * x2)) + 2) (jv_sh a1).2 ∧ jv_Tg 11 a1 N ∧ vp_in ((81 + (7 * x2)) + 2) (jv_sh a1).2 ∧ jv_Tg 11 a1 N ∧ vp_in ((81 + (7 * x2)) + 2) (jv_sh a1).2 ∧ jv_Tg 11 a1 N ∧ vp_in ((81 + (7 * x2)) + 1) (jv_sh a1).2 ∧ ((Prod.fst (jv_si M a1 (Int32.toNatClampNeg ((81 + (7 * x2)) + 2)) ((Prod.fst M a1 (Int32.toNatClampNeg ((81 + (7 * x2)) + 2))) + 1)) a1 (Int32.toNatClampNeg ((81 + (7 * x2)) + 2))) ≠ ((Prod.fst (jv_si M a1 (Int32.toNatClampNeg ((81 + (7 * x2)) + 2)) ((Prod.fst M a1 (Int32.toNatClampNeg ((81 + (7 * x2)) + 2))) + 1)) a1 (Int32.toNatClampNeg ((81 + (7 * x2)) + 1))) + 1) → jv_J g (d + 1) mt_M_goRound 48 [some (.ref a0), some (.ref a1), some (.int x2), some (.int (81 + (7 * x2)))] [] (jv_si M a1 (Int32.toNatClampNeg ((81 + (7 * x2)) + 2)) ((Prod.fst M a1 (Int32.toNatClampNeg ((81 + (7 * x2)) + 2))) + 1)) N cr sr Z) ∧ ((Prod.fst (jv_si M a1 (Int32.toNatClampNeg ((81 + (7 * x2)) + 2)) ((Prod.fst M a1 (Int32.toNatClampNeg ((81 + (7 * x2)) + 2))) + 1)) a1 (Int32.toNatClampNeg ((81 + (7 * x2)) + 2))) = ((Prod.fst (jv_si M a1 (Int32.toNatClampNeg ((81 + (7 * x2)) + 2)) ((Prod.fst M a1 (Int32.toNatClampNeg ((81 + (7 * x2)) + 2))) + 1)) a1 (Int32.toNatClampNeg ((81 + (7 * x2)) + 1))) + 1) → jv_Tg 10 a0 N ∧ jv_Ct g d mt_M_reach [.ref a0, .ref a1, .int x2] (jv_si M a1 (Int32.toNatClampNeg ((81 + (7 * x2)) + 2)) ((Prod.fst M a1 (Int32.toNatClampNeg ((81 + (7 * x2)) + 2))) + 1)) N 0 0 (fun v M13 N13 => jv_rv v (jv_J g (d + 1) mt_M_goRound 48 [some (.ref a0), some (.ref a1), some (.int x2), some (.int (81 + (7 * x2)))] [] M13 N13 cr sr Z))))) : jv_J g (d + 1) mt_M_goRound 2 [some (.ref a0), some (.ref a1), some (.int x2), none] [] M N cr sr Z := by
  refine jv_iload_n d_M_goRound_2 rfl rfl ?_
  refine jv_aload_n d_M_goRound_3 rfl rfl ?_
  refine jv_bipush (v := 80) d_M_goRound_4 (by decide) ?_
  obtain ⟨q1, q2, h⟩ := h
  refine jv_iald d_M_goRound_6 q1 q2 ?_
  refine jv_icmp_ge (tgt := 138) d_M_goRound_7 (by decide) ⟨fun c => ?_, fun c => ?_⟩
  · replace h := h.1 c
    exact jv_ret d_M_goRound_138 rfl h
  · replace h := h.2 c
    refine jv_bipush (v := 81) d_M_goRound_10 (by decide) ?_
    refine jv_bipush (v := 7) d_M_goRound_12 (by decide) ?_
    refine jv_iload_n d_M_goRound_14 rfl rfl ?_
    refine jv_imul d_M_goRound_15 ?_
    refine jv_iadd d_M_goRound_16 ?_
    refine jv_istore_n (L' := [some (.ref a0), some (.ref a1), some (.int x2), some (.int (81 + (7 * x2)))]) d_M_goRound_17 rfl (Nat.le_of_ble_eq_true rfl) rfl ?_
    refine jv_aload_n d_M_goRound_18 rfl rfl ?_
    refine jv_iload_n d_M_goRound_19 rfl rfl ?_
    refine jv_iconst (v := 2) d_M_goRound_20 (by decide) ?_
    refine jv_iadd d_M_goRound_21 ?_
    refine jv_dup2 d_M_goRound_22 rfl rfl ?_
    obtain ⟨q3, q4, h⟩ := h
    refine jv_iald d_M_goRound_23 q3 q4 ?_
    refine jv_iconst (v := 1) d_M_goRound_24 (by decide) ?_
    refine jv_iadd d_M_goRound_25 ?_
    obtain ⟨q5, q6, h⟩ := h
    refine jv_iast d_M_goRound_26 q5 q6 ?_
    refine jv_aload_n d_M_goRound_27 rfl rfl ?_
    refine jv_iload_n d_M_goRound_28 rfl rfl ?_
    refine jv_iconst (v := 2) d_M_goRound_29 (by decide) ?_
    refine jv_iadd d_M_goRound_30 ?_
    obtain ⟨q7, q8, h⟩ := h
    refine jv_iald d_M_goRound_31 q7 q8 ?_
    refine jv_aload_n d_M_goRound_32 rfl rfl ?_
    refine jv_iload_n d_M_goRound_33 rfl rfl ?_
    refine jv_iconst (v := 1) d_M_goRound_34 (by decide) ?_
    refine jv_iadd d_M_goRound_35 ?_
    obtain ⟨q9, q10, h⟩ := h
    refine jv_iald d_M_goRound_36 q9 q10 ?_
    refine jv_iconst (v := 1) d_M_goRound_37 (by decide) ?_
    refine jv_iadd d_M_goRound_38 ?_
    refine jv_icmp_ne (tgt := 48) d_M_goRound_39 (by decide) ⟨fun c => ?_, fun c => ?_⟩
    · replace h := h.1 c
      exact h
    · replace h := h.2 c
      refine jv_aload_n d_M_goRound_42 rfl rfl ?_
      refine jv_aload_n d_M_goRound_43 rfl rfl ?_
      refine jv_iload_n d_M_goRound_44 rfl rfl ?_
      obtain ⟨q11, h⟩ := h
      refine jv_invV [.ref a1, .int x2] [] d_M_goRound_45 ml_M_169 q11 rfl (Nat.le_of_ble_eq_true rfl) (Nat.zero_add _) (Nat.zero_add _) (jv_Ct.mono h (fun v M13 N13 h => ?_))
      obtain ⟨rfl, h⟩ := h
      change jv_J g (d + 1) mt_M_goRound 48 [some (.ref a0), some (.ref a1), some (.int x2), some (.int (81 + (7 * x2)))] [] M13 N13 cr sr Z
      exact h
theorem b_M_goRound_48 {g : jv_G} {d : Nat} {M : jv_Mem} {N cr sr : Nat} {Z : Option Value → jv_Mem → Nat → Prop} {a0 : Nat} {a1 : Nat} {x2 : Int32} {x3 : Int32} (h : jv_Tg 11 a1 N ∧ vp_in (x3 + 2) (jv_sh a1).2 ∧ jv_Tg 10 a0 N ∧ ((Prod.fst M a1 (Int32.toNatClampNeg (x3 + 2))) ≠ ((Prod.fst M a0 6) + 1) → jv_J g (d + 1) mt_M_goRound 2 [some (.ref a0), some (.ref a1), some (.int (x2 + 1)), none] [] M N cr sr Z) ∧ ((Prod.fst M a1 (Int32.toNatClampNeg (x3 + 2))) = ((Prod.fst M a0 6) + 1) → jv_Tg 11 a1 N ∧ vp_in x3 (jv_sh a1).2 ∧ ((Prod.fst M a1 (Int32.toNatClampNeg x3)) ≠ 3 → jv_Tg 11 a1 N ∧ vp_in 77 (jv_sh a1).2 ∧ jv_J g (d + 1) mt_M_goRound 93 [some (.ref a0), some (.ref a1), some (.int x2), some (.int x3)] [.int (Prod.fst M a1 (Int32.toNatClampNeg 77)), .int 77, .ref a1] M N cr sr Z) ∧ ((Prod.fst M a1 (Int32.toNatClampNeg x3)) = 3 → jv_Tg 11 a1 N ∧ vp_in (x3 + 3) (jv_sh a1).2 ∧ ((Prod.fst M a1 (Int32.toNatClampNeg (x3 + 3))) ≠ 0 → jv_Tg 11 a1 N ∧ vp_in 77 (jv_sh a1).2 ∧ jv_J g (d + 1) mt_M_goRound 93 [some (.ref a0), some (.ref a1), some (.int x2), some (.int x3)] [.int (Prod.fst M a1 (Int32.toNatClampNeg 77)), .int 77, .ref a1] M N cr sr Z) ∧ ((Prod.fst M a1 (Int32.toNatClampNeg (x3 + 3))) = 0 → jv_Tg 11 a1 N ∧ vp_in (x3 + 6) (jv_sh a1).2 ∧ jv_J g (d + 1) mt_M_goRound 93 [some (.ref a0), some (.ref a1), some (.int x2), some (.int x3)] [.int (Prod.fst M a1 (Int32.toNatClampNeg (x3 + 6))), .int 77, .ref a1] M N cr sr Z)))) : jv_J g (d + 1) mt_M_goRound 48 [some (.ref a0), some (.ref a1), some (.int x2), some (.int x3)] [] M N cr sr Z := by
  refine jv_aload_n d_M_goRound_48 rfl rfl ?_
  refine jv_iload_n d_M_goRound_49 rfl rfl ?_
  refine jv_iconst (v := 2) d_M_goRound_50 (by decide) ?_
  refine jv_iadd d_M_goRound_51 ?_
  obtain ⟨q1, q2, h⟩ := h
  refine jv_iald d_M_goRound_52 q1 q2 ?_
  refine jv_aload_n d_M_goRound_53 rfl rfl ?_
  obtain ⟨q3, h⟩ := h
  refine jv_getI d_M_goRound_54 fl_M_78 rfl q3 ?_
  refine jv_iconst (v := 1) d_M_goRound_57 (by decide) ?_
  refine jv_iadd d_M_goRound_58 ?_
  refine jv_icmp_ne (tgt := 132) d_M_goRound_59 (by decide) ⟨fun c => ?_, fun c => ?_⟩
  · replace h := h.1 c
    refine jv_iinc (v := (x2 + 1)) (L' := [some (.ref a0), some (.ref a1), some (.int (x2 + 1)), some (.int x3)]) d_M_goRound_132 rfl rfl (Nat.le_of_ble_eq_true rfl) rfl ?_
    refine jv_goto (tgt := 2) d_M_goRound_135 (by decide) ?_
    refine jv_weak (L' := [some (.ref a0), some (.ref a1), some (.int (x2 + 1)), none]) (by simp [jv_le]) ?_
    exact h
  · replace h := h.2 c
    refine jv_aload_n d_M_goRound_62 rfl rfl ?_
    refine jv_bipush (v := 77) d_M_goRound_63 (by decide) ?_
    refine jv_aload_n d_M_goRound_65 rfl rfl ?_
    refine jv_iload_n d_M_goRound_66 rfl rfl ?_
    obtain ⟨q4, q5, h⟩ := h
    refine jv_iald d_M_goRound_67 q4 q5 ?_
    refine jv_iconst (v := 3) d_M_goRound_68 (by decide) ?_
    refine jv_icmp_ne (tgt := 89) d_M_goRound_69 (by decide) ⟨fun c => ?_, fun c => ?_⟩
    · replace h := h.1 c
      refine jv_aload_n d_M_goRound_89 rfl rfl ?_
      refine jv_bipush (v := 77) d_M_goRound_90 (by decide) ?_
      obtain ⟨q6, q7, h⟩ := h
      refine jv_iald d_M_goRound_92 q6 q7 ?_
      exact h
    · replace h := h.2 c
      refine jv_aload_n d_M_goRound_72 rfl rfl ?_
      refine jv_iload_n d_M_goRound_73 rfl rfl ?_
      refine jv_iconst (v := 3) d_M_goRound_74 (by decide) ?_
      refine jv_iadd d_M_goRound_75 ?_
      obtain ⟨q8, q9, h⟩ := h
      refine jv_iald d_M_goRound_76 q8 q9 ?_
      refine jv_if_ne (tgt := 89) d_M_goRound_77 (by decide) ⟨fun c => ?_, fun c => ?_⟩
      · replace h := h.1 c
        refine jv_aload_n d_M_goRound_89 rfl rfl ?_
        refine jv_bipush (v := 77) d_M_goRound_90 (by decide) ?_
        obtain ⟨q10, q11, h⟩ := h
        refine jv_iald d_M_goRound_92 q10 q11 ?_
        exact h
      · replace h := h.2 c
        refine jv_aload_n d_M_goRound_80 rfl rfl ?_
        refine jv_iload_n d_M_goRound_81 rfl rfl ?_
        refine jv_bipush (v := 6) d_M_goRound_82 (by decide) ?_
        refine jv_iadd d_M_goRound_84 ?_
        obtain ⟨q12, q13, h⟩ := h
        refine jv_iald d_M_goRound_85 q12 q13 ?_
        refine jv_goto (tgt := 93) d_M_goRound_86 (by decide) ?_
        exact h
theorem b_M_goRound_93 {g : jv_G} {d : Nat} {M : jv_Mem} {N cr sr : Nat} {Z : Option Value → jv_Mem → Nat → Prop} {a0 : Nat} {a1 : Nat} {x2 : Int32} {x3 : Int32} {b0 : Nat} {y1 : Int32} {y2 : Int32} (h : jv_Tg 11 b0 N ∧ vp_in y1 (jv_sh b0).2 ∧ jv_Tg 11 a1 N ∧ vp_in x3 (jv_sh a1).2 ∧ ((Prod.fst (jv_si M b0 (Int32.toNatClampNeg y1) y2) a1 (Int32.toNatClampNeg x3)) ≤ 2 → jv_Tg 11 a1 N ∧ vp_in 76 (jv_sh a1).2 ∧ jv_J g (d + 1) mt_M_goRound 123 [some (.ref a0), some (.ref a1), some (.int x2), none] [.int (Prod.fst (jv_si M b0 (Int32.toNatClampNeg y1) y2) a1 (Int32.toNatClampNeg 76)), .int 76, .ref a1] (jv_si M b0 (Int32.toNatClampNeg y1) y2) N cr sr Z) ∧ (¬ ((Prod.fst (jv_si M b0 (Int32.toNatClampNeg y1) y2) a1 (Int32.toNatClampNeg x3)) ≤ 2) → jv_Tg 11 a1 N ∧ vp_in 76 (jv_sh a1).2 ∧ ((Prod.fst (jv_si M b0 (Int32.toNatClampNeg y1) y2) a1 (Int32.toNatClampNeg 76)) ≠ 0 → jv_Tg 11 a1 N ∧ vp_in 76 (jv_sh a1).2 ∧ jv_J g (d + 1) mt_M_goRound 123 [some (.ref a0), some (.ref a1), some (.int x2), none] [.int (Prod.fst (jv_si M b0 (Int32.toNatClampNeg y1) y2) a1 (Int32.toNatClampNeg 76)), .int 76, .ref a1] (jv_si M b0 (Int32.toNatClampNeg y1) y2) N cr sr Z) ∧ ((Prod.fst (jv_si M b0 (Int32.toNatClampNeg y1) y2) a1 (Int32.toNatClampNeg 76)) = 0 → jv_Tg 11 a1 N ∧ vp_in (x3 + 3) (jv_sh a1).2 ∧ jv_J g (d + 1) mt_M_goRound 123 [some (.ref a0), some (.ref a1), some (.int x2), none] [.int (Prod.fst (jv_si M b0 (Int32.toNatClampNeg y1) y2) a1 (Int32.toNatClampNeg (x3 + 3))), .int 76, .ref a1] (jv_si M b0 (Int32.toNatClampNeg y1) y2) N cr sr Z))) : jv_J g (d + 1) mt_M_goRound 93 [some (.ref a0), some (.ref a1), some (.int x2), some (.int x3)] [.int y2, .int y1, .ref b0] M N cr sr Z := by
  obtain ⟨q1, q2, h⟩ := h
  refine jv_iast d_M_goRound_93 q1 q2 ?_
  refine jv_aload_n d_M_goRound_94 rfl rfl ?_
  refine jv_bipush (v := 76) d_M_goRound_95 (by decide) ?_
  refine jv_aload_n d_M_goRound_97 rfl rfl ?_
  refine jv_iload_n d_M_goRound_98 rfl rfl ?_
  obtain ⟨q3, q4, h⟩ := h
  refine jv_iald d_M_goRound_99 q3 q4 ?_
  refine jv_iconst (v := 2) d_M_goRound_100 (by decide) ?_
  refine jv_icmp_le (tgt := 119) d_M_goRound_101 (by decide) ⟨fun c => ?_, fun c => ?_⟩
  · replace h := h.1 c
    refine jv_aload_n d_M_goRound_119 rfl rfl ?_
    refine jv_bipush (v := 76) d_M_goRound_120 (by decide) ?_
    obtain ⟨q5, q6, h⟩ := h
    refine jv_iald d_M_goRound_122 q5 q6 ?_
    refine jv_weak (L' := [some (.ref a0), some (.ref a1), some (.int x2), none]) (by simp [jv_le]) ?_
    exact h
  · replace h := h.2 c
    refine jv_aload_n d_M_goRound_104 rfl rfl ?_
    refine jv_bipush (v := 76) d_M_goRound_105 (by decide) ?_
    obtain ⟨q7, q8, h⟩ := h
    refine jv_iald d_M_goRound_107 q7 q8 ?_
    refine jv_if_ne (tgt := 119) d_M_goRound_108 (by decide) ⟨fun c => ?_, fun c => ?_⟩
    · replace h := h.1 c
      refine jv_aload_n d_M_goRound_119 rfl rfl ?_
      refine jv_bipush (v := 76) d_M_goRound_120 (by decide) ?_
      obtain ⟨q9, q10, h⟩ := h
      refine jv_iald d_M_goRound_122 q9 q10 ?_
      refine jv_weak (L' := [some (.ref a0), some (.ref a1), some (.int x2), none]) (by simp [jv_le]) ?_
      exact h
    · replace h := h.2 c
      refine jv_aload_n d_M_goRound_111 rfl rfl ?_
      refine jv_iload_n d_M_goRound_112 rfl rfl ?_
      refine jv_iconst (v := 3) d_M_goRound_113 (by decide) ?_
      refine jv_iadd d_M_goRound_114 ?_
      obtain ⟨q11, q12, h⟩ := h
      refine jv_iald d_M_goRound_115 q11 q12 ?_
      refine jv_goto (tgt := 123) d_M_goRound_116 (by decide) ?_
      refine jv_weak (L' := [some (.ref a0), some (.ref a1), some (.int x2), none]) (by simp [jv_le]) ?_
      exact h
theorem b_M_goRound_123 {g : jv_G} {d : Nat} {M : jv_Mem} {N cr sr : Nat} {Z : Option Value → jv_Mem → Nat → Prop} {a0 : Nat} {a1 : Nat} {x2 : Int32} {b0 : Nat} {y1 : Int32} {y2 : Int32} (h : jv_Tg 11 b0 N ∧ vp_in y1 (jv_sh b0).2 ∧ jv_Ct g d mt_M_dropOrder [.ref a1, .int x2] (jv_si M b0 (Int32.toNatClampNeg y1) y2) N 0 0 (fun v M4 N4 => jv_rv v (jv_J g (d + 1) mt_M_goRound 2 [some (.ref a0), some (.ref a1), some (.int x2), none] [] M4 N4 cr sr Z))) : jv_J g (d + 1) mt_M_goRound 123 [some (.ref a0), some (.ref a1), some (.int x2), none] [.int y2, .int y1, .ref b0] M N cr sr Z := by
  obtain ⟨q1, q2, h⟩ := h
  refine jv_iast d_M_goRound_123 q1 q2 ?_
  refine jv_aload_n d_M_goRound_124 rfl rfl ?_
  refine jv_iload_n d_M_goRound_125 rfl rfl ?_
  refine jv_invS [.ref a1, .int x2] [] d_M_goRound_126 ml_M_172 rfl (Nat.le_of_ble_eq_true rfl) (Nat.zero_add _) (Nat.zero_add _) (jv_Ct.mono h (fun v M4 N4 h => ?_))
  obtain ⟨rfl, h⟩ := h
  change jv_J g (d + 1) mt_M_goRound 129 [some (.ref a0), some (.ref a1), some (.int x2), none] [] M4 N4 cr sr Z
  refine jv_goto (tgt := 135) d_M_goRound_129 (by decide) ?_
  refine jv_goto (tgt := 2) d_M_goRound_135 (by decide) ?_
  exact h
theorem b_M_reach_0 {g : jv_G} {d : Nat} {M : jv_Mem} {N cr sr : Nat} {Z : Option Value → jv_Mem → Nat → Prop} {a0 : Nat} {a1 : Nat} {x2 : Int32} (h : jv_Tg 11 a1 N ∧ vp_in ((81 + (7 * x2)) + 1) (jv_sh a1).2 ∧ jv_Tg 11 a1 N ∧ vp_in (81 + (7 * x2)) (jv_sh a1).2 ∧ ((Prod.fst M a1 (Int32.toNatClampNeg (81 + (7 * x2)))) ≤ 2 → jv_J g (d + 1) mt_M_reach 42 [some (.ref a0), some (.ref a1), none, some (.int (81 + (7 * x2))), some (.int (Prod.fst M a1 (Int32.toNatClampNeg ((81 + (7 * x2)) + 1))))] [] M N cr sr Z) ∧ (¬ ((Prod.fst M a1 (Int32.toNatClampNeg (81 + (7 * x2)))) ≤ 2) → jv_Tg 11 a1 N ∧ vp_in ((8 * (Prod.fst M a1 (Int32.toNatClampNeg ((81 + (7 * x2)) + 1)))) + 1) (jv_sh a1).2 ∧ ((Prod.fst M a1 (Int32.toNatClampNeg ((8 * (Prod.fst M a1 (Int32.toNatClampNeg ((81 + (7 * x2)) + 1)))) + 1))) = 2 → jv_J g (d + 1) mt_M_reach 42 [some (.ref a0), some (.ref a1), none, some (.int (81 + (7 * x2))), some (.int (Prod.fst M a1 (Int32.toNatClampNeg ((81 + (7 * x2)) + 1))))] [] M N cr sr Z) ∧ (¬ ((Prod.fst M a1 (Int32.toNatClampNeg ((8 * (Prod.fst M a1 (Int32.toNatClampNeg ((81 + (7 * x2)) + 1)))) + 1))) = 2) → jv_Tg 11 a1 N ∧ vp_in ((81 + (7 * x2)) + 3) (jv_sh a1).2 ∧ Z none (jv_si M a1 (Int32.toNatClampNeg ((81 + (7 * x2)) + 3)) 4) N))) : jv_J g (d + 1) mt_M_reach 0 [some (.ref a0), some (.ref a1), some (.int x2), none, none] [] M N cr sr Z := by
  refine jv_bipush (v := 81) d_M_reach_0 (by decide) ?_
  refine jv_bipush (v := 7) d_M_reach_2 (by decide) ?_
  refine jv_iload_n d_M_reach_4 rfl rfl ?_
  refine jv_imul d_M_reach_5 ?_
  refine jv_iadd d_M_reach_6 ?_
  refine jv_istore_n (L' := [some (.ref a0), some (.ref a1), some (.int x2), some (.int (81 + (7 * x2))), none]) d_M_reach_7 rfl (Nat.le_of_ble_eq_true rfl) rfl ?_
  refine jv_aload_n d_M_reach_8 rfl rfl ?_
  refine jv_iload_n d_M_reach_9 rfl rfl ?_
  refine jv_iconst (v := 1) d_M_reach_10 (by decide) ?_
  refine jv_iadd d_M_reach_11 ?_
  obtain ⟨q1, q2, h⟩ := h
  refine jv_iald d_M_reach_12 q1 q2 ?_
  refine jv_istore (L' := [some (.ref a0), some (.ref a1), some (.int x2), some (.int (81 + (7 * x2))), some (.int (Prod.fst M a1 (Int32.toNatClampNeg ((81 + (7 * x2)) + 1))))]) d_M_reach_13 (Nat.le_of_ble_eq_true rfl) rfl ?_
  refine jv_aload_n d_M_reach_15 rfl rfl ?_
  refine jv_iload_n d_M_reach_16 rfl rfl ?_
  obtain ⟨q3, q4, h⟩ := h
  refine jv_iald d_M_reach_17 q3 q4 ?_
  refine jv_iconst (v := 2) d_M_reach_18 (by decide) ?_
  refine jv_icmp_le (tgt := 42) d_M_reach_19 (by decide) ⟨fun c => ?_, fun c => ?_⟩
  · replace h := h.1 c
    refine jv_weak (L' := [some (.ref a0), some (.ref a1), none, some (.int (81 + (7 * x2))), some (.int (Prod.fst M a1 (Int32.toNatClampNeg ((81 + (7 * x2)) + 1))))]) (by simp [jv_le]) ?_
    exact h
  · replace h := h.2 c
    refine jv_aload_n d_M_reach_22 rfl rfl ?_
    refine jv_bipush (v := 8) d_M_reach_23 (by decide) ?_
    refine jv_iload d_M_reach_25 rfl ?_
    refine jv_imul d_M_reach_27 ?_
    refine jv_iconst (v := 1) d_M_reach_28 (by decide) ?_
    refine jv_iadd d_M_reach_29 ?_
    obtain ⟨q5, q6, h⟩ := h
    refine jv_iald d_M_reach_30 q5 q6 ?_
    refine jv_iconst (v := 2) d_M_reach_31 (by decide) ?_
    refine jv_icmp_eq (tgt := 42) d_M_reach_32 (by decide) ⟨fun c => ?_, fun c => ?_⟩
    · replace h := h.1 c
      refine jv_weak (L' := [some (.ref a0), some (.ref a1), none, some (.int (81 + (7 * x2))), some (.int (Prod.fst M a1 (Int32.toNatClampNeg ((81 + (7 * x2)) + 1))))]) (by simp [jv_le]) ?_
      exact h
    · replace h := h.2 c
      refine jv_aload_n d_M_reach_35 rfl rfl ?_
      refine jv_iload_n d_M_reach_36 rfl rfl ?_
      refine jv_iconst (v := 3) d_M_reach_37 (by decide) ?_
      refine jv_iadd d_M_reach_38 ?_
      refine jv_iconst (v := 4) d_M_reach_39 (by decide) ?_
      obtain ⟨q7, q8, h⟩ := h
      refine jv_iast d_M_reach_40 q7 q8 ?_
      exact jv_ret d_M_reach_41 rfl h
theorem b_M_reach_42 {g : jv_G} {d : Nat} {M : jv_Mem} {N cr sr : Nat} {Z : Option Value → jv_Mem → Nat → Prop} {a0 : Nat} {a1 : Nat} {x3 : Int32} {x4 : Int32} (h : jv_Tg 11 a1 N ∧ vp_in x3 (jv_sh a1).2 ∧ ((Prod.fst M a1 (Int32.toNatClampNeg x3)) = 0 → jv_Ct g d mt_M_halt [.ref a1, .int x4, .int 1] M N 0 0 (fun v M10 N10 => jv_rv v (Z none M10 N10))) ∧ ((Prod.fst M a1 (Int32.toNatClampNeg x3)) = 1 → jv_Ct g d mt_M_resume [.ref a1, .int x4] M N 0 0 (fun v M12 N12 => jv_rv v (Z none M12 N12))) ∧ ((Prod.fst M a1 (Int32.toNatClampNeg x3)) = 2 → jv_Tg 10 a0 N ∧ jv_Ct g d mt_M_reset [.ref a0, .ref a1, .int x4] M N 0 0 (fun v M15 N15 => jv_rv v (Z none M15 N15))) ∧ ((Prod.fst M a1 (Int32.toNatClampNeg x3)) = 3 → jv_Tg 11 a1 N ∧ vp_in (x3 + 4) (jv_sh a1).2 ∧ jv_Tg 11 a1 N ∧ vp_in (((8 * x4) + 4) + (Prod.fst M a1 (Int32.toNatClampNeg (x3 + 4)))) (jv_sh a1).2 ∧ jv_Tg 11 a1 N ∧ vp_in (x3 + 6) (jv_sh a1).2 ∧ Z none (jv_si M a1 (Int32.toNatClampNeg (x3 + 6)) (Prod.fst M a1 (Int32.toNatClampNeg (((8 * x4) + 4) + (Prod.fst M a1 (Int32.toNatClampNeg (x3 + 4))))))) N) ∧ ((Prod.fst M a1 (Int32.toNatClampNeg x3)) = 4 → jv_Tg 11 a1 N ∧ vp_in (x3 + 4) (jv_sh a1).2 ∧ jv_Tg 11 a1 N ∧ vp_in (x3 + 5) (jv_sh a1).2 ∧ jv_Tg 11 a1 N ∧ vp_in (((8 * x4) + 4) + (Prod.fst M a1 (Int32.toNatClampNeg (x3 + 4)))) (jv_sh a1).2 ∧ Z none (jv_si M a1 (Int32.toNatClampNeg (((8 * x4) + 4) + (Prod.fst M a1 (Int32.toNatClampNeg (x3 + 4))))) (Prod.fst M a1 (Int32.toNatClampNeg (x3 + 5)))) N) ∧ (((Prod.fst M a1 (Int32.toNatClampNeg x3)) ≠ 0 ∧ (Prod.fst M a1 (Int32.toNatClampNeg x3)) ≠ 1 ∧ (Prod.fst M a1 (Int32.toNatClampNeg x3)) ≠ 2 ∧ (Prod.fst M a1 (Int32.toNatClampNeg x3)) ≠ 3 ∧ (Prod.fst M a1 (Int32.toNatClampNeg x3)) ≠ 4) → jv_Tg 10 a0 N ∧ jv_Ct g d mt_M_runBuffer [.ref a0, .ref a1, .int x4] M N 0 0 (fun v M6 N6 => jv_ri v (fun r5 => jv_Tg 11 a1 N6 ∧ vp_in (x3 + 3) (jv_sh a1).2 ∧ Z none (jv_si M6 a1 (Int32.toNatClampNeg (x3 + 3)) r5) N6)))) : jv_J g (d + 1) mt_M_reach 42 [some (.ref a0), some (.ref a1), none, some (.int x3), some (.int x4)] [] M N cr sr Z := by
  refine jv_aload_n d_M_reach_42 rfl rfl ?_
  refine jv_iload_n d_M_reach_43 rfl rfl ?_
  obtain ⟨q1, q2, h⟩ := h
  refine jv_iald d_M_reach_44 q1 q2 ?_
  have hD3 : ((Prod.fst M a1 (Int32.toNatClampNeg x3)) ≠ 0 ∧ (Prod.fst M a1 (Int32.toNatClampNeg x3)) ≠ 1 ∧ (Prod.fst M a1 (Int32.toNatClampNeg x3)) ≠ 2 ∧ (Prod.fst M a1 (Int32.toNatClampNeg x3)) ≠ 3 ∧ (Prod.fst M a1 (Int32.toNatClampNeg x3)) ≠ 4) → jv_J g (d + 1) mt_M_reach 156 [some (.ref a0), some (.ref a1), none, some (.int x3), some (.int x4)] [] M N cr sr Z := by
    intro c
    replace h := h.2.2.2.2.2 c
    refine jv_aload_n d_M_reach_156 rfl rfl ?_
    refine jv_iload_n d_M_reach_157 rfl rfl ?_
    refine jv_iconst (v := 3) d_M_reach_158 (by decide) ?_
    refine jv_iadd d_M_reach_159 ?_
    refine jv_aload_n d_M_reach_160 rfl rfl ?_
    refine jv_aload_n d_M_reach_161 rfl rfl ?_
    refine jv_iload d_M_reach_162 rfl ?_
    obtain ⟨q4, h⟩ := h
    refine jv_invV [.ref a1, .int x4] [.int (x3 + 3), .ref a1] d_M_reach_164 ml_M_165 q4 rfl (Nat.le_of_ble_eq_true rfl) (Nat.zero_add _) (Nat.zero_add _) (jv_Ct.mono h (fun v M6 N6 h => ?_))
    obtain ⟨r5, rfl, h⟩ := h
    change jv_J g (d + 1) mt_M_reach 167 [some (.ref a0), some (.ref a1), none, some (.int x3), some (.int x4)] [.int r5, .int (x3 + 3), .ref a1] M6 N6 cr sr Z
    obtain ⟨q7, q8, h⟩ := h
    refine jv_iast d_M_reach_167 q7 q8 ?_
    exact jv_ret d_M_reach_168 rfl h
  refine jv_tsw (dt := 156) [(0, 80), (1, 90), (2, 99), (3, 109), (4, 133)] d_M_reach_45 (by decide) (by decide) (by decide) (fun q hq hx => ?_) (fun hq => ?_)
  · simp only [List.mem_cons, List.not_mem_nil, or_false] at hq
    rcases hq with rfl | rfl | rfl | rfl | rfl
    · replace h := h.1 hx
      refine jv_aload_n d_M_reach_80 rfl rfl ?_
      refine jv_iload d_M_reach_81 rfl ?_
      refine jv_iconst (v := 1) d_M_reach_83 (by decide) ?_
      refine jv_invS [.ref a1, .int x4, .int 1] [] d_M_reach_84 ml_M_155 rfl (Nat.le_of_ble_eq_true rfl) (Nat.zero_add _) (Nat.zero_add _) (jv_Ct.mono h (fun v M10 N10 h => ?_))
      obtain ⟨rfl, h⟩ := h
      change jv_J g (d + 1) mt_M_reach 87 [some (.ref a0), some (.ref a1), none, some (.int x3), some (.int x4)] [] M10 N10 cr sr Z
      refine jv_goto (tgt := 168) d_M_reach_87 (by decide) ?_
      exact jv_ret d_M_reach_168 rfl h
    · replace h := h.2.1 hx
      refine jv_aload_n d_M_reach_90 rfl rfl ?_
      refine jv_iload d_M_reach_91 rfl ?_
      refine jv_invS [.ref a1, .int x4] [] d_M_reach_93 ml_M_158 rfl (Nat.le_of_ble_eq_true rfl) (Nat.zero_add _) (Nat.zero_add _) (jv_Ct.mono h (fun v M12 N12 h => ?_))
      obtain ⟨rfl, h⟩ := h
      change jv_J g (d + 1) mt_M_reach 96 [some (.ref a0), some (.ref a1), none, some (.int x3), some (.int x4)] [] M12 N12 cr sr Z
      refine jv_goto (tgt := 168) d_M_reach_96 (by decide) ?_
      exact jv_ret d_M_reach_168 rfl h
    · replace h := h.2.2.1 hx
      refine jv_aload_n d_M_reach_99 rfl rfl ?_
      refine jv_aload_n d_M_reach_100 rfl rfl ?_
      refine jv_iload d_M_reach_101 rfl ?_
      obtain ⟨q13, h⟩ := h
      refine jv_invV [.ref a1, .int x4] [] d_M_reach_103 ml_M_162 q13 rfl (Nat.le_of_ble_eq_true rfl) (Nat.zero_add _) (Nat.zero_add _) (jv_Ct.mono h (fun v M15 N15 h => ?_))
      obtain ⟨rfl, h⟩ := h
      change jv_J g (d + 1) mt_M_reach 106 [some (.ref a0), some (.ref a1), none, some (.int x3), some (.int x4)] [] M15 N15 cr sr Z
      refine jv_goto (tgt := 168) d_M_reach_106 (by decide) ?_
      exact jv_ret d_M_reach_168 rfl h
    · replace h := h.2.2.2.1 hx
      refine jv_aload_n d_M_reach_109 rfl rfl ?_
      refine jv_iload_n d_M_reach_110 rfl rfl ?_
      refine jv_bipush (v := 6) d_M_reach_111 (by decide) ?_
      refine jv_iadd d_M_reach_113 ?_
      refine jv_aload_n d_M_reach_114 rfl rfl ?_
      refine jv_bipush (v := 8) d_M_reach_115 (by decide) ?_
      refine jv_iload d_M_reach_117 rfl ?_
      refine jv_imul d_M_reach_119 ?_
      refine jv_iconst (v := 4) d_M_reach_120 (by decide) ?_
      refine jv_iadd d_M_reach_121 ?_
      refine jv_aload_n d_M_reach_122 rfl rfl ?_
      refine jv_iload_n d_M_reach_123 rfl rfl ?_
      refine jv_iconst (v := 4) d_M_reach_124 (by decide) ?_
      refine jv_iadd d_M_reach_125 ?_
      obtain ⟨q16, q17, h⟩ := h
      refine jv_iald d_M_reach_126 q16 q17 ?_
      refine jv_iadd d_M_reach_127 ?_
      obtain ⟨q18, q19, h⟩ := h
      refine jv_iald d_M_reach_128 q18 q19 ?_
      obtain ⟨q20, q21, h⟩ := h
      refine jv_iast d_M_reach_129 q20 q21 ?_
      refine jv_goto (tgt := 168) d_M_reach_130 (by decide) ?_
      exact jv_ret d_M_reach_168 rfl h
    · replace h := h.2.2.2.2.1 hx
      refine jv_aload_n d_M_reach_133 rfl rfl ?_
      refine jv_bipush (v := 8) d_M_reach_134 (by decide) ?_
      refine jv_iload d_M_reach_136 rfl ?_
      refine jv_imul d_M_reach_138 ?_
      refine jv_iconst (v := 4) d_M_reach_139 (by decide) ?_
      refine jv_iadd d_M_reach_140 ?_
      refine jv_aload_n d_M_reach_141 rfl rfl ?_
      refine jv_iload_n d_M_reach_142 rfl rfl ?_
      refine jv_iconst (v := 4) d_M_reach_143 (by decide) ?_
      refine jv_iadd d_M_reach_144 ?_
      obtain ⟨q22, q23, h⟩ := h
      refine jv_iald d_M_reach_145 q22 q23 ?_
      refine jv_iadd d_M_reach_146 ?_
      refine jv_aload_n d_M_reach_147 rfl rfl ?_
      refine jv_iload_n d_M_reach_148 rfl rfl ?_
      refine jv_iconst (v := 5) d_M_reach_149 (by decide) ?_
      refine jv_iadd d_M_reach_150 ?_
      obtain ⟨q24, q25, h⟩ := h
      refine jv_iald d_M_reach_151 q24 q25 ?_
      obtain ⟨q26, q27, h⟩ := h
      refine jv_iast d_M_reach_152 q26 q27 ?_
      refine jv_goto (tgt := 168) d_M_reach_153 (by decide) ?_
      exact jv_ret d_M_reach_168 rfl h
  · exact hD3 ⟨hq _ (List.mem_of_getElem? (i := 0) rfl), hq _ (List.mem_of_getElem? (i := 1) rfl), hq _ (List.mem_of_getElem? (i := 2) rfl), hq _ (List.mem_of_getElem? (i := 3) rfl), hq _ (List.mem_of_getElem? (i := 4) rfl)⟩
theorem b_M_halt_0 {g : jv_G} {d : Nat} {M : jv_Mem} {N cr sr : Nat} {Z : Option Value → jv_Mem → Nat → Prop} {a0 : Nat} {x1 : Int32} {x2 : Int32} (h : jv_Tg 11 a0 N ∧ vp_in ((8 * x1) + 1) (jv_sh a0).2 ∧ ((Prod.fst M a0 (Int32.toNatClampNeg ((8 * x1) + 1))) = 2 → Z none M N) ∧ (¬ ((Prod.fst M a0 (Int32.toNatClampNeg ((8 * x1) + 1))) = 2) → jv_Tg 11 a0 N ∧ vp_in ((8 * x1) + 1) (jv_sh a0).2 ∧ ((Prod.fst M a0 (Int32.toNatClampNeg ((8 * x1) + 1))) ≠ 1 → jv_Tg 11 a0 N ∧ vp_in ((8 * x1) + 2) (jv_sh a0).2 ∧ jv_Tg 11 a0 N ∧ vp_in ((8 * x1) + 1) (jv_sh a0).2 ∧ jv_Tg 11 a0 N ∧ vp_in ((8 * x1) + 3) (jv_sh a0).2 ∧ Z none (jv_si (jv_si (jv_si M a0 (Int32.toNatClampNeg ((8 * x1) + 2)) 0) a0 (Int32.toNatClampNeg ((8 * x1) + 1)) 2) a0 (Int32.toNatClampNeg ((8 * x1) + 3)) x2) N) ∧ ((Prod.fst M a0 (Int32.toNatClampNeg ((8 * x1) + 1))) = 1 → jv_Tg 11 a0 N ∧ vp_in ((8 * x1) + 2) (jv_sh a0).2 ∧ jv_Tg 11 a0 N ∧ vp_in ((8 * x1) + 1) (jv_sh a0).2 ∧ jv_Tg 11 a0 N ∧ vp_in ((8 * x1) + 3) (jv_sh a0).2 ∧ Z none (jv_si (jv_si (jv_si M a0 (Int32.toNatClampNeg ((8 * x1) + 2)) 1) a0 (Int32.toNatClampNeg ((8 * x1) + 1)) 2) a0 (Int32.toNatClampNeg ((8 * x1) + 3)) x2) N))) : jv_J g d mt_M_halt 0 [some (.ref a0), some (.int x1), some (.int x2), none] [] M N cr sr Z := by
  refine jv_bipush (v := 8) d_M_halt_0 (by decide) ?_
  refine jv_iload_n d_M_halt_2 rfl rfl ?_
  refine jv_imul d_M_halt_3 ?_
  refine jv_istore_n (L' := [some (.ref a0), some (.int x1), some (.int x2), some (.int (8 * x1))]) d_M_halt_4 rfl (Nat.le_of_ble_eq_true rfl) rfl ?_
  refine jv_aload_n d_M_halt_5 rfl rfl ?_
  refine jv_iload_n d_M_halt_6 rfl rfl ?_
  refine jv_iconst (v := 1) d_M_halt_7 (by decide) ?_
  refine jv_iadd d_M_halt_8 ?_
  obtain ⟨q1, q2, h⟩ := h
  refine jv_iald d_M_halt_9 q1 q2 ?_
  refine jv_iconst (v := 2) d_M_halt_10 (by decide) ?_
  refine jv_icmp_eq (tgt := 45) d_M_halt_11 (by decide) ⟨fun c => ?_, fun c => ?_⟩
  · replace h := h.1 c
    exact jv_ret d_M_halt_45 rfl h
  · replace h := h.2 c
    refine jv_aload_n d_M_halt_14 rfl rfl ?_
    refine jv_iload_n d_M_halt_15 rfl rfl ?_
    refine jv_iconst (v := 2) d_M_halt_16 (by decide) ?_
    refine jv_iadd d_M_halt_17 ?_
    refine jv_aload_n d_M_halt_18 rfl rfl ?_
    refine jv_iload_n d_M_halt_19 rfl rfl ?_
    refine jv_iconst (v := 1) d_M_halt_20 (by decide) ?_
    refine jv_iadd d_M_halt_21 ?_
    obtain ⟨q3, q4, h⟩ := h
    refine jv_iald d_M_halt_22 q3 q4 ?_
    refine jv_iconst (v := 1) d_M_halt_23 (by decide) ?_
    refine jv_icmp_ne (tgt := 31) d_M_halt_24 (by decide) ⟨fun c => ?_, fun c => ?_⟩
    · replace h := h.1 c
      refine jv_iconst (v := 0) d_M_halt_31 (by decide) ?_
      obtain ⟨q5, q6, h⟩ := h
      refine jv_iast d_M_halt_32 q5 q6 ?_
      refine jv_aload_n d_M_halt_33 rfl rfl ?_
      refine jv_iload_n d_M_halt_34 rfl rfl ?_
      refine jv_iconst (v := 1) d_M_halt_35 (by decide) ?_
      refine jv_iadd d_M_halt_36 ?_
      refine jv_iconst (v := 2) d_M_halt_37 (by decide) ?_
      obtain ⟨q7, q8, h⟩ := h
      refine jv_iast d_M_halt_38 q7 q8 ?_
      refine jv_aload_n d_M_halt_39 rfl rfl ?_
      refine jv_iload_n d_M_halt_40 rfl rfl ?_
      refine jv_iconst (v := 3) d_M_halt_41 (by decide) ?_
      refine jv_iadd d_M_halt_42 ?_
      refine jv_iload_n d_M_halt_43 rfl rfl ?_
      obtain ⟨q9, q10, h⟩ := h
      refine jv_iast d_M_halt_44 q9 q10 ?_
      exact jv_ret d_M_halt_45 rfl h
    · replace h := h.2 c
      refine jv_iconst (v := 1) d_M_halt_27 (by decide) ?_
      refine jv_goto (tgt := 32) d_M_halt_28 (by decide) ?_
      obtain ⟨q11, q12, h⟩ := h
      refine jv_iast d_M_halt_32 q11 q12 ?_
      refine jv_aload_n d_M_halt_33 rfl rfl ?_
      refine jv_iload_n d_M_halt_34 rfl rfl ?_
      refine jv_iconst (v := 1) d_M_halt_35 (by decide) ?_
      refine jv_iadd d_M_halt_36 ?_
      refine jv_iconst (v := 2) d_M_halt_37 (by decide) ?_
      obtain ⟨q13, q14, h⟩ := h
      refine jv_iast d_M_halt_38 q13 q14 ?_
      refine jv_aload_n d_M_halt_39 rfl rfl ?_
      refine jv_iload_n d_M_halt_40 rfl rfl ?_
      refine jv_iconst (v := 3) d_M_halt_41 (by decide) ?_
      refine jv_iadd d_M_halt_42 ?_
      refine jv_iload_n d_M_halt_43 rfl rfl ?_
      obtain ⟨q15, q16, h⟩ := h
      refine jv_iast d_M_halt_44 q15 q16 ?_
      exact jv_ret d_M_halt_45 rfl h
theorem b_M_resume_0 {g : jv_G} {d : Nat} {M : jv_Mem} {N cr sr : Nat} {Z : Option Value → jv_Mem → Nat → Prop} {a0 : Nat} {x1 : Int32} (h : jv_Tg 11 a0 N ∧ vp_in ((8 * x1) + 1) (jv_sh a0).2 ∧ ((Prod.fst M a0 (Int32.toNatClampNeg ((8 * x1) + 1))) ≠ 2 → Z none M N) ∧ ((Prod.fst M a0 (Int32.toNatClampNeg ((8 * x1) + 1))) = 2 → jv_Tg 11 a0 N ∧ vp_in ((8 * x1) + 2) (jv_sh a0).2 ∧ ((Prod.fst M a0 (Int32.toNatClampNeg ((8 * x1) + 2))) ≠ 1 → jv_Tg 11 a0 N ∧ vp_in ((8 * x1) + 1) (jv_sh a0).2 ∧ jv_Tg 11 a0 N ∧ vp_in ((8 * x1) + 2) (jv_sh a0).2 ∧ jv_Tg 11 a0 N ∧ vp_in ((8 * x1) + 3) (jv_sh a0).2 ∧ Z none (jv_si (jv_si (jv_si M a0 (Int32.toNatClampNeg ((8 * x1) + 1)) 0) a0 (Int32.toNatClampNeg ((8 * x1) + 2)) 0) a0 (Int32.toNatClampNeg ((8 * x1) + 3)) 0) N) ∧ ((Prod.fst M a0 (Int32.toNatClampNeg ((8 * x1) + 2))) = 1 → jv_Tg 11 a0 N ∧ vp_in ((8 * x1) + 1) (jv_sh a0).2 ∧ jv_Tg 11 a0 N ∧ vp_in ((8 * x1) + 2) (jv_sh a0).2 ∧ jv_Tg 11 a0 N ∧ vp_in ((8 * x1) + 3) (jv_sh a0).2 ∧ Z none (jv_si (jv_si (jv_si M a0 (Int32.toNatClampNeg ((8 * x1) + 1)) 1) a0 (Int32.toNatClampNeg ((8 * x1) + 2)) 0) a0 (Int32.toNatClampNeg ((8 * x1) + 3)) 0) N))) : jv_J g d mt_M_resume 0 [some (.ref a0), some (.int x1), none] [] M N cr sr Z := by
  refine jv_bipush (v := 8) d_M_resume_0 (by decide) ?_
  refine jv_iload_n d_M_resume_2 rfl rfl ?_
  refine jv_imul d_M_resume_3 ?_
  refine jv_istore_n (L' := [some (.ref a0), some (.int x1), some (.int (8 * x1))]) d_M_resume_4 rfl (Nat.le_of_ble_eq_true rfl) rfl ?_
  refine jv_aload_n d_M_resume_5 rfl rfl ?_
  refine jv_iload_n d_M_resume_6 rfl rfl ?_
  refine jv_iconst (v := 1) d_M_resume_7 (by decide) ?_
  refine jv_iadd d_M_resume_8 ?_
  obtain ⟨q1, q2, h⟩ := h
  refine jv_iald d_M_resume_9 q1 q2 ?_
  refine jv_iconst (v := 2) d_M_resume_10 (by decide) ?_
  refine jv_icmp_ne (tgt := 45) d_M_resume_11 (by decide) ⟨fun c => ?_, fun c => ?_⟩
  · replace h := h.1 c
    exact jv_ret d_M_resume_45 rfl h
  · replace h := h.2 c
    refine jv_aload_n d_M_resume_14 rfl rfl ?_
    refine jv_iload_n d_M_resume_15 rfl rfl ?_
    refine jv_iconst (v := 1) d_M_resume_16 (by decide) ?_
    refine jv_iadd d_M_resume_17 ?_
    refine jv_aload_n d_M_resume_18 rfl rfl ?_
    refine jv_iload_n d_M_resume_19 rfl rfl ?_
    refine jv_iconst (v := 2) d_M_resume_20 (by decide) ?_
    refine jv_iadd d_M_resume_21 ?_
    obtain ⟨q3, q4, h⟩ := h
    refine jv_iald d_M_resume_22 q3 q4 ?_
    refine jv_iconst (v := 1) d_M_resume_23 (by decide) ?_
    refine jv_icmp_ne (tgt := 31) d_M_resume_24 (by decide) ⟨fun c => ?_, fun c => ?_⟩
    · replace h := h.1 c
      refine jv_iconst (v := 0) d_M_resume_31 (by decide) ?_
      obtain ⟨q5, q6, h⟩ := h
      refine jv_iast d_M_resume_32 q5 q6 ?_
      refine jv_aload_n d_M_resume_33 rfl rfl ?_
      refine jv_iload_n d_M_resume_34 rfl rfl ?_
      refine jv_iconst (v := 2) d_M_resume_35 (by decide) ?_
      refine jv_iadd d_M_resume_36 ?_
      refine jv_iconst (v := 0) d_M_resume_37 (by decide) ?_
      obtain ⟨q7, q8, h⟩ := h
      refine jv_iast d_M_resume_38 q7 q8 ?_
      refine jv_aload_n d_M_resume_39 rfl rfl ?_
      refine jv_iload_n d_M_resume_40 rfl rfl ?_
      refine jv_iconst (v := 3) d_M_resume_41 (by decide) ?_
      refine jv_iadd d_M_resume_42 ?_
      refine jv_iconst (v := 0) d_M_resume_43 (by decide) ?_
      obtain ⟨q9, q10, h⟩ := h
      refine jv_iast d_M_resume_44 q9 q10 ?_
      exact jv_ret d_M_resume_45 rfl h
    · replace h := h.2 c
      refine jv_iconst (v := 1) d_M_resume_27 (by decide) ?_
      refine jv_goto (tgt := 32) d_M_resume_28 (by decide) ?_
      obtain ⟨q11, q12, h⟩ := h
      refine jv_iast d_M_resume_32 q11 q12 ?_
      refine jv_aload_n d_M_resume_33 rfl rfl ?_
      refine jv_iload_n d_M_resume_34 rfl rfl ?_
      refine jv_iconst (v := 2) d_M_resume_35 (by decide) ?_
      refine jv_iadd d_M_resume_36 ?_
      refine jv_iconst (v := 0) d_M_resume_37 (by decide) ?_
      obtain ⟨q13, q14, h⟩ := h
      refine jv_iast d_M_resume_38 q13 q14 ?_
      refine jv_aload_n d_M_resume_39 rfl rfl ?_
      refine jv_iload_n d_M_resume_40 rfl rfl ?_
      refine jv_iconst (v := 3) d_M_resume_41 (by decide) ?_
      refine jv_iadd d_M_resume_42 ?_
      refine jv_iconst (v := 0) d_M_resume_43 (by decide) ?_
      obtain ⟨q15, q16, h⟩ := h
      refine jv_iast d_M_resume_44 q15 q16 ?_
      exact jv_ret d_M_resume_45 rfl h
theorem b_M_reset_0 {g : jv_G} {d : Nat} {M : jv_Mem} {N cr sr : Nat} {Z : Option Value → jv_Mem → Nat → Prop} {a0 : Nat} {a1 : Nat} {x2 : Int32} (h : jv_J g d mt_M_reset 2 [some (.ref a0), some (.ref a1), some (.int x2), some (.int 0)] [] M N cr sr Z) : jv_J g d mt_M_reset 0 [some (.ref a0), some (.ref a1), some (.int x2), none] [] M N cr sr Z := by
  refine jv_iconst (v := 0) d_M_reset_0 (by decide) ?_
  refine jv_istore_n (L' := [some (.ref a0), some (.ref a1), some (.int x2), some (.int 0)]) d_M_reset_1 rfl (Nat.le_of_ble_eq_true rfl) rfl ?_
  exact h
theorem b_M_reset_2 {g : jv_G} {d : Nat} {M : jv_Mem} {N cr sr : Nat} {Z : Option Value → jv_Mem → Nat → Prop} {a0 : Nat} {a1 : Nat} {x2 : Int32} {x3 : Int32} (h : (8 ≤ x3 → jv_J g d mt_M_reset 38 [some (.ref a0), some (.ref a1), some (.int x2), some (.int 0)] [] M N cr sr Z) ∧ (¬ (8 ≤ x3) → (x3 ≠ 0 → jv_Tg 11 a1 N ∧ vp_in ((8 * x2) + x3) (jv_sh a1).2 ∧ jv_J g d mt_M_reset 2 [some (.ref a0), some (.ref a1), some (.int x2), some (.int (x3 + 1))] [] (jv_si M a1 (Int32.toNatClampNeg ((8 * x2) + x3)) 0) N cr sr Z) ∧ (x3 = 0 → jv_Tg 10 a0 N ∧ ∃ b4, Prod.fst (Prod.snd M) a0 7 = some b4 ∧ jv_Tg 11 b4 N ∧ vp_in x2 (jv_sh b4).2 ∧ jv_Tg 11 a1 N ∧ vp_in ((8 * x2) + x3) (jv_sh a1).2 ∧ jv_J g d mt_M_reset 2 [some (.ref a0), some (.ref a1), some (.int x2), some (.int (x3 + 1))] [] (jv_si M a1 (Int32.toNatClampNeg ((8 * x2) + x3)) (Prod.fst M b4 (Int32.toNatClampNeg x2))) N cr sr Z))) : jv_J g d mt_M_reset 2 [some (.ref a0), some (.ref a1), some (.int x2), some (.int x3)] [] M N cr sr Z := by
  refine jv_iload_n d_M_reset_2 rfl rfl ?_
  refine jv_bipush (v := 8) d_M_reset_3 (by decide) ?_
  refine jv_icmp_ge (tgt := 36) d_M_reset_5 (by decide) ⟨fun c => ?_, fun c => ?_⟩
  · replace h := h.1 c
    refine jv_iconst (v := 0) d_M_reset_36 (by decide) ?_
    refine jv_istore_n (L' := [some (.ref a0), some (.ref a1), some (.int x2), some (.int 0)]) d_M_reset_37 rfl (Nat.le_of_ble_eq_true rfl) rfl ?_
    exact h
  · replace h := h.2 c
    refine jv_aload_n d_M_reset_8 rfl rfl ?_
    refine jv_bipush (v := 8) d_M_reset_9 (by decide) ?_
    refine jv_iload_n d_M_reset_11 rfl rfl ?_
    refine jv_imul d_M_reset_12 ?_
    refine jv_iload_n d_M_reset_13 rfl rfl ?_
    refine jv_iadd d_M_reset_14 ?_
    refine jv_iload_n d_M_reset_15 rfl rfl ?_
    refine jv_if_ne (tgt := 28) d_M_reset_16 (by decide) ⟨fun c => ?_, fun c => ?_⟩
    · replace h := h.1 c
      refine jv_iconst (v := 0) d_M_reset_28 (by decide) ?_
      obtain ⟨q1, q2, h⟩ := h
      refine jv_iast d_M_reset_29 q1 q2 ?_
      refine jv_iinc (v := (x3 + 1)) (L' := [some (.ref a0), some (.ref a1), some (.int x2), some (.int (x3 + 1))]) d_M_reset_30 rfl rfl (Nat.le_of_ble_eq_true rfl) rfl ?_
      refine jv_goto (tgt := 2) d_M_reset_33 (by decide) ?_
      exact h
    · replace h := h.2 c
      refine jv_aload_n d_M_reset_19 rfl rfl ?_
      obtain ⟨q3, h⟩ := h
      obtain ⟨b4, e5, h⟩ := h
      refine jv_getR d_M_reset_20 fl_M_16 rfl q3 e5 ?_
      refine jv_iload_n d_M_reset_23 rfl rfl ?_
      obtain ⟨q6, q7, h⟩ := h
      refine jv_iald d_M_reset_24 q6 q7 ?_
      refine jv_goto (tgt := 29) d_M_reset_25 (by decide) ?_
      obtain ⟨q8, q9, h⟩ := h
      refine jv_iast d_M_reset_29 q8 q9 ?_
      refine jv_iinc (v := (x3 + 1)) (L' := [some (.ref a0), some (.ref a1), some (.int x2), some (.int (x3 + 1))]) d_M_reset_30 rfl rfl (Nat.le_of_ble_eq_true rfl) rfl ?_
      refine jv_goto (tgt := 2) d_M_reset_33 (by decide) ?_
      exact h
theorem b_M_reset_38 {g : jv_G} {d : Nat} {M : jv_Mem} {N cr sr : Nat} {Z : Option Value → jv_Mem → Nat → Prop} {a0 : Nat} {a1 : Nat} {x2 : Int32} {x3 : Int32} (h : jv_Tg 10 a0 N ∧ ((Prod.fst M a0 9) ≤ x3 → Z none M N) ∧ (¬ ((Prod.fst M a0 9) ≤ x3) → jv_Tg 10 a0 N ∧ ∃ b3, Prod.fst (Prod.snd M) a0 10 = some b3 ∧ jv_Tg 11 b3 N ∧ vp_in x3 (jv_sh b3).2 ∧ ((Prod.fst M b3 (Int32.toNatClampNeg x3)) ≠ x2 → jv_J g d mt_M_reset 38 [some (.ref a0), some (.ref a1), some (.int x2), some (.int (x3 + 1))] [] M N cr sr Z) ∧ ((Prod.fst M b3 (Int32.toNatClampNeg x3)) = x2 → jv_Tg 11 a1 N ∧ vp_in ((40 + (6 * x3)) + 3) (jv_sh a1).2 ∧ jv_Tg 11 a1 N ∧ vp_in ((40 + (6 * x3)) + 4) (jv_sh a1).2 ∧ jv_J g d mt_M_reset 38 [some (.ref a0), some (.ref a1), some (.int x2), some (.int (x3 + 1))] [] (jv_si M a1 (Int32.toNatClampNeg ((40 + (6 * x3)) + 4)) (Prod.fst M a1 (Int32.toNatClampNeg ((40 + (6 * x3)) + 3)))) N cr sr Z))) : jv_J g d mt_M_reset 38 [some (.ref a0), some (.ref a1), some (.int x2), some (.int x3)] [] M N cr sr Z := by
  refine jv_iload_n d_M_reset_38 rfl rfl ?_
  refine jv_aload_n d_M_reset_39 rfl rfl ?_
  obtain ⟨q1, h⟩ := h
  refine jv_getI d_M_reset_40 fl_M_138 rfl q1 ?_
  refine jv_icmp_ge (tgt := 84) d_M_reset_43 (by decide) ⟨fun c => ?_, fun c => ?_⟩
  · replace h := h.1 c
    exact jv_ret d_M_reset_84 rfl h
  · replace h := h.2 c
    refine jv_aload_n d_M_reset_46 rfl rfl ?_
    obtain ⟨q2, h⟩ := h
    obtain ⟨b3, e4, h⟩ := h
    refine jv_getR d_M_reset_47 fl_M_22 rfl q2 e4 ?_
    refine jv_iload_n d_M_reset_50 rfl rfl ?_
    obtain ⟨q5, q6, h⟩ := h
    refine jv_iald d_M_reset_51 q5 q6 ?_
    refine jv_iload_n d_M_reset_52 rfl rfl ?_
    refine jv_icmp_ne (tgt := 78) d_M_reset_53 (by decide) ⟨fun c => ?_, fun c => ?_⟩
    · replace h := h.1 c
      refine jv_iinc (v := (x3 + 1)) (L' := [some (.ref a0), some (.ref a1), some (.int x2), some (.int (x3 + 1))]) d_M_reset_78 rfl rfl (Nat.le_of_ble_eq_true rfl) rfl ?_
      refine jv_goto (tgt := 38) d_M_reset_81 (by decide) ?_
      exact h
    · replace h := h.2 c
      refine jv_aload_n d_M_reset_56 rfl rfl ?_
      refine jv_bipush (v := 40) d_M_reset_57 (by decide) ?_
      refine jv_bipush (v := 6) d_M_reset_59 (by decide) ?_
      refine jv_iload_n d_M_reset_61 rfl rfl ?_
      refine jv_imul d_M_reset_62 ?_
      refine jv_iadd d_M_reset_63 ?_
      refine jv_iconst (v := 4) d_M_reset_64 (by decide) ?_
      refine jv_iadd d_M_reset_65 ?_
      refine jv_aload_n d_M_reset_66 rfl rfl ?_
      refine jv_bipush (v := 40) d_M_reset_67 (by decide) ?_
      refine jv_bipush (v := 6) d_M_reset_69 (by decide) ?_
      refine jv_iload_n d_M_reset_71 rfl rfl ?_
      refine jv_imul d_M_reset_72 ?_
      refine jv_iadd d_M_reset_73 ?_
      refine jv_iconst (v := 3) d_M_reset_74 (by decide) ?_
      refine jv_iadd d_M_reset_75 ?_
      obtain ⟨q7, q8, h⟩ := h
      refine jv_iald d_M_reset_76 q7 q8 ?_
      obtain ⟨q9, q10, h⟩ := h
      refine jv_iast d_M_reset_77 q9 q10 ?_
      refine jv_iinc (v := (x3 + 1)) (L' := [some (.ref a0), some (.ref a1), some (.int x2), some (.int (x3 + 1))]) d_M_reset_78 rfl rfl (Nat.le_of_ble_eq_true rfl) rfl ?_
      refine jv_goto (tgt := 38) d_M_reset_81 (by decide) ?_
      exact h
theorem b_M_runBuffer_0 {g : jv_G} {d : Nat} {M : jv_Mem} {N cr sr : Nat} {Z : Option Value → jv_Mem → Nat → Prop} {a0 : Nat} {a1 : Nat} {x2 : Int32} (h : jv_J g (d + 1) mt_M_runBuffer 2 [some (.ref a0), some (.ref a1), some (.int x2), some (.int 0), none] [] M N cr sr Z) : jv_J g (d + 1) mt_M_runBuffer 0 [some (.ref a0), some (.ref a1), some (.int x2), none, none] [] M N cr sr Z := by
  refine jv_iconst (v := 0) d_M_runBuffer_0 (by decide) ?_
  refine jv_istore_n (L' := [some (.ref a0), some (.ref a1), some (.int x2), some (.int 0), none]) d_M_runBuffer_1 rfl (Nat.le_of_ble_eq_true rfl) rfl ?_
  exact h
theorem b_M_runBuffer_2 {g : jv_G} {d : Nat} {M : jv_Mem} {N cr sr : Nat} {Z : Option Value → jv_Mem → Nat → Prop} {a0 : Nat} {a1 : Nat} {x2 : Int32} {x3 : Int32} (h : (2 ≤ x3 → Z (some (.int 0)) M N) ∧ (¬ (2 ≤ x3) → jv_Tg 11 a1 N ∧ vp_in (78 + x3) (jv_sh a1).2 ∧ jv_Ct g d mt_M_plain [.int (Prod.fst M a1 (Int32.toNatClampNeg (78 + x3)))] M N 0 0 (fun v M4 N4 => jv_ri v (fun r3 => (r3 ≠ 0 → ((r3 / 1000) ≤ 5 → jv_Tg 10 a0 N4 ∧ jv_Ct g d mt_M_doPlain [.ref a0, .ref a1, .int x2, .int r3] M4 N4 0 0 (fun v M7 N7 => jv_rv v (jv_J g (d + 1) mt_M_runBuffer 2 [some (.ref a0), some (.ref a1), some (.int x2), some (.int (x3 + 1)), none] [] M7 N7 cr sr Z))) ∧ (¬ ((r3 / 1000) ≤ 5) → Z (some (.int 3)) M4 N4)) ∧ (r3 = 0 → Z (some (.int 0)) M4 N4))))) : jv_J g (d + 1) mt_M_runBuffer 2 [some (.ref a0), some (.ref a1), some (.int x2), some (.int x3), none] [] M N cr sr Z := by
  refine jv_iload_n d_M_runBuffer_2 rfl rfl ?_
  refine jv_iconst (v := 2) d_M_runBuffer_3 (by decide) ?_
  refine jv_icmp_ge (tgt := 51) d_M_runBuffer_4 (by decide) ⟨fun c => ?_, fun c => ?_⟩
  · replace h := h.1 c
    refine jv_iconst (v := 0) d_M_runBuffer_51 (by decide) ?_
    exact jv_iret d_M_runBuffer_52 rfl rfl h
  · replace h := h.2 c
    refine jv_aload_n d_M_runBuffer_7 rfl rfl ?_
    refine jv_bipush (v := 78) d_M_runBuffer_8 (by decide) ?_
    refine jv_iload_n d_M_runBuffer_10 rfl rfl ?_
    refine jv_iadd d_M_runBuffer_11 ?_
    obtain ⟨q1, q2, h⟩ := h
    refine jv_iald d_M_runBuffer_12 q1 q2 ?_
    refine jv_invS [.int (Prod.fst M a1 (Int32.toNatClampNeg (78 + x3)))] [] d_M_runBuffer_13 ml_M_148 rfl (Nat.le_of_ble_eq_true rfl) (Nat.zero_add _) (Nat.zero_add _) (jv_Ct.mono h (fun v M4 N4 h => ?_))
    obtain ⟨r3, rfl, h⟩ := h
    change jv_J g (d + 1) mt_M_runBuffer 16 [some (.ref a0), some (.ref a1), some (.int x2), some (.int x3), none] [.int r3] M4 N4 cr sr Z
    refine jv_istore (L' := [some (.ref a0), some (.ref a1), some (.int x2), some (.int x3), some (.int r3)]) d_M_runBuffer_16 (Nat.le_of_ble_eq_true rfl) rfl ?_
    refine jv_iload d_M_runBuffer_18 rfl ?_
    refine jv_if_ne (tgt := 25) d_M_runBuffer_20 (by decide) ⟨fun c => ?_, fun c => ?_⟩
    · replace h := h.1 c
      refine jv_iload d_M_runBuffer_25 rfl ?_
      refine jv_sipush (v := 1000) d_M_runBuffer_27 (by decide) ?_
      refine jv_idiv d_M_runBuffer_30 (by decide) ?_
      refine jv_iconst (v := 5) d_M_runBuffer_31 (by decide) ?_
      refine jv_icmp_le (tgt := 37) d_M_runBuffer_32 (by decide) ⟨fun c => ?_, fun c => ?_⟩
      · replace h := h.1 c
        refine jv_aload_n d_M_runBuffer_37 rfl rfl ?_
        refine jv_aload_n d_M_runBuffer_38 rfl rfl ?_
        refine jv_iload_n d_M_runBuffer_39 rfl rfl ?_
        refine jv_iload d_M_runBuffer_40 rfl ?_
        obtain ⟨q5, h⟩ := h
        refine jv_invV [.ref a1, .int x2, .int r3] [] d_M_runBuffer_42 ml_M_151 q5 rfl (Nat.le_of_ble_eq_true rfl) (Nat.zero_add _) (Nat.zero_add _) (jv_Ct.mono h (fun v M7 N7 h => ?_))
        obtain ⟨rfl, h⟩ := h
        change jv_J g (d + 1) mt_M_runBuffer 45 [some (.ref a0), some (.ref a1), some (.int x2), some (.int x3), some (.int r3)] [] M7 N7 cr sr Z
        refine jv_iinc (v := (x3 + 1)) (L' := [some (.ref a0), some (.ref a1), some (.int x2), some (.int (x3 + 1)), some (.int r3)]) d_M_runBuffer_45 rfl rfl (Nat.le_of_ble_eq_true rfl) rfl ?_
        refine jv_goto (tgt := 2) d_M_runBuffer_48 (by decide) ?_
        refine jv_weak (L' := [some (.ref a0), some (.ref a1), some (.int x2), some (.int (x3 + 1)), none]) (by simp [jv_le]) ?_
        exact h
      · replace h := h.2 c
        refine jv_iconst (v := 3) d_M_runBuffer_35 (by decide) ?_
        exact jv_iret d_M_runBuffer_36 rfl rfl h
    · replace h := h.2 c
      refine jv_iconst (v := 0) d_M_runBuffer_23 (by decide) ?_
      exact jv_iret d_M_runBuffer_24 rfl rfl h
theorem b_M_plain_0 {g : jv_G} {d : Nat} {M : jv_Mem} {N cr sr : Nat} {Z : Option Value → jv_Mem → Nat → Prop} {x0 : Int32} (h : Z (some (.int (((1000 * (x0 / 100)) + (100 * ((x0 / 10) - (x0 / 10) / 10 * 10))) + (x0 - x0 / 10 * 10)))) M N) : jv_J g d mt_M_plain 0 [some (.int x0)] [] M N cr sr Z := by
  refine jv_sipush (v := 1000) d_M_plain_0 (by decide) ?_
  refine jv_iload_n d_M_plain_3 rfl rfl ?_
  refine jv_bipush (v := 100) d_M_plain_4 (by decide) ?_
  refine jv_idiv d_M_plain_6 (by decide) ?_
  refine jv_imul d_M_plain_7 ?_
  refine jv_bipush (v := 100) d_M_plain_8 (by decide) ?_
  refine jv_iload_n d_M_plain_10 rfl rfl ?_
  refine jv_bipush (v := 10) d_M_plain_11 (by decide) ?_
  refine jv_idiv d_M_plain_13 (by decide) ?_
  refine jv_bipush (v := 10) d_M_plain_14 (by decide) ?_
  refine jv_irem d_M_plain_16 (by decide) ?_
  refine jv_imul d_M_plain_17 ?_
  refine jv_iadd d_M_plain_18 ?_
  refine jv_iload_n d_M_plain_19 rfl rfl ?_
  refine jv_bipush (v := 10) d_M_plain_20 (by decide) ?_
  refine jv_irem d_M_plain_22 (by decide) ?_
  refine jv_iadd d_M_plain_23 ?_
  exact jv_iret d_M_plain_24 rfl rfl h
theorem b_M_doPlain_0 {g : jv_G} {d : Nat} {M : jv_Mem} {N cr sr : Nat} {Z : Option Value → jv_Mem → Nat → Prop} {a0 : Nat} {a1 : Nat} {x2 : Int32} {x3 : Int32} (h : ((x3 / 1000) = 1 → jv_Tg 11 a1 N ∧ vp_in (((8 * x2) + 4) + ((x3 / 100) - (x3 / 100) / 10 * 10)) (jv_sh a1).2 ∧ jv_Tg 11 a1 N ∧ vp_in (((8 * x2) + 4) + ((x3 / 100) - (x3 / 100) / 10 * 10)) (jv_sh a1).2 ∧ Z none (jv_si M a1 (Int32.toNatClampNeg (((8 * x2) + 4) + ((x3 / 100) - (x3 / 100) / 10 * 10))) (((Prod.fst M a1 (Int32.toNatClampNeg (((8 * x2) + 4) + ((x3 / 100) - (x3 / 100) / 10 * 10)))) + (x3 - x3 / 100 * 100)) - ((Prod.fst M a1 (Int32.toNatClampNeg (((8 * x2) + 4) + ((x3 / 100) - (x3 / 100) / 10 * 10)))) + (x3 - x3 / 100 * 100)) / 1000 * 1000)) N) ∧ ((x3 / 1000) = 2 → jv_Tg 11 a1 N ∧ vp_in (((8 * x2) + 4) + ((x3 / 100) - (x3 / 100) / 10 * 10)) (jv_sh a1).2 ∧ jv_Tg 11 a1 N ∧ vp_in (((8 * x2) + 4) + ((x3 / 100) - (x3 / 100) / 10 * 10)) (jv_sh a1).2 ∧ ((Prod.fst M a1 (Int32.toNatClampNeg (((8 * x2) + 4) + ((x3 / 100) - (x3 / 100) / 10 * 10)))) ≤ 0 → jv_Tg 11 a1 N ∧ vp_in (((8 * x2) + 4) + ((x3 / 100) - (x3 / 100) / 10 * 10)) (jv_sh a1).2 ∧ Z none (jv_si M a1 (Int32.toNatClampNeg (((8 * x2) + 4) + ((x3 / 100) - (x3 / 100) / 10 * 10))) ((Prod.fst M a1 (Int32.toNatClampNeg (((8 * x2) + 4) + ((x3 / 100) - (x3 / 100) / 10 * 10)))) - 0)) N) ∧ (¬ ((Prod.fst M a1 (Int32.toNatClampNeg (((8 * x2) + 4) + ((x3 / 100) - (x3 / 100) / 10 * 10)))) ≤ 0) → jv_Tg 11 a1 N ∧ vp_in (((8 * x2) + 4) + ((x3 / 100) - (x3 / 100) / 10 * 10)) (jv_sh a1).2 ∧ Z none (jv_si M a1 (Int32.toNatClampNeg (((8 * x2) + 4) + ((x3 / 100) - (x3 / 100) / 10 * 10))) ((Prod.fst M a1 (Int32.toNatClampNeg (((8 * x2) + 4) + ((x3 / 100) - (x3 / 100) / 10 * 10)))) - 1)) N)) ∧ ((x3 / 1000) = 3 → jv_Tg 11 a1 N ∧ vp_in (((8 * x2) + 4) + (x3 - x3 / 100 * 100)) (jv_sh a1).2 ∧ jv_Tg 11 a1 N ∧ vp_in (((8 * x2) + 4) + ((x3 / 100) - (x3 / 100) / 10 * 10)) (jv_sh a1).2 ∧ Z none (jv_si M a1 (Int32.toNatClampNeg (((8 * x2) + 4) + ((x3 / 100) - (x3 / 100) / 10 * 10))) (Prod.fst M a1 (Int32.toNatClampNeg (((8 * x2) + 4) + (x3 - x3 / 100 * 100))))) N) ∧ ((x3 / 1000) = 4 → jv_Tg 11 a1 N ∧ vp_in (32 + (x3 - x3 / 100 * 100)) (jv_sh a1).2 ∧ jv_Tg 11 a1 N ∧ vp_in (((8 * x2) + 4) + ((x3 / 100) - (x3 / 100) / 10 * 10)) (jv_sh a1).2 ∧ Z none (jv_si M a1 (Int32.toNatClampNeg (((8 * x2) + 4) + ((x3 / 100) - (x3 / 100) / 10 * 10))) (Prod.fst M a1 (Int32.toNatClampNeg (32 + (x3 - x3 / 100 * 100))))) N) ∧ (((x3 / 1000) ≠ 1 ∧ (x3 / 1000) ≠ 2 ∧ (x3 / 1000) ≠ 3 ∧ (x3 / 1000) ≠ 4) → jv_Tg 11 a1 N ∧ vp_in (((8 * x2) + 4) + ((x3 / 100) - (x3 / 100) / 10 * 10)) (jv_sh a1).2 ∧ jv_Tg 11 a1 N ∧ vp_in (32 + (x3 - x3 / 100 * 100)) (jv_sh a1).2 ∧ jv_Tg 10 a0 N ∧ ((Prod.fst (jv_si M a1 (Int32.toNatClampNeg (32 + (x3 - x3 / 100 * 100))) (Prod.fst M a1 (Int32.toNatClampNeg (((8 * x2) + 4) + ((x3 / 100) - (x3 / 100) / 10 * 10))))) a0 31) ≠ 0 → jv_Tg 10 a0 N ∧ Z none (jv_si (jv_si M a1 (Int32.toNatClampNeg (32 + (x3 - x3 / 100 * 100))) (Prod.fst M a1 (Int32.toNatClampNeg (((8 * x2) + 4) + ((x3 / 100) - (x3 / 100) / 10 * 10))))) a0 31 1) N) ∧ ((Prod.fst (jv_si M a1 (Int32.toNatClampNeg (32 + (x3 - x3 / 100 * 100))) (Prod.fst M a1 (Int32.toNatClampNeg (((8 * x2) + 4) + ((x3 / 100) - (x3 / 100) / 10 * 10))))) a0 31) = 0 → ((x3 - x3 / 100 * 100) ≠ 7 → jv_Tg 10 a0 N ∧ Z none (jv_si (jv_si M a1 (Int32.toNatClampNeg (32 + (x3 - x3 / 100 * 100))) (Prod.fst M a1 (Int32.toNatClampNeg (((8 * x2) + 4) + ((x3 / 100) - (x3 / 100) / 10 * 10))))) a0 31 0) N) ∧ ((x3 - x3 / 100 * 100) = 7 → jv_Tg 10 a0 N ∧ Z none (jv_si (jv_si M a1 (Int32.toNatClampNeg (32 + (x3 - x3 / 100 * 100))) (Prod.fst M a1 (Int32.toNatClampNeg (((8 * x2) + 4) + ((x3 / 100) - (x3 / 100) / 10 * 10))))) a0 31 1) N)))) : jv_J g d mt_M_doPlain 0 [some (.ref a0), some (.ref a1), some (.int x2), some (.int x3), none, none] [] M N cr sr Z := by
  refine jv_bipush (v := 8) d_M_doPlain_0 (by decide) ?_
  refine jv_iload_n d_M_doPlain_2 rfl rfl ?_
  refine jv_imul d_M_doPlain_3 ?_
  refine jv_iconst (v := 4) d_M_doPlain_4 (by decide) ?_
  refine jv_iadd d_M_doPlain_5 ?_
  refine jv_iload_n d_M_doPlain_6 rfl rfl ?_
  refine jv_bipush (v := 100) d_M_doPlain_7 (by decide) ?_
  refine jv_idiv d_M_doPlain_9 (by decide) ?_
  refine jv_bipush (v := 10) d_M_doPlain_10 (by decide) ?_
  refine jv_irem d_M_doPlain_12 (by decide) ?_
  refine jv_iadd d_M_doPlain_13 ?_
  refine jv_istore (L' := [some (.ref a0), some (.ref a1), some (.int x2), some (.int x3), some (.int (((8 * x2) + 4) + ((x3 / 100) - (x3 / 100) / 10 * 10))), none]) d_M_doPlain_14 (Nat.le_of_ble_eq_true rfl) rfl ?_
  refine jv_iload_n d_M_doPlain_16 rfl rfl ?_
  refine jv_bipush (v := 100) d_M_doPlain_17 (by decide) ?_
  refine jv_irem d_M_doPlain_19 (by decide) ?_
  refine jv_istore (L' := [some (.ref a0), some (.ref a1), some (.int x2), some (.int x3), some (.int (((8 * x2) + 4) + ((x3 / 100) - (x3 / 100) / 10 * 10))), some (.int (x3 - x3 / 100 * 100))]) d_M_doPlain_20 (Nat.le_of_ble_eq_true rfl) rfl ?_
  refine jv_iload_n d_M_doPlain_22 rfl rfl ?_
  refine jv_sipush (v := 1000) d_M_doPlain_23 (by decide) ?_
  refine jv_idiv d_M_doPlain_26 (by decide) ?_
  have hD1 : ((x3 / 1000) ≠ 1 ∧ (x3 / 1000) ≠ 2 ∧ (x3 / 1000) ≠ 3 ∧ (x3 / 1000) ≠ 4) → jv_J g d mt_M_doPlain 128 [some (.ref a0), some (.ref a1), some (.int x2), some (.int x3), some (.int (((8 * x2) + 4) + ((x3 / 100) - (x3 / 100) / 10 * 10))), some (.int (x3 - x3 / 100 * 100))] [] M N cr sr Z := by
    intro c
    replace h := h.2.2.2.2 c
    refine jv_aload_n d_M_doPlain_128 rfl rfl ?_
    refine jv_bipush (v := 32) d_M_doPlain_129 (by decide) ?_
    refine jv_iload d_M_doPlain_131 rfl ?_
    refine jv_iadd d_M_doPlain_133 ?_
    refine jv_aload_n d_M_doPlain_134 rfl rfl ?_
    refine jv_iload d_M_doPlain_135 rfl ?_
    obtain ⟨q2, q3, h⟩ := h
    refine jv_iald d_M_doPlain_137 q2 q3 ?_
    obtain ⟨q4, q5, h⟩ := h
    refine jv_iast d_M_doPlain_138 q4 q5 ?_
    refine jv_aload_n d_M_doPlain_139 rfl rfl ?_
    refine jv_aload_n d_M_doPlain_140 rfl rfl ?_
    obtain ⟨q6, h⟩ := h
    refine jv_getI d_M_doPlain_141 fl_M_144 rfl q6 ?_
    refine jv_if_ne (tgt := 154) d_M_doPlain_144 (by decide) ⟨fun c => ?_, fun c => ?_⟩
    · replace h := h.1 c
      refine jv_iconst (v := 1) d_M_doPlain_154 (by decide) ?_
      refine jv_goto (tgt := 159) d_M_doPlain_155 (by decide) ?_
      obtain ⟨q7, h⟩ := h
      refine jv_putZ d_M_doPlain_159 fl_M_144 (fun r hr => by cases hr; rfl) rfl q7 (by decide) ?_
      exact jv_ret d_M_doPlain_162 rfl h
    · replace h := h.2 c
      refine jv_iload d_M_doPlain_147 rfl ?_
      refine jv_bipush (v := 7) d_M_doPlain_149 (by decide) ?_
      refine jv_icmp_ne (tgt := 158) d_M_doPlain_151 (by decide) ⟨fun c => ?_, fun c => ?_⟩
      · replace h := h.1 c
        refine jv_iconst (v := 0) d_M_doPlain_158 (by decide) ?_
        obtain ⟨q8, h⟩ := h
        refine jv_putZ d_M_doPlain_159 fl_M_144 (fun r hr => by cases hr; rfl) rfl q8 (by decide) ?_
        exact jv_ret d_M_doPlain_162 rfl h
      · replace h := h.2 c
        refine jv_iconst (v := 1) d_M_doPlain_154 (by decide) ?_
        refine jv_goto (tgt := 159) d_M_doPlain_155 (by decide) ?_
        obtain ⟨q9, h⟩ := h
        refine jv_putZ d_M_doPlain_159 fl_M_144 (fun r hr => by cases hr; rfl) rfl q9 (by decide) ?_
        exact jv_ret d_M_doPlain_162 rfl h
  refine jv_tsw (dt := 128) [(1, 56), (2, 74), (3, 96), (4, 114)] d_M_doPlain_27 (by decide) (by decide) (by decide) (fun q hq hx => ?_) (fun hq => ?_)
  · simp only [List.mem_cons, List.not_mem_nil, or_false] at hq
    rcases hq with rfl | rfl | rfl | rfl
    · replace h := h.1 hx
      refine jv_aload_n d_M_doPlain_56 rfl rfl ?_
      refine jv_iload d_M_doPlain_57 rfl ?_
      refine jv_aload_n d_M_doPlain_59 rfl rfl ?_
      refine jv_iload d_M_doPlain_60 rfl ?_
      obtain ⟨q10, q11, h⟩ := h
      refine jv_iald d_M_doPlain_62 q10 q11 ?_
      refine jv_iload d_M_doPlain_63 rfl ?_
      refine jv_iadd d_M_doPlain_65 ?_
      refine jv_sipush (v := 1000) d_M_doPlain_66 (by decide) ?_
      refine jv_irem d_M_doPlain_69 (by decide) ?_
      obtain ⟨q12, q13, h⟩ := h
      refine jv_iast d_M_doPlain_70 q12 q13 ?_
      refine jv_goto (tgt := 162) d_M_doPlain_71 (by decide) ?_
      exact jv_ret d_M_doPlain_162 rfl h
    · replace h := h.2.1 hx
      refine jv_aload_n d_M_doPlain_74 rfl rfl ?_
      refine jv_iload d_M_doPlain_75 rfl ?_
      refine jv_dup2 d_M_doPlain_77 rfl rfl ?_
      obtain ⟨q14, q15, h⟩ := h
      refine jv_iald d_M_doPlain_78 q14 q15 ?_
      refine jv_aload_n d_M_doPlain_79 rfl rfl ?_
      refine jv_iload d_M_doPlain_80 rfl ?_
      obtain ⟨q16, q17, h⟩ := h
      refine jv_iald d_M_doPlain_82 q16 q17 ?_
      refine jv_if_le (tgt := 90) d_M_doPlain_83 (by decide) ⟨fun c => ?_, fun c => ?_⟩
      · replace h := h.1 c
        refine jv_iconst (v := 0) d_M_doPlain_90 (by decide) ?_
        refine jv_isub d_M_doPlain_91 ?_
        obtain ⟨q18, q19, h⟩ := h
        refine jv_iast d_M_doPlain_92 q18 q19 ?_
        refine jv_goto (tgt := 162) d_M_doPlain_93 (by decide) ?_
        exact jv_ret d_M_doPlain_162 rfl h
      · replace h := h.2 c
        refine jv_iconst (v := 1) d_M_doPlain_86 (by decide) ?_
        refine jv_goto (tgt := 91) d_M_doPlain_87 (by decide) ?_
        refine jv_isub d_M_doPlain_91 ?_
        obtain ⟨q20, q21, h⟩ := h
        refine jv_iast d_M_doPlain_92 q20 q21 ?_
        refine jv_goto (tgt := 162) d_M_doPlain_93 (by decide) ?_
        exact jv_ret d_M_doPlain_162 rfl h
    · replace h := h.2.2.1 hx
      refine jv_aload_n d_M_doPlain_96 rfl rfl ?_
      refine jv_iload d_M_doPlain_97 rfl ?_
      refine jv_aload_n d_M_doPlain_99 rfl rfl ?_
      refine jv_bipush (v := 8) d_M_doPlain_100 (by decide) ?_
      refine jv_iload_n d_M_doPlain_102 rfl rfl ?_
      refine jv_imul d_M_doPlain_103 ?_
      refine jv_iconst (v := 4) d_M_doPlain_104 (by decide) ?_
      refine jv_iadd d_M_doPlain_105 ?_
      refine jv_iload d_M_doPlain_106 rfl ?_
      refine jv_iadd d_M_doPlain_108 ?_
      obtain ⟨q22, q23, h⟩ := h
      refine jv_iald d_M_doPlain_109 q22 q23 ?_
      obtain ⟨q24, q25, h⟩ := h
      refine jv_iast d_M_doPlain_110 q24 q25 ?_
      refine jv_goto (tgt := 162) d_M_doPlain_111 (by decide) ?_
      exact jv_ret d_M_doPlain_162 rfl h
    · replace h := h.2.2.2.1 hx
      refine jv_aload_n d_M_doPlain_114 rfl rfl ?_
      refine jv_iload d_M_doPlain_115 rfl ?_
      refine jv_aload_n d_M_doPlain_117 rfl rfl ?_
      refine jv_bipush (v := 32) d_M_doPlain_118 (by decide) ?_
      refine jv_iload d_M_doPlain_120 rfl ?_
      refine jv_iadd d_M_doPlain_122 ?_
      obtain ⟨q26, q27, h⟩ := h
      refine jv_iald d_M_doPlain_123 q26 q27 ?_
      obtain ⟨q28, q29, h⟩ := h
      refine jv_iast d_M_doPlain_124 q28 q29 ?_
      refine jv_goto (tgt := 162) d_M_doPlain_125 (by decide) ?_
      exact jv_ret d_M_doPlain_162 rfl h
  · exact hD1 ⟨hq _ (List.mem_of_getElem? (i := 0) rfl), hq _ (List.mem_of_getElem? (i := 1) rfl), hq _ (List.mem_of_getElem? (i := 2) rfl), hq _ (List.mem_of_getElem? (i := 3) rfl)⟩
theorem b_M_dropOrder_0 {g : jv_G} {d : Nat} {M : jv_Mem} {N cr sr : Nat} {Z : Option Value → jv_Mem → Nat → Prop} {a0 : Nat} {x1 : Int32} (h : jv_Tg 11 a0 N ∧ vp_in 80 (jv_sh a0).2 ∧ jv_Tg 11 a0 N ∧ vp_in 80 (jv_sh a0).2 ∧ jv_J g d mt_M_dropOrder 16 [some (.ref a0), none, some (.int (81 + (7 * x1)))] [] (jv_si M a0 (Int32.toNatClampNeg 80) ((Prod.fst M a0 (Int32.toNatClampNeg 80)) - 1)) N cr sr Z) : jv_J g d mt_M_dropOrder 0 [some (.ref a0), some (.int x1), none] [] M N cr sr Z := by
  refine jv_aload_n d_M_dropOrder_0 rfl rfl ?_
  refine jv_bipush (v := 80) d_M_dropOrder_1 (by decide) ?_
  refine jv_dup2 d_M_dropOrder_3 rfl rfl ?_
  obtain ⟨q1, q2, h⟩ := h
  refine jv_iald d_M_dropOrder_4 q1 q2 ?_
  refine jv_iconst (v := 1) d_M_dropOrder_5 (by decide) ?_
  refine jv_isub d_M_dropOrder_6 ?_
  obtain ⟨q3, q4, h⟩ := h
  refine jv_iast d_M_dropOrder_7 q3 q4 ?_
  refine jv_bipush (v := 81) d_M_dropOrder_8 (by decide) ?_
  refine jv_bipush (v := 7) d_M_dropOrder_10 (by decide) ?_
  refine jv_iload_n d_M_dropOrder_12 rfl rfl ?_
  refine jv_imul d_M_dropOrder_13 ?_
  refine jv_iadd d_M_dropOrder_14 ?_
  refine jv_istore_n (L' := [some (.ref a0), some (.int x1), some (.int (81 + (7 * x1)))]) d_M_dropOrder_15 rfl (Nat.le_of_ble_eq_true rfl) rfl ?_
  refine jv_weak (L' := [some (.ref a0), none, some (.int (81 + (7 * x1)))]) (by simp [jv_le]) ?_
  exact h
theorem b_M_dropOrder_16 {g : jv_G} {d : Nat} {M : jv_Mem} {N cr sr : Nat} {Z : Option Value → jv_Mem → Nat → Prop} {a0 : Nat} {x2 : Int32} (h : jv_Tg 11 a0 N ∧ vp_in 80 (jv_sh a0).2 ∧ ((81 + (7 * (Prod.fst M a0 (Int32.toNatClampNeg 80)))) ≤ x2 → Z none M N) ∧ (¬ ((81 + (7 * (Prod.fst M a0 (Int32.toNatClampNeg 80)))) ≤ x2) → jv_Tg 11 a0 N ∧ vp_in (x2 + 7) (jv_sh a0).2 ∧ jv_Tg 11 a0 N ∧ vp_in x2 (jv_sh a0).2 ∧ jv_J g d mt_M_dropOrder 16 [some (.ref a0), none, some (.int (x2 + 1))] [] (jv_si M a0 (Int32.toNatClampNeg x2) (Prod.fst M a0 (Int32.toNatClampNeg (x2 + 7)))) N cr sr Z)) : jv_J g d mt_M_dropOrder 16 [some (.ref a0), none, some (.int x2)] [] M N cr sr Z := by
  refine jv_iload_n d_M_dropOrder_16 rfl rfl ?_
  refine jv_bipush (v := 81) d_M_dropOrder_17 (by decide) ?_
  refine jv_bipush (v := 7) d_M_dropOrder_19 (by decide) ?_
  refine jv_aload_n d_M_dropOrder_21 rfl rfl ?_
  refine jv_bipush (v := 80) d_M_dropOrder_22 (by decide) ?_
  obtain ⟨q1, q2, h⟩ := h
  refine jv_iald d_M_dropOrder_24 q1 q2 ?_
  refine jv_imul d_M_dropOrder_25 ?_
  refine jv_iadd d_M_dropOrder_26 ?_
  refine jv_icmp_ge (tgt := 45) d_M_dropOrder_27 (by decide) ⟨fun c => ?_, fun c => ?_⟩
  · replace h := h.1 c
    exact jv_ret d_M_dropOrder_45 rfl h
  · replace h := h.2 c
    refine jv_aload_n d_M_dropOrder_30 rfl rfl ?_
    refine jv_iload_n d_M_dropOrder_31 rfl rfl ?_
    refine jv_aload_n d_M_dropOrder_32 rfl rfl ?_
    refine jv_iload_n d_M_dropOrder_33 rfl rfl ?_
    refine jv_bipush (v := 7) d_M_dropOrder_34 (by decide) ?_
    refine jv_iadd d_M_dropOrder_36 ?_
    obtain ⟨q3, q4, h⟩ := h
    refine jv_iald d_M_dropOrder_37 q3 q4 ?_
    obtain ⟨q5, q6, h⟩ := h
    refine jv_iast d_M_dropOrder_38 q5 q6 ?_
    refine jv_iinc (v := (x2 + 1)) (L' := [some (.ref a0), none, some (.int (x2 + 1))]) d_M_dropOrder_39 rfl rfl (Nat.le_of_ble_eq_true rfl) rfl ?_
    refine jv_goto (tgt := 16) d_M_dropOrder_42 (by decide) ?_
    exact h
