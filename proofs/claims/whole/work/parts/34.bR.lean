/-! ===== blocks ===== -/
theorem b_R_init_0 {g : jv_G} {d : Nat} {M : jv_Mem} {N cr sr : Nat} {Z : Option Value → jv_Mem → Nat → Prop} {a0 : Nat} (h : jv_sh N = (7, 6) ∧ 1 ≤ cr ∧ 6 ≤ sr ∧ ∃ c5 s6 : Nat, c5 ≤ (cr - 1) ∧ s6 ≤ (sr - 6) ∧ jv_Ct g d mt_T_init [.ref N] (jv_zero M N) (N + 1) c5 s6 (fun v M9 N9 => jv_rv v (jv_Tg 9 a0 N9 ∧ jv_sh N9 = (4, 4) ∧ 1 ≤ ((cr - 1) - c5) ∧ 4 ≤ ((sr - 6) - s6) ∧ ∃ c15 s16 : Nat, c15 ≤ (((cr - 1) - c5) - 1) ∧ s16 ≤ (((sr - 6) - s6) - 4) ∧ jv_Ct g d mt_P_init [.ref N9] (jv_zero (jv_sr M9 a0 0 (some N)) N9) (N9 + 1) c15 s16 (fun v M19 N19 => jv_rv v (jv_Tg 9 a0 N19 ∧ jv_sh N19 = (6, 8) ∧ 1 ≤ ((((cr - 1) - c5) - 1) - c15) ∧ 8 ≤ ((((sr - 6) - s6) - 4) - s16) ∧ ∃ c25 s26 : Nat, c25 ≤ (((((cr - 1) - c5) - 1) - c15) - 1) ∧ s26 ≤ (((((sr - 6) - s6) - 4) - s16) - 8) ∧ jv_Ct g d mt_S_init [.ref N19] (jv_zero (jv_sr M19 a0 1 (some N9)) N19) (N19 + 1) c25 s26 (fun v M29 N29 => jv_rv v (jv_Tg 9 a0 N29 ∧ jv_sh N29 = (6, 8) ∧ 1 ≤ ((((((cr - 1) - c5) - 1) - c15) - 1) - c25) ∧ 8 ≤ ((((((sr - 6) - s6) - 4) - s16) - 8) - s26) ∧ ∃ c35 s36 : Nat, c35 ≤ (((((((cr - 1) - c5) - 1) - c15) - 1) - c25) - 1) ∧ s36 ≤ (((((((sr - 6) - s6) - 4) - s16) - 8) - s26) - 8) ∧ jv_Ct g d mt_S_init [.ref N29] (jv_zero (jv_sr M29 a0 2 (some N19)) N29) (N29 + 1) c35 s36 (fun v M39 N39 => jv_rv v (jv_Tg 9 a0 N39 ∧ jv_sh N39 = (3, 3) ∧ 1 ≤ ((((((((cr - 1) - c5) - 1) - c15) - 1) - c25) - 1) - c35) ∧ 3 ≤ ((((((((sr - 6) - s6) - 4) - s16) - 8) - s26) - 8) - s36) ∧ ∃ c45 s46 : Nat, c45 ≤ (((((((((cr - 1) - c5) - 1) - c15) - 1) - c25) - 1) - c35) - 1) ∧ s46 ≤ (((((((((sr - 6) - s6) - 4) - s16) - 8) - s26) - 8) - s36) - 3) ∧ jv_Ct g d mt_A_init [.ref N39] (jv_zero (jv_sr M39 a0 3 (some N29)) N39) (N39 + 1) c45 s46 (fun v M49 N49 => jv_rv v (jv_Tg 9 a0 N49 ∧ jv_sh N49 = (15, 2) ∧ 1 ≤ ((((((((((cr - 1) - c5) - 1) - c15) - 1) - c25) - 1) - c35) - 1) - c45) ∧ 2 ≤ ((((((((((sr - 6) - s6) - 4) - s16) - 8) - s26) - 8) - s36) - 3) - s46) ∧ jv_Tg 9 a0 (N49 + 1) ∧ jv_sh (N49 + 1) = (12, 2) ∧ 1 ≤ (((((((((((cr - 1) - c5) - 1) - c15) - 1) - c25) - 1) - c35) - 1) - c45) - 1) ∧ 2 ≤ (((((((((((sr - 6) - s6) - 4) - s16) - 8) - s26) - 8) - s36) - 3) - s46) - 2) ∧ jv_Tg 9 a0 ((N49 + 1) + 1) ∧ jv_sh ((N49 + 1) + 1) = (5, 4) ∧ 1 ≤ ((((((((((((cr - 1) - c5) - 1) - c15) - 1) - c25) - 1) - c35) - 1) - c45) - 1) - 1) ∧ 4 ≤ ((((((((((((sr - 6) - s6) - 4) - s16) - 8) - s26) - 8) - s36) - 3) - s46) - 2) - 2) ∧ ∃ c63 s64 : Nat, c63 ≤ (((((((((((((cr - 1) - c5) - 1) - c15) - 1) - c25) - 1) - c35) - 1) - c45) - 1) - 1) - 1) ∧ s64 ≤ (((((((((((((sr - 6) - s6) - 4) - s16) - 8) - s26) - 8) - s36) - 3) - s46) - 2) - 2) - 4) ∧ jv_Ct g d mt_G_init [.ref ((N49 + 1) + 1)] (jv_zero (jv_sr (jv_zero (jv_sr (jv_zero (jv_sr M49 a0 4 (some N39)) N49) a0 5 (some N49)) (N49 + 1)) a0 6 (some (N49 + 1))) ((N49 + 1) + 1)) (((N49 + 1) + 1) + 1) c63 s64 (fun v M67 N67 => jv_rv v (jv_Tg 9 a0 N67 ∧ jv_sh N67 = (11, 64) ∧ 1 ≤ ((((((((((((((cr - 1) - c5) - 1) - c15) - 1) - c25) - 1) - c35) - 1) - c45) - 1) - 1) - 1) - c63) ∧ 64 ≤ ((((((((((((((sr - 6) - s6) - 4) - s16) - 8) - s26) - 8) - s36) - 3) - s46) - 2) - 2) - 4) - s64) ∧ jv_Tg 9 a0 (N67 + 1) ∧ jv_J g (d + 1) mt_R_init 95 [some (.ref a0), some (.int 0)] [] (jv_sr (jv_zero (jv_sr M67 a0 7 (some ((N49 + 1) + 1))) N67) a0 8 (some N67)) (N67 + 1) (((((((((((((((cr - 1) - c5) - 1) - c15) - 1) - c25) - 1) - c35) - 1) - c45) - 1) - 1) - 1) - c63) - 1) (((((((((((((((sr - 6) - s6) - 4) - s16) - 8) - s26) - 8) - s36) - 3) - s46) - 2) - 2) - 4) - s64) - 64) Z))))))))))))) : jv_J g (d + 1) mt_R_init 0 [some (.ref a0), none] [] M N cr sr Z := by
  refine jv_aload_n d_R_init_0 rfl rfl ?_
  refine jv_objI d_R_init_1 oi_R_1 oi_w2 oi_w3 (Nat.le_of_ble_eq_true rfl) ?_
  refine jv_aload_n d_R_init_4 rfl rfl ?_
  obtain ⟨q1, q2, q3, h⟩ := h
  refine jv_new (t := 7) (n := 6) _ d_R_init_5 rfl rfl cl_R_7 ins_T ini_T q1 (Nat.sub_add_cancel q2) (Nat.sub_add_cancel q3) ?_
  refine jv_dup d_R_init_8 rfl ?_
  obtain ⟨c5, s6, q7, q8, h⟩ := h
  refine jv_invIN [] [.ref N, .ref a0] d_R_init_9 ml_R_9 rfl (Nat.le_of_ble_eq_true rfl) (Nat.add_sub_cancel' q7) (Nat.add_sub_cancel' q8) (jv_Ct.mono h (fun v M9 N9 h => ?_))
  obtain ⟨rfl, h⟩ := h
  change jv_J g (d + 1) mt_R_init 12 [some (.ref a0), none] [.ref N, .ref a0] M9 N9 ((cr - 1) - c5) ((sr - 6) - s6) Z
  obtain ⟨q10, h⟩ := h
  refine jv_putR d_R_init_12 fl_R_10 rfl (fun r hr => by cases hr; exact Or.inr ⟨rfl, rfl, rfl⟩) q10 ?_
  refine jv_aload_n d_R_init_15 rfl rfl ?_
  obtain ⟨q11, q12, q13, h⟩ := h
  refine jv_new (t := 4) (n := 4) _ d_R_init_16 rfl rfl cl_R_16 ins_P ini_P q11 (Nat.sub_add_cancel q12) (Nat.sub_add_cancel q13) ?_
  refine jv_dup d_R_init_19 rfl ?_
  obtain ⟨c15, s16, q17, q18, h⟩ := h
  refine jv_invIN [] [.ref N9, .ref a0] d_R_init_20 ml_R_18 rfl (Nat.le_of_ble_eq_true rfl) (Nat.add_sub_cancel' q17) (Nat.add_sub_cancel' q18) (jv_Ct.mono h (fun v M19 N19 h => ?_))
  obtain ⟨rfl, h⟩ := h
  change jv_J g (d + 1) mt_R_init 23 [some (.ref a0), none] [.ref N9, .ref a0] M19 N19 ((((cr - 1) - c5) - 1) - c15) ((((sr - 6) - s6) - 4) - s16) Z
  obtain ⟨q20, h⟩ := h
  refine jv_putR d_R_init_23 fl_R_19 rfl (fun r hr => by cases hr; exact Or.inr ⟨rfl, rfl, rfl⟩) q20 ?_
  refine jv_aload_n d_R_init_26 rfl rfl ?_
  obtain ⟨q21, q22, q23, h⟩ := h
  refine jv_new (t := 6) (n := 8) _ d_R_init_27 rfl rfl cl_R_23 ins_S ini_S q21 (Nat.sub_add_cancel q22) (Nat.sub_add_cancel q23) ?_
  refine jv_dup d_R_init_30 rfl ?_
  obtain ⟨c25, s26, q27, q28, h⟩ := h
  refine jv_invI [] [.ref N19, .ref a0] d_R_init_31 ml_R_25 rfl (Nat.le_of_ble_eq_true rfl) (Nat.add_sub_cancel' q27) (Nat.add_sub_cancel' q28) (jv_Ct.mono h (fun v M29 N29 h => ?_))
  obtain ⟨rfl, h⟩ := h
  change jv_J g (d + 1) mt_R_init 34 [some (.ref a0), none] [.ref N19, .ref a0] M29 N29 ((((((cr - 1) - c5) - 1) - c15) - 1) - c25) ((((((sr - 6) - s6) - 4) - s16) - 8) - s26) Z
  obtain ⟨q30, h⟩ := h
  refine jv_putR d_R_init_34 fl_R_26 rfl (fun r hr => by cases hr; exact Or.inr ⟨rfl, rfl, rfl⟩) q30 ?_
  refine jv_aload_n d_R_init_37 rfl rfl ?_
  obtain ⟨q31, q32, q33, h⟩ := h
  refine jv_new (t := 6) (n := 8) _ d_R_init_38 rfl rfl cl_R_23 ins_S ini_S q31 (Nat.sub_add_cancel q32) (Nat.sub_add_cancel q33) ?_
  refine jv_dup d_R_init_41 rfl ?_
  obtain ⟨c35, s36, q37, q38, h⟩ := h
  refine jv_invI [] [.ref N29, .ref a0] d_R_init_42 ml_R_25 rfl (Nat.le_of_ble_eq_true rfl) (Nat.add_sub_cancel' q37) (Nat.add_sub_cancel' q38) (jv_Ct.mono h (fun v M39 N39 h => ?_))
  obtain ⟨rfl, h⟩ := h
  change jv_J g (d + 1) mt_R_init 45 [some (.ref a0), none] [.ref N29, .ref a0] M39 N39 ((((((((cr - 1) - c5) - 1) - c15) - 1) - c25) - 1) - c35) ((((((((sr - 6) - s6) - 4) - s16) - 8) - s26) - 8) - s36) Z
  obtain ⟨q40, h⟩ := h
  refine jv_putR d_R_init_45 fl_R_30 rfl (fun r hr => by cases hr; exact Or.inr ⟨rfl, rfl, rfl⟩) q40 ?_
  refine jv_aload_n d_R_init_48 rfl rfl ?_
  obtain ⟨q41, q42, q43, h⟩ := h
  refine jv_new (t := 3) (n := 3) _ d_R_init_49 rfl rfl cl_R_33 ins_A ini_A q41 (Nat.sub_add_cancel q42) (Nat.sub_add_cancel q43) ?_
  refine jv_dup d_R_init_52 rfl ?_
  obtain ⟨c45, s46, q47, q48, h⟩ := h
  refine jv_invI [] [.ref N39, .ref a0] d_R_init_53 ml_R_35 rfl (Nat.le_of_ble_eq_true rfl) (Nat.add_sub_cancel' q47) (Nat.add_sub_cancel' q48) (jv_Ct.mono h (fun v M49 N49 h => ?_))
  obtain ⟨rfl, h⟩ := h
  change jv_J g (d + 1) mt_R_init 56 [some (.ref a0), none] [.ref N39, .ref a0] M49 N49 ((((((((((cr - 1) - c5) - 1) - c15) - 1) - c25) - 1) - c35) - 1) - c45) ((((((((((sr - 6) - s6) - 4) - s16) - 8) - s26) - 8) - s36) - 3) - s46) Z
  obtain ⟨q50, h⟩ := h
  refine jv_putR d_R_init_56 fl_R_36 rfl (fun r hr => by cases hr; exact Or.inr ⟨rfl, rfl, rfl⟩) q50 ?_
  refine jv_aload_n d_R_init_59 rfl rfl ?_
  refine jv_iconst (v := 2) d_R_init_60 (by decide) ?_
  obtain ⟨q51, q52, q53, h⟩ := h
  refine jv_newR (t := 15) (n := 2) _ d_R_init_61 (by decide) rfl cl_R_23 (by decide) (by decide) (by decide) q51 (Nat.sub_add_cancel q52) (Nat.sub_add_cancel q53) ?_
  obtain ⟨q54, h⟩ := h
  refine jv_putR d_R_init_64 fl_R_40 rfl (fun r hr => by cases hr; exact Or.inr ⟨rfl, rfl, rfl⟩) q54 ?_
  refine jv_aload_n d_R_init_67 rfl rfl ?_
  refine jv_iconst (v := 2) d_R_init_68 (by decide) ?_
  obtain ⟨q55, q56, q57, h⟩ := h
  refine jv_newZ (n := 2) d_R_init_69 arr_boolean (by decide) (by decide) (by decide) q55 (Nat.sub_add_cancel q56) (Nat.sub_add_cancel q57) ?_
  obtain ⟨q58, h⟩ := h
  refine jv_putR d_R_init_71 fl_R_44 rfl (fun r hr => by cases hr; exact Or.inr ⟨rfl, rfl, rfl⟩) q58 ?_
  refine jv_aload_n d_R_init_74 rfl rfl ?_
  obtain ⟨q59, q60, q61, h⟩ := h
  refine jv_new (t := 5) (n := 4) _ d_R_init_75 rfl rfl cl_R_48 ins_G ini_G q59 (Nat.sub_add_cancel q60) (Nat.sub_add_cancel q61) ?_
  refine jv_dup d_R_init_78 rfl ?_
  obtain ⟨c63, s64, q65, q66, h⟩ := h
  refine jv_invIN [] [.ref ((N49 + 1) + 1), .ref a0] d_R_init_79 ml_R_50 rfl (Nat.le_of_ble_eq_true rfl) (Nat.add_sub_cancel' q65) (Nat.add_sub_cancel' q66) (jv_Ct.mono h (fun v M67 N67 h => ?_))
  obtain ⟨rfl, h⟩ := h
  change jv_J g (d + 1) mt_R_init 82 [some (.ref a0), none] [.ref ((N49 + 1) + 1), .ref a0] M67 N67 ((((((((((((((cr - 1) - c5) - 1) - c15) - 1) - c25) - 1) - c35) - 1) - c45) - 1) - 1) - 1) - c63) ((((((((((((((sr - 6) - s6) - 4) - s16) - 8) - s26) - 8) - s36) - 3) - s46) - 2) - 2) - 4) - s64) Z
  obtain ⟨q68, h⟩ := h
  refine jv_putR d_R_init_82 fl_R_51 rfl (fun r hr => by cases hr; exact Or.inr ⟨rfl, rfl, rfl⟩) q68 ?_
  refine jv_aload_n d_R_init_85 rfl rfl ?_
  refine jv_bipush (v := 64) d_R_init_86 (by decide) ?_
  obtain ⟨q69, q70, q71, h⟩ := h
  refine jv_newI (n := 64) d_R_init_88 arr_int (by decide) (by decide) (by decide) q69 (Nat.sub_add_cancel q70) (Nat.sub_add_cancel q71) ?_
  obtain ⟨q72, h⟩ := h
  refine jv_putR d_R_init_90 fl_R_55 rfl (fun r hr => by cases hr; exact Or.inr ⟨rfl, rfl, rfl⟩) q72 ?_
  refine jv_iconst (v := 0) d_R_init_93 (by decide) ?_
  refine jv_istore_n (L' := [some (.ref a0), some (.int 0)]) d_R_init_94 rfl (Nat.le_of_ble_eq_true rfl) rfl ?_
  exact h
theorem b_R_init_95 {g : jv_G} {d : Nat} {M : jv_Mem} {N cr sr : Nat} {Z : Option Value → jv_Mem → Nat → Prop} {a0 : Nat} {x1 : Int32} (h : (2 ≤ x1 → Z none M N) ∧ (¬ (2 ≤ x1) → jv_Tg 9 a0 N ∧ ∃ b2, Prod.fst (Prod.snd M) a0 5 = some b2 ∧ jv_sh N = (6, 8) ∧ 1 ≤ cr ∧ 8 ≤ sr ∧ ∃ c8 s9 : Nat, c8 ≤ (cr - 1) ∧ s9 ≤ (sr - 8) ∧ jv_Ct g d mt_S_init [.ref N] (jv_zero M N) (N + 1) c8 s9 (fun v M12 N12 => jv_rv v (jv_Tg 15 b2 N12 ∧ vp_in x1 (jv_sh b2).2 ∧ jv_Tg 6 N N12 ∧ jv_J g (d + 1) mt_R_init 95 [some (.ref a0), some (.int (x1 + 1))] [] (jv_sr M12 b2 (Int32.toNatClampNeg x1) (some N)) N12 ((cr - 1) - c8) ((sr - 8) - s9) Z)))) : jv_J g (d + 1) mt_R_init 95 [some (.ref a0), some (.int x1)] [] M N cr sr Z := by
  refine jv_iload_n d_R_init_95 rfl rfl ?_
  refine jv_iconst (v := 2) d_R_init_96 (by decide) ?_
  refine jv_icmp_ge (tgt := 119) d_R_init_97 (by decide) ⟨fun c => ?_, fun c => ?_⟩
  · replace h := h.1 c
    exact jv_ret d_R_init_119 rfl h
  · replace h := h.2 c
    refine jv_aload_n d_R_init_100 rfl rfl ?_
    obtain ⟨q1, h⟩ := h
    obtain ⟨b2, e3, h⟩ := h
    refine jv_getR d_R_init_101 fl_R_40 rfl q1 e3 ?_
    refine jv_iload_n d_R_init_104 rfl rfl ?_
    obtain ⟨q4, q5, q6, h⟩ := h
    refine jv_new (t := 6) (n := 8) _ d_R_init_105 rfl rfl cl_R_23 ins_S ini_S q4 (Nat.sub_add_cancel q5) (Nat.sub_add_cancel q6) ?_
    refine jv_dup d_R_init_108 rfl ?_
    obtain ⟨c8, s9, q10, q11, h⟩ := h
    refine jv_invI [] [.ref N, .int x1, .ref b2] d_R_init_109 ml_R_25 rfl (Nat.le_of_ble_eq_true rfl) (Nat.add_sub_cancel' q10) (Nat.add_sub_cancel' q11) (jv_Ct.mono h (fun v M12 N12 h => ?_))
    obtain ⟨rfl, h⟩ := h
    change jv_J g (d + 1) mt_R_init 112 [some (.ref a0), some (.int x1)] [.ref N, .int x1, .ref b2] M12 N12 ((cr - 1) - c8) ((sr - 8) - s9) Z
    obtain ⟨q13, q14, q15, h⟩ := h
    refine jv_aast (t := 15) d_R_init_112 (by decide) q13 q14 q15 ?_
    refine jv_iinc (v := (x1 + 1)) (L' := [some (.ref a0), some (.int (x1 + 1))]) d_R_init_113 rfl rfl (Nat.le_of_ble_eq_true rfl) rfl ?_
    refine jv_goto (tgt := 95) d_R_init_116 (by decide) ?_
    exact h
theorem b_R_write_0 {g : jv_G} {d : Nat} {M : jv_Mem} {N cr sr : Nat} {Z : Option Value → jv_Mem → Nat → Prop} {a0 : Nat} {x1 : Int32} (h : (x1 < 0 → Z (some (.int (-2))) M N) ∧ (¬ (x1 < 0) → (x1 < 256 → jv_Tg 9 a0 N ∧ ∃ b2, Prod.fst (Prod.snd M) a0 0 = some b2 ∧ jv_Tg 7 b2 N ∧ jv_Ct g d mt_T_append [.ref b2, .int x1] M N 0 0 (fun v M6 N6 => jv_ri v (fun r5 => (r5 = 0 → Z (some (.int (-4))) M6 N6) ∧ (¬ (r5 = 0) → jv_Tg 9 a0 N6 ∧ ∃ b8, Prod.fst (Prod.snd M6) a0 0 = some b8 ∧ jv_Tg 7 b8 N6 ∧ Z (some (.int (Prod.fst M6 b8 1))) M6 N6)))) ∧ (¬ (x1 < 256) → Z (some (.int (-2))) M N))) : jv_J g (d + 1) mt_R_write 0 [some (.ref a0), some (.int x1)] [] M N cr sr Z := by
  refine jv_iload_n d_R_write_0 rfl rfl ?_
  refine jv_if_lt (tgt := 11) d_R_write_1 (by decide) ⟨fun c => ?_, fun c => ?_⟩
  · replace h := h.1 c
    refine jv_bipush (v := (-2)) d_R_write_11 (by decide) ?_
    exact jv_iret d_R_write_13 rfl rfl h
  · replace h := h.2 c
    refine jv_iload_n d_R_write_4 rfl rfl ?_
    refine jv_sipush (v := 256) d_R_write_5 (by decide) ?_
    refine jv_icmp_lt (tgt := 14) d_R_write_8 (by decide) ⟨fun c => ?_, fun c => ?_⟩
    · replace h := h.1 c
      refine jv_aload_n d_R_write_14 rfl rfl ?_
      obtain ⟨q1, h⟩ := h
      obtain ⟨b2, e3, h⟩ := h
      refine jv_getR d_R_write_15 fl_R_10 rfl q1 e3 ?_
      refine jv_iload_n d_R_write_18 rfl rfl ?_
      obtain ⟨q4, h⟩ := h
      refine jv_invV [.int x1] [] d_R_write_19 ml_R_59 q4 rfl (Nat.le_of_ble_eq_true rfl) (Nat.zero_add _) (Nat.zero_add _) (jv_Ct.mono h (fun v M6 N6 h => ?_))
      obtain ⟨r5, rfl, h⟩ := h
      change jv_J g (d + 1) mt_R_write 22 [some (.ref a0), some (.int x1)] [.int r5] M6 N6 cr sr Z
      refine jv_if_eq (tgt := 35) d_R_write_22 (by decide) ⟨fun c => ?_, fun c => ?_⟩
      · replace h := h.1 c
        refine jv_bipush (v := (-4)) d_R_write_35 (by decide) ?_
        exact jv_iret d_R_write_37 rfl rfl h
      · replace h := h.2 c
        refine jv_aload_n d_R_write_25 rfl rfl ?_
        obtain ⟨q7, h⟩ := h
        obtain ⟨b8, e9, h⟩ := h
        refine jv_getR d_R_write_26 fl_R_10 rfl q7 e9 ?_
        obtain ⟨q10, h⟩ := h
        refine jv_getI d_R_write_29 fl_R_63 rfl q10 ?_
        refine jv_goto (tgt := 37) d_R_write_32 (by decide) ?_
        exact jv_iret d_R_write_37 rfl rfl h
    · replace h := h.2 c
      refine jv_bipush (v := (-2)) d_R_write_11 (by decide) ?_
      exact jv_iret d_R_write_13 rfl rfl h
theorem b_R_wipe_0 {g : jv_G} {d : Nat} {M : jv_Mem} {N cr sr : Nat} {Z : Option Value → jv_Mem → Nat → Prop} {a0 : Nat} (h : jv_Tg 9 a0 N ∧ ∃ b2, Prod.fst (Prod.snd M) a0 0 = some b2 ∧ jv_Tg 7 b2 N ∧ jv_Tg 9 a0 N ∧ ∃ b6, Prod.fst (Prod.snd M) a0 0 = some b6 ∧ jv_Tg 7 b6 N ∧ Z (some (.int (Prod.fst M b2 1))) (jv_si M b6 1 0) N) : jv_J g d mt_R_wipe 0 [some (.ref a0), none] [] M N cr sr Z := by
  refine jv_aload_n d_R_wipe_0 rfl rfl ?_
  obtain ⟨q1, h⟩ := h
  obtain ⟨b2, e3, h⟩ := h
  refine jv_getR d_R_wipe_1 fl_R_10 rfl q1 e3 ?_
  obtain ⟨q4, h⟩ := h
  refine jv_getI d_R_wipe_4 fl_R_63 rfl q4 ?_
  refine jv_istore_n (L' := [some (.ref a0), some (.int (Prod.fst M b2 1))]) d_R_wipe_7 rfl (Nat.le_of_ble_eq_true rfl) rfl ?_
  refine jv_aload_n d_R_wipe_8 rfl rfl ?_
  obtain ⟨q5, h⟩ := h
  obtain ⟨b6, e7, h⟩ := h
  refine jv_getR d_R_wipe_9 fl_R_10 rfl q5 e7 ?_
  refine jv_iconst (v := 0) d_R_wipe_12 (by decide) ?_
  obtain ⟨q8, h⟩ := h
  refine jv_putI d_R_wipe_13 fl_R_63 (fun r hr => by cases hr; rfl) rfl q8 ?_
  refine jv_iload_n d_R_wipe_16 rfl rfl ?_
  exact jv_iret d_R_wipe_17 rfl rfl h
theorem b_R_fault_0 {g : jv_G} {d : Nat} {M : jv_Mem} {N cr sr : Nat} {Z : Option Value → jv_Mem → Nat → Prop} {a0 : Nat} (h : jv_Tg 9 a0 N ∧ ∃ b2, Prod.fst (Prod.snd M) a0 0 = some b2 ∧ jv_Tg 7 b2 N ∧ jv_Ct g d mt_T_findFault [.ref b2] M N 0 0 (fun v M6 N6 => jv_ri v (fun r5 => Z (some (.int r5)) M6 N6))) : jv_J g (d + 1) mt_R_fault 0 [some (.ref a0)] [] M N cr sr Z := by
  refine jv_aload_n d_R_fault_0 rfl rfl ?_
  obtain ⟨q1, h⟩ := h
  obtain ⟨b2, e3, h⟩ := h
  refine jv_getR d_R_fault_1 fl_R_10 rfl q1 e3 ?_
  obtain ⟨q4, h⟩ := h
  refine jv_invV [] [] d_R_fault_4 ml_R_67 q4 rfl (Nat.le_of_ble_eq_true rfl) (Nat.zero_add _) (Nat.zero_add _) (jv_Ct.mono h (fun v M6 N6 h => ?_))
  obtain ⟨r5, rfl, h⟩ := h
  change jv_J g (d + 1) mt_R_fault 7 [some (.ref a0)] [.int r5] M6 N6 cr sr Z
  exact jv_iret d_R_fault_7 rfl rfl h
theorem b_R_isBelow_0 {g : jv_G} {d : Nat} {M : jv_Mem} {N cr sr : Nat} {Z : Option Value → jv_Mem → Nat → Prop} {x0 : Int32} {x1 : Int32} (h : (x0 < 0 → Z (some (.int 0)) M N) ∧ (¬ (x0 < 0) → (x1 ≤ x0 → Z (some (.int 0)) M N) ∧ (¬ (x1 ≤ x0) → Z (some (.int 1)) M N))) : jv_J g d mt_R_isBelow 0 [some (.int x0), some (.int x1)] [] M N cr sr Z := by
  refine jv_iload_n d_R_isBelow_0 rfl rfl ?_
  refine jv_if_lt (tgt := 13) d_R_isBelow_1 (by decide) ⟨fun c => ?_, fun c => ?_⟩
  · replace h := h.1 c
    refine jv_iconst (v := 0) d_R_isBelow_13 (by decide) ?_
    exact jv_iret d_R_isBelow_14 rfl (jv_nz (by decide)) h
  · replace h := h.2 c
    refine jv_iload_n d_R_isBelow_4 rfl rfl ?_
    refine jv_iload_n d_R_isBelow_5 rfl rfl ?_
    refine jv_icmp_ge (tgt := 13) d_R_isBelow_6 (by decide) ⟨fun c => ?_, fun c => ?_⟩
    · replace h := h.1 c
      refine jv_iconst (v := 0) d_R_isBelow_13 (by decide) ?_
      exact jv_iret d_R_isBelow_14 rfl (jv_nz (by decide)) h
    · replace h := h.2 c
      refine jv_iconst (v := 1) d_R_isBelow_9 (by decide) ?_
      refine jv_goto (tgt := 14) d_R_isBelow_10 (by decide) ?_
      exact jv_iret d_R_isBelow_14 rfl (jv_nz (by decide)) h
theorem b_R_board_0 {g : jv_G} {d : Nat} {M : jv_Mem} {N cr sr : Nat} {Z : Option Value → jv_Mem → Nat → Prop} {a0 : Nat} (h : jv_Tg 9 a0 N ∧ ∃ b2, Prod.fst (Prod.snd M) a0 0 = some b2 ∧ jv_Tg 7 b2 N ∧ jv_Ct g d mt_T_findFault [.ref b2] M N 0 0 (fun v M6 N6 => jv_ri v (fun r5 => (r5 = (-9) → jv_Tg 9 a0 N6 ∧ ∃ b8, Prod.fst (Prod.snd M6) a0 1 = some b8 ∧ jv_Tg 9 a0 N6 ∧ ∃ b11, Prod.fst (Prod.snd M6) a0 0 = some b11 ∧ jv_Tg 7 b11 N6 ∧ ∃ b14, Prod.fst (Prod.snd M6) b11 2 = some b14 ∧ jv_Tg 4 b8 N6 ∧ jv_Ct g d mt_P_copyFrom [.ref b8, .ref b14] M6 N6 0 0 (fun v M18 N18 => jv_rv v (jv_Tg 9 a0 N18 ∧ ∃ b20, Prod.fst (Prod.snd M18) a0 2 = some b20 ∧ jv_Tg 9 a0 N18 ∧ ∃ b23, Prod.fst (Prod.snd M18) a0 0 = some b23 ∧ jv_Tg 7 b23 N18 ∧ ∃ b26, Prod.fst (Prod.snd M18) b23 3 = some b26 ∧ jv_Tg 6 b20 N18 ∧ jv_Ct g d mt_S_copyFrom [.ref b20, .ref b26] M18 N18 0 0 (fun v M30 N30 => jv_rv v (jv_Tg 9 a0 N30 ∧ ∃ b32, Prod.fst (Prod.snd M30) a0 4 = some b32 ∧ jv_Tg 3 b32 N30 ∧ jv_Ct g d mt_A_forget [.ref b32] M30 N30 0 0 (fun v M36 N36 => jv_rv v (jv_J g (d + 1) mt_R_board 52 [some (.ref a0), some (.int 0)] [] M36 N36 cr sr Z))))))) ∧ (¬ (r5 = (-9)) → Z (some (.int (-3))) M6 N6)))) : jv_J g (d + 1) mt_R_board 0 [some (.ref a0), none] [] M N cr sr Z := by
  refine jv_aload_n d_R_board_0 rfl rfl ?_
  obtain ⟨q1, h⟩ := h
  obtain ⟨b2, e3, h⟩ := h
  refine jv_getR d_R_board_1 fl_R_10 rfl q1 e3 ?_
  obtain ⟨q4, h⟩ := h
  refine jv_invV [] [] d_R_board_4 ml_R_67 q4 rfl (Nat.le_of_ble_eq_true rfl) (Nat.zero_add _) (Nat.zero_add _) (jv_Ct.mono h (fun v M6 N6 h => ?_))
  obtain ⟨r5, rfl, h⟩ := h
  change jv_J g (d + 1) mt_R_board 7 [some (.ref a0), none] [.int r5] M6 N6 cr sr Z
  refine jv_bipush (v := (-9)) d_R_board_7 (by decide) ?_
  refine jv_icmp_eq (tgt := 15) d_R_board_9 (by decide) ⟨fun c => ?_, fun c => ?_⟩
  · replace h := h.1 c
    refine jv_aload_n d_R_board_15 rfl rfl ?_
    obtain ⟨q7, h⟩ := h
    obtain ⟨b8, e9, h⟩ := h
    refine jv_getR d_R_board_16 fl_R_19 rfl q7 e9 ?_
    refine jv_aload_n d_R_board_19 rfl rfl ?_
    obtain ⟨q10, h⟩ := h
    obtain ⟨b11, e12, h⟩ := h
    refine jv_getR d_R_board_20 fl_R_10 rfl q10 e12 ?_
    obtain ⟨q13, h⟩ := h
    obtain ⟨b14, e15, h⟩ := h
    refine jv_getR d_R_board_23 fl_R_71 rfl q13 e15 ?_
    obtain ⟨q16, h⟩ := h
    refine jv_invV [.ref b14] [] d_R_board_26 ml_R_72 q16 rfl (Nat.le_of_ble_eq_true rfl) (Nat.zero_add _) (Nat.zero_add _) (jv_Ct.mono h (fun v M18 N18 h => ?_))
    obtain ⟨rfl, h⟩ := h
    change jv_J g (d + 1) mt_R_board 29 [some (.ref a0), none] [] M18 N18 cr sr Z
    refine jv_aload_n d_R_board_29 rfl rfl ?_
    obtain ⟨q19, h⟩ := h
    obtain ⟨b20, e21, h⟩ := h
    refine jv_getR d_R_board_30 fl_R_26 rfl q19 e21 ?_
    refine jv_aload_n d_R_board_33 rfl rfl ?_
    obtain ⟨q22, h⟩ := h
    obtain ⟨b23, e24, h⟩ := h
    refine jv_getR d_R_board_34 fl_R_10 rfl q22 e24 ?_
    obtain ⟨q25, h⟩ := h
    obtain ⟨b26, e27, h⟩ := h
    refine jv_getR d_R_board_37 fl_R_76 rfl q25 e27 ?_
    obtain ⟨q28, h⟩ := h
    refine jv_invV [.ref b26] [] d_R_board_40 ml_R_79 q28 rfl (Nat.le_of_ble_eq_true rfl) (Nat.zero_add _) (Nat.zero_add _) (jv_Ct.mono h (fun v M30 N30 h => ?_))
    obtain ⟨rfl, h⟩ := h
    change jv_J g (d + 1) mt_R_board 43 [some (.ref a0), none] [] M30 N30 cr sr Z
    refine jv_aload_n d_R_board_43 rfl rfl ?_
    obtain ⟨q31, h⟩ := h
    obtain ⟨b32, e33, h⟩ := h
    refine jv_getR d_R_board_44 fl_R_36 rfl q31 e33 ?_
    obtain ⟨q34, h⟩ := h
    refine jv_invV [] [] d_R_board_47 ml_R_82 q34 rfl (Nat.le_of_ble_eq_true rfl) (Nat.zero_add _) (Nat.zero_add _) (jv_Ct.mono h (fun v M36 N36 h => ?_))
    obtain ⟨rfl, h⟩ := h
    change jv_J g (d + 1) mt_R_board 50 [some (.ref a0), none] [] M36 N36 cr sr Z
    refine jv_iconst (v := 0) d_R_board_50 (by decide) ?_
    refine jv_istore_n (L' := [some (.ref a0), some (.int 0)]) d_R_board_51 rfl (Nat.le_of_ble_eq_true rfl) rfl ?_
    exact h
  · replace h := h.2 c
    refine jv_bipush (v := (-3)) d_R_board_12 (by decide) ?_
    exact jv_iret d_R_board_14 rfl rfl h
theorem b_R_board_52 {g : jv_G} {d : Nat} {M : jv_Mem} {N cr sr : Nat} {Z : Option Value → jv_Mem → Nat → Prop} {a0 : Nat} {x1 : Int32} (h : (2 ≤ x1 → jv_Tg 9 a0 N ∧ ∃ b2, Prod.fst (Prod.snd M) a0 2 = some b2 ∧ jv_Tg 6 b2 N ∧ Z (some (.int (Prod.fst M b2 4))) M N) ∧ (¬ (2 ≤ x1) → jv_Tg 9 a0 N ∧ ∃ b6, Prod.fst (Prod.snd M) a0 6 = some b6 ∧ jv_Tg 12 b6 N ∧ vp_in x1 (jv_sh b6).2 ∧ jv_J g (d + 1) mt_R_board 52 [some (.ref a0), some (.int (x1 + 1))] [] (jv_si M b6 (Int32.toNatClampNeg x1) 0) N cr sr Z)) : jv_J g (d + 1) mt_R_board 52 [some (.ref a0), some (.int x1)] [] M N cr sr Z := by
  refine jv_iload_n d_R_board_52 rfl rfl ?_
  refine jv_iconst (v := 2) d_R_board_53 (by decide) ?_
  refine jv_icmp_ge (tgt := 70) d_R_board_54 (by decide) ⟨fun c => ?_, fun c => ?_⟩
  · replace h := h.1 c
    refine jv_aload_n d_R_board_70 rfl rfl ?_
    obtain ⟨q1, h⟩ := h
    obtain ⟨b2, e3, h⟩ := h
    refine jv_getR d_R_board_71 fl_R_26 rfl q1 e3 ?_
    obtain ⟨q4, h⟩ := h
    refine jv_getI d_R_board_74 fl_R_85 rfl q4 ?_
    exact jv_iret d_R_board_77 rfl rfl h
  · replace h := h.2 c
    refine jv_aload_n d_R_board_57 rfl rfl ?_
    obtain ⟨q5, h⟩ := h
    obtain ⟨b6, e7, h⟩ := h
    refine jv_getR d_R_board_58 fl_R_44 rfl q5 e7 ?_
    refine jv_iload_n d_R_board_61 rfl rfl ?_
    refine jv_iconst (v := 0) d_R_board_62 (by decide) ?_
    obtain ⟨q8, q9, h⟩ := h
    refine jv_zast d_R_board_63 q8 q9 (by decide) ?_
    refine jv_iinc (v := (x1 + 1)) (L' := [some (.ref a0), some (.int (x1 + 1))]) d_R_board_64 rfl rfl (Nat.le_of_ble_eq_true rfl) rfl ?_
    refine jv_goto (tgt := 52) d_R_board_67 (by decide) ?_
    exact h
theorem b_R_hart_0 {g : jv_G} {d : Nat} {M : jv_Mem} {N cr sr : Nat} {Z : Option Value → jv_Mem → Nat → Prop} {a0 : Nat} {x1 : Int32} {x2 : Int32} (h : jv_Tg 9 a0 N ∧ jv_Ct g d mt_R_isHart [.ref a0, .int x1] M N 0 0 (fun v M3 N3 => jv_ri v (fun r2 => (r2 = 0 → Z (some (.int (-1))) M3 N3) ∧ (¬ (r2 = 0) → jv_Tg 9 a0 N3 ∧ ∃ b5, Prod.fst (Prod.snd M3) a0 2 = some b5 ∧ jv_Tg 6 b5 N3 ∧ ∃ b8, Prod.fst (Prod.snd M3) b5 1 = some b8 ∧ jv_Tg 13 b8 N3 ∧ vp_in x1 (jv_sh b8).2 ∧ ∃ b12, Prod.fst (Prod.snd M3) b8 (Int32.toNatClampNeg x1) = some b12 ∧ jv_Tg 1 b12 N3 ∧ jv_Ct g d mt_H_property [.ref b12, .int x2] M3 N3 0 0 (fun v M16 N16 => jv_ri v (fun r15 => Z (some (.int r15)) M16 N16)))))) : jv_J g (d + 1) mt_R_hart 0 [some (.ref a0), some (.int x1), some (.int x2)] [] M N cr sr Z := by
  refine jv_aload_n d_R_hart_0 rfl rfl ?_
  refine jv_iload_n d_R_hart_1 rfl rfl ?_
  obtain ⟨q1, h⟩ := h
  refine jv_invV [.int x1] [] d_R_hart_2 ml_R_88 q1 rfl (Nat.le_of_ble_eq_true rfl) (Nat.zero_add _) (Nat.zero_add _) (jv_Ct.mono h (fun v M3 N3 h => ?_))
  obtain ⟨r2, rfl, h⟩ := h
  change jv_J g (d + 1) mt_R_hart 5 [some (.ref a0), some (.int x1), some (.int x2)] [.int r2] M3 N3 cr sr Z
  refine jv_if_eq (tgt := 24) d_R_hart_5 (by decide) ⟨fun c => ?_, fun c => ?_⟩
  · replace h := h.1 c
    refine jv_iconst (v := (-1)) d_R_hart_24 (by decide) ?_
    exact jv_iret d_R_hart_25 rfl rfl h
  · replace h := h.2 c
    refine jv_aload_n d_R_hart_8 rfl rfl ?_
    obtain ⟨q4, h⟩ := h
    obtain ⟨b5, e6, h⟩ := h
    refine jv_getR d_R_hart_9 fl_R_26 rfl q4 e6 ?_
    obtain ⟨q7, h⟩ := h
    obtain ⟨b8, e9, h⟩ := h
    refine jv_getR d_R_hart_12 fl_R_91 rfl q7 e9 ?_
    refine jv_iload_n d_R_hart_15 rfl rfl ?_
    obtain ⟨q10, q11, b12, e13, h⟩ := h
    refine jv_aald (t := 13) d_R_hart_16 (by decide) q10 q11 e13 ?_
    refine jv_iload_n d_R_hart_17 rfl rfl ?_
    obtain ⟨q14, h⟩ := h
    refine jv_invV [.int x2] [] d_R_hart_18 ml_R_95 q14 rfl (Nat.le_of_ble_eq_true rfl) (Nat.zero_add _) (Nat.zero_add _) (jv_Ct.mono h (fun v M16 N16 h => ?_))
    obtain ⟨r15, rfl, h⟩ := h
    change jv_J g (d + 1) mt_R_hart 21 [some (.ref a0), some (.int x1), some (.int x2)] [.int r15] M16 N16 cr sr Z
    refine jv_goto (tgt := 25) d_R_hart_21 (by decide) ?_
    exact jv_iret d_R_hart_25 rfl rfl h
theorem b_R_isHart_0 {g : jv_G} {d : Nat} {M : jv_Mem} {N cr sr : Nat} {Z : Option Value → jv_Mem → Nat → Prop} {a0 : Nat} {x1 : Int32} (h : jv_Tg 9 a0 N ∧ ∃ b2, Prod.fst (Prod.snd M) a0 2 = some b2 ∧ jv_Tg 6 b2 N ∧ jv_Ct g d mt_R_isBelow [.int x1, .int (Prod.fst M b2 4)] M N 0 0 (fun v M6 N6 => jv_ri v (fun r5 => (r5 = 0 ∨ r5 = 1) ∧ Z (some (.int r5)) M6 N6))) : jv_J g (d + 1) mt_R_isHart 0 [some (.ref a0), some (.int x1)] [] M N cr sr Z := by
  refine jv_iload_n d_R_isHart_0 rfl rfl ?_
  refine jv_aload_n d_R_isHart_1 rfl rfl ?_
  obtain ⟨q1, h⟩ := h
  obtain ⟨b2, e3, h⟩ := h
  refine jv_getR d_R_isHart_2 fl_R_26 rfl q1 e3 ?_
  obtain ⟨q4, h⟩ := h
  refine jv_getI d_R_isHart_5 fl_R_85 rfl q4 ?_
  refine jv_invS [.int x1, .int (Prod.fst M b2 4)] [] d_R_isHart_8 ml_R_111 rfl (Nat.le_of_ble_eq_true rfl) (Nat.zero_add _) (Nat.zero_add _) (jv_Ct.mono h (fun v M6 N6 h => ?_))
  obtain ⟨r5, rfl, h⟩ := h
  change jv_J g (d + 1) mt_R_isHart 11 [some (.ref a0), some (.int x1)] [.int r5] M6 N6 cr sr Z
  exact jv_iret d_R_isHart_11 rfl (jv_nz h.1) h.2
theorem b_R_trigger_0 {g : jv_G} {d : Nat} {M : jv_Mem} {N cr sr : Nat} {Z : Option Value → jv_Mem → Nat → Prop} {a0 : Nat} {x1 : Int32} {x2 : Int32} (h : jv_Tg 9 a0 N ∧ jv_Ct g d mt_R_isTrigger [.ref a0, .int x1] M N 0 0 (fun v M3 N3 => jv_ri v (fun r2 => (r2 = 0 → Z (some (.int (-1))) M3 N3) ∧ (¬ (r2 = 0) → jv_Tg 9 a0 N3 ∧ ∃ b5, Prod.fst (Prod.snd M3) a0 2 = some b5 ∧ jv_Tg 6 b5 N3 ∧ ∃ b8, Prod.fst (Prod.snd M3) b5 2 = some b8 ∧ jv_Tg 16 b8 N3 ∧ vp_in x1 (jv_sh b8).2 ∧ ∃ b12, Prod.fst (Prod.snd M3) b8 (Int32.toNatClampNeg x1) = some b12 ∧ jv_Tg 8 b12 N3 ∧ jv_Ct g d mt_U_property [.ref b12, .int x2] M3 N3 0 0 (fun v M16 N16 => jv_ri v (fun r15 => Z (some (.int r15)) M16 N16)))))) : jv_J g (d + 1) mt_R_trigger 0 [some (.ref a0), some (.int x1), some (.int x2)] [] M N cr sr Z := by
  refine jv_aload_n d_R_trigger_0 rfl rfl ?_
  refine jv_iload_n d_R_trigger_1 rfl rfl ?_
  obtain ⟨q1, h⟩ := h
  refine jv_invV [.int x1] [] d_R_trigger_2 ml_R_101 q1 rfl (Nat.le_of_ble_eq_true rfl) (Nat.zero_add _) (Nat.zero_add _) (jv_Ct.mono h (fun v M3 N3 h => ?_))
  obtain ⟨r2, rfl, h⟩ := h
  change jv_J g (d + 1) mt_R_trigger 5 [some (.ref a0), some (.int x1), some (.int x2)] [.int r2] M3 N3 cr sr Z
  refine jv_if_eq (tgt := 24) d_R_trigger_5 (by decide) ⟨fun c => ?_, fun c => ?_⟩
  · replace h := h.1 c
    refine jv_iconst (v := (-1)) d_R_trigger_24 (by decide) ?_
    exact jv_iret d_R_trigger_25 rfl rfl h
  · replace h := h.2 c
    refine jv_aload_n d_R_trigger_8 rfl rfl ?_
    obtain ⟨q4, h⟩ := h
    obtain ⟨b5, e6, h⟩ := h
    refine jv_getR d_R_trigger_9 fl_R_26 rfl q4 e6 ?_
    obtain ⟨q7, h⟩ := h
    obtain ⟨b8, e9, h⟩ := h
    refine jv_getR d_R_trigger_12 fl_R_104 rfl q7 e9 ?_
    refine jv_iload_n d_R_trigger_15 rfl rfl ?_
    obtain ⟨q10, q11, b12, e13, h⟩ := h
    refine jv_aald (t := 16) d_R_trigger_16 (by decide) q10 q11 e13 ?_
    refine jv_iload_n d_R_trigger_17 rfl rfl ?_
    obtain ⟨q14, h⟩ := h
    refine jv_invV [.int x2] [] d_R_trigger_18 ml_R_108 q14 rfl (Nat.le_of_ble_eq_true rfl) (Nat.zero_add _) (Nat.zero_add _) (jv_Ct.mono h (fun v M16 N16 h => ?_))
    obtain ⟨r15, rfl, h⟩ := h
    change jv_J g (d + 1) mt_R_trigger 21 [some (.ref a0), some (.int x1), some (.int x2)] [.int r15] M16 N16 cr sr Z
    refine jv_goto (tgt := 25) d_R_trigger_21 (by decide) ?_
    exact jv_iret d_R_trigger_25 rfl rfl h
theorem b_R_isTrigger_0 {g : jv_G} {d : Nat} {M : jv_Mem} {N cr sr : Nat} {Z : Option Value → jv_Mem → Nat → Prop} {a0 : Nat} {x1 : Int32} (h : jv_Tg 9 a0 N ∧ ∃ b2, Prod.fst (Prod.snd M) a0 2 = some b2 ∧ jv_Tg 6 b2 N ∧ jv_Ct g d mt_R_isBelow [.int x1, .int (Prod.fst M b2 5)] M N 0 0 (fun v M6 N6 => jv_ri v (fun r5 => (r5 = 0 ∨ r5 = 1) ∧ Z (some (.int r5)) M6 N6))) : jv_J g (d + 1) mt_R_isTrigger 0 [some (.ref a0), some (.int x1)] [] M N cr sr Z := by
  refine jv_iload_n d_R_isTrigger_0 rfl rfl ?_
  refine jv_aload_n d_R_isTrigger_1 rfl rfl ?_
  obtain ⟨q1, h⟩ := h
  obtain ⟨b2, e3, h⟩ := h
  refine jv_getR d_R_isTrigger_2 fl_R_26 rfl q1 e3 ?_
  obtain ⟨q4, h⟩ := h
  refine jv_getI d_R_isTrigger_5 fl_R_210 rfl q4 ?_
  refine jv_invS [.int x1, .int (Prod.fst M b2 5)] [] d_R_isTrigger_8 ml_R_111 rfl (Nat.le_of_ble_eq_true rfl) (Nat.zero_add _) (Nat.zero_add _) (jv_Ct.mono h (fun v M6 N6 h => ?_))
  obtain ⟨r5, rfl, h⟩ := h
  change jv_J g (d + 1) mt_R_isTrigger 11 [some (.ref a0), some (.int x1)] [.int r5] M6 N6 cr sr Z
  exact jv_iret d_R_isTrigger_11 rfl (jv_nz h.1) h.2
theorem b_R_cell_0 {g : jv_G} {d : Nat} {M : jv_Mem} {N cr sr : Nat} {Z : Option Value → jv_Mem → Nat → Prop} {a0 : Nat} {x1 : Int32} (h : jv_Ct g d mt_R_isBelow [.int x1, .int 8] M N 0 0 (fun v M2 N2 => jv_ri v (fun r1 => (r1 = 0 → Z (some (.int (-2))) M2 N2) ∧ (¬ (r1 = 0) → jv_Tg 9 a0 N2 ∧ ∃ b4, Prod.fst (Prod.snd M2) a0 2 = some b4 ∧ jv_Tg 6 b4 N2 ∧ ∃ b7, Prod.fst (Prod.snd M2) b4 3 = some b7 ∧ jv_Tg 11 b7 N2 ∧ vp_in x1 (jv_sh b7).2 ∧ Z (some (.int (Prod.fst M2 b7 (Int32.toNatClampNeg x1)))) M2 N2)))) : jv_J g (d + 1) mt_R_cell 0 [some (.ref a0), some (.int x1)] [] M N cr sr Z := by
  refine jv_iload_n d_R_cell_0 rfl rfl ?_
  refine jv_bipush (v := 8) d_R_cell_1 (by decide) ?_
  refine jv_invS [.int x1, .int 8] [] d_R_cell_3 ml_R_111 rfl (Nat.le_of_ble_eq_true rfl) (Nat.zero_add _) (Nat.zero_add _) (jv_Ct.mono h (fun v M2 N2 h => ?_))
  obtain ⟨r1, rfl, h⟩ := h
  change jv_J g (d + 1) mt_R_cell 6 [some (.ref a0), some (.int x1)] [.int r1] M2 N2 cr sr Z
  refine jv_if_eq (tgt := 21) d_R_cell_6 (by decide) ⟨fun c => ?_, fun c => ?_⟩
  · replace h := h.1 c
    refine jv_bipush (v := (-2)) d_R_cell_21 (by decide) ?_
    exact jv_iret d_R_cell_23 rfl rfl h
  · replace h := h.2 c
    refine jv_aload_n d_R_cell_9 rfl rfl ?_
    obtain ⟨q3, h⟩ := h
    obtain ⟨b4, e5, h⟩ := h
    refine jv_getR d_R_cell_10 fl_R_26 rfl q3 e5 ?_
    obtain ⟨q6, h⟩ := h
    obtain ⟨b7, e8, h⟩ := h
    refine jv_getR d_R_cell_13 fl_R_115 rfl q6 e8 ?_
    refine jv_iload_n d_R_cell_16 rfl rfl ?_
    obtain ⟨q9, q10, h⟩ := h
    refine jv_iald d_R_cell_17 q9 q10 ?_
    refine jv_goto (tgt := 23) d_R_cell_18 (by decide) ?_
    exact jv_iret d_R_cell_23 rfl rfl h
theorem b_R_order_0 {g : jv_G} {d : Nat} {M : jv_Mem} {N cr sr : Nat} {Z : Option Value → jv_Mem → Nat → Prop} {a0 : Nat} {x1 : Int32} {x2 : Int32} (h : jv_Tg 9 a0 N ∧ ∃ b2, Prod.fst (Prod.snd M) a0 2 = some b2 ∧ jv_Tg 6 b2 N ∧ ∃ b5, Prod.fst (Prod.snd M) b2 0 = some b5 ∧ jv_Tg 0 b5 N ∧ jv_Ct g d mt_R_isBelow [.int x1, .int (Prod.fst M b5 2)] M N 0 0 (fun v M9 N9 => jv_ri v (fun r8 => (r8 = 0 → Z (some (.int (-1))) M9 N9) ∧ (¬ (r8 = 0) → jv_Tg 0 b5 N9 ∧ ∃ b11, Prod.fst (Prod.snd M9) b5 0 = some b11 ∧ jv_Tg 14 b11 N9 ∧ vp_in x1 (jv_sh b11).2 ∧ ∃ b15, Prod.fst (Prod.snd M9) b11 (Int32.toNatClampNeg x1) = some b15 ∧ jv_Tg 2 b15 N9 ∧ jv_Ct g d mt_O_property [.ref b15, .int x2] M9 N9 0 0 (fun v M19 N19 => jv_ri v (fun r18 => Z (some (.int r18)) M19 N19)))))) : jv_J g (d + 1) mt_R_order 0 [some (.ref a0), some (.int x1), some (.int x2), none] [] M N cr sr Z := by
  refine jv_aload_n d_R_order_0 rfl rfl ?_
  obtain ⟨q1, h⟩ := h
  obtain ⟨b2, e3, h⟩ := h
  refine jv_getR d_R_order_1 fl_R_26 rfl q1 e3 ?_
  obtain ⟨q4, h⟩ := h
  obtain ⟨b5, e6, h⟩ := h
  refine jv_getR d_R_order_4 fl_R_118 rfl q4 e6 ?_
  refine jv_astore_n (L' := [some (.ref a0), some (.int x1), some (.int x2), some (.ref b5)]) d_R_order_7 rfl (Nat.le_of_ble_eq_true rfl) rfl ?_
  refine jv_iload_n d_R_order_8 rfl rfl ?_
  refine jv_aload_n d_R_order_9 rfl rfl ?_
  obtain ⟨q7, h⟩ := h
  refine jv_getI d_R_order_10 fl_R_122 rfl q7 ?_
  refine jv_invS [.int x1, .int (Prod.fst M b5 2)] [] d_R_order_13 ml_R_111 rfl (Nat.le_of_ble_eq_true rfl) (Nat.zero_add _) (Nat.zero_add _) (jv_Ct.mono h (fun v M9 N9 h => ?_))
  obtain ⟨r8, rfl, h⟩ := h
  change jv_J g (d + 1) mt_R_order 16 [some (.ref a0), some (.int x1), some (.int x2), some (.ref b5)] [.int r8] M9 N9 cr sr Z
  refine jv_if_eq (tgt := 32) d_R_order_16 (by decide) ⟨fun c => ?_, fun c => ?_⟩
  · replace h := h.1 c
    refine jv_iconst (v := (-1)) d_R_order_32 (by decide) ?_
    exact jv_iret d_R_order_33 rfl rfl h
  · replace h := h.2 c
    refine jv_aload_n d_R_order_19 rfl rfl ?_
    obtain ⟨q10, h⟩ := h
    obtain ⟨b11, e12, h⟩ := h
    refine jv_getR d_R_order_20 fl_R_127 rfl q10 e12 ?_
    refine jv_iload_n d_R_order_23 rfl rfl ?_
    obtain ⟨q13, q14, b15, e16, h⟩ := h
    refine jv_aald (t := 14) d_R_order_24 (by decide) q13 q14 e16 ?_
    refine jv_iload_n d_R_order_25 rfl rfl ?_
    obtain ⟨q17, h⟩ := h
    refine jv_invV [.int x2] [] d_R_order_26 ml_R_131 q17 rfl (Nat.le_of_ble_eq_true rfl) (Nat.zero_add _) (Nat.zero_add _) (jv_Ct.mono h (fun v M19 N19 h => ?_))
    obtain ⟨r18, rfl, h⟩ := h
    change jv_J g (d + 1) mt_R_order 29 [some (.ref a0), some (.int x1), some (.int x2), some (.ref b5)] [.int r18] M19 N19 cr sr Z
    refine jv_goto (tgt := 33) d_R_order_29 (by decide) ?_
    exact jv_iret d_R_order_33 rfl rfl h
theorem b_R_tick_0 {g : jv_G} {d : Nat} {M : jv_Mem} {N cr sr : Nat} {Z : Option Value → jv_Mem → Nat → Prop} {a0 : Nat} {x1 : Int32} (h : (x1 < 1 → Z (some (.int (-2))) M N) ∧ (¬ (x1 < 1) → (x1 ≤ 99 → jv_Tg 9 a0 N ∧ ∃ b2, Prod.fst (Prod.snd M) a0 4 = some b2 ∧ jv_Tg 9 a0 N ∧ ∃ b5, Prod.fst (Prod.snd M) a0 2 = some b5 ∧ jv_Tg 3 b2 N ∧ jv_Ct g d mt_A_push [.ref b2, .ref b5] M N 0 0 (fun v M9 N9 => jv_rv v (jv_Tg 9 a0 N9 ∧ ∃ b11, Prod.fst (Prod.snd M9) a0 2 = some b11 ∧ jv_Tg 9 a0 N9 ∧ ∃ b14, Prod.fst (Prod.snd M9) a0 1 = some b14 ∧ jv_Tg 6 b11 N9 ∧ jv_Ct g d mt_S_pass [.ref b11, .ref b14, .int x1] M9 N9 0 0 (fun v M18 N18 => jv_rv v (jv_Tg 9 a0 N18 ∧ ∃ b20, Prod.fst (Prod.snd M18) a0 2 = some b20 ∧ jv_Tg 6 b20 N18 ∧ jv_Ct g d mt_S_haltedCount [.ref b20] M18 N18 0 0 (fun v M24 N24 => jv_ri v (fun r23 => Z (some (.int r23)) M24 N24))))))) ∧ (¬ (x1 ≤ 99) → Z (some (.int (-2))) M N))) : jv_J g (d + 1) mt_R_tick 0 [some (.ref a0), some (.int x1)] [] M N cr sr Z := by
  refine jv_iload_n d_R_tick_0 rfl rfl ?_
  refine jv_iconst (v := 1) d_R_tick_1 (by decide) ?_
  refine jv_icmp_lt (tgt := 11) d_R_tick_2 (by decide) ⟨fun c => ?_, fun c => ?_⟩
  · replace h := h.1 c
    refine jv_bipush (v := (-2)) d_R_tick_11 (by decide) ?_
    exact jv_iret d_R_tick_13 rfl rfl h
  · replace h := h.2 c
    refine jv_iload_n d_R_tick_5 rfl rfl ?_
    refine jv_bipush (v := 99) d_R_tick_6 (by decide) ?_
    refine jv_icmp_le (tgt := 14) d_R_tick_8 (by decide) ⟨fun c => ?_, fun c => ?_⟩
    · replace h := h.1 c
      refine jv_aload_n d_R_tick_14 rfl rfl ?_
      obtain ⟨q1, h⟩ := h
      obtain ⟨b2, e3, h⟩ := h
      refine jv_getR d_R_tick_15 fl_R_36 rfl q1 e3 ?_
      refine jv_aload_n d_R_tick_18 rfl rfl ?_
      obtain ⟨q4, h⟩ := h
      obtain ⟨b5, e6, h⟩ := h
      refine jv_getR d_R_tick_19 fl_R_26 rfl q4 e6 ?_
      obtain ⟨q7, h⟩ := h
      refine jv_invV [.ref b5] [] d_R_tick_22 ml_R_134 q7 rfl (Nat.le_of_ble_eq_true rfl) (Nat.zero_add _) (Nat.zero_add _) (jv_Ct.mono h (fun v M9 N9 h => ?_))
      obtain ⟨rfl, h⟩ := h
      change jv_J g (d + 1) mt_R_tick 25 [some (.ref a0), some (.int x1)] [] M9 N9 cr sr Z
      refine jv_aload_n d_R_tick_25 rfl rfl ?_
      obtain ⟨q10, h⟩ := h
      obtain ⟨b11, e12, h⟩ := h
      refine jv_getR d_R_tick_26 fl_R_26 rfl q10 e12 ?_
      refine jv_aload_n d_R_tick_29 rfl rfl ?_
      obtain ⟨q13, h⟩ := h
      obtain ⟨b14, e15, h⟩ := h
      refine jv_getR d_R_tick_30 fl_R_19 rfl q13 e15 ?_
      refine jv_iload_n d_R_tick_33 rfl rfl ?_
      obtain ⟨q16, h⟩ := h
      refine jv_invV [.ref b14, .int x1] [] d_R_tick_34 ml_R_137 q16 rfl (Nat.le_of_ble_eq_true rfl) (Nat.zero_add _) (Nat.zero_add _) (jv_Ct.mono h (fun v M18 N18 h => ?_))
      obtain ⟨rfl, h⟩ := h
      change jv_J g (d + 1) mt_R_tick 37 [some (.ref a0), some (.int x1)] [] M18 N18 cr sr Z
      refine jv_aload_n d_R_tick_37 rfl rfl ?_
      obtain ⟨q19, h⟩ := h
      obtain ⟨b20, e21, h⟩ := h
      refine jv_getR d_R_tick_38 fl_R_26 rfl q19 e21 ?_
      obtain ⟨q22, h⟩ := h
      refine jv_invV [] [] d_R_tick_41 ml_R_141 q22 rfl (Nat.le_of_ble_eq_true rfl) (Nat.zero_add _) (Nat.zero_add _) (jv_Ct.mono h (fun v M24 N24 h => ?_))
      obtain ⟨r23, rfl, h⟩ := h
      change jv_J g (d + 1) mt_R_tick 44 [some (.ref a0), some (.int x1)] [.int r23] M24 N24 cr sr Z
      exact jv_iret d_R_tick_44 rfl rfl h
    · replace h := h.2 c
      refine jv_bipush (v := (-2)) d_R_tick_11 (by decide) ?_
      exact jv_iret d_R_tick_13 rfl rfl h
theorem b_R_send_0 {g : jv_G} {d : Nat} {M : jv_Mem} {N cr sr : Nat} {Z : Option Value → jv_Mem → Nat → Prop} {a0 : Nat} {x1 : Int32} {x2 : Int32} {x3 : Int32} {x4 : Int32} (h : jv_Ct g d mt_R_isBelow [.int x1, .int 6] M N 0 0 (fun v M2 N2 => jv_ri v (fun r1 => (r1 ≠ 0 → jv_Tg 9 a0 N2 ∧ jv_Ct g d mt_R_isHart [.ref a0, .int x2] M2 N2 0 0 (fun v M5 N5 => jv_ri v (fun r4 => (r4 ≠ 0 → (x1 = 3 → jv_J g (d + 1) mt_R_send 37 [some (.ref a0), some (.int x1), some (.int x2), some (.int x3), some (.int x4), none] [.int 1] M5 N5 cr sr Z) ∧ (¬ (x1 = 3) → (x1 ≠ 4 → jv_J g (d + 1) mt_R_send 37 [some (.ref a0), some (.int x1), some (.int x2), some (.int x3), some (.int x4), none] [.int 0] M5 N5 cr sr Z) ∧ (x1 = 4 → jv_J g (d + 1) mt_R_send 37 [some (.ref a0), some (.int x1), some (.int x2), some (.int x3), some (.int x4), none] [.int 1] M5 N5 cr sr Z))) ∧ (r4 = 0 → Z (some (.int (-1))) M5 N5)))) ∧ (r1 = 0 → Z (some (.int (-2))) M2 N2)))) : jv_J g (d + 1) mt_R_send 0 [some (.ref a0), some (.int x1), some (.int x2), some (.int x3), some (.int x4), none] [] M N cr sr Z := by
  refine jv_iload_n d_R_send_0 rfl rfl ?_
  refine jv_bipush (v := 6) d_R_send_1 (by decide) ?_
  refine jv_invS [.int x1, .int 6] [] d_R_send_3 ml_R_111 rfl (Nat.le_of_ble_eq_true rfl) (Nat.zero_add _) (Nat.zero_add _) (jv_Ct.mono h (fun v M2 N2 h => ?_))
  obtain ⟨r1, rfl, h⟩ := h
  change jv_J g (d + 1) mt_R_send 6 [some (.ref a0), some (.int x1), some (.int x2), some (.int x3), some (.int x4), none] [.int r1] M2 N2 cr sr Z
  refine jv_if_ne (tgt := 12) d_R_send_6 (by decide) ⟨fun c => ?_, fun c => ?_⟩
  · replace h := h.1 c
    refine jv_aload_n d_R_send_12 rfl rfl ?_
    refine jv_iload_n d_R_send_13 rfl rfl ?_
    obtain ⟨q3, h⟩ := h
    refine jv_invV [.int x2] [] d_R_send_14 ml_R_88 q3 rfl (Nat.le_of_ble_eq_true rfl) (Nat.zero_add _) (Nat.zero_add _) (jv_Ct.mono h (fun v M5 N5 h => ?_))
    obtain ⟨r4, rfl, h⟩ := h
    change jv_J g (d + 1) mt_R_send 17 [some (.ref a0), some (.int x1), some (.int x2), some (.int x3), some (.int x4), none] [.int r4] M5 N5 cr sr Z
    refine jv_if_ne (tgt := 22) d_R_send_17 (by decide) ⟨fun c => ?_, fun c => ?_⟩
    · replace h := h.1 c
      refine jv_iload_n d_R_send_22 rfl rfl ?_
      refine jv_iconst (v := 3) d_R_send_23 (by decide) ?_
      refine jv_icmp_eq (tgt := 32) d_R_send_24 (by decide) ⟨fun c => ?_, fun c => ?_⟩
      · replace h := h.1 c
        refine jv_iconst (v := 1) d_R_send_32 (by decide) ?_
        refine jv_goto (tgt := 37) d_R_send_33 (by decide) ?_
        exact h
      · replace h := h.2 c
        refine jv_iload_n d_R_send_27 rfl rfl ?_
        refine jv_iconst (v := 4) d_R_send_28 (by decide) ?_
        refine jv_icmp_ne (tgt := 36) d_R_send_29 (by decide) ⟨fun c => ?_, fun c => ?_⟩
        · replace h := h.1 c
          refine jv_iconst (v := 0) d_R_send_36 (by decide) ?_
          exact h
        · replace h := h.2 c
          refine jv_iconst (v := 1) d_R_send_32 (by decide) ?_
          refine jv_goto (tgt := 37) d_R_send_33 (by decide) ?_
          exact h
    · replace h := h.2 c
      refine jv_iconst (v := (-1)) d_R_send_20 (by decide) ?_
      exact jv_iret d_R_send_21 rfl rfl h
  · replace h := h.2 c
    refine jv_bipush (v := (-2)) d_R_send_9 (by decide) ?_
    exact jv_iret d_R_send_11 rfl rfl h
theorem b_R_send_37 {g : jv_G} {d : Nat} {M : jv_Mem} {N cr sr : Nat} {Z : Option Value → jv_Mem → Nat → Prop} {a0 : Nat} {x1 : Int32} {x2 : Int32} {x3 : Int32} {x4 : Int32} {y0 : Int32} (h : (y0 = 0 → jv_J g (d + 1) mt_R_send 50 [some (.ref a0), some (.int x1), some (.int x2), some (.int x3), some (.int x4), none] [.int 1, .int x3] M N cr sr Z) ∧ (¬ (y0 = 0) → jv_J g (d + 1) mt_R_send 50 [some (.ref a0), some (.int x1), some (.int x2), some (.int x3), some (.int x4), none] [.int 4, .int x3] M N cr sr Z)) : jv_J g (d + 1) mt_R_send 37 [some (.ref a0), some (.int x1), some (.int x2), some (.int x3), some (.int x4), none] [.int y0] M N cr sr Z := by
  refine jv_istore (L' := [some (.ref a0), some (.int x1), some (.int x2), some (.int x3), some (.int x4), some (.int y0)]) d_R_send_37 (Nat.le_of_ble_eq_true rfl) rfl ?_
  refine jv_iload_n d_R_send_39 rfl rfl ?_
  refine jv_iload d_R_send_40 rfl ?_
  refine jv_if_eq (tgt := 49) d_R_send_42 (by decide) ⟨fun c => ?_, fun c => ?_⟩
  · replace h := h.1 c
    refine jv_iconst (v := 1) d_R_send_49 (by decide) ?_
    refine jv_weak (L' := [some (.ref a0), some (.int x1), some (.int x2), some (.int x3), some (.int x4), none]) (by simp [jv_le]) ?_
    exact h
  · replace h := h.2 c
    refine jv_iconst (v := 4) d_R_send_45 (by decide) ?_
    refine jv_goto (tgt := 50) d_R_send_46 (by decide) ?_
    refine jv_weak (L' := [some (.ref a0), some (.int x1), some (.int x2), some (.int x3), some (.int x4), none]) (by simp [jv_le]) ?_
    exact h
theorem b_R_send_50 {g : jv_G} {d : Nat} {M : jv_Mem} {N cr sr : Nat} {Z : Option Value → jv_Mem → Nat → Prop} {a0 : Nat} {x1 : Int32} {x2 : Int32} {x3 : Int32} {x4 : Int32} {y0 : Int32} {y1 : Int32} (h : jv_Ct g d mt_R_isBelow [.int y0, .int y1] M N 0 0 (fun v M2 N2 => jv_ri v (fun r1 => (r1 = 0 → jv_J g (d + 1) mt_R_send 76 [none, none, none, none, none, none] [] M2 N2 cr sr Z) ∧ (¬ (r1 = 0) → (x1 ≠ 4 → jv_J g (d + 1) mt_R_send 70 [some (.ref a0), some (.int x1), some (.int x2), some (.int x3), some (.int x4), none] [.int 1, .int x4] M2 N2 cr sr Z) ∧ (x1 = 4 → jv_J g (d + 1) mt_R_send 70 [some (.ref a0), some (.int x1), some (.int x2), some (.int x3), some (.int x4), none] [.int 1000, .int x4] M2 N2 cr sr Z))))) : jv_J g (d + 1) mt_R_send 50 [some (.ref a0), some (.int x1), some (.int x2), some (.int x3), some (.int x4), none] [.int y1, .int y0] M N cr sr Z := by
  refine jv_invS [.int y0, .int y1] [] d_R_send_50 ml_R_111 rfl (Nat.le_of_ble_eq_true rfl) (Nat.zero_add _) (Nat.zero_add _) (jv_Ct.mono h (fun v M2 N2 h => ?_))
  obtain ⟨r1, rfl, h⟩ := h
  change jv_J g (d + 1) mt_R_send 53 [some (.ref a0), some (.int x1), some (.int x2), some (.int x3), some (.int x4), none] [.int r1] M2 N2 cr sr Z
  refine jv_if_eq (tgt := 76) d_R_send_53 (by decide) ⟨fun c => ?_, fun c => ?_⟩
  · replace h := h.1 c
    refine jv_weak (L' := [none, none, none, none, none, none]) (by simp [jv_le]) ?_
    exact h
  · replace h := h.2 c
    refine jv_iload d_R_send_56 rfl ?_
    refine jv_iload_n d_R_send_58 rfl rfl ?_
    refine jv_iconst (v := 4) d_R_send_59 (by decide) ?_
    refine jv_icmp_ne (tgt := 69) d_R_send_60 (by decide) ⟨fun c => ?_, fun c => ?_⟩
    · replace h := h.1 c
      refine jv_iconst (v := 1) d_R_send_69 (by decide) ?_
      exact h
    · replace h := h.2 c
      refine jv_sipush (v := 1000) d_R_send_63 (by decide) ?_
      refine jv_goto (tgt := 70) d_R_send_66 (by decide) ?_
      exact h
theorem b_R_send_70 {g : jv_G} {d : Nat} {M : jv_Mem} {N cr sr : Nat} {Z : Option Value → jv_Mem → Nat → Prop} {a0 : Nat} {x1 : Int32} {x2 : Int32} {x3 : Int32} {x4 : Int32} {y0 : Int32} {y1 : Int32} (h : jv_Ct g d mt_R_isBelow [.int y0, .int y1] M N 0 0 (fun v M2 N2 => jv_ri v (fun r1 => (r1 ≠ 0 → jv_Tg 9 a0 N2 ∧ ∃ b4, Prod.fst (Prod.snd M2) a0 2 = some b4 ∧ jv_Tg 6 b4 N2 ∧ ∃ b7, Prod.fst (Prod.snd M2) b4 0 = some b7 ∧ jv_Tg 0 b7 N2 ∧ ((Prod.fst M2 b7 2) < 8 → jv_Tg 9 a0 N2 ∧ ∃ b11, Prod.fst (Prod.snd M2) a0 4 = some b11 ∧ jv_Tg 9 a0 N2 ∧ ∃ b14, Prod.fst (Prod.snd M2) a0 2 = some b14 ∧ jv_Tg 3 b11 N2 ∧ jv_Ct g d mt_A_push [.ref b11, .ref b14] M2 N2 0 0 (fun v M18 N18 => jv_rv v (jv_Tg 9 a0 N18 ∧ ∃ b20, Prod.fst (Prod.snd M18) a0 2 = some b20 ∧ jv_Tg 6 b20 N18 ∧ ∃ b23, Prod.fst (Prod.snd M18) b20 0 = some b23 ∧ jv_Tg 0 b23 N18 ∧ jv_Ct g d mt_D_accept [.ref b23, .int x1, .int x2, .int x3, .int x4] M18 N18 0 0 (fun v M27 N27 => jv_rv v (jv_Tg 9 a0 N27 ∧ ∃ b29, Prod.fst (Prod.snd M27) a0 2 = some b29 ∧ jv_Tg 6 b29 N27 ∧ ∃ b32, Prod.fst (Prod.snd M27) b29 0 = some b32 ∧ jv_Tg 0 b32 N27 ∧ Z (some (.int (Prod.fst M27 b32 3))) M27 N27))))) ∧ (¬ ((Prod.fst M2 b7 2) < 8) → Z (some (.int (-4))) M2 N2)) ∧ (r1 = 0 → jv_J g (d + 1) mt_R_send 76 [none, none, none, none, none, none] [] M2 N2 cr sr Z)))) : jv_J g (d + 1) mt_R_send 70 [some (.ref a0), some (.int x1), some (.int x2), some (.int x3), some (.int x4), none] [.int y1, .int y0] M N cr sr Z := by
  refine jv_invS [.int y0, .int y1] [] d_R_send_70 ml_R_111 rfl (Nat.le_of_ble_eq_true rfl) (Nat.zero_add _) (Nat.zero_add _) (jv_Ct.mono h (fun v M2 N2 h => ?_))
  obtain ⟨r1, rfl, h⟩ := h
  change jv_J g (d + 1) mt_R_send 73 [some (.ref a0), some (.int x1), some (.int x2), some (.int x3), some (.int x4), none] [.int r1] M2 N2 cr sr Z
  refine jv_if_ne (tgt := 79) d_R_send_73 (by decide) ⟨fun c => ?_, fun c => ?_⟩
  · replace h := h.1 c
    refine jv_aload_n d_R_send_79 rfl rfl ?_
    obtain ⟨q3, h⟩ := h
    obtain ⟨b4, e5, h⟩ := h
    refine jv_getR d_R_send_80 fl_R_26 rfl q3 e5 ?_
    obtain ⟨q6, h⟩ := h
    obtain ⟨b7, e8, h⟩ := h
    refine jv_getR d_R_send_83 fl_R_118 rfl q6 e8 ?_
    obtain ⟨q9, h⟩ := h
    refine jv_getI d_R_send_86 fl_R_122 rfl q9 ?_
    refine jv_bipush (v := 8) d_R_send_89 (by decide) ?_
    refine jv_icmp_lt (tgt := 97) d_R_send_91 (by decide) ⟨fun c => ?_, fun c => ?_⟩
    · replace h := h.1 c
      refine jv_aload_n d_R_send_97 rfl rfl ?_
      obtain ⟨q10, h⟩ := h
      obtain ⟨b11, e12, h⟩ := h
      refine jv_getR d_R_send_98 fl_R_36 rfl q10 e12 ?_
      refine jv_aload_n d_R_send_101 rfl rfl ?_
      obtain ⟨q13, h⟩ := h
      obtain ⟨b14, e15, h⟩ := h
      refine jv_getR d_R_send_102 fl_R_26 rfl q13 e15 ?_
      obtain ⟨q16, h⟩ := h
      refine jv_invV [.ref b14] [] d_R_send_105 ml_R_134 q16 rfl (Nat.le_of_ble_eq_true rfl) (Nat.zero_add _) (Nat.zero_add _) (jv_Ct.mono h (fun v M18 N18 h => ?_))
      obtain ⟨rfl, h⟩ := h
      change jv_J g (d + 1) mt_R_send 108 [some (.ref a0), some (.int x1), some (.int x2), some (.int x3), some (.int x4), none] [] M18 N18 cr sr Z
      refine jv_aload_n d_R_send_108 rfl rfl ?_
      obtain ⟨q19, h⟩ := h
      obtain ⟨b20, e21, h⟩ := h
      refine jv_getR d_R_send_109 fl_R_26 rfl q19 e21 ?_
      obtain ⟨q22, h⟩ := h
      obtain ⟨b23, e24, h⟩ := h
      refine jv_getR d_R_send_112 fl_R_118 rfl q22 e24 ?_
      refine jv_iload_n d_R_send_115 rfl rfl ?_
      refine jv_iload_n d_R_send_116 rfl rfl ?_
      refine jv_iload_n d_R_send_117 rfl rfl ?_
      refine jv_iload d_R_send_118 rfl ?_
      obtain ⟨q25, h⟩ := h
      refine jv_invV [.int x1, .int x2, .int x3, .int x4] [] d_R_send_120 ml_R_144 q25 rfl (Nat.le_of_ble_eq_true rfl) (Nat.zero_add _) (Nat.zero_add _) (jv_Ct.mono h (fun v M27 N27 h => ?_))
      obtain ⟨rfl, h⟩ := h
      change jv_J g (d + 1) mt_R_send 123 [some (.ref a0), some (.int x1), some (.int x2), some (.int x3), some (.int x4), none] [] M27 N27 cr sr Z
      refine jv_aload_n d_R_send_123 rfl rfl ?_
      obtain ⟨q28, h⟩ := h
      obtain ⟨b29, e30, h⟩ := h
      refine jv_getR d_R_send_124 fl_R_26 rfl q28 e30 ?_
      obtain ⟨q31, h⟩ := h
      obtain ⟨b32, e33, h⟩ := h
      refine jv_getR d_R_send_127 fl_R_118 rfl q31 e33 ?_
      obtain ⟨q34, h⟩ := h
      refine jv_getI d_R_send_130 fl_R_148 rfl q34 ?_
      exact jv_iret d_R_send_133 rfl rfl h
    · replace h := h.2 c
      refine jv_bipush (v := (-4)) d_R_send_94 (by decide) ?_
      exact jv_iret d_R_send_96 rfl rfl h
  · replace h := h.2 c
    refine jv_weak (L' := [none, none, none, none, none, none]) (by simp [jv_le]) ?_
    exact h
theorem b_R_send_76 {g : jv_G} {d : Nat} {M : jv_Mem} {N cr sr : Nat} {Z : Option Value → jv_Mem → Nat → Prop}  (h : Z (some (.int (-2))) M N) : jv_J g (d + 1) mt_R_send 76 [none, none, none, none, none, none] [] M N cr sr Z := by
  refine jv_bipush (v := (-2)) d_R_send_76 (by decide) ?_
  exact jv_iret d_R_send_78 rfl rfl h
theorem b_R_set_0 {g : jv_G} {d : Nat} {M : jv_Mem} {N cr sr : Nat} {Z : Option Value → jv_Mem → Nat → Prop} {a0 : Nat} {x1 : Int32} {x2 : Int32} {x3 : Int32} {x4 : Int32} {x5 : Int32} {x6 : Int32} (h : jv_Tg 9 a0 N ∧ jv_Ct g d mt_R_isTrigger [.ref a0, .int x1] M N 0 0 (fun v M3 N3 => jv_ri v (fun r2 => (r2 ≠ 0 → jv_Ct g d mt_R_isBelow [.int x2, .int 2] M3 N3 0 0 (fun v M5 N5 => jv_ri v (fun r4 => (r4 = 0 → Z (some (.int (-2))) M5 N5) ∧ (¬ (r4 = 0) → (x2 ≠ 0 → jv_J g (d + 1) mt_R_set 29 [some (.ref a0), some (.int x1), some (.int x2), some (.int x3), some (.int x4), some (.int x5), some (.int x6), none, none] [.int 4, .int x3] M5 N5 cr sr Z) ∧ (x2 = 0 → jv_J g (d + 1) mt_R_set 29 [some (.ref a0), some (.int x1), some (.int x2), some (.int x3), some (.int x4), some (.int x5), some (.int x6), none, none] [.int 16, .int x3] M5 N5 cr sr Z))))) ∧ (r2 = 0 → Z (some (.int (-1))) M3 N3)))) : jv_J g (d + 1) mt_R_set 0 [some (.ref a0), some (.int x1), some (.int x2), some (.int x3), some (.int x4), some (.int x5), some (.int x6), none, none] [] M N cr sr Z := by
  refine jv_aload_n d_R_set_0 rfl rfl ?_
  refine jv_iload_n d_R_set_1 rfl rfl ?_
  obtain ⟨q1, h⟩ := h
  refine jv_invV [.int x1] [] d_R_set_2 ml_R_101 q1 rfl (Nat.le_of_ble_eq_true rfl) (Nat.zero_add _) (Nat.zero_add _) (jv_Ct.mono h (fun v M3 N3 h => ?_))
  obtain ⟨r2, rfl, h⟩ := h
  change jv_J g (d + 1) mt_R_set 5 [some (.ref a0), some (.int x1), some (.int x2), some (.int x3), some (.int x4), some (.int x5), some (.int x6), none, none] [.int r2] M3 N3 cr sr Z
  refine jv_if_ne (tgt := 10) d_R_set_5 (by decide) ⟨fun c => ?_, fun c => ?_⟩
  · replace h := h.1 c
    refine jv_iload_n d_R_set_10 rfl rfl ?_
    refine jv_iconst (v := 2) d_R_set_11 (by decide) ?_
    refine jv_invS [.int x2, .int 2] [] d_R_set_12 ml_R_111 rfl (Nat.le_of_ble_eq_true rfl) (Nat.zero_add _) (Nat.zero_add _) (jv_Ct.mono h (fun v M5 N5 h => ?_))
    obtain ⟨r4, rfl, h⟩ := h
    change jv_J g (d + 1) mt_R_set 15 [some (.ref a0), some (.int x1), some (.int x2), some (.int x3), some (.int x4), some (.int x5), some (.int x6), none, none] [.int r4] M5 N5 cr sr Z
    refine jv_if_eq (tgt := 67) d_R_set_15 (by decide) ⟨fun c => ?_, fun c => ?_⟩
    · replace h := h.1 c
      refine jv_bipush (v := (-2)) d_R_set_67 (by decide) ?_
      exact jv_iret d_R_set_69 rfl rfl h
    · replace h := h.2 c
      refine jv_iload_n d_R_set_18 rfl rfl ?_
      refine jv_iload_n d_R_set_19 rfl rfl ?_
      refine jv_if_ne (tgt := 28) d_R_set_20 (by decide) ⟨fun c => ?_, fun c => ?_⟩
      · replace h := h.1 c
        refine jv_iconst (v := 4) d_R_set_28 (by decide) ?_
        exact h
      · replace h := h.2 c
        refine jv_bipush (v := 16) d_R_set_23 (by decide) ?_
        refine jv_goto (tgt := 29) d_R_set_25 (by decide) ?_
        exact h
  · replace h := h.2 c
    refine jv_iconst (v := (-1)) d_R_set_8 (by decide) ?_
    exact jv_iret d_R_set_9 rfl rfl h
theorem b_R_set_29 {g : jv_G} {d : Nat} {M : jv_Mem} {N cr sr : Nat} {Z : Option Value → jv_Mem → Nat → Prop} {a0 : Nat} {x1 : Int32} {x2 : Int32} {x3 : Int32} {x4 : Int32} {x5 : Int32} {x6 : Int32} {y0 : Int32} {y1 : Int32} (h : jv_Ct g d mt_R_isBelow [.int y0, .int y1] M N 0 0 (fun v M2 N2 => jv_ri v (fun r1 => (r1 = 0 → Z (some (.int (-2))) M2 N2) ∧ (¬ (r1 = 0) → (x2 ≠ 0 → jv_J g (d + 1) mt_R_set 48 [some (.ref a0), some (.int x1), some (.int x2), some (.int x3), some (.int x4), some (.int x5), some (.int x6), none, none] [.int 1000, .int x4] M2 N2 cr sr Z) ∧ (x2 = 0 → jv_J g (d + 1) mt_R_set 48 [some (.ref a0), some (.int x1), some (.int x2), some (.int x3), some (.int x4), some (.int x5), some (.int x6), none, none] [.int 1, .int x4] M2 N2 cr sr Z))))) : jv_J g (d + 1) mt_R_set 29 [some (.ref a0), some (.int x1), some (.int x2), some (.int x3), some (.int x4), some (.int x5), some (.int x6), none, none] [.int y1, .int y0] M N cr sr Z := by
  refine jv_invS [.int y0, .int y1] [] d_R_set_29 ml_R_111 rfl (Nat.le_of_ble_eq_true rfl) (Nat.zero_add _) (Nat.zero_add _) (jv_Ct.mono h (fun v M2 N2 h => ?_))
  obtain ⟨r1, rfl, h⟩ := h
  change jv_J g (d + 1) mt_R_set 32 [some (.ref a0), some (.int x1), some (.int x2), some (.int x3), some (.int x4), some (.int x5), some (.int x6), none, none] [.int r1] M2 N2 cr sr Z
  refine jv_if_eq (tgt := 67) d_R_set_32 (by decide) ⟨fun c => ?_, fun c => ?_⟩
  · replace h := h.1 c
    refine jv_bipush (v := (-2)) d_R_set_67 (by decide) ?_
    exact jv_iret d_R_set_69 rfl rfl h
  · replace h := h.2 c
    refine jv_iload d_R_set_35 rfl ?_
    refine jv_iload_n d_R_set_37 rfl rfl ?_
    refine jv_if_ne (tgt := 45) d_R_set_38 (by decide) ⟨fun c => ?_, fun c => ?_⟩
    · replace h := h.1 c
      refine jv_sipush (v := 1000) d_R_set_45 (by decide) ?_
      exact h
    · replace h := h.2 c
      refine jv_iconst (v := 1) d_R_set_41 (by decide) ?_
      refine jv_goto (tgt := 48) d_R_set_42 (by decide) ?_
      exact h
theorem b_R_set_48 {g : jv_G} {d : Nat} {M : jv_Mem} {N cr sr : Nat} {Z : Option Value → jv_Mem → Nat → Prop} {a0 : Nat} {x1 : Int32} {x2 : Int32} {x3 : Int32} {x4 : Int32} {x5 : Int32} {x6 : Int32} {y0 : Int32} {y1 : Int32} (h : jv_Ct g d mt_R_isBelow [.int y0, .int y1] M N 0 0 (fun v M2 N2 => jv_ri v (fun r1 => (r1 = 0 → Z (some (.int (-2))) M2 N2) ∧ (¬ (r1 = 0) → (x5 < 1 → Z (some (.int (-2))) M2 N2) ∧ (¬ (x5 < 1) → (x5 ≤ 9 → jv_Tg 9 a0 N2 ∧ ∃ b4, Prod.fst (Prod.snd M2) a0 4 = some b4 ∧ jv_Tg 9 a0 N2 ∧ ∃ b7, Prod.fst (Prod.snd M2) a0 2 = some b7 ∧ jv_Tg 3 b4 N2 ∧ jv_Ct g d mt_A_push [.ref b4, .ref b7] M2 N2 0 0 (fun v M11 N11 => jv_rv v (jv_Tg 9 a0 N11 ∧ ∃ b13, Prod.fst (Prod.snd M11) a0 2 = some b13 ∧ jv_Tg 6 b13 N11 ∧ ∃ b16, Prod.fst (Prod.snd M11) b13 2 = some b16 ∧ jv_Tg 16 b16 N11 ∧ vp_in x1 (jv_sh b16).2 ∧ ∃ b20, Prod.fst (Prod.snd M11) b16 (Int32.toNatClampNeg x1) = some b20 ∧ jv_Tg 8 b20 N11 ∧ jv_Tg 8 b20 N11 ∧ jv_Ct g d mt_U_become [.ref b20, .int x2, .int x3, .int x4, .int x5, .int x6] M11 N11 0 0 (fun v M25 N25 => jv_rv v (Z (some (.int (Prod.fst M11 b20 1))) M25 N25))))) ∧ (¬ (x5 ≤ 9) → Z (some (.int (-2))) M2 N2)))))) : jv_J g (d + 1) mt_R_set 48 [some (.ref a0), some (.int x1), some (.int x2), some (.int x3), some (.int x4), some (.int x5), some (.int x6), none, none] [.int y1, .int y0] M N cr sr Z := by
  refine jv_invS [.int y0, .int y1] [] d_R_set_48 ml_R_111 rfl (Nat.le_of_ble_eq_true rfl) (Nat.zero_add _) (Nat.zero_add _) (jv_Ct.mono h (fun v M2 N2 h => ?_))
  obtain ⟨r1, rfl, h⟩ := h
  change jv_J g (d + 1) mt_R_set 51 [some (.ref a0), some (.int x1), some (.int x2), some (.int x3), some (.int x4), some (.int x5), some (.int x6), none, none] [.int r1] M2 N2 cr sr Z
  refine jv_if_eq (tgt := 67) d_R_set_51 (by decide) ⟨fun c => ?_, fun c => ?_⟩
  · replace h := h.1 c
    refine jv_bipush (v := (-2)) d_R_set_67 (by decide) ?_
    exact jv_iret d_R_set_69 rfl rfl h
  · replace h := h.2 c
    refine jv_iload d_R_set_54 rfl ?_
    refine jv_iconst (v := 1) d_R_set_56 (by decide) ?_
    refine jv_icmp_lt (tgt := 67) d_R_set_57 (by decide) ⟨fun c => ?_, fun c => ?_⟩
    · replace h := h.1 c
      refine jv_bipush (v := (-2)) d_R_set_67 (by decide) ?_
      exact jv_iret d_R_set_69 rfl rfl h
    · replace h := h.2 c
      refine jv_iload d_R_set_60 rfl ?_
      refine jv_bipush (v := 9) d_R_set_62 (by decide) ?_
      refine jv_icmp_le (tgt := 70) d_R_set_64 (by decide) ⟨fun c => ?_, fun c => ?_⟩
      · replace h := h.1 c
        refine jv_aload_n d_R_set_70 rfl rfl ?_
        obtain ⟨q3, h⟩ := h
        obtain ⟨b4, e5, h⟩ := h
        refine jv_getR d_R_set_71 fl_R_36 rfl q3 e5 ?_
        refine jv_aload_n d_R_set_74 rfl rfl ?_
        obtain ⟨q6, h⟩ := h
        obtain ⟨b7, e8, h⟩ := h
        refine jv_getR d_R_set_75 fl_R_26 rfl q6 e8 ?_
        obtain ⟨q9, h⟩ := h
        refine jv_invV [.ref b7] [] d_R_set_78 ml_R_134 q9 rfl (Nat.le_of_ble_eq_true rfl) (Nat.zero_add _) (Nat.zero_add _) (jv_Ct.mono h (fun v M11 N11 h => ?_))
        obtain ⟨rfl, h⟩ := h
        change jv_J g (d + 1) mt_R_set 81 [some (.ref a0), some (.int x1), some (.int x2), some (.int x3), some (.int x4), some (.int x5), some (.int x6), none, none] [] M11 N11 cr sr Z
        refine jv_aload_n d_R_set_81 rfl rfl ?_
        obtain ⟨q12, h⟩ := h
        obtain ⟨b13, e14, h⟩ := h
        refine jv_getR d_R_set_82 fl_R_26 rfl q12 e14 ?_
        obtain ⟨q15, h⟩ := h
        obtain ⟨b16, e17, h⟩ := h
        refine jv_getR d_R_set_85 fl_R_104 rfl q15 e17 ?_
        refine jv_iload_n d_R_set_88 rfl rfl ?_
        obtain ⟨q18, q19, b20, e21, h⟩ := h
        refine jv_aald (t := 16) d_R_set_89 (by decide) q18 q19 e21 ?_
        refine jv_astore (L' := [some (.ref a0), some (.int x1), some (.int x2), some (.int x3), some (.int x4), some (.int x5), some (.int x6), some (.ref b20), none]) d_R_set_90 (Nat.le_of_ble_eq_true rfl) rfl ?_
        refine jv_aload d_R_set_92 rfl ?_
        obtain ⟨q22, h⟩ := h
        refine jv_getI d_R_set_94 fl_R_151 rfl q22 ?_
        refine jv_istore (L' := [some (.ref a0), some (.int x1), some (.int x2), some (.int x3), some (.int x4), some (.int x5), some (.int x6), some (.ref b20), some (.int (Prod.fst M11 b20 1))]) d_R_set_97 (Nat.le_of_ble_eq_true rfl) rfl ?_
        refine jv_aload d_R_set_99 rfl ?_
        refine jv_iload_n d_R_set_101 rfl rfl ?_
        refine jv_iload_n d_R_set_102 rfl rfl ?_
        refine jv_iload d_R_set_103 rfl ?_
        refine jv_iload d_R_set_105 rfl ?_
        refine jv_iload d_R_set_107 rfl ?_
        obtain ⟨q23, h⟩ := h
        refine jv_invV [.int x2, .int x3, .int x4, .int x5, .int x6] [] d_R_set_109 ml_R_154 q23 rfl (Nat.le_of_ble_eq_true rfl) (Nat.zero_add _) (Nat.zero_add _) (jv_Ct.mono h (fun v M25 N25 h => ?_))
        obtain ⟨rfl, h⟩ := h
        change jv_J g (d + 1) mt_R_set 112 [some (.ref a0), some (.int x1), some (.int x2), some (.int x3), some (.int x4), some (.int x5), some (.int x6), some (.ref b20), some (.int (Prod.fst M11 b20 1))] [] M25 N25 cr sr Z
        refine jv_iload d_R_set_112 rfl ?_
        exact jv_iret d_R_set_114 rfl rfl h
      · replace h := h.2 c
        refine jv_bipush (v := (-2)) d_R_set_67 (by decide) ?_
        exact jv_iret d_R_set_69 rfl rfl h
theorem b_R_buffer_0 {g : jv_G} {d : Nat} {M : jv_Mem} {N cr sr : Nat} {Z : Option Value → jv_Mem → Nat → Prop} {a0 : Nat} {x1 : Int32} {x2 : Int32} (h : jv_Ct g d mt_R_isBelow [.int x1, .int 2] M N 0 0 (fun v M2 N2 => jv_ri v (fun r1 => (r1 = 0 → Z (some (.int (-2))) M2 N2) ∧ (¬ (r1 = 0) → jv_Ct g d mt_R_isBuffered [.int x2] M2 N2 0 0 (fun v M4 N4 => jv_ri v (fun r3 => (r3 ≠ 0 → jv_Tg 9 a0 N4 ∧ ∃ b6, Prod.fst (Prod.snd M4) a0 4 = some b6 ∧ jv_Tg 9 a0 N4 ∧ ∃ b9, Prod.fst (Prod.snd M4) a0 2 = some b9 ∧ jv_Tg 3 b6 N4 ∧ jv_Ct g d mt_A_push [.ref b6, .ref b9] M4 N4 0 0 (fun v M13 N13 => jv_rv v (jv_Tg 9 a0 N13 ∧ ∃ b15, Prod.fst (Prod.snd M13) a0 2 = some b15 ∧ jv_Tg 6 b15 N13 ∧ ∃ b18, Prod.fst (Prod.snd M13) b15 0 = some b18 ∧ jv_Tg 0 b18 N13 ∧ ∃ b21, Prod.fst (Prod.snd M13) b18 1 = some b21 ∧ jv_Tg 11 b21 N13 ∧ vp_in x1 (jv_sh b21).2 ∧ jv_Tg 9 a0 N13 ∧ ∃ b26, Prod.fst (Prod.snd M13) a0 2 = some b26 ∧ jv_Tg 6 b26 N13 ∧ ∃ b29, Prod.fst (Prod.snd M13) b26 0 = some b29 ∧ jv_Tg 0 b29 N13 ∧ ∃ b32, Prod.fst (Prod.snd M13) b29 1 = some b32 ∧ jv_Tg 11 b32 N13 ∧ vp_in x1 (jv_sh b32).2 ∧ Z (some (.int (Prod.fst M13 b21 (Int32.toNatClampNeg x1)))) (jv_si M13 b32 (Int32.toNatClampNeg x1) x2) N13))) ∧ (r3 = 0 → Z (some (.int (-2))) M4 N4))))))) : jv_J g (d + 1) mt_R_buffer 0 [some (.ref a0), some (.int x1), some (.int x2), none] [] M N cr sr Z := by
  refine jv_iload_n d_R_buffer_0 rfl rfl ?_
  refine jv_iconst (v := 2) d_R_buffer_1 (by decide) ?_
  refine jv_invS [.int x1, .int 2] [] d_R_buffer_2 ml_R_111 rfl (Nat.le_of_ble_eq_true rfl) (Nat.zero_add _) (Nat.zero_add _) (jv_Ct.mono h (fun v M2 N2 h => ?_))
  obtain ⟨r1, rfl, h⟩ := h
  change jv_J g (d + 1) mt_R_buffer 5 [some (.ref a0), some (.int x1), some (.int x2), none] [.int r1] M2 N2 cr sr Z
  refine jv_if_eq (tgt := 15) d_R_buffer_5 (by decide) ⟨fun c => ?_, fun c => ?_⟩
  · replace h := h.1 c
    refine jv_bipush (v := (-2)) d_R_buffer_15 (by decide) ?_
    exact jv_iret d_R_buffer_17 rfl rfl h
  · replace h := h.2 c
    refine jv_iload_n d_R_buffer_8 rfl rfl ?_
    refine jv_invS [.int x2] [] d_R_buffer_9 ml_R_158 rfl (Nat.le_of_ble_eq_true rfl) (Nat.zero_add _) (Nat.zero_add _) (jv_Ct.mono h (fun v M4 N4 h => ?_))
    obtain ⟨r3, rfl, h⟩ := h
    change jv_J g (d + 1) mt_R_buffer 12 [some (.ref a0), some (.int x1), some (.int x2), none] [.int r3] M4 N4 cr sr Z
    refine jv_if_ne (tgt := 18) d_R_buffer_12 (by decide) ⟨fun c => ?_, fun c => ?_⟩
    · replace h := h.1 c
      refine jv_aload_n d_R_buffer_18 rfl rfl ?_
      obtain ⟨q5, h⟩ := h
      obtain ⟨b6, e7, h⟩ := h
      refine jv_getR d_R_buffer_19 fl_R_36 rfl q5 e7 ?_
      refine jv_aload_n d_R_buffer_22 rfl rfl ?_
      obtain ⟨q8, h⟩ := h
      obtain ⟨b9, e10, h⟩ := h
      refine jv_getR d_R_buffer_23 fl_R_26 rfl q8 e10 ?_
      obtain ⟨q11, h⟩ := h
      refine jv_invV [.ref b9] [] d_R_buffer_26 ml_R_134 q11 rfl (Nat.le_of_ble_eq_true rfl) (Nat.zero_add _) (Nat.zero_add _) (jv_Ct.mono h (fun v M13 N13 h => ?_))
      obtain ⟨rfl, h⟩ := h
      change jv_J g (d + 1) mt_R_buffer 29 [some (.ref a0), some (.int x1), some (.int x2), none] [] M13 N13 cr sr Z
      refine jv_aload_n d_R_buffer_29 rfl rfl ?_
      obtain ⟨q14, h⟩ := h
      obtain ⟨b15, e16, h⟩ := h
      refine jv_getR d_R_buffer_30 fl_R_26 rfl q14 e16 ?_
      obtain ⟨q17, h⟩ := h
      obtain ⟨b18, e19, h⟩ := h
      refine jv_getR d_R_buffer_33 fl_R_118 rfl q17 e19 ?_
      obtain ⟨q20, h⟩ := h
      obtain ⟨b21, e22, h⟩ := h
      refine jv_getR d_R_buffer_36 fl_R_161 rfl q20 e22 ?_
      refine jv_iload_n d_R_buffer_39 rfl rfl ?_
      obtain ⟨q23, q24, h⟩ := h
      refine jv_iald d_R_buffer_40 q23 q24 ?_
      refine jv_istore_n (L' := [some (.ref a0), some (.int x1), some (.int x2), some (.int (Prod.fst M13 b21 (Int32.toNatClampNeg x1)))]) d_R_buffer_41 rfl (Nat.le_of_ble_eq_true rfl) rfl ?_
      refine jv_aload_n d_R_buffer_42 rfl rfl ?_
      obtain ⟨q25, h⟩ := h
      obtain ⟨b26, e27, h⟩ := h
      refine jv_getR d_R_buffer_43 fl_R_26 rfl q25 e27 ?_
      obtain ⟨q28, h⟩ := h
      obtain ⟨b29, e30, h⟩ := h
      refine jv_getR d_R_buffer_46 fl_R_118 rfl q28 e30 ?_
      obtain ⟨q31, h⟩ := h
      obtain ⟨b32, e33, h⟩ := h
      refine jv_getR d_R_buffer_49 fl_R_161 rfl q31 e33 ?_
      refine jv_iload_n d_R_buffer_52 rfl rfl ?_
      refine jv_iload_n d_R_buffer_53 rfl rfl ?_
      obtain ⟨q34, q35, h⟩ := h
      refine jv_iast d_R_buffer_54 q34 q35 ?_
      refine jv_iload_n d_R_buffer_55 rfl rfl ?_
      exact jv_iret d_R_buffer_56 rfl rfl h
    · replace h := h.2 c
      refine jv_bipush (v := (-2)) d_R_buffer_15 (by decide) ?_
      exact jv_iret d_R_buffer_17 rfl rfl h
theorem b_R_isBuffered_0 {g : jv_G} {d : Nat} {M : jv_Mem} {N cr sr : Nat} {Z : Option Value → jv_Mem → Nat → Prop} {x0 : Int32} (h : (x0 < 0 → Z (some (.int 0)) M N) ∧ (¬ (x0 < 0) → ((x0 / 100) ≤ 8 → vp_in (x0 / 100) 9 ∧ jv_Ct g d mt_P_hasRegister [.int (x0 / 100)] M N 0 0 (fun v M3 N3 => jv_ri v (fun r2 => (r2 = 0 → jv_J g (d + 1) mt_R_isBuffered 51 [some (.int x0), none, some (.int (if 1 < (if (jv_second (Int32.toNatClampNeg (x0 / 100))) < 10 then (jv_second (Int32.toNatClampNeg (x0 / 100))) else 10) then (if (jv_second (Int32.toNatClampNeg (x0 / 100))) < 10 then (jv_second (Int32.toNatClampNeg (x0 / 100))) else 10) else 1))] [.int 1, .int ((x0 / 10) - (x0 / 10) / 10 * 10)] M3 N3 cr sr Z) ∧ (¬ (r2 = 0) → jv_J g (d + 1) mt_R_isBuffered 51 [some (.int x0), none, some (.int (if 1 < (if (jv_second (Int32.toNatClampNeg (x0 / 100))) < 10 then (jv_second (Int32.toNatClampNeg (x0 / 100))) else 10) then (if (jv_second (Int32.toNatClampNeg (x0 / 100))) < 10 then (jv_second (Int32.toNatClampNeg (x0 / 100))) else 10) else 1))] [.int 4, .int ((x0 / 10) - (x0 / 10) / 10 * 10)] M3 N3 cr sr Z)))) ∧ (¬ ((x0 / 100) ≤ 8) → Z (some (.int 0)) M N))) : jv_J g (d + 1) mt_R_isBuffered 0 [some (.int x0), none, none] [] M N cr sr Z := by
  refine jv_iload_n d_R_isBuffered_0 rfl rfl ?_
  refine jv_bipush (v := 100) d_R_isBuffered_1 (by decide) ?_
  refine jv_idiv d_R_isBuffered_3 (by decide) ?_
  refine jv_istore_n (L' := [some (.int x0), some (.int (x0 / 100)), none]) d_R_isBuffered_4 rfl (Nat.le_of_ble_eq_true rfl) rfl ?_
  refine jv_iload_n d_R_isBuffered_5 rfl rfl ?_
  refine jv_if_lt (tgt := 15) d_R_isBuffered_6 (by decide) ⟨fun c => ?_, fun c => ?_⟩
  · replace h := h.1 c
    refine jv_iconst (v := 0) d_R_isBuffered_15 (by decide) ?_
    exact jv_iret d_R_isBuffered_16 rfl (jv_nz (by decide)) h
  · replace h := h.2 c
    refine jv_iload_n d_R_isBuffered_9 rfl rfl ?_
    refine jv_bipush (v := 8) d_R_isBuffered_10 (by decide) ?_
    refine jv_icmp_le (tgt := 17) d_R_isBuffered_12 (by decide) ⟨fun c => ?_, fun c => ?_⟩
    · replace h := h.1 c
      refine jv_iconst (v := 1) d_R_isBuffered_17 (by decide) ?_
      refine jv_bipush (v := 10) d_R_isBuffered_18 (by decide) ?_
      refine jv_gSec d_R_isBuffered_20 sf_R_241 ?_
      refine jv_iload_n d_R_isBuffered_23 rfl rfl ?_
      obtain ⟨q1, h⟩ := h
      refine jv_roald (f := jv_second) d_R_isBuffered_24 (Or.inr (Or.inl ⟨rfl, rfl, rfl⟩)) q1 ?_
      refine jv_mmin d_R_isBuffered_25 ml_R_244 (Nat.le_of_ble_eq_true rfl) ?_
      refine jv_mmax d_R_isBuffered_28 ml_R_249 (Nat.le_of_ble_eq_true rfl) ?_
      refine jv_istore_n (L' := [some (.int x0), some (.int (x0 / 100)), some (.int (if 1 < (if (jv_second (Int32.toNatClampNeg (x0 / 100))) < 10 then (jv_second (Int32.toNatClampNeg (x0 / 100))) else 10) then (if (jv_second (Int32.toNatClampNeg (x0 / 100))) < 10 then (jv_second (Int32.toNatClampNeg (x0 / 100))) else 10) else 1))]) d_R_isBuffered_31 rfl (Nat.le_of_ble_eq_true rfl) rfl ?_
      refine jv_iload_n d_R_isBuffered_32 rfl rfl ?_
      refine jv_bipush (v := 10) d_R_isBuffered_33 (by decide) ?_
      refine jv_idiv d_R_isBuffered_35 (by decide) ?_
      refine jv_bipush (v := 10) d_R_isBuffered_36 (by decide) ?_
      refine jv_irem d_R_isBuffered_38 (by decide) ?_
      refine jv_iload_n d_R_isBuffered_39 rfl rfl ?_
      refine jv_invS [.int (x0 / 100)] [.int ((x0 / 10) - (x0 / 10) / 10 * 10)] d_R_isBuffered_40 ml_R_252 rfl (Nat.le_of_ble_eq_true rfl) (Nat.zero_add _) (Nat.zero_add _) (jv_Ct.mono h (fun v M3 N3 h => ?_))
      obtain ⟨r2, rfl, h⟩ := h
      change jv_J g (d + 1) mt_R_isBuffered 43 [some (.int x0), some (.int (x0 / 100)), some (.int (if 1 < (if (jv_second (Int32.toNatClampNeg (x0 / 100))) < 10 then (jv_second (Int32.toNatClampNeg (x0 / 100))) else 10) then (if (jv_second (Int32.toNatClampNeg (x0 / 100))) < 10 then (jv_second (Int32.toNatClampNeg (x0 / 100))) else 10) else 1))] [.int r2, .int ((x0 / 10) - (x0 / 10) / 10 * 10)] M3 N3 cr sr Z
      refine jv_if_eq (tgt := 50) d_R_isBuffered_43 (by decide) ⟨fun c => ?_, fun c => ?_⟩
      · replace h := h.1 c
        refine jv_iconst (v := 1) d_R_isBuffered_50 (by decide) ?_
        refine jv_weak (L' := [some (.int x0), none, some (.int (if 1 < (if (jv_second (Int32.toNatClampNeg (x0 / 100))) < 10 then (jv_second (Int32.toNatClampNeg (x0 / 100))) else 10) then (if (jv_second (Int32.toNatClampNeg (x0 / 100))) < 10 then (jv_second (Int32.toNatClampNeg (x0 / 100))) else 10) else 1))]) (by simp [jv_le]) ?_
        exact h
      · replace h := h.2 c
        refine jv_iconst (v := 4) d_R_isBuffered_46 (by decide) ?_
        refine jv_goto (tgt := 51) d_R_isBuffered_47 (by decide) ?_
        refine jv_weak (L' := [some (.int x0), none, some (.int (if 1 < (if (jv_second (Int32.toNatClampNeg (x0 / 100))) < 10 then (jv_second (Int32.toNatClampNeg (x0 / 100))) else 10) then (if (jv_second (Int32.toNatClampNeg (x0 / 100))) < 10 then (jv_second (Int32.toNatClampNeg (x0 / 100))) else 10) else 1))]) (by simp [jv_le]) ?_
        exact h
    · replace h := h.2 c
      refine jv_iconst (v := 0) d_R_isBuffered_15 (by decide) ?_
      exact jv_iret d_R_isBuffered_16 rfl (jv_nz (by decide)) h
theorem b_R_isBuffered_51 {g : jv_G} {d : Nat} {M : jv_Mem} {N cr sr : Nat} {Z : Option Value → jv_Mem → Nat → Prop} {x0 : Int32} {x2 : Int32} {y0 : Int32} {y1 : Int32} (h : (y1 ≤ y0 → Z (some (.int 0)) M N) ∧ (¬ (y1 ≤ y0) → (x2 ≤ (x0 - x0 / 10 * 10) → Z (some (.int 0)) M N) ∧ (¬ (x2 ≤ (x0 - x0 / 10 * 10)) → Z (some (.int 1)) M N))) : jv_J g (d + 1) mt_R_isBuffered 51 [some (.int x0), none, some (.int x2)] [.int y1, .int y0] M N cr sr Z := by
  refine jv_icmp_ge (tgt := 66) d_R_isBuffered_51 (by decide) ⟨fun c => ?_, fun c => ?_⟩
  · replace h := h.1 c
    refine jv_iconst (v := 0) d_R_isBuffered_66 (by decide) ?_
    exact jv_iret d_R_isBuffered_67 rfl (jv_nz (by decide)) h
  · replace h := h.2 c
    refine jv_iload_n d_R_isBuffered_54 rfl rfl ?_
    refine jv_bipush (v := 10) d_R_isBuffered_55 (by decide) ?_
    refine jv_irem d_R_isBuffered_57 (by decide) ?_
    refine jv_iload_n d_R_isBuffered_58 rfl rfl ?_
    refine jv_icmp_ge (tgt := 66) d_R_isBuffered_59 (by decide) ⟨fun c => ?_, fun c => ?_⟩
    · replace h := h.1 c
      refine jv_iconst (v := 0) d_R_isBuffered_66 (by decide) ?_
      exact jv_iret d_R_isBuffered_67 rfl (jv_nz (by decide)) h
    · replace h := h.2 c
      refine jv_iconst (v := 1) d_R_isBuffered_62 (by decide) ?_
      refine jv_goto (tgt := 67) d_R_isBuffered_63 (by decide) ?_
      exact jv_iret d_R_isBuffered_67 rfl (jv_nz (by decide)) h
theorem b_R_clear_0 {g : jv_G} {d : Nat} {M : jv_Mem} {N cr sr : Nat} {Z : Option Value → jv_Mem → Nat → Prop} {a0 : Nat} (h : jv_Tg 9 a0 N ∧ ∃ b2, Prod.fst (Prod.snd M) a0 4 = some b2 ∧ jv_Tg 9 a0 N ∧ ∃ b5, Prod.fst (Prod.snd M) a0 2 = some b5 ∧ jv_Tg 3 b2 N ∧ jv_Ct g d mt_A_push [.ref b2, .ref b5] M N 0 0 (fun v M9 N9 => jv_rv v (jv_Tg 9 a0 N9 ∧ ∃ b11, Prod.fst (Prod.snd M9) a0 2 = some b11 ∧ jv_Tg 6 b11 N9 ∧ ∃ b14, Prod.fst (Prod.snd M9) b11 0 = some b14 ∧ jv_Tg 0 b14 N9 ∧ jv_Tg 9 a0 N9 ∧ ∃ b18, Prod.fst (Prod.snd M9) a0 2 = some b18 ∧ jv_Tg 6 b18 N9 ∧ ∃ b21, Prod.fst (Prod.snd M9) b18 0 = some b21 ∧ jv_Tg 0 b21 N9 ∧ Z (some (.int (Prod.fst M9 b14 3))) (jv_si M9 b21 3 0) N9))) : jv_J g (d + 1) mt_R_clear 0 [some (.ref a0), none] [] M N cr sr Z := by
  refine jv_aload_n d_R_clear_0 rfl rfl ?_
  obtain ⟨q1, h⟩ := h
  obtain ⟨b2, e3, h⟩ := h
  refine jv_getR d_R_clear_1 fl_R_36 rfl q1 e3 ?_
  refine jv_aload_n d_R_clear_4 rfl rfl ?_
  obtain ⟨q4, h⟩ := h
  obtain ⟨b5, e6, h⟩ := h
  refine jv_getR d_R_clear_5 fl_R_26 rfl q4 e6 ?_
  obtain ⟨q7, h⟩ := h
  refine jv_invV [.ref b5] [] d_R_clear_8 ml_R_134 q7 rfl (Nat.le_of_ble_eq_true rfl) (Nat.zero_add _) (Nat.zero_add _) (jv_Ct.mono h (fun v M9 N9 h => ?_))
  obtain ⟨rfl, h⟩ := h
  change jv_J g (d + 1) mt_R_clear 11 [some (.ref a0), none] [] M9 N9 cr sr Z
  refine jv_aload_n d_R_clear_11 rfl rfl ?_
  obtain ⟨q10, h⟩ := h
  obtain ⟨b11, e12, h⟩ := h
  refine jv_getR d_R_clear_12 fl_R_26 rfl q10 e12 ?_
  obtain ⟨q13, h⟩ := h
  obtain ⟨b14, e15, h⟩ := h
  refine jv_getR d_R_clear_15 fl_R_118 rfl q13 e15 ?_
  obtain ⟨q16, h⟩ := h
  refine jv_getI d_R_clear_18 fl_R_148 rfl q16 ?_
  refine jv_istore_n (L' := [some (.ref a0), some (.int (Prod.fst M9 b14 3))]) d_R_clear_21 rfl (Nat.le_of_ble_eq_true rfl) rfl ?_
  refine jv_aload_n d_R_clear_22 rfl rfl ?_
  obtain ⟨q17, h⟩ := h
  obtain ⟨b18, e19, h⟩ := h
  refine jv_getR d_R_clear_23 fl_R_26 rfl q17 e19 ?_
  obtain ⟨q20, h⟩ := h
  obtain ⟨b21, e22, h⟩ := h
  refine jv_getR d_R_clear_26 fl_R_118 rfl q20 e22 ?_
  refine jv_iconst (v := 0) d_R_clear_29 (by decide) ?_
  obtain ⟨q23, h⟩ := h
  refine jv_putI d_R_clear_30 fl_R_148 (fun r hr => by cases hr; rfl) rfl q23 ?_
  refine jv_iload_n d_R_clear_33 rfl rfl ?_
  exact jv_iret d_R_clear_34 rfl rfl h
theorem b_R_poke_0 {g : jv_G} {d : Nat} {M : jv_Mem} {N cr sr : Nat} {Z : Option Value → jv_Mem → Nat → Prop} {a0 : Nat} {x1 : Int32} {x2 : Int32} (h : jv_Ct g d mt_R_isBelow [.int x1, .int 8] M N 0 0 (fun v M2 N2 => jv_ri v (fun r1 => (r1 = 0 → Z (some (.int (-2))) M2 N2) ∧ (¬ (r1 = 0) → jv_Ct g d mt_R_isBelow [.int x2, .int 1000] M2 N2 0 0 (fun v M4 N4 => jv_ri v (fun r3 => (r3 ≠ 0 → jv_Tg 9 a0 N4 ∧ ∃ b6, Prod.fst (Prod.snd M4) a0 4 = some b6 ∧ jv_Tg 9 a0 N4 ∧ ∃ b9, Prod.fst (Prod.snd M4) a0 2 = some b9 ∧ jv_Tg 3 b6 N4 ∧ jv_Ct g d mt_A_push [.ref b6, .ref b9] M4 N4 0 0 (fun v M13 N13 => jv_rv v (jv_Tg 9 a0 N13 ∧ ∃ b15, Prod.fst (Prod.snd M13) a0 2 = some b15 ∧ jv_Tg 6 b15 N13 ∧ ∃ b18, Prod.fst (Prod.snd M13) b15 3 = some b18 ∧ jv_Tg 11 b18 N13 ∧ vp_in x1 (jv_sh b18).2 ∧ jv_Tg 9 a0 N13 ∧ ∃ b23, Prod.fst (Prod.snd M13) a0 2 = some b23 ∧ jv_Tg 6 b23 N13 ∧ ∃ b26, Prod.fst (Prod.snd M13) b23 3 = some b26 ∧ jv_Tg 11 b26 N13 ∧ vp_in x1 (jv_sh b26).2 ∧ Z (some (.int (Prod.fst M13 b18 (Int32.toNatClampNeg x1)))) (jv_si M13 b26 (Int32.toNatClampNeg x1) x2) N13))) ∧ (r3 = 0 → Z (some (.int (-2))) M4 N4))))))) : jv_J g (d + 1) mt_R_poke 0 [some (.ref a0), some (.int x1), some (.int x2), none] [] M N cr sr Z := by
  refine jv_iload_n d_R_poke_0 rfl rfl ?_
  refine jv_bipush (v := 8) d_R_poke_1 (by decide) ?_
  refine jv_invS [.int x1, .int 8] [] d_R_poke_3 ml_R_111 rfl (Nat.le_of_ble_eq_true rfl) (Nat.zero_add _) (Nat.zero_add _) (jv_Ct.mono h (fun v M2 N2 h => ?_))
  obtain ⟨r1, rfl, h⟩ := h
  change jv_J g (d + 1) mt_R_poke 6 [some (.ref a0), some (.int x1), some (.int x2), none] [.int r1] M2 N2 cr sr Z
  refine jv_if_eq (tgt := 19) d_R_poke_6 (by decide) ⟨fun c => ?_, fun c => ?_⟩
  · replace h := h.1 c
    refine jv_bipush (v := (-2)) d_R_poke_19 (by decide) ?_
    exact jv_iret d_R_poke_21 rfl rfl h
  · replace h := h.2 c
    refine jv_iload_n d_R_poke_9 rfl rfl ?_
    refine jv_sipush (v := 1000) d_R_poke_10 (by decide) ?_
    refine jv_invS [.int x2, .int 1000] [] d_R_poke_13 ml_R_111 rfl (Nat.le_of_ble_eq_true rfl) (Nat.zero_add _) (Nat.zero_add _) (jv_Ct.mono h (fun v M4 N4 h => ?_))
    obtain ⟨r3, rfl, h⟩ := h
    change jv_J g (d + 1) mt_R_poke 16 [some (.ref a0), some (.int x1), some (.int x2), none] [.int r3] M4 N4 cr sr Z
    refine jv_if_ne (tgt := 22) d_R_poke_16 (by decide) ⟨fun c => ?_, fun c => ?_⟩
    · replace h := h.1 c
      refine jv_aload_n d_R_poke_22 rfl rfl ?_
      obtain ⟨q5, h⟩ := h
      obtain ⟨b6, e7, h⟩ := h
      refine jv_getR d_R_poke_23 fl_R_36 rfl q5 e7 ?_
      refine jv_aload_n d_R_poke_26 rfl rfl ?_
      obtain ⟨q8, h⟩ := h
      obtain ⟨b9, e10, h⟩ := h
      refine jv_getR d_R_poke_27 fl_R_26 rfl q8 e10 ?_
      obtain ⟨q11, h⟩ := h
      refine jv_invV [.ref b9] [] d_R_poke_30 ml_R_134 q11 rfl (Nat.le_of_ble_eq_true rfl) (Nat.zero_add _) (Nat.zero_add _) (jv_Ct.mono h (fun v M13 N13 h => ?_))
      obtain ⟨rfl, h⟩ := h
      change jv_J g (d + 1) mt_R_poke 33 [some (.ref a0), some (.int x1), some (.int x2), none] [] M13 N13 cr sr Z
      refine jv_aload_n d_R_poke_33 rfl rfl ?_
      obtain ⟨q14, h⟩ := h
      obtain ⟨b15, e16, h⟩ := h
      refine jv_getR d_R_poke_34 fl_R_26 rfl q14 e16 ?_
      obtain ⟨q17, h⟩ := h
      obtain ⟨b18, e19, h⟩ := h
      refine jv_getR d_R_poke_37 fl_R_115 rfl q17 e19 ?_
      refine jv_iload_n d_R_poke_40 rfl rfl ?_
      obtain ⟨q20, q21, h⟩ := h
      refine jv_iald d_R_poke_41 q20 q21 ?_
      refine jv_istore_n (L' := [some (.ref a0), some (.int x1), some (.int x2), some (.int (Prod.fst M13 b18 (Int32.toNatClampNeg x1)))]) d_R_poke_42 rfl (Nat.le_of_ble_eq_true rfl) rfl ?_
      refine jv_aload_n d_R_poke_43 rfl rfl ?_
      obtain ⟨q22, h⟩ := h
      obtain ⟨b23, e24, h⟩ := h
      refine jv_getR d_R_poke_44 fl_R_26 rfl q22 e24 ?_
      obtain ⟨q25, h⟩ := h
      obtain ⟨b26, e27, h⟩ := h
      refine jv_getR d_R_poke_47 fl_R_115 rfl q25 e27 ?_
      refine jv_iload_n d_R_poke_50 rfl rfl ?_
      refine jv_iload_n d_R_poke_51 rfl rfl ?_
      obtain ⟨q28, q29, h⟩ := h
      refine jv_iast d_R_poke_52 q28 q29 ?_
      refine jv_iload_n d_R_poke_53 rfl rfl ?_
      exact jv_iret d_R_poke_54 rfl rfl h
    · replace h := h.2 c
      refine jv_bipush (v := (-2)) d_R_poke_19 (by decide) ?_
      exact jv_iret d_R_poke_21 rfl rfl h
theorem b_R_undo_0 {g : jv_G} {d : Nat} {M : jv_Mem} {N cr sr : Nat} {Z : Option Value → jv_Mem → Nat → Prop} {a0 : Nat} (h : jv_Tg 9 a0 N ∧ ∃ b2, Prod.fst (Prod.snd M) a0 4 = some b2 ∧ jv_Tg 9 a0 N ∧ ∃ b5, Prod.fst (Prod.snd M) a0 2 = some b5 ∧ jv_Tg 3 b2 N ∧ jv_Ct g d mt_A_popInto [.ref b2, .ref b5] M N 0 0 (fun v M9 N9 => jv_ri v (fun r8 => (r8 = 0 → Z (some (.int (-3))) M9 N9) ∧ (¬ (r8 = 0) → jv_Tg 9 a0 N9 ∧ ∃ b11, Prod.fst (Prod.snd M9) a0 4 = some b11 ∧ jv_Tg 3 b11 N9 ∧ Z (some (.int (Prod.fst M9 b11 2))) M9 N9)))) : jv_J g (d + 1) mt_R_undo 0 [some (.ref a0)] [] M N cr sr Z := by
  refine jv_aload_n d_R_undo_0 rfl rfl ?_
  obtain ⟨q1, h⟩ := h
  obtain ⟨b2, e3, h⟩ := h
  refine jv_getR d_R_undo_1 fl_R_36 rfl q1 e3 ?_
  refine jv_aload_n d_R_undo_4 rfl rfl ?_
  obtain ⟨q4, h⟩ := h
  obtain ⟨b5, e6, h⟩ := h
  refine jv_getR d_R_undo_5 fl_R_26 rfl q4 e6 ?_
  obtain ⟨q7, h⟩ := h
  refine jv_invV [.ref b5] [] d_R_undo_8 ml_R_164 q7 rfl (Nat.le_of_ble_eq_true rfl) (Nat.zero_add _) (Nat.zero_add _) (jv_Ct.mono h (fun v M9 N9 h => ?_))
  obtain ⟨r8, rfl, h⟩ := h
  change jv_J g (d + 1) mt_R_undo 11 [some (.ref a0)] [.int r8] M9 N9 cr sr Z
  refine jv_if_eq (tgt := 24) d_R_undo_11 (by decide) ⟨fun c => ?_, fun c => ?_⟩
  · replace h := h.1 c
    refine jv_bipush (v := (-3)) d_R_undo_24 (by decide) ?_
    exact jv_iret d_R_undo_26 rfl rfl h
  · replace h := h.2 c
    refine jv_aload_n d_R_undo_14 rfl rfl ?_
    obtain ⟨q10, h⟩ := h
    obtain ⟨b11, e12, h⟩ := h
    refine jv_getR d_R_undo_15 fl_R_36 rfl q10 e12 ?_
    obtain ⟨q13, h⟩ := h
    refine jv_getI d_R_undo_18 fl_R_168 rfl q13 ?_
    refine jv_goto (tgt := 26) d_R_undo_21 (by decide) ?_
    exact jv_iret d_R_undo_26 rfl rfl h
theorem b_R_ahead_0 {g : jv_G} {d : Nat} {M : jv_Mem} {N cr sr : Nat} {Z : Option Value → jv_Mem → Nat → Prop} {a0 : Nat} {x1 : Int32} {x2 : Int32} {x3 : Int32} (h : jv_Tg 9 a0 N ∧ jv_Ct g d mt_R_isHart [.ref a0, .int x2] M N 0 0 (fun v M3 N3 => jv_ri v (fun r2 => (r2 ≠ 0 → jv_Ct g d mt_R_isBelow [.int x1, .int 100] M3 N3 0 0 (fun v M5 N5 => jv_ri v (fun r4 => (r4 ≠ 0 → jv_Tg 9 a0 N5 ∧ ∃ b7, Prod.fst (Prod.snd M5) a0 3 = some b7 ∧ jv_Tg 9 a0 N5 ∧ ∃ b10, Prod.fst (Prod.snd M5) a0 2 = some b10 ∧ jv_Tg 6 b7 N5 ∧ jv_Ct g d mt_S_copyFrom [.ref b7, .ref b10] M5 N5 0 0 (fun v M14 N14 => jv_rv v (jv_Tg 9 a0 N14 ∧ ∃ b16, Prod.fst (Prod.snd M14) a0 3 = some b16 ∧ jv_Tg 9 a0 N14 ∧ ∃ b19, Prod.fst (Prod.snd M14) a0 1 = some b19 ∧ jv_Tg 6 b16 N14 ∧ jv_Ct g d mt_S_pass [.ref b16, .ref b19, .int x1] M14 N14 0 0 (fun v M23 N23 => jv_rv v (jv_Tg 9 a0 N23 ∧ ∃ b25, Prod.fst (Prod.snd M23) a0 3 = some b25 ∧ jv_Tg 6 b25 N23 ∧ ∃ b28, Prod.fst (Prod.snd M23) b25 1 = some b28 ∧ jv_Tg 13 b28 N23 ∧ vp_in x2 (jv_sh b28).2 ∧ ∃ b32, Prod.fst (Prod.snd M23) b28 (Int32.toNatClampNeg x2) = some b32 ∧ jv_Tg 1 b32 N23 ∧ jv_Ct g d mt_H_property [.ref b32, .int x3] M23 N23 0 0 (fun v M36 N36 => jv_ri v (fun r35 => Z (some (.int r35)) M36 N36))))))) ∧ (r4 = 0 → Z (some (.int (-2))) M5 N5)))) ∧ (r2 = 0 → Z (some (.int (-1))) M3 N3)))) : jv_J g (d + 1) mt_R_ahead 0 [some (.ref a0), some (.int x1), some (.int x2), some (.int x3)] [] M N cr sr Z := by
  refine jv_aload_n d_R_ahead_0 rfl rfl ?_
  refine jv_iload_n d_R_ahead_1 rfl rfl ?_
  obtain ⟨q1, h⟩ := h
  refine jv_invV [.int x2] [] d_R_ahead_2 ml_R_88 q1 rfl (Nat.le_of_ble_eq_true rfl) (Nat.zero_add _) (Nat.zero_add _) (jv_Ct.mono h (fun v M3 N3 h => ?_))
  obtain ⟨r2, rfl, h⟩ := h
  change jv_J g (d + 1) mt_R_ahead 5 [some (.ref a0), some (.int x1), some (.int x2), some (.int x3)] [.int r2] M3 N3 cr sr Z
  refine jv_if_ne (tgt := 10) d_R_ahead_5 (by decide) ⟨fun c => ?_, fun c => ?_⟩
  · replace h := h.1 c
    refine jv_iload_n d_R_ahead_10 rfl rfl ?_
    refine jv_bipush (v := 100) d_R_ahead_11 (by decide) ?_
    refine jv_invS [.int x1, .int 100] [] d_R_ahead_13 ml_R_111 rfl (Nat.le_of_ble_eq_true rfl) (Nat.zero_add _) (Nat.zero_add _) (jv_Ct.mono h (fun v M5 N5 h => ?_))
    obtain ⟨r4, rfl, h⟩ := h
    change jv_J g (d + 1) mt_R_ahead 16 [some (.ref a0), some (.int x1), some (.int x2), some (.int x3)] [.int r4] M5 N5 cr sr Z
    refine jv_if_ne (tgt := 22) d_R_ahead_16 (by decide) ⟨fun c => ?_, fun c => ?_⟩
    · replace h := h.1 c
      refine jv_aload_n d_R_ahead_22 rfl rfl ?_
      obtain ⟨q6, h⟩ := h
      obtain ⟨b7, e8, h⟩ := h
      refine jv_getR d_R_ahead_23 fl_R_30 rfl q6 e8 ?_
      refine jv_aload_n d_R_ahead_26 rfl rfl ?_
      obtain ⟨q9, h⟩ := h
      obtain ⟨b10, e11, h⟩ := h
      refine jv_getR d_R_ahead_27 fl_R_26 rfl q9 e11 ?_
      obtain ⟨q12, h⟩ := h
      refine jv_invV [.ref b10] [] d_R_ahead_30 ml_R_79 q12 rfl (Nat.le_of_ble_eq_true rfl) (Nat.zero_add _) (Nat.zero_add _) (jv_Ct.mono h (fun v M14 N14 h => ?_))
      obtain ⟨rfl, h⟩ := h
      change jv_J g (d + 1) mt_R_ahead 33 [some (.ref a0), some (.int x1), some (.int x2), some (.int x3)] [] M14 N14 cr sr Z
      refine jv_aload_n d_R_ahead_33 rfl rfl ?_
      obtain ⟨q15, h⟩ := h
      obtain ⟨b16, e17, h⟩ := h
      refine jv_getR d_R_ahead_34 fl_R_30 rfl q15 e17 ?_
      refine jv_aload_n d_R_ahead_37 rfl rfl ?_
      obtain ⟨q18, h⟩ := h
      obtain ⟨b19, e20, h⟩ := h
      refine jv_getR d_R_ahead_38 fl_R_19 rfl q18 e20 ?_
      refine jv_iload_n d_R_ahead_41 rfl rfl ?_
      obtain ⟨q21, h⟩ := h
      refine jv_invV [.ref b19, .int x1] [] d_R_ahead_42 ml_R_137 q21 rfl (Nat.le_of_ble_eq_true rfl) (Nat.zero_add _) (Nat.zero_add _) (jv_Ct.mono h (fun v M23 N23 h => ?_))
      obtain ⟨rfl, h⟩ := h
      change jv_J g (d + 1) mt_R_ahead 45 [some (.ref a0), some (.int x1), some (.int x2), some (.int x3)] [] M23 N23 cr sr Z
      refine jv_aload_n d_R_ahead_45 rfl rfl ?_
      obtain ⟨q24, h⟩ := h
      obtain ⟨b25, e26, h⟩ := h
      refine jv_getR d_R_ahead_46 fl_R_30 rfl q24 e26 ?_
      obtain ⟨q27, h⟩ := h
      obtain ⟨b28, e29, h⟩ := h
      refine jv_getR d_R_ahead_49 fl_R_91 rfl q27 e29 ?_
      refine jv_iload_n d_R_ahead_52 rfl rfl ?_
      obtain ⟨q30, q31, b32, e33, h⟩ := h
      refine jv_aald (t := 13) d_R_ahead_53 (by decide) q30 q31 e33 ?_
      refine jv_iload_n d_R_ahead_54 rfl rfl ?_
      obtain ⟨q34, h⟩ := h
      refine jv_invV [.int x3] [] d_R_ahead_55 ml_R_95 q34 rfl (Nat.le_of_ble_eq_true rfl) (Nat.zero_add _) (Nat.zero_add _) (jv_Ct.mono h (fun v M36 N36 h => ?_))
      obtain ⟨r35, rfl, h⟩ := h
      change jv_J g (d + 1) mt_R_ahead 58 [some (.ref a0), some (.int x1), some (.int x2), some (.int x3)] [.int r35] M36 N36 cr sr Z
      exact jv_iret d_R_ahead_58 rfl rfl h
    · replace h := h.2 c
      refine jv_bipush (v := (-2)) d_R_ahead_19 (by decide) ?_
      exact jv_iret d_R_ahead_21 rfl rfl h
  · replace h := h.2 c
    refine jv_iconst (v := (-1)) d_R_ahead_8 (by decide) ?_
    exact jv_iret d_R_ahead_9 rfl rfl h
theorem b_R_halts_0 {g : jv_G} {d : Nat} {M : jv_Mem} {N cr sr : Nat} {Z : Option Value → jv_Mem → Nat → Prop} {a0 : Nat} {x1 : Int32} (h : jv_Tg 9 a0 N ∧ jv_Ct g d mt_R_isHart [.ref a0, .int x1] M N 0 0 (fun v M3 N3 => jv_ri v (fun r2 => (r2 ≠ 0 → jv_Tg 9 a0 N3 ∧ ∃ b5, Prod.fst (Prod.snd M3) a0 3 = some b5 ∧ jv_Tg 9 a0 N3 ∧ ∃ b8, Prod.fst (Prod.snd M3) a0 2 = some b8 ∧ jv_Tg 6 b5 N3 ∧ jv_Ct g d mt_S_copyFrom [.ref b5, .ref b8] M3 N3 0 0 (fun v M12 N12 => jv_rv v (jv_Tg 9 a0 N12 ∧ jv_Ct g d mt_R_ticksUntilHalted [.ref a0, .int (1 <<< (x1 &&& 31)), .int 60] M12 N12 0 0 (fun v M15 N15 => jv_ri v (fun r14 => Z (some (.int r14)) M15 N15))))) ∧ (r2 = 0 → Z (some (.int (-1))) M3 N3)))) : jv_J g (d + 1) mt_R_halts 0 [some (.ref a0), some (.int x1)] [] M N cr sr Z := by
  refine jv_aload_n d_R_halts_0 rfl rfl ?_
  refine jv_iload_n d_R_halts_1 rfl rfl ?_
  obtain ⟨q1, h⟩ := h
  refine jv_invV [.int x1] [] d_R_halts_2 ml_R_88 q1 rfl (Nat.le_of_ble_eq_true rfl) (Nat.zero_add _) (Nat.zero_add _) (jv_Ct.mono h (fun v M3 N3 h => ?_))
  obtain ⟨r2, rfl, h⟩ := h
  change jv_J g (d + 1) mt_R_halts 5 [some (.ref a0), some (.int x1)] [.int r2] M3 N3 cr sr Z
  refine jv_if_ne (tgt := 10) d_R_halts_5 (by decide) ⟨fun c => ?_, fun c => ?_⟩
  · replace h := h.1 c
    refine jv_aload_n d_R_halts_10 rfl rfl ?_
    obtain ⟨q4, h⟩ := h
    obtain ⟨b5, e6, h⟩ := h
    refine jv_getR d_R_halts_11 fl_R_30 rfl q4 e6 ?_
    refine jv_aload_n d_R_halts_14 rfl rfl ?_
    obtain ⟨q7, h⟩ := h
    obtain ⟨b8, e9, h⟩ := h
    refine jv_getR d_R_halts_15 fl_R_26 rfl q7 e9 ?_
    obtain ⟨q10, h⟩ := h
    refine jv_invV [.ref b8] [] d_R_halts_18 ml_R_79 q10 rfl (Nat.le_of_ble_eq_true rfl) (Nat.zero_add _) (Nat.zero_add _) (jv_Ct.mono h (fun v M12 N12 h => ?_))
    obtain ⟨rfl, h⟩ := h
    change jv_J g (d + 1) mt_R_halts 21 [some (.ref a0), some (.int x1)] [] M12 N12 cr sr Z
    refine jv_aload_n d_R_halts_21 rfl rfl ?_
    refine jv_iconst (v := 1) d_R_halts_22 (by decide) ?_
    refine jv_iload_n d_R_halts_23 rfl rfl ?_
    refine jv_ishl d_R_halts_24 ?_
    refine jv_bipush (v := 60) d_R_halts_25 (by decide) ?_
    obtain ⟨q13, h⟩ := h
    refine jv_invV [.int (1 <<< (x1 &&& 31)), .int 60] [] d_R_halts_27 ml_R_171 q13 rfl (Nat.le_of_ble_eq_true rfl) (Nat.zero_add _) (Nat.zero_add _) (jv_Ct.mono h (fun v M15 N15 h => ?_))
    obtain ⟨r14, rfl, h⟩ := h
    change jv_J g (d + 1) mt_R_halts 30 [some (.ref a0), some (.int x1)] [.int r14] M15 N15 cr sr Z
    exact jv_iret d_R_halts_30 rfl rfl h
  · replace h := h.2 c
    refine jv_iconst (v := (-1)) d_R_halts_8 (by decide) ?_
    exact jv_iret d_R_halts_9 rfl rfl h
theorem b_R_ticksUntilHalted_0 {g : jv_G} {d : Nat} {M : jv_Mem} {N cr sr : Nat} {Z : Option Value → jv_Mem → Nat → Prop} {a0 : Nat} {x1 : Int32} {x2 : Int32} (h : jv_J g (d + 1) mt_R_ticksUntilHalted 2 [some (.ref a0), some (.int x1), some (.int x2), some (.int 0)] [] M N cr sr Z) : jv_J g (d + 1) mt_R_ticksUntilHalted 0 [some (.ref a0), some (.int x1), some (.int x2), none] [] M N cr sr Z := by
  refine jv_iconst (v := 0) d_R_ticksUntilHalted_0 (by decide) ?_
  refine jv_istore_n (L' := [some (.ref a0), some (.int x1), some (.int x2), some (.int 0)]) d_R_ticksUntilHalted_1 rfl (Nat.le_of_ble_eq_true rfl) rfl ?_
  exact h
theorem b_R_ticksUntilHalted_2 {g : jv_G} {d : Nat} {M : jv_Mem} {N cr sr : Nat} {Z : Option Value → jv_Mem → Nat → Prop} {a0 : Nat} {x1 : Int32} {x2 : Int32} {x3 : Int32} (h : (x2 < x3 → Z (some (.int (-9))) M N) ∧ (¬ (x2 < x3) → (x3 ≤ 0 → jv_Tg 9 a0 N ∧ ∃ b2, Prod.fst (Prod.snd M) a0 3 = some b2 ∧ jv_Tg 6 b2 N ∧ jv_Ct g d mt_S_haltedSet [.ref b2] M N 0 0 (fun v M6 N6 => jv_ri v (fun r5 => ((r5 &&& x1) ≠ x1 → jv_J g (d + 1) mt_R_ticksUntilHalted 2 [some (.ref a0), some (.int x1), some (.int x2), some (.int (x3 + 1))] [] M6 N6 cr sr Z) ∧ ((r5 &&& x1) = x1 → Z (some (.int x3)) M6 N6)))) ∧ (¬ (x3 ≤ 0) → jv_Tg 9 a0 N ∧ ∃ b8, Prod.fst (Prod.snd M) a0 3 = some b8 ∧ jv_Tg 9 a0 N ∧ ∃ b11, Prod.fst (Prod.snd M) a0 1 = some b11 ∧ jv_Tg 6 b8 N ∧ jv_Ct g d mt_S_pass [.ref b8, .ref b11, .int 1] M N 0 0 (fun v M15 N15 => jv_rv v (jv_Tg 9 a0 N15 ∧ ∃ b17, Prod.fst (Prod.snd M15) a0 3 = some b17 ∧ jv_Tg 6 b17 N15 ∧ jv_Ct g d mt_S_haltedSet [.ref b17] M15 N15 0 0 (fun v M21 N21 => jv_ri v (fun r20 => ((r20 &&& x1) ≠ x1 → jv_J g (d + 1) mt_R_ticksUntilHalted 2 [some (.ref a0), some (.int x1), some (.int x2), some (.int (x3 + 1))] [] M21 N21 cr sr Z) ∧ ((r20 &&& x1) = x1 → Z (some (.int x3)) M21 N21)))))))) : jv_J g (d + 1) mt_R_ticksUntilHalted 2 [some (.ref a0), some (.int x1), some (.int x2), some (.int x3)] [] M N cr sr Z := by
  refine jv_iload_n d_R_ticksUntilHalted_2 rfl rfl ?_
  refine jv_iload_n d_R_ticksUntilHalted_3 rfl rfl ?_
  refine jv_icmp_gt (tgt := 44) d_R_ticksUntilHalted_4 (by decide) ⟨fun c => ?_, fun c => ?_⟩
  · replace h := h.1 c
    refine jv_bipush (v := (-9)) d_R_ticksUntilHalted_44 (by decide) ?_
    exact jv_iret d_R_ticksUntilHalted_46 rfl rfl h
  · replace h := h.2 c
    refine jv_iload_n d_R_ticksUntilHalted_7 rfl rfl ?_
    refine jv_if_le (tgt := 23) d_R_ticksUntilHalted_8 (by decide) ⟨fun c => ?_, fun c => ?_⟩
    · replace h := h.1 c
      refine jv_aload_n d_R_ticksUntilHalted_23 rfl rfl ?_
      obtain ⟨q1, h⟩ := h
      obtain ⟨b2, e3, h⟩ := h
      refine jv_getR d_R_ticksUntilHalted_24 fl_R_30 rfl q1 e3 ?_
      obtain ⟨q4, h⟩ := h
      refine jv_invV [] [] d_R_ticksUntilHalted_27 ml_R_235 q4 rfl (Nat.le_of_ble_eq_true rfl) (Nat.zero_add _) (Nat.zero_add _) (jv_Ct.mono h (fun v M6 N6 h => ?_))
      obtain ⟨r5, rfl, h⟩ := h
      change jv_J g (d + 1) mt_R_ticksUntilHalted 30 [some (.ref a0), some (.int x1), some (.int x2), some (.int x3)] [.int r5] M6 N6 cr sr Z
      refine jv_iload_n d_R_ticksUntilHalted_30 rfl rfl ?_
      refine jv_iand d_R_ticksUntilHalted_31 ?_
      refine jv_iload_n d_R_ticksUntilHalted_32 rfl rfl ?_
      refine jv_icmp_ne (tgt := 38) d_R_ticksUntilHalted_33 (by decide) ⟨fun c => ?_, fun c => ?_⟩
      · replace h := h.1 c
        refine jv_iinc (v := (x3 + 1)) (L' := [some (.ref a0), some (.int x1), some (.int x2), some (.int (x3 + 1))]) d_R_ticksUntilHalted_38 rfl rfl (Nat.le_of_ble_eq_true rfl) rfl ?_
        refine jv_goto (tgt := 2) d_R_ticksUntilHalted_41 (by decide) ?_
        exact h
      · replace h := h.2 c
        refine jv_iload_n d_R_ticksUntilHalted_36 rfl rfl ?_
        exact jv_iret d_R_ticksUntilHalted_37 rfl rfl h
    · replace h := h.2 c
      refine jv_aload_n d_R_ticksUntilHalted_11 rfl rfl ?_
      obtain ⟨q7, h⟩ := h
      obtain ⟨b8, e9, h⟩ := h
      refine jv_getR d_R_ticksUntilHalted_12 fl_R_30 rfl q7 e9 ?_
      refine jv_aload_n d_R_ticksUntilHalted_15 rfl rfl ?_
      obtain ⟨q10, h⟩ := h
      obtain ⟨b11, e12, h⟩ := h
      refine jv_getR d_R_ticksUntilHalted_16 fl_R_19 rfl q10 e12 ?_
      refine jv_iconst (v := 1) d_R_ticksUntilHalted_19 (by decide) ?_
      obtain ⟨q13, h⟩ := h
      refine jv_invV [.ref b11, .int 1] [] d_R_ticksUntilHalted_20 ml_R_137 q13 rfl (Nat.le_of_ble_eq_true rfl) (Nat.zero_add _) (Nat.zero_add _) (jv_Ct.mono h (fun v M15 N15 h => ?_))
      obtain ⟨rfl, h⟩ := h
      change jv_J g (d + 1) mt_R_ticksUntilHalted 23 [some (.ref a0), some (.int x1), some (.int x2), some (.int x3)] [] M15 N15 cr sr Z
      refine jv_aload_n d_R_ticksUntilHalted_23 rfl rfl ?_
      obtain ⟨q16, h⟩ := h
      obtain ⟨b17, e18, h⟩ := h
      refine jv_getR d_R_ticksUntilHalted_24 fl_R_30 rfl q16 e18 ?_
      obtain ⟨q19, h⟩ := h
      refine jv_invV [] [] d_R_ticksUntilHalted_27 ml_R_235 q19 rfl (Nat.le_of_ble_eq_true rfl) (Nat.zero_add _) (Nat.zero_add _) (jv_Ct.mono h (fun v M21 N21 h => ?_))
      obtain ⟨r20, rfl, h⟩ := h
      change jv_J g (d + 1) mt_R_ticksUntilHalted 30 [some (.ref a0), some (.int x1), some (.int x2), some (.int x3)] [.int r20] M21 N21 cr sr Z
      refine jv_iload_n d_R_ticksUntilHalted_30 rfl rfl ?_
      refine jv_iand d_R_ticksUntilHalted_31 ?_
      refine jv_iload_n d_R_ticksUntilHalted_32 rfl rfl ?_
      refine jv_icmp_ne (tgt := 38) d_R_ticksUntilHalted_33 (by decide) ⟨fun c => ?_, fun c => ?_⟩
      · replace h := h.1 c
        refine jv_iinc (v := (x3 + 1)) (L' := [some (.ref a0), some (.int x1), some (.int x2), some (.int (x3 + 1))]) d_R_ticksUntilHalted_38 rfl rfl (Nat.le_of_ble_eq_true rfl) rfl ?_
        refine jv_goto (tgt := 2) d_R_ticksUntilHalted_41 (by decide) ?_
        exact h
      · replace h := h.2 c
        refine jv_iload_n d_R_ticksUntilHalted_36 rfl rfl ?_
        exact jv_iret d_R_ticksUntilHalted_37 rfl rfl h
theorem b_R_soonest_0 {g : jv_G} {d : Nat} {M : jv_Mem} {N cr sr : Nat} {Z : Option Value → jv_Mem → Nat → Prop} {a0 : Nat} {x1 : Int32} (h : jv_Tg 9 a0 N ∧ jv_Ct g d mt_R_isTrigger [.ref a0, .int x1] M N 0 0 (fun v M3 N3 => jv_ri v (fun r2 => (r2 ≠ 0 → jv_Tg 9 a0 N3 ∧ ∃ b5, Prod.fst (Prod.snd M3) a0 2 = some b5 ∧ jv_Tg 6 b5 N3 ∧ ∃ b8, Prod.fst (Prod.snd M3) b5 2 = some b8 ∧ jv_Tg 16 b8 N3 ∧ vp_in x1 (jv_sh b8).2 ∧ ∃ b12, Prod.fst (Prod.snd M3) b8 (Int32.toNatClampNeg x1) = some b12 ∧ jv_Tg 8 b12 N3 ∧ jv_J g (d + 1) mt_R_soonest 35 [some (.ref a0), some (.int x1), some (.int (1 <<< ((Prod.fst M3 b12 0) &&& 31))), some (.int (-9)), some (.int 60), some (.int 0), none] [] M3 N3 cr sr Z) ∧ (r2 = 0 → Z (some (.int (-1))) M3 N3)))) : jv_J g (d + 1) mt_R_soonest 0 [some (.ref a0), some (.int x1), none, none, none, none, none] [] M N cr sr Z := by
  refine jv_aload_n d_R_soonest_0 rfl rfl ?_
  refine jv_iload_n d_R_soonest_1 rfl rfl ?_
  obtain ⟨q1, h⟩ := h
  refine jv_invV [.int x1] [] d_R_soonest_2 ml_R_101 q1 rfl (Nat.le_of_ble_eq_true rfl) (Nat.zero_add _) (Nat.zero_add _) (jv_Ct.mono h (fun v M3 N3 h => ?_))
  obtain ⟨r2, rfl, h⟩ := h
  change jv_J g (d + 1) mt_R_soonest 5 [some (.ref a0), some (.int x1), none, none, none, none, none] [.int r2] M3 N3 cr sr Z
  refine jv_if_ne (tgt := 10) d_R_soonest_5 (by decide) ⟨fun c => ?_, fun c => ?_⟩
  · replace h := h.1 c
    refine jv_iconst (v := 1) d_R_soonest_10 (by decide) ?_
    refine jv_aload_n d_R_soonest_11 rfl rfl ?_
    obtain ⟨q4, h⟩ := h
    obtain ⟨b5, e6, h⟩ := h
    refine jv_getR d_R_soonest_12 fl_R_26 rfl q4 e6 ?_
    obtain ⟨q7, h⟩ := h
    obtain ⟨b8, e9, h⟩ := h
    refine jv_getR d_R_soonest_15 fl_R_104 rfl q7 e9 ?_
    refine jv_iload_n d_R_soonest_18 rfl rfl ?_
    obtain ⟨q10, q11, b12, e13, h⟩ := h
    refine jv_aald (t := 16) d_R_soonest_19 (by decide) q10 q11 e13 ?_
    obtain ⟨q14, h⟩ := h
    refine jv_getI d_R_soonest_20 fl_R_175 rfl q14 ?_
    refine jv_ishl d_R_soonest_23 ?_
    refine jv_istore_n (L' := [some (.ref a0), some (.int x1), some (.int (1 <<< ((Prod.fst M3 b12 0) &&& 31))), none, none, none, none]) d_R_soonest_24 rfl (Nat.le_of_ble_eq_true rfl) rfl ?_
    refine jv_bipush (v := (-9)) d_R_soonest_25 (by decide) ?_
    refine jv_istore_n (L' := [some (.ref a0), some (.int x1), some (.int (1 <<< ((Prod.fst M3 b12 0) &&& 31))), some (.int (-9)), none, none, none]) d_R_soonest_27 rfl (Nat.le_of_ble_eq_true rfl) rfl ?_
    refine jv_bipush (v := 60) d_R_soonest_28 (by decide) ?_
    refine jv_istore (L' := [some (.ref a0), some (.int x1), some (.int (1 <<< ((Prod.fst M3 b12 0) &&& 31))), some (.int (-9)), some (.int 60), none, none]) d_R_soonest_30 (Nat.le_of_ble_eq_true rfl) rfl ?_
    refine jv_iconst (v := 0) d_R_soonest_32 (by decide) ?_
    refine jv_istore (L' := [some (.ref a0), some (.int x1), some (.int (1 <<< ((Prod.fst M3 b12 0) &&& 31))), some (.int (-9)), some (.int 60), some (.int 0), none]) d_R_soonest_33 (Nat.le_of_ble_eq_true rfl) rfl ?_
    exact h
  · replace h := h.2 c
    refine jv_iconst (v := (-1)) d_R_soonest_8 (by decide) ?_
    exact jv_iret d_R_soonest_9 rfl rfl h
theorem b_R_soonest_35 {g : jv_G} {d : Nat} {M : jv_Mem} {N cr sr : Nat} {Z : Option Value → jv_Mem → Nat → Prop} {a0 : Nat} {x1 : Int32} {x2 : Int32} {x3 : Int32} {x4 : Int32} {x5 : Int32} (h : (16 ≤ x5 → Z (some (.int x3)) M N) ∧ (¬ (16 ≤ x5) → (x4 < 0 → Z (some (.int x3)) M N) ∧ (¬ (x4 < 0) → jv_Tg 9 a0 N ∧ ∃ b2, Prod.fst (Prod.snd M) a0 3 = some b2 ∧ jv_Tg 9 a0 N ∧ ∃ b5, Prod.fst (Prod.snd M) a0 2 = some b5 ∧ jv_Tg 6 b2 N ∧ jv_Ct g d mt_S_copyFrom [.ref b2, .ref b5] M N 0 0 (fun v M9 N9 => jv_rv v (jv_Tg 9 a0 N9 ∧ ∃ b11, Prod.fst (Prod.snd M9) a0 3 = some b11 ∧ jv_Tg 6 b11 N9 ∧ ∃ b14, Prod.fst (Prod.snd M9) b11 2 = some b14 ∧ jv_Tg 16 b14 N9 ∧ vp_in x1 (jv_sh b14).2 ∧ ∃ b18, Prod.fst (Prod.snd M9) b14 (Int32.toNatClampNeg x1) = some b18 ∧ jv_Tg 8 b18 N9 ∧ jv_Ct g d mt_U_become [.ref b18, .int 0, .int x5, .int 0, .int 1, .int 0] M9 N9 0 0 (fun v M22 N22 => jv_rv v (jv_Tg 9 a0 N22 ∧ jv_Ct g d mt_R_ticksUntilHalted [.ref a0, .int x2, .int x4] M22 N22 0 0 (fun v M25 N25 => jv_ri v (fun r24 => (r24 = (-9) → jv_J g (d + 1) mt_R_soonest 35 [some (.ref a0), some (.int x1), some (.int x2), some (.int x3), some (.int x4), some (.int (x5 + 1)), none] [] M25 N25 cr sr Z) ∧ (¬ (r24 = (-9)) → jv_J g (d + 1) mt_R_soonest 35 [some (.ref a0), some (.int x1), some (.int x2), some (.int x5), some (.int (r24 - 1)), some (.int (x5 + 1)), none] [] M25 N25 cr sr Z)))))))))) : jv_J g (d + 1) mt_R_soonest 35 [some (.ref a0), some (.int x1), some (.int x2), some (.int x3), some (.int x4), some (.int x5), none] [] M N cr sr Z := by
  refine jv_iload d_R_soonest_35 rfl ?_
  refine jv_bipush (v := 16) d_R_soonest_37 (by decide) ?_
  refine jv_icmp_ge (tgt := 107) d_R_soonest_39 (by decide) ⟨fun c => ?_, fun c => ?_⟩
  · replace h := h.1 c
    refine jv_iload_n d_R_soonest_107 rfl rfl ?_
    exact jv_iret d_R_soonest_108 rfl rfl h
  · replace h := h.2 c
    refine jv_iload d_R_soonest_42 rfl ?_
    refine jv_if_lt (tgt := 107) d_R_soonest_44 (by decide) ⟨fun c => ?_, fun c => ?_⟩
    · replace h := h.1 c
      refine jv_iload_n d_R_soonest_107 rfl rfl ?_
      exact jv_iret d_R_soonest_108 rfl rfl h
    · replace h := h.2 c
      refine jv_aload_n d_R_soonest_47 rfl rfl ?_
      obtain ⟨q1, h⟩ := h
      obtain ⟨b2, e3, h⟩ := h
      refine jv_getR d_R_soonest_48 fl_R_30 rfl q1 e3 ?_
      refine jv_aload_n d_R_soonest_51 rfl rfl ?_
      obtain ⟨q4, h⟩ := h
      obtain ⟨b5, e6, h⟩ := h
      refine jv_getR d_R_soonest_52 fl_R_26 rfl q4 e6 ?_
      obtain ⟨q7, h⟩ := h
      refine jv_invV [.ref b5] [] d_R_soonest_55 ml_R_79 q7 rfl (Nat.le_of_ble_eq_true rfl) (Nat.zero_add _) (Nat.zero_add _) (jv_Ct.mono h (fun v M9 N9 h => ?_))
      obtain ⟨rfl, h⟩ := h
      change jv_J g (d + 1) mt_R_soonest 58 [some (.ref a0), some (.int x1), some (.int x2), some (.int x3), some (.int x4), some (.int x5), none] [] M9 N9 cr sr Z
      refine jv_aload_n d_R_soonest_58 rfl rfl ?_
      obtain ⟨q10, h⟩ := h
      obtain ⟨b11, e12, h⟩ := h
      refine jv_getR d_R_soonest_59 fl_R_30 rfl q10 e12 ?_
      obtain ⟨q13, h⟩ := h
      obtain ⟨b14, e15, h⟩ := h
      refine jv_getR d_R_soonest_62 fl_R_104 rfl q13 e15 ?_
      refine jv_iload_n d_R_soonest_65 rfl rfl ?_
      obtain ⟨q16, q17, b18, e19, h⟩ := h
      refine jv_aald (t := 16) d_R_soonest_66 (by decide) q16 q17 e19 ?_
      refine jv_iconst (v := 0) d_R_soonest_67 (by decide) ?_
      refine jv_iload d_R_soonest_68 rfl ?_
      refine jv_iconst (v := 0) d_R_soonest_70 (by decide) ?_
      refine jv_iconst (v := 1) d_R_soonest_71 (by decide) ?_
      refine jv_iconst (v := 0) d_R_soonest_72 (by decide) ?_
      obtain ⟨q20, h⟩ := h
      refine jv_invV [.int 0, .int x5, .int 0, .int 1, .int 0] [] d_R_soonest_73 ml_R_154 q20 rfl (Nat.le_of_ble_eq_true rfl) (Nat.zero_add _) (Nat.zero_add _) (jv_Ct.mono h (fun v M22 N22 h => ?_))
      obtain ⟨rfl, h⟩ := h
      change jv_J g (d + 1) mt_R_soonest 76 [some (.ref a0), some (.int x1), some (.int x2), some (.int x3), some (.int x4), some (.int x5), none] [] M22 N22 cr sr Z
      refine jv_aload_n d_R_soonest_76 rfl rfl ?_
      refine jv_iload_n d_R_soonest_77 rfl rfl ?_
      refine jv_iload d_R_soonest_78 rfl ?_
      obtain ⟨q23, h⟩ := h
      refine jv_invV [.int x2, .int x4] [] d_R_soonest_80 ml_R_171 q23 rfl (Nat.le_of_ble_eq_true rfl) (Nat.zero_add _) (Nat.zero_add _) (jv_Ct.mono h (fun v M25 N25 h => ?_))
      obtain ⟨r24, rfl, h⟩ := h
      change jv_J g (d + 1) mt_R_soonest 83 [some (.ref a0), some (.int x1), some (.int x2), some (.int x3), some (.int x4), some (.int x5), none] [.int r24] M25 N25 cr sr Z
      refine jv_istore (L' := [some (.ref a0), some (.int x1), some (.int x2), some (.int x3), some (.int x4), some (.int x5), some (.int r24)]) d_R_soonest_83 (Nat.le_of_ble_eq_true rfl) rfl ?_
      refine jv_iload d_R_soonest_85 rfl ?_
      refine jv_bipush (v := (-9)) d_R_soonest_87 (by decide) ?_
      refine jv_icmp_eq (tgt := 101) d_R_soonest_89 (by decide) ⟨fun c => ?_, fun c => ?_⟩
      · replace h := h.1 c
        refine jv_iinc (v := (x5 + 1)) (L' := [some (.ref a0), some (.int x1), some (.int x2), some (.int x3), some (.int x4), some (.int (x5 + 1)), some (.int r24)]) d_R_soonest_101 rfl rfl (Nat.le_of_ble_eq_true rfl) rfl ?_
        refine jv_goto (tgt := 35) d_R_soonest_104 (by decide) ?_
        refine jv_weak (L' := [some (.ref a0), some (.int x1), some (.int x2), some (.int x3), some (.int x4), some (.int (x5 + 1)), none]) (by simp [jv_le]) ?_
        exact h
      · replace h := h.2 c
        refine jv_iload d_R_soonest_92 rfl ?_
        refine jv_istore_n (L' := [some (.ref a0), some (.int x1), some (.int x2), some (.int x5), some (.int x4), some (.int x5), some (.int r24)]) d_R_soonest_94 rfl (Nat.le_of_ble_eq_true rfl) rfl ?_
        refine jv_iload d_R_soonest_95 rfl ?_
        refine jv_iconst (v := 1) d_R_soonest_97 (by decide) ?_
        refine jv_isub d_R_soonest_98 ?_
        refine jv_istore (L' := [some (.ref a0), some (.int x1), some (.int x2), some (.int x5), some (.int (r24 - 1)), some (.int x5), some (.int r24)]) d_R_soonest_99 (Nat.le_of_ble_eq_true rfl) rfl ?_
        refine jv_iinc (v := (x5 + 1)) (L' := [some (.ref a0), some (.int x1), some (.int x2), some (.int x5), some (.int (r24 - 1)), some (.int (x5 + 1)), some (.int r24)]) d_R_soonest_101 rfl rfl (Nat.le_of_ble_eq_true rfl) rfl ?_
        refine jv_goto (tgt := 35) d_R_soonest_104 (by decide) ?_
        refine jv_weak (L' := [some (.ref a0), some (.int x1), some (.int x2), some (.int x5), some (.int (r24 - 1)), some (.int (x5 + 1)), none]) (by simp [jv_le]) ?_
        exact h
theorem b_R_all_0 {g : jv_G} {d : Nat} {M : jv_Mem} {N cr sr : Nat} {Z : Option Value → jv_Mem → Nat → Prop} {a0 : Nat} {x1 : Int32} (h : jv_Tg 9 a0 N ∧ ∃ b2, Prod.fst (Prod.snd M) a0 2 = some b2 ∧ jv_Tg 6 b2 N ∧ jv_Ct g d mt_S_everyHart [.ref b2] M N 0 0 (fun v M6 N6 => jv_ri v (fun r5 => jv_Ct g d mt_R_isBelow [.int x1, .int (r5 + 1)] M6 N6 0 0 (fun v M8 N8 => jv_ri v (fun r7 => (r7 = 0 → Z (some (.int (-2))) M8 N8) ∧ (¬ (r7 = 0) → jv_Tg 9 a0 N8 ∧ jv_Ct g d mt_R_ticksWithHalts [.ref a0, .int x1, .int 60] M8 N8 0 0 (fun v M11 N11 => jv_ri v (fun r10 => Z (some (.int r10)) M11 N11)))))))) : jv_J g (d + 1) mt_R_all 0 [some (.ref a0), some (.int x1)] [] M N cr sr Z := by
  refine jv_iload_n d_R_all_0 rfl rfl ?_
  refine jv_aload_n d_R_all_1 rfl rfl ?_
  obtain ⟨q1, h⟩ := h
  obtain ⟨b2, e3, h⟩ := h
  refine jv_getR d_R_all_2 fl_R_26 rfl q1 e3 ?_
  obtain ⟨q4, h⟩ := h
  refine jv_invV [] [.int x1] d_R_all_5 ml_R_178 q4 rfl (Nat.le_of_ble_eq_true rfl) (Nat.zero_add _) (Nat.zero_add _) (jv_Ct.mono h (fun v M6 N6 h => ?_))
  obtain ⟨r5, rfl, h⟩ := h
  change jv_J g (d + 1) mt_R_all 8 [some (.ref a0), some (.int x1)] [.int r5, .int x1] M6 N6 cr sr Z
  refine jv_iconst (v := 1) d_R_all_8 (by decide) ?_
  refine jv_iadd d_R_all_9 ?_
  refine jv_invS [.int x1, .int (r5 + 1)] [] d_R_all_10 ml_R_111 rfl (Nat.le_of_ble_eq_true rfl) (Nat.zero_add _) (Nat.zero_add _) (jv_Ct.mono h (fun v M8 N8 h => ?_))
  obtain ⟨r7, rfl, h⟩ := h
  change jv_J g (d + 1) mt_R_all 13 [some (.ref a0), some (.int x1)] [.int r7] M8 N8 cr sr Z
  refine jv_if_eq (tgt := 26) d_R_all_13 (by decide) ⟨fun c => ?_, fun c => ?_⟩
  · replace h := h.1 c
    refine jv_bipush (v := (-2)) d_R_all_26 (by decide) ?_
    exact jv_iret d_R_all_28 rfl rfl h
  · replace h := h.2 c
    refine jv_aload_n d_R_all_16 rfl rfl ?_
    refine jv_iload_n d_R_all_17 rfl rfl ?_
    refine jv_bipush (v := 60) d_R_all_18 (by decide) ?_
    obtain ⟨q9, h⟩ := h
    refine jv_invV [.int x1, .int 60] [] d_R_all_20 ml_R_181 q9 rfl (Nat.le_of_ble_eq_true rfl) (Nat.zero_add _) (Nat.zero_add _) (jv_Ct.mono h (fun v M11 N11 h => ?_))
    obtain ⟨r10, rfl, h⟩ := h
    change jv_J g (d + 1) mt_R_all 23 [some (.ref a0), some (.int x1)] [.int r10] M11 N11 cr sr Z
    refine jv_goto (tgt := 28) d_R_all_23 (by decide) ?_
    exact jv_iret d_R_all_28 rfl rfl h
theorem b_R_ticksWithHalts_0 {g : jv_G} {d : Nat} {M : jv_Mem} {N cr sr : Nat} {Z : Option Value → jv_Mem → Nat → Prop} {a0 : Nat} {x1 : Int32} {x2 : Int32} (h : jv_Tg 9 a0 N ∧ ∃ b2, Prod.fst (Prod.snd M) a0 3 = some b2 ∧ jv_Tg 9 a0 N ∧ ∃ b5, Prod.fst (Prod.snd M) a0 2 = some b5 ∧ jv_Tg 6 b2 N ∧ jv_Ct g d mt_S_copyFrom [.ref b2, .ref b5] M N 0 0 (fun v M9 N9 => jv_rv v (jv_J g (d + 1) mt_R_ticksWithHalts 13 [some (.ref a0), some (.int x1), some (.int x2), some (.int 0)] [] M9 N9 cr sr Z))) : jv_J g (d + 1) mt_R_ticksWithHalts 0 [some (.ref a0), some (.int x1), some (.int x2), none] [] M N cr sr Z := by
  refine jv_aload_n d_R_ticksWithHalts_0 rfl rfl ?_
  obtain ⟨q1, h⟩ := h
  obtain ⟨b2, e3, h⟩ := h
  refine jv_getR d_R_ticksWithHalts_1 fl_R_30 rfl q1 e3 ?_
  refine jv_aload_n d_R_ticksWithHalts_4 rfl rfl ?_
  obtain ⟨q4, h⟩ := h
  obtain ⟨b5, e6, h⟩ := h
  refine jv_getR d_R_ticksWithHalts_5 fl_R_26 rfl q4 e6 ?_
  obtain ⟨q7, h⟩ := h
  refine jv_invV [.ref b5] [] d_R_ticksWithHalts_8 ml_R_79 q7 rfl (Nat.le_of_ble_eq_true rfl) (Nat.zero_add _) (Nat.zero_add _) (jv_Ct.mono h (fun v M9 N9 h => ?_))
  obtain ⟨rfl, h⟩ := h
  change jv_J g (d + 1) mt_R_ticksWithHalts 11 [some (.ref a0), some (.int x1), some (.int x2), none] [] M9 N9 cr sr Z
  refine jv_iconst (v := 0) d_R_ticksWithHalts_11 (by decide) ?_
  refine jv_istore_n (L' := [some (.ref a0), some (.int x1), some (.int x2), some (.int 0)]) d_R_ticksWithHalts_12 rfl (Nat.le_of_ble_eq_true rfl) rfl ?_
  exact h
theorem b_R_ticksWithHalts_13 {g : jv_G} {d : Nat} {M : jv_Mem} {N cr sr : Nat} {Z : Option Value → jv_Mem → Nat → Prop} {a0 : Nat} {x1 : Int32} {x2 : Int32} {x3 : Int32} (h : jv_Tg 9 a0 N ∧ ∃ b2, Prod.fst (Prod.snd M) a0 3 = some b2 ∧ jv_Tg 6 b2 N ∧ ((Prod.fst M b2 4) ≤ x3 → jv_Tg 9 a0 N ∧ ∃ b6, Prod.fst (Prod.snd M) a0 3 = some b6 ∧ jv_Tg 6 b6 N ∧ jv_Ct g d mt_S_everyHart [.ref b6] M N 0 0 (fun v M10 N10 => jv_ri v (fun r9 => jv_Tg 9 a0 N10 ∧ jv_Ct g d mt_R_ticksUntilHalted [.ref a0, .int r9, .int x2] M10 N10 0 0 (fun v M13 N13 => jv_ri v (fun r12 => Z (some (.int r12)) M13 N13))))) ∧ (¬ ((Prod.fst M b2 4) ≤ x3) → (((x1 >>> (x3 &&& 31)) &&& 1) = 0 → jv_J g (d + 1) mt_R_ticksWithHalts 13 [some (.ref a0), some (.int x1), some (.int x2), some (.int (x3 + 1))] [] M N cr sr Z) ∧ (¬ (((x1 >>> (x3 &&& 31)) &&& 1) = 0) → jv_Tg 9 a0 N ∧ ∃ b15, Prod.fst (Prod.snd M) a0 3 = some b15 ∧ jv_Tg 6 b15 N ∧ ∃ b18, Prod.fst (Prod.snd M) b15 0 = some b18 ∧ jv_Tg 0 b18 N ∧ jv_Ct g d mt_D_append [.ref b18, .int 0, .int x3, .int 0, .int 0] M N 0 0 (fun v M22 N22 => jv_rv v (jv_J g (d + 1) mt_R_ticksWithHalts 13 [some (.ref a0), some (.int x1), some (.int x2), some (.int (x3 + 1))] [] M22 N22 cr sr Z))))) : jv_J g (d + 1) mt_R_ticksWithHalts 13 [some (.ref a0), some (.int x1), some (.int x2), some (.int x3)] [] M N cr sr Z := by
  refine jv_iload_n d_R_ticksWithHalts_13 rfl rfl ?_
  refine jv_aload_n d_R_ticksWithHalts_14 rfl rfl ?_
  obtain ⟨q1, h⟩ := h
  obtain ⟨b2, e3, h⟩ := h
  refine jv_getR d_R_ticksWithHalts_15 fl_R_30 rfl q1 e3 ?_
  obtain ⟨q4, h⟩ := h
  refine jv_getI d_R_ticksWithHalts_18 fl_R_85 rfl q4 ?_
  refine jv_icmp_ge (tgt := 52) d_R_ticksWithHalts_21 (by decide) ⟨fun c => ?_, fun c => ?_⟩
  · replace h := h.1 c
    refine jv_aload_n d_R_ticksWithHalts_52 rfl rfl ?_
    refine jv_aload_n d_R_ticksWithHalts_53 rfl rfl ?_
    obtain ⟨q5, h⟩ := h
    obtain ⟨b6, e7, h⟩ := h
    refine jv_getR d_R_ticksWithHalts_54 fl_R_30 rfl q5 e7 ?_
    obtain ⟨q8, h⟩ := h
    refine jv_invV [] [.ref a0] d_R_ticksWithHalts_57 ml_R_178 q8 rfl (Nat.le_of_ble_eq_true rfl) (Nat.zero_add _) (Nat.zero_add _) (jv_Ct.mono h (fun v M10 N10 h => ?_))
    obtain ⟨r9, rfl, h⟩ := h
    change jv_J g (d + 1) mt_R_ticksWithHalts 60 [some (.ref a0), some (.int x1), some (.int x2), some (.int x3)] [.int r9, .ref a0] M10 N10 cr sr Z
    refine jv_iload_n d_R_ticksWithHalts_60 rfl rfl ?_
    obtain ⟨q11, h⟩ := h
    refine jv_invV [.int r9, .int x2] [] d_R_ticksWithHalts_61 ml_R_171 q11 rfl (Nat.le_of_ble_eq_true rfl) (Nat.zero_add _) (Nat.zero_add _) (jv_Ct.mono h (fun v M13 N13 h => ?_))
    obtain ⟨r12, rfl, h⟩ := h
    change jv_J g (d + 1) mt_R_ticksWithHalts 64 [some (.ref a0), some (.int x1), some (.int x2), some (.int x3)] [.int r12] M13 N13 cr sr Z
    exact jv_iret d_R_ticksWithHalts_64 rfl rfl h
  · replace h := h.2 c
    refine jv_iload_n d_R_ticksWithHalts_24 rfl rfl ?_
    refine jv_iload_n d_R_ticksWithHalts_25 rfl rfl ?_
    refine jv_ishr d_R_ticksWithHalts_26 ?_
    refine jv_iconst (v := 1) d_R_ticksWithHalts_27 (by decide) ?_
    refine jv_iand d_R_ticksWithHalts_28 ?_
    refine jv_if_eq (tgt := 46) d_R_ticksWithHalts_29 (by decide) ⟨fun c => ?_, fun c => ?_⟩
    · replace h := h.1 c
      refine jv_iinc (v := (x3 + 1)) (L' := [some (.ref a0), some (.int x1), some (.int x2), some (.int (x3 + 1))]) d_R_ticksWithHalts_46 rfl rfl (Nat.le_of_ble_eq_true rfl) rfl ?_
      refine jv_goto (tgt := 13) d_R_ticksWithHalts_49 (by decide) ?_
      exact h
    · replace h := h.2 c
      refine jv_aload_n d_R_ticksWithHalts_32 rfl rfl ?_
      obtain ⟨q14, h⟩ := h
      obtain ⟨b15, e16, h⟩ := h
      refine jv_getR d_R_ticksWithHalts_33 fl_R_30 rfl q14 e16 ?_
      obtain ⟨q17, h⟩ := h
      obtain ⟨b18, e19, h⟩ := h
      refine jv_getR d_R_ticksWithHalts_36 fl_R_118 rfl q17 e19 ?_
      refine jv_iconst (v := 0) d_R_ticksWithHalts_39 (by decide) ?_
      refine jv_iload_n d_R_ticksWithHalts_40 rfl rfl ?_
      refine jv_iconst (v := 0) d_R_ticksWithHalts_41 (by decide) ?_
      refine jv_iconst (v := 0) d_R_ticksWithHalts_42 (by decide) ?_
      obtain ⟨q20, h⟩ := h
      refine jv_invV [.int 0, .int x3, .int 0, .int 0] [] d_R_ticksWithHalts_43 ml_R_255 q20 rfl (Nat.le_of_ble_eq_true rfl) (Nat.zero_add _) (Nat.zero_add _) (jv_Ct.mono h (fun v M22 N22 h => ?_))
      obtain ⟨rfl, h⟩ := h
      change jv_J g (d + 1) mt_R_ticksWithHalts 46 [some (.ref a0), some (.int x1), some (.int x2), some (.int x3)] [] M22 N22 cr sr Z
      refine jv_iinc (v := (x3 + 1)) (L' := [some (.ref a0), some (.int x1), some (.int x2), some (.int (x3 + 1))]) d_R_ticksWithHalts_46 rfl rfl (Nat.le_of_ble_eq_true rfl) rfl ?_
      refine jv_goto (tgt := 13) d_R_ticksWithHalts_49 (by decide) ?_
      exact h
theorem b_R_crew_0 {g : jv_G} {d : Nat} {M : jv_Mem} {N cr sr : Nat} {Z : Option Value → jv_Mem → Nat → Prop} {a0 : Nat} (h : jv_J g (d + 1) mt_R_crew 8 [some (.ref a0), some (.int (-9)), some (.int 60), some (.int 0), none, none] [] M N cr sr Z) : jv_J g (d + 1) mt_R_crew 0 [some (.ref a0), none, none, none, none, none] [] M N cr sr Z := by
  refine jv_bipush (v := (-9)) d_R_crew_0 (by decide) ?_
  refine jv_istore_n (L' := [some (.ref a0), some (.int (-9)), none, none, none, none]) d_R_crew_2 rfl (Nat.le_of_ble_eq_true rfl) rfl ?_
  refine jv_bipush (v := 60) d_R_crew_3 (by decide) ?_
  refine jv_istore_n (L' := [some (.ref a0), some (.int (-9)), some (.int 60), none, none, none]) d_R_crew_5 rfl (Nat.le_of_ble_eq_true rfl) rfl ?_
  refine jv_iconst (v := 0) d_R_crew_6 (by decide) ?_
  refine jv_istore_n (L' := [some (.ref a0), some (.int (-9)), some (.int 60), some (.int 0), none, none]) d_R_crew_7 rfl (Nat.le_of_ble_eq_true rfl) rfl ?_
  exact h
theorem b_R_crew_8 {g : jv_G} {d : Nat} {M : jv_Mem} {N cr sr : Nat} {Z : Option Value → jv_Mem → Nat → Prop} {a0 : Nat} {x1 : Int32} {x2 : Int32} {x3 : Int32} (h : jv_Tg 9 a0 N ∧ ∃ b2, Prod.fst (Prod.snd M) a0 2 = some b2 ∧ jv_Tg 6 b2 N ∧ jv_Ct g d mt_S_everyHart [.ref b2] M N 0 0 (fun v M6 N6 => jv_ri v (fun r5 => (r5 < x3 → Z (some (.int x1)) M6 N6) ∧ (¬ (r5 < x3) → (x1 = (-9) → jv_J g (d + 1) mt_R_crew 41 [some (.ref a0), some (.int x1), some (.int x2), some (.int x3), none, none] [.int 1] M6 N6 cr sr Z) ∧ (¬ (x1 = (-9)) → jv_Ct g d mt_JI_bitCount [.int x3] M6 N6 0 0 (fun v M8 N8 => jv_ri v (fun r7 => jv_Ct g d mt_JI_bitCount [.int x1] M8 N8 0 0 (fun v M10 N10 => jv_ri v (fun r9 => (r9 ≤ r7 → jv_J g (d + 1) mt_R_crew 41 [some (.ref a0), some (.int x1), some (.int x2), some (.int x3), none, none] [.int 0] M10 N10 cr sr Z) ∧ (¬ (r9 ≤ r7) → jv_J g (d + 1) mt_R_crew 41 [some (.ref a0), some (.int x1), some (.int x2), some (.int x3), none, none] [.int 1] M10 N10 cr sr Z)))))))))) : jv_J g (d + 1) mt_R_crew 8 [some (.ref a0), some (.int x1), some (.int x2), some (.int x3), none, none] [] M N cr sr Z := by
  refine jv_iload_n d_R_crew_8 rfl rfl ?_
  refine jv_aload_n d_R_crew_9 rfl rfl ?_
  obtain ⟨q1, h⟩ := h
  obtain ⟨b2, e3, h⟩ := h
  refine jv_getR d_R_crew_10 fl_R_26 rfl q1 e3 ?_
  obtain ⟨q4, h⟩ := h
  refine jv_invV [] [.int x3] d_R_crew_13 ml_R_178 q4 rfl (Nat.le_of_ble_eq_true rfl) (Nat.zero_add _) (Nat.zero_add _) (jv_Ct.mono h (fun v M6 N6 h => ?_))
  obtain ⟨r5, rfl, h⟩ := h
  change jv_J g (d + 1) mt_R_crew 16 [some (.ref a0), some (.int x1), some (.int x2), some (.int x3), none, none] [.int r5, .int x3] M6 N6 cr sr Z
  refine jv_icmp_gt (tgt := 80) d_R_crew_16 (by decide) ⟨fun c => ?_, fun c => ?_⟩
  · replace h := h.1 c
    refine jv_iload_n d_R_crew_80 rfl rfl ?_
    exact jv_iret d_R_crew_81 rfl rfl h
  · replace h := h.2 c
    refine jv_iload_n d_R_crew_19 rfl rfl ?_
    refine jv_bipush (v := (-9)) d_R_crew_20 (by decide) ?_
    refine jv_icmp_eq (tgt := 36) d_R_crew_22 (by decide) ⟨fun c => ?_, fun c => ?_⟩
    · replace h := h.1 c
      refine jv_iconst (v := 1) d_R_crew_36 (by decide) ?_
      refine jv_goto (tgt := 41) d_R_crew_37 (by decide) ?_
      exact h
    · replace h := h.2 c
      refine jv_iload_n d_R_crew_25 rfl rfl ?_
      refine jv_invS [.int x3] [] d_R_crew_26 ml_R_184 rfl (Nat.le_of_ble_eq_true rfl) (Nat.zero_add _) (Nat.zero_add _) (jv_Ct.mono h (fun v M8 N8 h => ?_))
      obtain ⟨r7, rfl, h⟩ := h
      change jv_J g (d + 1) mt_R_crew 29 [some (.ref a0), some (.int x1), some (.int x2), some (.int x3), none, none] [.int r7] M8 N8 cr sr Z
      refine jv_iload_n d_R_crew_29 rfl rfl ?_
      refine jv_invS [.int x1] [.int r7] d_R_crew_30 ml_R_184 rfl (Nat.le_of_ble_eq_true rfl) (Nat.zero_add _) (Nat.zero_add _) (jv_Ct.mono h (fun v M10 N10 h => ?_))
      obtain ⟨r9, rfl, h⟩ := h
      change jv_J g (d + 1) mt_R_crew 33 [some (.ref a0), some (.int x1), some (.int x2), some (.int x3), none, none] [.int r9, .int r7] M10 N10 cr sr Z
      refine jv_icmp_ge (tgt := 40) d_R_crew_33 (by decide) ⟨fun c => ?_, fun c => ?_⟩
      · replace h := h.1 c
        refine jv_iconst (v := 0) d_R_crew_40 (by decide) ?_
        exact h
      · replace h := h.2 c
        refine jv_iconst (v := 1) d_R_crew_36 (by decide) ?_
        refine jv_goto (tgt := 41) d_R_crew_37 (by decide) ?_
        exact h
theorem b_R_crew_41 {g : jv_G} {d : Nat} {M : jv_Mem} {N cr sr : Nat} {Z : Option Value → jv_Mem → Nat → Prop} {a0 : Nat} {x1 : Int32} {x2 : Int32} {x3 : Int32} {y0 : Int32} (h : (y0 = 0 → jv_J g (d + 1) mt_R_crew 57 [some (.ref a0), some (.int x1), some (.int x2), some (.int x3), none, none] [.int (x2 - 1), .int x3, .ref a0] M N cr sr Z) ∧ (¬ (y0 = 0) → jv_J g (d + 1) mt_R_crew 57 [some (.ref a0), some (.int x1), some (.int x2), some (.int x3), none, none] [.int x2, .int x3, .ref a0] M N cr sr Z)) : jv_J g (d + 1) mt_R_crew 41 [some (.ref a0), some (.int x1), some (.int x2), some (.int x3), none, none] [.int y0] M N cr sr Z := by
  refine jv_istore (L' := [some (.ref a0), some (.int x1), some (.int x2), some (.int x3), some (.int y0), none]) d_R_crew_41 (Nat.le_of_ble_eq_true rfl) rfl ?_
  refine jv_aload_n d_R_crew_43 rfl rfl ?_
  refine jv_iload_n d_R_crew_44 rfl rfl ?_
  refine jv_iload d_R_crew_45 rfl ?_
  refine jv_if_eq (tgt := 54) d_R_crew_47 (by decide) ⟨fun c => ?_, fun c => ?_⟩
  · replace h := h.1 c
    refine jv_iload_n d_R_crew_54 rfl rfl ?_
    refine jv_iconst (v := 1) d_R_crew_55 (by decide) ?_
    refine jv_isub d_R_crew_56 ?_
    refine jv_weak (L' := [some (.ref a0), some (.int x1), some (.int x2), some (.int x3), none, none]) (by simp [jv_le]) ?_
    exact h
  · replace h := h.2 c
    refine jv_iload_n d_R_crew_50 rfl rfl ?_
    refine jv_goto (tgt := 57) d_R_crew_51 (by decide) ?_
    refine jv_weak (L' := [some (.ref a0), some (.int x1), some (.int x2), some (.int x3), none, none]) (by simp [jv_le]) ?_
    exact h
theorem b_R_crew_57 {g : jv_G} {d : Nat} {M : jv_Mem} {N cr sr : Nat} {Z : Option Value → jv_Mem → Nat → Prop} {a0 : Nat} {x1 : Int32} {x2 : Int32} {x3 : Int32} {b0 : Nat} {y1 : Int32} {y2 : Int32} (h : jv_Tg 9 b0 N ∧ jv_Ct g d mt_R_ticksWithHalts [.ref b0, .int y1, .int y2] M N 0 0 (fun v M3 N3 => jv_ri v (fun r2 => (r2 = (-9) → jv_J g (d + 1) mt_R_crew 8 [some (.ref a0), some (.int x1), some (.int x2), some (.int (x3 + 1)), none, none] [] M3 N3 cr sr Z) ∧ (¬ (r2 = (-9)) → jv_J g (d + 1) mt_R_crew 8 [some (.ref a0), some (.int x3), some (.int r2), some (.int (x3 + 1)), none, none] [] M3 N3 cr sr Z)))) : jv_J g (d + 1) mt_R_crew 57 [some (.ref a0), some (.int x1), some (.int x2), some (.int x3), none, none] [.int y2, .int y1, .ref b0] M N cr sr Z := by
  obtain ⟨q1, h⟩ := h
  refine jv_invV [.int y1, .int y2] [] d_R_crew_57 ml_R_181 q1 rfl (Nat.le_of_ble_eq_true rfl) (Nat.zero_add _) (Nat.zero_add _) (jv_Ct.mono h (fun v M3 N3 h => ?_))
  obtain ⟨r2, rfl, h⟩ := h
  change jv_J g (d + 1) mt_R_crew 60 [some (.ref a0), some (.int x1), some (.int x2), some (.int x3), none, none] [.int r2] M3 N3 cr sr Z
  refine jv_istore (L' := [some (.ref a0), some (.int x1), some (.int x2), some (.int x3), none, some (.int r2)]) d_R_crew_60 (Nat.le_of_ble_eq_true rfl) rfl ?_
  refine jv_iload d_R_crew_62 rfl ?_
  refine jv_bipush (v := (-9)) d_R_crew_64 (by decide) ?_
  refine jv_icmp_eq (tgt := 74) d_R_crew_66 (by decide) ⟨fun c => ?_, fun c => ?_⟩
  · replace h := h.1 c
    refine jv_iinc (v := (x3 + 1)) (L' := [some (.ref a0), some (.int x1), some (.int x2), some (.int (x3 + 1)), none, some (.int r2)]) d_R_crew_74 rfl rfl (Nat.le_of_ble_eq_true rfl) rfl ?_
    refine jv_goto (tgt := 8) d_R_crew_77 (by decide) ?_
    refine jv_weak (L' := [some (.ref a0), some (.int x1), some (.int x2), some (.int (x3 + 1)), none, none]) (by simp [jv_le]) ?_
    exact h
  · replace h := h.2 c
    refine jv_iload_n d_R_crew_69 rfl rfl ?_
    refine jv_istore_n (L' := [some (.ref a0), some (.int x3), some (.int x2), some (.int x3), none, some (.int r2)]) d_R_crew_70 rfl (Nat.le_of_ble_eq_true rfl) rfl ?_
    refine jv_iload d_R_crew_71 rfl ?_
    refine jv_istore_n (L' := [some (.ref a0), some (.int x3), some (.int r2), some (.int x3), none, some (.int r2)]) d_R_crew_73 rfl (Nat.le_of_ble_eq_true rfl) rfl ?_
    refine jv_iinc (v := (x3 + 1)) (L' := [some (.ref a0), some (.int x3), some (.int r2), some (.int (x3 + 1)), none, some (.int r2)]) d_R_crew_74 rfl rfl (Nat.le_of_ble_eq_true rfl) rfl ?_
    refine jv_goto (tgt := 8) d_R_crew_77 (by decide) ?_
    refine jv_weak (L' := [some (.ref a0), some (.int x3), some (.int r2), some (.int (x3 + 1)), none, none]) (by simp [jv_le]) ?_
    exact h
theorem b_R_judge_0 {g : jv_G} {d : Nat} {M : jv_Mem} {N cr sr : Nat} {Z : Option Value → jv_Mem → Nat → Prop} {a0 : Nat} {x1 : Int32} {l2 : Int64} (h : (x1 < 1 → Z (some (.int (-2))) M N) ∧ (¬ (x1 < 1) → (3 < x1 → Z (some (.int (-2))) M N) ∧ (¬ (3 < x1) → (0 ≤ (lg_cmp l2 0) → jv_Ct g d mt_R_power [.int 1000000, .int x1] M N 0 0 (fun v M2 N2 => jv_rl v (fun r1 => ((lg_cmp l2 r1) < 0 → jv_Tg 9 a0 N2 ∧ ∃ b4, Prod.fst (Prod.snd M2) a0 3 = some b4 ∧ jv_Tg 9 a0 N2 ∧ ∃ b7, Prod.fst (Prod.snd M2) a0 2 = some b7 ∧ jv_Tg 6 b4 N2 ∧ jv_Ct g d mt_S_copyFrom [.ref b4, .ref b7] M2 N2 0 0 (fun v M11 N11 => jv_rv v (jv_J g (d + 1) mt_R_judge 51 [some (.ref a0), some (.int x1), some (.long l2), none, some (.long r1), none, some (.int 0)] [] M11 N11 cr sr Z))) ∧ (¬ ((lg_cmp l2 r1) < 0) → Z (some (.int (-2))) M2 N2)))) ∧ (¬ (0 ≤ (lg_cmp l2 0)) → Z (some (.int (-2))) M N)))) : jv_J g (d + 1) mt_R_judge 0 [some (.ref a0), some (.int x1), some (.long l2), none, none, none, none] [] M N cr sr Z := by
  refine jv_iload_n d_R_judge_0 rfl rfl ?_
  refine jv_iconst (v := 1) d_R_judge_1 (by decide) ?_
  refine jv_icmp_lt (tgt := 16) d_R_judge_2 (by decide) ⟨fun c => ?_, fun c => ?_⟩
  · replace h := h.1 c
    refine jv_bipush (v := (-2)) d_R_judge_16 (by decide) ?_
    exact jv_iret d_R_judge_18 rfl rfl h
  · replace h := h.2 c
    refine jv_iload_n d_R_judge_5 rfl rfl ?_
    refine jv_iconst (v := 3) d_R_judge_6 (by decide) ?_
    refine jv_icmp_gt (tgt := 16) d_R_judge_7 (by decide) ⟨fun c => ?_, fun c => ?_⟩
    · replace h := h.1 c
      refine jv_bipush (v := (-2)) d_R_judge_16 (by decide) ?_
      exact jv_iret d_R_judge_18 rfl rfl h
    · replace h := h.2 c
      refine jv_lload_n d_R_judge_10 rfl rfl ?_
      refine jv_lconst (v := 0) d_R_judge_11 (by decide) ?_
      refine jv_lcmp d_R_judge_12 ?_
      refine jv_if_ge (tgt := 19) d_R_judge_13 (by decide) ⟨fun c => ?_, fun c => ?_⟩
      · replace h := h.1 c
        refine jv_ldc d_R_judge_19 co_R_189 ?_
        refine jv_iload_n d_R_judge_21 rfl rfl ?_
        refine jv_invS [.int 1000000, .int x1] [] d_R_judge_22 ml_R_190 rfl (Nat.le_of_ble_eq_true rfl) (Nat.zero_add _) (Nat.zero_add _) (jv_Ct.mono h (fun v M2 N2 h => ?_))
        obtain ⟨r1, rfl, h⟩ := h
        change jv_J g (d + 1) mt_R_judge 25 [some (.ref a0), some (.int x1), some (.long l2), none, none, none, none] [.long r1] M2 N2 cr sr Z
        refine jv_lstore (L' := [some (.ref a0), some (.int x1), some (.long l2), none, some (.long r1), none, none]) d_R_judge_25 (Nat.le_of_ble_eq_true rfl) rfl ?_
        refine jv_lload_n d_R_judge_27 rfl rfl ?_
        refine jv_lload d_R_judge_28 rfl ?_
        refine jv_lcmp d_R_judge_30 ?_
        refine jv_if_lt (tgt := 37) d_R_judge_31 (by decide) ⟨fun c => ?_, fun c => ?_⟩
        · replace h := h.1 c
          refine jv_aload_n d_R_judge_37 rfl rfl ?_
          obtain ⟨q3, h⟩ := h
          obtain ⟨b4, e5, h⟩ := h
          refine jv_getR d_R_judge_38 fl_R_30 rfl q3 e5 ?_
          refine jv_aload_n d_R_judge_41 rfl rfl ?_
          obtain ⟨q6, h⟩ := h
          obtain ⟨b7, e8, h⟩ := h
          refine jv_getR d_R_judge_42 fl_R_26 rfl q6 e8 ?_
          obtain ⟨q9, h⟩ := h
          refine jv_invV [.ref b7] [] d_R_judge_45 ml_R_79 q9 rfl (Nat.le_of_ble_eq_true rfl) (Nat.zero_add _) (Nat.zero_add _) (jv_Ct.mono h (fun v M11 N11 h => ?_))
          obtain ⟨rfl, h⟩ := h
          change jv_J g (d + 1) mt_R_judge 48 [some (.ref a0), some (.int x1), some (.long l2), none, some (.long r1), none, none] [] M11 N11 cr sr Z
          refine jv_iconst (v := 0) d_R_judge_48 (by decide) ?_
          refine jv_istore (L' := [some (.ref a0), some (.int x1), some (.long l2), none, some (.long r1), none, some (.int 0)]) d_R_judge_49 (Nat.le_of_ble_eq_true rfl) rfl ?_
          exact h
        · replace h := h.2 c
          refine jv_bipush (v := (-2)) d_R_judge_34 (by decide) ?_
          exact jv_iret d_R_judge_36 rfl rfl h
      · replace h := h.2 c
        refine jv_bipush (v := (-2)) d_R_judge_16 (by decide) ?_
        exact jv_iret d_R_judge_18 rfl rfl h
theorem b_R_judge_51 {g : jv_G} {d : Nat} {M : jv_Mem} {N cr sr : Nat} {Z : Option Value → jv_Mem → Nat → Prop} {a0 : Nat} {x1 : Int32} {l2 : Int64} {l4 : Int64} {x6 : Int32} (h : (x1 ≤ x6 → Z (some (.int (-9))) M N) ∧ (¬ (x1 ≤ x6) → ¬ (l4 / 1000000) = 0 ∧ jv_Tg 9 a0 N ∧ jv_Ct g d mt_R_holdsInTrial [.ref a0, .int (Int64.toInt32 ((l2 / (l4 / 1000000)) - (l2 / (l4 / 1000000)) / 1000000 * 1000000))] M N 0 0 (fun v M4 N4 => jv_ri v (fun r3 => (r3 ≠ 0 → jv_J g (d + 1) mt_R_judge 51 [some (.ref a0), some (.int x1), some (.long l2), none, some (.long (l4 / 1000000)), none, some (.int (x6 + 1))] [] M4 N4 cr sr Z) ∧ (r3 = 0 → Z (some (.int x6)) M4 N4))))) : jv_J g (d + 1) mt_R_judge 51 [some (.ref a0), some (.int x1), some (.long l2), none, some (.long l4), none, some (.int x6)] [] M N cr sr Z := by
  refine jv_iload d_R_judge_51 rfl ?_
  refine jv_iload_n d_R_judge_53 rfl rfl ?_
  refine jv_icmp_ge (tgt := 90) d_R_judge_54 (by decide) ⟨fun c => ?_, fun c => ?_⟩
  · replace h := h.1 c
    refine jv_bipush (v := (-9)) d_R_judge_90 (by decide) ?_
    exact jv_iret d_R_judge_92 rfl rfl h
  · replace h := h.2 c
    refine jv_lload d_R_judge_57 rfl ?_
    refine jv_ldc2 d_R_judge_59 co_R_194 ?_
    refine jv_ldiv d_R_judge_62 (by decide) ?_
    refine jv_lstore (L' := [some (.ref a0), some (.int x1), some (.long l2), none, some (.long (l4 / 1000000)), none, some (.int x6)]) d_R_judge_63 (Nat.le_of_ble_eq_true rfl) rfl ?_
    refine jv_aload_n d_R_judge_65 rfl rfl ?_
    refine jv_lload_n d_R_judge_66 rfl rfl ?_
    refine jv_lload d_R_judge_67 rfl ?_
    obtain ⟨q1, h⟩ := h
    refine jv_ldiv d_R_judge_69 q1 ?_
    refine jv_ldc2 d_R_judge_70 co_R_194 ?_
    refine jv_lrem d_R_judge_73 (by decide) ?_
    refine jv_l2i d_R_judge_74 ?_
    obtain ⟨q2, h⟩ := h
    refine jv_invV [.int (Int64.toInt32 ((l2 / (l4 / 1000000)) - (l2 / (l4 / 1000000)) / 1000000 * 1000000))] [] d_R_judge_75 ml_R_196 q2 rfl (Nat.le_of_ble_eq_true rfl) (Nat.zero_add _) (Nat.zero_add _) (jv_Ct.mono h (fun v M4 N4 h => ?_))
    obtain ⟨r3, rfl, h⟩ := h
    change jv_J g (d + 1) mt_R_judge 78 [some (.ref a0), some (.int x1), some (.long l2), none, some (.long (l4 / 1000000)), none, some (.int x6)] [.int r3] M4 N4 cr sr Z
    refine jv_if_ne (tgt := 84) d_R_judge_78 (by decide) ⟨fun c => ?_, fun c => ?_⟩
    · replace h := h.1 c
      refine jv_iinc (v := (x6 + 1)) (L' := [some (.ref a0), some (.int x1), some (.long l2), none, some (.long (l4 / 1000000)), none, some (.int (x6 + 1))]) d_R_judge_84 rfl rfl (Nat.le_of_ble_eq_true rfl) rfl ?_
      refine jv_goto (tgt := 51) d_R_judge_87 (by decide) ?_
      exact h
    · replace h := h.2 c
      refine jv_iload d_R_judge_81 rfl ?_
      exact jv_iret d_R_judge_83 rfl rfl h
theorem b_R_power_0 {g : jv_G} {d : Nat} {M : jv_Mem} {N cr sr : Nat} {Z : Option Value → jv_Mem → Nat → Prop} {x0 : Int32} {x1 : Int32} (h : jv_J g d mt_R_power 5 [some (.int x0), some (.int x1), some (.long 1), none, some (.int 0)] [] M N cr sr Z) : jv_J g d mt_R_power 0 [some (.int x0), some (.int x1), none, none, none] [] M N cr sr Z := by
  refine jv_lconst (v := 1) d_R_power_0 (by decide) ?_
  refine jv_lstore_n (L' := [some (.int x0), some (.int x1), some (.long 1), none, none]) d_R_power_1 rfl (Nat.le_of_ble_eq_true rfl) rfl ?_
  refine jv_iconst (v := 0) d_R_power_2 (by decide) ?_
  refine jv_istore (L' := [some (.int x0), some (.int x1), some (.long 1), none, some (.int 0)]) d_R_power_3 (Nat.le_of_ble_eq_true rfl) rfl ?_
  exact h
theorem b_R_power_5 {g : jv_G} {d : Nat} {M : jv_Mem} {N cr sr : Nat} {Z : Option Value → jv_Mem → Nat → Prop} {x0 : Int32} {x1 : Int32} {l2 : Int64} {x4 : Int32} (h : (x1 ≤ x4 → Z (some (.long l2)) M N) ∧ (¬ (x1 ≤ x4) → jv_J g d mt_R_power 5 [some (.int x0), some (.int x1), some (.long (l2 * (Int32.toInt64 x0))), none, some (.int (x4 + 1))] [] M N cr sr Z)) : jv_J g d mt_R_power 5 [some (.int x0), some (.int x1), some (.long l2), none, some (.int x4)] [] M N cr sr Z := by
  refine jv_iload d_R_power_5 rfl ?_
  refine jv_iload_n d_R_power_7 rfl rfl ?_
  refine jv_icmp_ge (tgt := 22) d_R_power_8 (by decide) ⟨fun c => ?_, fun c => ?_⟩
  · replace h := h.1 c
    refine jv_lload_n d_R_power_22 rfl rfl ?_
    exact jv_lret d_R_power_23 rfl h
  · replace h := h.2 c
    refine jv_lload_n d_R_power_11 rfl rfl ?_
    refine jv_iload_n d_R_power_12 rfl rfl ?_
    refine jv_i2l d_R_power_13 ?_
    refine jv_lmul d_R_power_14 ?_
    refine jv_lstore_n (L' := [some (.int x0), some (.int x1), some (.long (l2 * (Int32.toInt64 x0))), none, some (.int x4)]) d_R_power_15 rfl (Nat.le_of_ble_eq_true rfl) rfl ?_
    refine jv_iinc (v := (x4 + 1)) (L' := [some (.int x0), some (.int x1), some (.long (l2 * (Int32.toInt64 x0))), none, some (.int (x4 + 1))]) d_R_power_16 rfl rfl (Nat.le_of_ble_eq_true rfl) rfl ?_
    refine jv_goto (tgt := 5) d_R_power_19 (by decide) ?_
    exact h
theorem b_R_holdsInTrial_0 {g : jv_G} {d : Nat} {M : jv_Mem} {N cr sr : Nat} {Z : Option Value → jv_Mem → Nat → Prop} {a0 : Nat} {x1 : Int32} (h : ((x1 / 100000) = 1 → jv_Tg 9 a0 N ∧ ∃ b3, Prod.fst (Prod.snd M) a0 3 = some b3 ∧ jv_Tg 9 a0 N ∧ ∃ b6, Prod.fst (Prod.snd M) a0 1 = some b6 ∧ jv_Tg 6 b3 N ∧ jv_Ct g d mt_S_pass [.ref b3, .ref b6, .int ((((x1 / 10000) - (x1 / 10000) / 10 * 10) * 10) + ((x1 / 1000) - (x1 / 1000) / 10 * 10))] M N 0 0 (fun v M10 N10 => jv_rv v (((x1 - x1 / 1000 * 1000) ≠ 0 → Z (some (.int 0)) M10 N10) ∧ ((x1 - x1 / 1000 * 1000) = 0 → ((((x1 / 10000) - (x1 / 10000) / 10 * 10) + ((x1 / 1000) - (x1 / 1000) / 10 * 10)) ≤ 0 → Z (some (.int 0)) M10 N10) ∧ (¬ ((((x1 / 10000) - (x1 / 10000) / 10 * 10) + ((x1 / 1000) - (x1 / 1000) / 10 * 10)) ≤ 0) → Z (some (.int 1)) M10 N10))))) ∧ ((x1 / 100000) = 2 → ((x1 - x1 / 1000 * 1000) ≠ 0 → Z (some (.int 0)) M N) ∧ ((x1 - x1 / 1000 * 1000) = 0 → jv_Tg 9 a0 N ∧ jv_Ct g d mt_R_isSentInTrial [.ref a0, .int ((x1 / 10000) - (x1 / 10000) / 10 * 10), .int ((x1 / 1000) - (x1 / 1000) / 10 * 10)] M N 0 0 (fun v M13 N13 => jv_ri v (fun r12 => (r12 = 0 → Z (some (.int 0)) M13 N13) ∧ (¬ (r12 = 0) → Z (some (.int 1)) M13 N13))))) ∧ ((x1 / 100000) = 3 → ((x1 - x1 / 1000 * 1000) ≠ 0 → Z (some (.int 0)) M N) ∧ ((x1 - x1 / 1000 * 1000) = 0 → jv_Tg 9 a0 N ∧ jv_Ct g d mt_R_isHart [.ref a0, .int ((x1 / 10000) - (x1 / 10000) / 10 * 10)] M N 0 0 (fun v M16 N16 => jv_ri v (fun r15 => (r15 = 0 → Z (some (.int 0)) M16 N16) ∧ (¬ (r15 = 0) → jv_Tg 9 a0 N16 ∧ ∃ b18, Prod.fst (Prod.snd M16) a0 3 = some b18 ∧ jv_Tg 6 b18 N16 ∧ ∃ b21, Prod.fst (Prod.snd M16) b18 1 = some b21 ∧ jv_Tg 13 b21 N16 ∧ vp_in ((x1 / 10000) - (x1 / 10000) / 10 * 10) (jv_sh b21).2 ∧ ∃ b25, Prod.fst (Prod.snd M16) b21 (Int32.toNatClampNeg ((x1 / 10000) - (x1 / 10000) / 10 * 10)) = some b25 ∧ jv_Tg 1 b25 N16 ∧ ((Prod.fst M16 b25 4) ≠ ((x1 / 1000) - (x1 / 1000) / 10 * 10) → Z (some (.int 0)) M16 N16) ∧ ((Prod.fst M16 b25 4) = ((x1 / 1000) - (x1 / 1000) / 10 * 10) → Z (some (.int 1)) M16 N16)))))) ∧ ((x1 / 100000) = 4 → jv_Tg 9 a0 N ∧ jv_Ct g d mt_R_isHart [.ref a0, .int ((x1 / 10000) - (x1 / 10000) / 10 * 10)] M N 0 0 (fun v M30 N30 => jv_ri v (fun r29 => (r29 = 0 → Z (some (.int 0)) M30 N30) ∧ (¬ (r29 = 0) → (4 ≤ ((x1 / 1000) - (x1 / 1000) / 10 * 10) → Z (some (.int 0)) M30 N30) ∧ (¬ (4 ≤ ((x1 / 1000) - (x1 / 1000) / 10 * 10)) → jv_Tg 9 a0 N30 ∧ ∃ b32, Prod.fst (Prod.snd M30) a0 3 = some b32 ∧ jv_Tg 6 b32 N30 ∧ ∃ b35, Prod.fst (Prod.snd M30) b32 1 = some b35 ∧ jv_Tg 13 b35 N30 ∧ vp_in ((x1 / 10000) - (x1 / 10000) / 10 * 10) (jv_sh b35).2 ∧ ∃ b39, Prod.fst (Prod.snd M30) b35 (Int32.toNatClampNeg ((x1 / 10000) - (x1 / 10000) / 10 * 10)) = some b39 ∧ jv_Tg 1 b39 N30 ∧ ∃ b42, Prod.fst (Prod.snd M30) b39 0 = some b42 ∧ jv_Tg 11 b42 N30 ∧ vp_in ((x1 / 1000) - (x1 / 1000) / 10 * 10) (jv_sh b42).2 ∧ ((Prod.fst M30 b42 (Int32.toNatClampNeg ((x1 / 1000) - (x1 / 1000) / 10 * 10))) ≠ (x1 - x1 / 1000 * 1000) → Z (some (.int 0)) M30 N30) ∧ ((Prod.fst M30 b42 (Int32.toNatClampNeg ((x1 / 1000) - (x1 / 1000) / 10 * 10))) = (x1 - x1 / 1000 * 1000) → Z (some (.int 1)) M30 N30)))))) ∧ ((x1 / 100000) = 5 → (8 ≤ ((x1 / 10000) - (x1 / 10000) / 10 * 10) → Z (some (.int 0)) M N) ∧ (¬ (8 ≤ ((x1 / 10000) - (x1 / 10000) / 10 * 10)) → (((x1 / 1000) - (x1 / 1000) / 10 * 10) ≠ 0 → Z (some (.int 0)) M N) ∧ (((x1 / 1000) - (x1 / 1000) / 10 * 10) = 0 → jv_Tg 9 a0 N ∧ ∃ b47, Prod.fst (Prod.snd M) a0 3 = some b47 ∧ jv_Tg 6 b47 N ∧ ∃ b50, Prod.fst (Prod.snd M) b47 3 = some b50 ∧ jv_Tg 11 b50 N ∧ vp_in ((x1 / 10000) - (x1 / 10000) / 10 * 10) (jv_sh b50).2 ∧ ((Prod.fst M b50 (Int32.toNatClampNeg ((x1 / 10000) - (x1 / 10000) / 10 * 10))) ≠ (x1 - x1 / 1000 * 1000) → Z (some (.int 0)) M N) ∧ ((Prod.fst M b50 (Int32.toNatClampNeg ((x1 / 10000) - (x1 / 10000) / 10 * 10))) = (x1 - x1 / 1000 * 1000) → Z (some (.int 1)) M N)))) ∧ ((x1 / 100000) = 6 → (((x1 / 1000) - (x1 / 1000) / 10 * 10) ≠ 0 → Z (some (.int 0)) M N) ∧ (((x1 / 1000) - (x1 / 1000) / 10 * 10) = 0 → ((x1 - x1 / 1000 * 1000) ≠ 0 → Z (some (.int 0)) M N) ∧ ((x1 - x1 / 1000 * 1000) = 0 → jv_Tg 9 a0 N ∧ ∃ b55, Prod.fst (Prod.snd M) a0 3 = some b55 ∧ jv_Tg 6 b55 N ∧ ∃ b58, Prod.fst (Prod.snd M) b55 0 = some b58 ∧ jv_Tg 0 b58 N ∧ ((Prod.fst M b58 3) ≠ ((x1 / 10000) - (x1 / 10000) / 10 * 10) → Z (some (.int 0)) M N) ∧ ((Prod.fst M b58 3) = ((x1 / 10000) - (x1 / 10000) / 10 * 10) → Z (some (.int 1)) M N)))) ∧ ((x1 / 100000) = 7 → (((x1 - x1 / 1000 * 1000) - (x1 - x1 / 1000 * 1000) / 100 * 100) ≠ 0 → Z (some (.int 0)) M N) ∧ (((x1 - x1 / 1000 * 1000) - (x1 - x1 / 1000 * 1000) / 100 * 100) = 0 → jv_Tg 9 a0 N ∧ jv_Ct g d mt_R_isHart [.ref a0, .int ((x1 / 10000) - (x1 / 10000) / 10 * 10)] M N 0 0 (fun v M63 N63 => jv_ri v (fun r62 => (r62 = 0 → Z (some (.int 0)) M63 N63) ∧ (¬ (r62 = 0) → jv_Tg 9 a0 N63 ∧ ∃ b65, Prod.fst (Prod.snd M63) a0 3 = some b65 ∧ jv_Tg 6 b65 N63 ∧ ∃ b68, Prod.fst (Prod.snd M63) b65 1 = some b68 ∧ jv_Tg 13 b68 N63 ∧ vp_in ((x1 / 10000) - (x1 / 10000) / 10 * 10) (jv_sh b68).2 ∧ ∃ b72, Prod.fst (Prod.snd M63) b68 (Int32.toNatClampNeg ((x1 / 10000) - (x1 / 10000) / 10 * 10)) = some b72 ∧ jv_Tg 1 b72 N63 ∧ ((Prod.fst M63 b72 3) ≠ ((((x1 / 1000) - (x1 / 1000) / 10 * 10) * 10) + ((x1 - x1 / 1000 * 1000) / 100)) → Z (some (.int 0)) M63 N63) ∧ ((Prod.fst M63 b72 3) = ((((x1 / 1000) - (x1 / 1000) / 10 * 10) * 10) + ((x1 - x1 / 1000 * 1000) / 100)) → Z (some (.int 1)) M63 N63)))))) ∧ (((x1 / 100000) ≠ 1 ∧ (x1 / 100000) ≠ 2 ∧ (x1 / 100000) ≠ 3 ∧ (x1 / 100000) ≠ 4 ∧ (x1 / 100000) ≠ 5 ∧ (x1 / 100000) ≠ 6 ∧ (x1 / 100000) ≠ 7) → Z (some (.int 0)) M N)) : jv_J g (d + 1) mt_R_holdsInTrial 0 [some (.ref a0), some (.int x1), none, none, none] [] M N cr sr Z := by
  refine jv_iload_n d_R_holdsInTrial_0 rfl rfl ?_
  refine jv_sipush (v := 10000) d_R_holdsInTrial_1 (by decide) ?_
  refine jv_idiv d_R_holdsInTrial_4 (by decide) ?_
  refine jv_bipush (v := 10) d_R_holdsInTrial_5 (by decide) ?_
  refine jv_irem d_R_holdsInTrial_7 (by decide) ?_
  refine jv_istore_n (L' := [some (.ref a0), some (.int x1), some (.int ((x1 / 10000) - (x1 / 10000) / 10 * 10)), none, none]) d_R_holdsInTrial_8 rfl (Nat.le_of_ble_eq_true rfl) rfl ?_
  refine jv_iload_n d_R_holdsInTrial_9 rfl rfl ?_
  refine jv_sipush (v := 1000) d_R_holdsInTrial_10 (by decide) ?_
  refine jv_idiv d_R_holdsInTrial_13 (by decide) ?_
  refine jv_bipush (v := 10) d_R_holdsInTrial_14 (by decide) ?_
  refine jv_irem d_R_holdsInTrial_16 (by decide) ?_
  refine jv_istore_n (L' := [some (.ref a0), some (.int x1), some (.int ((x1 / 10000) - (x1 / 10000) / 10 * 10)), some (.int ((x1 / 1000) - (x1 / 1000) / 10 * 10)), none]) d_R_holdsInTrial_17 rfl (Nat.le_of_ble_eq_true rfl) rfl ?_
  refine jv_iload_n d_R_holdsInTrial_18 rfl rfl ?_
  refine jv_sipush (v := 1000) d_R_holdsInTrial_19 (by decide) ?_
  refine jv_irem d_R_holdsInTrial_22 (by decide) ?_
  refine jv_istore (L' := [some (.ref a0), some (.int x1), some (.int ((x1 / 10000) - (x1 / 10000) / 10 * 10)), some (.int ((x1 / 1000) - (x1 / 1000) / 10 * 10)), some (.int (x1 - x1 / 1000 * 1000))]) d_R_holdsInTrial_23 (Nat.le_of_ble_eq_true rfl) rfl ?_
  refine jv_iload_n d_R_holdsInTrial_25 rfl rfl ?_
  refine jv_ldcw d_R_holdsInTrial_26 co_R_257 ?_
  refine jv_idiv d_R_holdsInTrial_29 (by decide) ?_
  have hD1 : ((x1 / 100000) ≠ 1 ∧ (x1 / 100000) ≠ 2 ∧ (x1 / 100000) ≠ 3 ∧ (x1 / 100000) ≠ 4 ∧ (x1 / 100000) ≠ 5 ∧ (x1 / 100000) ≠ 6 ∧ (x1 / 100000) ≠ 7) → jv_J g (d + 1) mt_R_holdsInTrial 305 [some (.ref a0), some (.int x1), some (.int ((x1 / 10000) - (x1 / 10000) / 10 * 10)), some (.int ((x1 / 1000) - (x1 / 1000) / 10 * 10)), some (.int (x1 - x1 / 1000 * 1000))] [] M N cr sr Z := by
    intro c
    replace h := h.2.2.2.2.2.2.2 c
    refine jv_iconst (v := 0) d_R_holdsInTrial_305 (by decide) ?_
    exact jv_iret d_R_holdsInTrial_306 rfl (jv_nz (by decide)) h
  refine jv_tsw (dt := 305) [(1, 72), (2, 106), (3, 126), (4, 161), (5, 199), (6, 229), (7, 258)] d_R_holdsInTrial_30 (by decide) (by decide) (by decide) (fun q hq hx => ?_) (fun hq => ?_)
  · simp only [List.mem_cons, List.not_mem_nil, or_false] at hq
    rcases hq with rfl | rfl | rfl | rfl | rfl | rfl | rfl
    · replace h := h.1 hx
      refine jv_aload_n d_R_holdsInTrial_72 rfl rfl ?_
      obtain ⟨q2, h⟩ := h
      obtain ⟨b3, e4, h⟩ := h
      refine jv_getR d_R_holdsInTrial_73 fl_R_30 rfl q2 e4 ?_
      refine jv_aload_n d_R_holdsInTrial_76 rfl rfl ?_
      obtain ⟨q5, h⟩ := h
      obtain ⟨b6, e7, h⟩ := h
      refine jv_getR d_R_holdsInTrial_77 fl_R_19 rfl q5 e7 ?_
      refine jv_iload_n d_R_holdsInTrial_80 rfl rfl ?_
      refine jv_bipush (v := 10) d_R_holdsInTrial_81 (by decide) ?_
      refine jv_imul d_R_holdsInTrial_83 ?_
      refine jv_iload_n d_R_holdsInTrial_84 rfl rfl ?_
      refine jv_iadd d_R_holdsInTrial_85 ?_
      obtain ⟨q8, h⟩ := h
      refine jv_invV [.ref b6, .int ((((x1 / 10000) - (x1 / 10000) / 10 * 10) * 10) + ((x1 / 1000) - (x1 / 1000) / 10 * 10))] [] d_R_holdsInTrial_86 ml_R_137 q8 rfl (Nat.le_of_ble_eq_true rfl) (Nat.zero_add _) (Nat.zero_add _) (jv_Ct.mono h (fun v M10 N10 h => ?_))
      obtain ⟨rfl, h⟩ := h
      change jv_J g (d + 1) mt_R_holdsInTrial 89 [some (.ref a0), some (.int x1), some (.int ((x1 / 10000) - (x1 / 10000) / 10 * 10)), some (.int ((x1 / 1000) - (x1 / 1000) / 10 * 10)), some (.int (x1 - x1 / 1000 * 1000))] [] M10 N10 cr sr Z
      refine jv_iload d_R_holdsInTrial_89 rfl ?_
      refine jv_if_ne (tgt := 104) d_R_holdsInTrial_91 (by decide) ⟨fun c => ?_, fun c => ?_⟩
      · replace h := h.1 c
        refine jv_iconst (v := 0) d_R_holdsInTrial_104 (by decide) ?_
        exact jv_iret d_R_holdsInTrial_105 rfl (jv_nz (by decide)) h
      · replace h := h.2 c
        refine jv_iload_n d_R_holdsInTrial_94 rfl rfl ?_
        refine jv_iload_n d_R_holdsInTrial_95 rfl rfl ?_
        refine jv_iadd d_R_holdsInTrial_96 ?_
        refine jv_if_le (tgt := 104) d_R_holdsInTrial_97 (by decide) ⟨fun c => ?_, fun c => ?_⟩
        · replace h := h.1 c
          refine jv_iconst (v := 0) d_R_holdsInTrial_104 (by decide) ?_
          exact jv_iret d_R_holdsInTrial_105 rfl (jv_nz (by decide)) h
        · replace h := h.2 c
          refine jv_iconst (v := 1) d_R_holdsInTrial_100 (by decide) ?_
          refine jv_goto (tgt := 105) d_R_holdsInTrial_101 (by decide) ?_
          exact jv_iret d_R_holdsInTrial_105 rfl (jv_nz (by decide)) h
    · replace h := h.2.1 hx
      refine jv_iload d_R_holdsInTrial_106 rfl ?_
      refine jv_if_ne (tgt := 124) d_R_holdsInTrial_108 (by decide) ⟨fun c => ?_, fun c => ?_⟩
      · replace h := h.1 c
        refine jv_iconst (v := 0) d_R_holdsInTrial_124 (by decide) ?_
        exact jv_iret d_R_holdsInTrial_125 rfl (jv_nz (by decide)) h
      · replace h := h.2 c
        refine jv_aload_n d_R_holdsInTrial_111 rfl rfl ?_
        refine jv_iload_n d_R_holdsInTrial_112 rfl rfl ?_
        refine jv_iload_n d_R_holdsInTrial_113 rfl rfl ?_
        obtain ⟨q11, h⟩ := h
        refine jv_invV [.int ((x1 / 10000) - (x1 / 10000) / 10 * 10), .int ((x1 / 1000) - (x1 / 1000) / 10 * 10)] [] d_R_holdsInTrial_114 ml_R_258 q11 rfl (Nat.le_of_ble_eq_true rfl) (Nat.zero_add _) (Nat.zero_add _) (jv_Ct.mono h (fun v M13 N13 h => ?_))
        obtain ⟨r12, rfl, h⟩ := h
        change jv_J g (d + 1) mt_R_holdsInTrial 117 [some (.ref a0), some (.int x1), some (.int ((x1 / 10000) - (x1 / 10000) / 10 * 10)), some (.int ((x1 / 1000) - (x1 / 1000) / 10 * 10)), some (.int (x1 - x1 / 1000 * 1000))] [.int r12] M13 N13 cr sr Z
        refine jv_if_eq (tgt := 124) d_R_holdsInTrial_117 (by decide) ⟨fun c => ?_, fun c => ?_⟩
        · replace h := h.1 c
          refine jv_iconst (v := 0) d_R_holdsInTrial_124 (by decide) ?_
          exact jv_iret d_R_holdsInTrial_125 rfl (jv_nz (by decide)) h
        · replace h := h.2 c
          refine jv_iconst (v := 1) d_R_holdsInTrial_120 (by decide) ?_
          refine jv_goto (tgt := 125) d_R_holdsInTrial_121 (by decide) ?_
          exact jv_iret d_R_holdsInTrial_125 rfl (jv_nz (by decide)) h
    · replace h := h.2.2.1 hx
      refine jv_iload d_R_holdsInTrial_126 rfl ?_
      refine jv_if_ne (tgt := 159) d_R_holdsInTrial_128 (by decide) ⟨fun c => ?_, fun c => ?_⟩
      · replace h := h.1 c
        refine jv_iconst (v := 0) d_R_holdsInTrial_159 (by decide) ?_
        exact jv_iret d_R_holdsInTrial_160 rfl (jv_nz (by decide)) h
      · replace h := h.2 c
        refine jv_aload_n d_R_holdsInTrial_131 rfl rfl ?_
        refine jv_iload_n d_R_holdsInTrial_132 rfl rfl ?_
        obtain ⟨q14, h⟩ := h
        refine jv_invV [.int ((x1 / 10000) - (x1 / 10000) / 10 * 10)] [] d_R_holdsInTrial_133 ml_R_88 q14 rfl (Nat.le_of_ble_eq_true rfl) (Nat.zero_add _) (Nat.zero_add _) (jv_Ct.mono h (fun v M16 N16 h => ?_))
        obtain ⟨r15, rfl, h⟩ := h
        change jv_J g (d + 1) mt_R_holdsInTrial 136 [some (.ref a0), some (.int x1), some (.int ((x1 / 10000) - (x1 / 10000) / 10 * 10)), some (.int ((x1 / 1000) - (x1 / 1000) / 10 * 10)), some (.int (x1 - x1 / 1000 * 1000))] [.int r15] M16 N16 cr sr Z
        refine jv_if_eq (tgt := 159) d_R_holdsInTrial_136 (by decide) ⟨fun c => ?_, fun c => ?_⟩
        · replace h := h.1 c
          refine jv_iconst (v := 0) d_R_holdsInTrial_159 (by decide) ?_
          exact jv_iret d_R_holdsInTrial_160 rfl (jv_nz (by decide)) h
        · replace h := h.2 c
          refine jv_aload_n d_R_holdsInTrial_139 rfl rfl ?_
          obtain ⟨q17, h⟩ := h
          obtain ⟨b18, e19, h⟩ := h
          refine jv_getR d_R_holdsInTrial_140 fl_R_30 rfl q17 e19 ?_
          obtain ⟨q20, h⟩ := h
          obtain ⟨b21, e22, h⟩ := h
          refine jv_getR d_R_holdsInTrial_143 fl_R_91 rfl q20 e22 ?_
          refine jv_iload_n d_R_holdsInTrial_146 rfl rfl ?_
          obtain ⟨q23, q24, b25, e26, h⟩ := h
          refine jv_aald (t := 13) d_R_holdsInTrial_147 (by decide) q23 q24 e26 ?_
          obtain ⟨q27, h⟩ := h
          refine jv_getI d_R_holdsInTrial_148 fl_R_261 rfl q27 ?_
          refine jv_iload_n d_R_holdsInTrial_151 rfl rfl ?_
          refine jv_icmp_ne (tgt := 159) d_R_holdsInTrial_152 (by decide) ⟨fun c => ?_, fun c => ?_⟩
          · replace h := h.1 c
            refine jv_iconst (v := 0) d_R_holdsInTrial_159 (by decide) ?_
            exact jv_iret d_R_holdsInTrial_160 rfl (jv_nz (by decide)) h
          · replace h := h.2 c
            refine jv_iconst (v := 1) d_R_holdsInTrial_155 (by decide) ?_
            refine jv_goto (tgt := 160) d_R_holdsInTrial_156 (by decide) ?_
            exact jv_iret d_R_holdsInTrial_160 rfl (jv_nz (by decide)) h
    · replace h := h.2.2.2.1 hx
      refine jv_aload_n d_R_holdsInTrial_161 rfl rfl ?_
      refine jv_iload_n d_R_holdsInTrial_162 rfl rfl ?_
      obtain ⟨q28, h⟩ := h
      refine jv_invV [.int ((x1 / 10000) - (x1 / 10000) / 10 * 10)] [] d_R_holdsInTrial_163 ml_R_88 q28 rfl (Nat.le_of_ble_eq_true rfl) (Nat.zero_add _) (Nat.zero_add _) (jv_Ct.mono h (fun v M30 N30 h => ?_))
      obtain ⟨r29, rfl, h⟩ := h
      change jv_J g (d + 1) mt_R_holdsInTrial 166 [some (.ref a0), some (.int x1), some (.int ((x1 / 10000) - (x1 / 10000) / 10 * 10)), some (.int ((x1 / 1000) - (x1 / 1000) / 10 * 10)), some (.int (x1 - x1 / 1000 * 1000))] [.int r29] M30 N30 cr sr Z
      refine jv_if_eq (tgt := 197) d_R_holdsInTrial_166 (by decide) ⟨fun c => ?_, fun c => ?_⟩
      · replace h := h.1 c
        refine jv_iconst (v := 0) d_R_holdsInTrial_197 (by decide) ?_
        exact jv_iret d_R_holdsInTrial_198 rfl (jv_nz (by decide)) h
      · replace h := h.2 c
        refine jv_iload_n d_R_holdsInTrial_169 rfl rfl ?_
        refine jv_iconst (v := 4) d_R_holdsInTrial_170 (by decide) ?_
        refine jv_icmp_ge (tgt := 197) d_R_holdsInTrial_171 (by decide) ⟨fun c => ?_, fun c => ?_⟩
        · replace h := h.1 c
          refine jv_iconst (v := 0) d_R_holdsInTrial_197 (by decide) ?_
          exact jv_iret d_R_holdsInTrial_198 rfl (jv_nz (by decide)) h
        · replace h := h.2 c
          refine jv_aload_n d_R_holdsInTrial_174 rfl rfl ?_
          obtain ⟨q31, h⟩ := h
          obtain ⟨b32, e33, h⟩ := h
          refine jv_getR d_R_holdsInTrial_175 fl_R_30 rfl q31 e33 ?_
          obtain ⟨q34, h⟩ := h
          obtain ⟨b35, e36, h⟩ := h
          refine jv_getR d_R_holdsInTrial_178 fl_R_91 rfl q34 e36 ?_
          refine jv_iload_n d_R_holdsInTrial_181 rfl rfl ?_
          obtain ⟨q37, q38, b39, e40, h⟩ := h
          refine jv_aald (t := 13) d_R_holdsInTrial_182 (by decide) q37 q38 e40 ?_
          obtain ⟨q41, h⟩ := h
          obtain ⟨b42, e43, h⟩ := h
          refine jv_getR d_R_holdsInTrial_183 fl_R_264 rfl q41 e43 ?_
          refine jv_iload_n d_R_holdsInTrial_186 rfl rfl ?_
          obtain ⟨q44, q45, h⟩ := h
          refine jv_iald d_R_holdsInTrial_187 q44 q45 ?_
          refine jv_iload d_R_holdsInTrial_188 rfl ?_
          refine jv_icmp_ne (tgt := 197) d_R_holdsInTrial_190 (by decide) ⟨fun c => ?_, fun c => ?_⟩
          · replace h := h.1 c
            refine jv_iconst (v := 0) d_R_holdsInTrial_197 (by decide) ?_
            exact jv_iret d_R_holdsInTrial_198 rfl (jv_nz (by decide)) h
          · replace h := h.2 c
            refine jv_iconst (v := 1) d_R_holdsInTrial_193 (by decide) ?_
            refine jv_goto (tgt := 198) d_R_holdsInTrial_194 (by decide) ?_
            exact jv_iret d_R_holdsInTrial_198 rfl (jv_nz (by decide)) h
    · replace h := h.2.2.2.2.1 hx
      refine jv_iload_n d_R_holdsInTrial_199 rfl rfl ?_
      refine jv_bipush (v := 8) d_R_holdsInTrial_200 (by decide) ?_
      refine jv_icmp_ge (tgt := 227) d_R_holdsInTrial_202 (by decide) ⟨fun c => ?_, fun c => ?_⟩
      · replace h := h.1 c
        refine jv_iconst (v := 0) d_R_holdsInTrial_227 (by decide) ?_
        exact jv_iret d_R_holdsInTrial_228 rfl (jv_nz (by decide)) h
      · replace h := h.2 c
        refine jv_iload_n d_R_holdsInTrial_205 rfl rfl ?_
        refine jv_if_ne (tgt := 227) d_R_holdsInTrial_206 (by decide) ⟨fun c => ?_, fun c => ?_⟩
        · replace h := h.1 c
          refine jv_iconst (v := 0) d_R_holdsInTrial_227 (by decide) ?_
          exact jv_iret d_R_holdsInTrial_228 rfl (jv_nz (by decide)) h
        · replace h := h.2 c
          refine jv_aload_n d_R_holdsInTrial_209 rfl rfl ?_
          obtain ⟨q46, h⟩ := h
          obtain ⟨b47, e48, h⟩ := h
          refine jv_getR d_R_holdsInTrial_210 fl_R_30 rfl q46 e48 ?_
          obtain ⟨q49, h⟩ := h
          obtain ⟨b50, e51, h⟩ := h
          refine jv_getR d_R_holdsInTrial_213 fl_R_115 rfl q49 e51 ?_
          refine jv_iload_n d_R_holdsInTrial_216 rfl rfl ?_
          obtain ⟨q52, q53, h⟩ := h
          refine jv_iald d_R_holdsInTrial_217 q52 q53 ?_
          refine jv_iload d_R_holdsInTrial_218 rfl ?_
          refine jv_icmp_ne (tgt := 227) d_R_holdsInTrial_220 (by decide) ⟨fun c => ?_, fun c => ?_⟩
          · replace h := h.1 c
            refine jv_iconst (v := 0) d_R_holdsInTrial_227 (by decide) ?_
            exact jv_iret d_R_holdsInTrial_228 rfl (jv_nz (by decide)) h
          · replace h := h.2 c
            refine jv_iconst (v := 1) d_R_holdsInTrial_223 (by decide) ?_
            refine jv_goto (tgt := 228) d_R_holdsInTrial_224 (by decide) ?_
            exact jv_iret d_R_holdsInTrial_228 rfl (jv_nz (by decide)) h
    · replace h := h.2.2.2.2.2.1 hx
      refine jv_iload_n d_R_holdsInTrial_229 rfl rfl ?_
      refine jv_if_ne (tgt := 256) d_R_holdsInTrial_230 (by decide) ⟨fun c => ?_, fun c => ?_⟩
      · replace h := h.1 c
        refine jv_iconst (v := 0) d_R_holdsInTrial_256 (by decide) ?_
        exact jv_iret d_R_holdsInTrial_257 rfl (jv_nz (by decide)) h
      · replace h := h.2 c
        refine jv_iload d_R_holdsInTrial_233 rfl ?_
        refine jv_if_ne (tgt := 256) d_R_holdsInTrial_235 (by decide) ⟨fun c => ?_, fun c => ?_⟩
        · replace h := h.1 c
          refine jv_iconst (v := 0) d_R_holdsInTrial_256 (by decide) ?_
          exact jv_iret d_R_holdsInTrial_257 rfl (jv_nz (by decide)) h
        · replace h := h.2 c
          refine jv_aload_n d_R_holdsInTrial_238 rfl rfl ?_
          obtain ⟨q54, h⟩ := h
          obtain ⟨b55, e56, h⟩ := h
          refine jv_getR d_R_holdsInTrial_239 fl_R_30 rfl q54 e56 ?_
          obtain ⟨q57, h⟩ := h
          obtain ⟨b58, e59, h⟩ := h
          refine jv_getR d_R_holdsInTrial_242 fl_R_118 rfl q57 e59 ?_
          obtain ⟨q60, h⟩ := h
          refine jv_getI d_R_holdsInTrial_245 fl_R_148 rfl q60 ?_
          refine jv_iload_n d_R_holdsInTrial_248 rfl rfl ?_
          refine jv_icmp_ne (tgt := 256) d_R_holdsInTrial_249 (by decide) ⟨fun c => ?_, fun c => ?_⟩
          · replace h := h.1 c
            refine jv_iconst (v := 0) d_R_holdsInTrial_256 (by decide) ?_
            exact jv_iret d_R_holdsInTrial_257 rfl (jv_nz (by decide)) h
          · replace h := h.2 c
            refine jv_iconst (v := 1) d_R_holdsInTrial_252 (by decide) ?_
            refine jv_goto (tgt := 257) d_R_holdsInTrial_253 (by decide) ?_
            exact jv_iret d_R_holdsInTrial_257 rfl (jv_nz (by decide)) h
    · replace h := h.2.2.2.2.2.2.1 hx
      refine jv_iload d_R_holdsInTrial_258 rfl ?_
      refine jv_bipush (v := 100) d_R_holdsInTrial_260 (by decide) ?_
      refine jv_irem d_R_holdsInTrial_262 (by decide) ?_
      refine jv_if_ne (tgt := 303) d_R_holdsInTrial_263 (by decide) ⟨fun c => ?_, fun c => ?_⟩
      · replace h := h.1 c
        refine jv_iconst (v := 0) d_R_holdsInTrial_303 (by decide) ?_
        exact jv_iret d_R_holdsInTrial_304 rfl (jv_nz (by decide)) h
      · replace h := h.2 c
        refine jv_aload_n d_R_holdsInTrial_266 rfl rfl ?_
        refine jv_iload_n d_R_holdsInTrial_267 rfl rfl ?_
        obtain ⟨q61, h⟩ := h
        refine jv_invV [.int ((x1 / 10000) - (x1 / 10000) / 10 * 10)] [] d_R_holdsInTrial_268 ml_R_88 q61 rfl (Nat.le_of_ble_eq_true rfl) (Nat.zero_add _) (Nat.zero_add _) (jv_Ct.mono h (fun v M63 N63 h => ?_))
        obtain ⟨r62, rfl, h⟩ := h
        change jv_J g (d + 1) mt_R_holdsInTrial 271 [some (.ref a0), some (.int x1), some (.int ((x1 / 10000) - (x1 / 10000) / 10 * 10)), some (.int ((x1 / 1000) - (x1 / 1000) / 10 * 10)), some (.int (x1 - x1 / 1000 * 1000))] [.int r62] M63 N63 cr sr Z
        refine jv_if_eq (tgt := 303) d_R_holdsInTrial_271 (by decide) ⟨fun c => ?_, fun c => ?_⟩
        · replace h := h.1 c
          refine jv_iconst (v := 0) d_R_holdsInTrial_303 (by decide) ?_
          exact jv_iret d_R_holdsInTrial_304 rfl (jv_nz (by decide)) h
        · replace h := h.2 c
          refine jv_aload_n d_R_holdsInTrial_274 rfl rfl ?_
          obtain ⟨q64, h⟩ := h
          obtain ⟨b65, e66, h⟩ := h
          refine jv_getR d_R_holdsInTrial_275 fl_R_30 rfl q64 e66 ?_
          obtain ⟨q67, h⟩ := h
          obtain ⟨b68, e69, h⟩ := h
          refine jv_getR d_R_holdsInTrial_278 fl_R_91 rfl q67 e69 ?_
          refine jv_iload_n d_R_holdsInTrial_281 rfl rfl ?_
          obtain ⟨q70, q71, b72, e73, h⟩ := h
          refine jv_aald (t := 13) d_R_holdsInTrial_282 (by decide) q70 q71 e73 ?_
          obtain ⟨q74, h⟩ := h
          refine jv_getI d_R_holdsInTrial_283 fl_R_267 rfl q74 ?_
          refine jv_iload_n d_R_holdsInTrial_286 rfl rfl ?_
          refine jv_bipush (v := 10) d_R_holdsInTrial_287 (by decide) ?_
          refine jv_imul d_R_holdsInTrial_289 ?_
          refine jv_iload d_R_holdsInTrial_290 rfl ?_
          refine jv_bipush (v := 100) d_R_holdsInTrial_292 (by decide) ?_
          refine jv_idiv d_R_holdsInTrial_294 (by decide) ?_
          refine jv_iadd d_R_holdsInTrial_295 ?_
          refine jv_icmp_ne (tgt := 303) d_R_holdsInTrial_296 (by decide) ⟨fun c => ?_, fun c => ?_⟩
          · replace h := h.1 c
            refine jv_iconst (v := 0) d_R_holdsInTrial_303 (by decide) ?_
            exact jv_iret d_R_holdsInTrial_304 rfl (jv_nz (by decide)) h
          · replace h := h.2 c
            refine jv_iconst (v := 1) d_R_holdsInTrial_299 (by decide) ?_
            refine jv_goto (tgt := 304) d_R_holdsInTrial_300 (by decide) ?_
            exact jv_iret d_R_holdsInTrial_304 rfl (jv_nz (by decide)) h
  · exact hD1 ⟨hq _ (List.mem_of_getElem? (i := 0) rfl), hq _ (List.mem_of_getElem? (i := 1) rfl), hq _ (List.mem_of_getElem? (i := 2) rfl), hq _ (List.mem_of_getElem? (i := 3) rfl), hq _ (List.mem_of_getElem? (i := 4) rfl), hq _ (List.mem_of_getElem? (i := 5) rfl), hq _ (List.mem_of_getElem? (i := 6) rfl)⟩
theorem b_R_isSentInTrial_0 {g : jv_G} {d : Nat} {M : jv_Mem} {N cr sr : Nat} {Z : Option Value → jv_Mem → Nat → Prop} {a0 : Nat} {x1 : Int32} {x2 : Int32} (h : (2 < x1 → Z (some (.int 0)) M N) ∧ (¬ (2 < x1) → jv_Tg 9 a0 N ∧ jv_Ct g d mt_R_isHart [.ref a0, .int x2] M N 0 0 (fun v M3 N3 => jv_ri v (fun r2 => (r2 = 0 → Z (some (.int 0)) M3 N3) ∧ (¬ (r2 = 0) → jv_Tg 9 a0 N3 ∧ ∃ b5, Prod.fst (Prod.snd M3) a0 3 = some b5 ∧ jv_Tg 6 b5 N3 ∧ ∃ b8, Prod.fst (Prod.snd M3) b5 0 = some b8 ∧ jv_Tg 0 b8 N3 ∧ ((Prod.fst M3 b8 2) < 8 → jv_Tg 9 a0 N3 ∧ ∃ b12, Prod.fst (Prod.snd M3) a0 3 = some b12 ∧ jv_Tg 6 b12 N3 ∧ ∃ b15, Prod.fst (Prod.snd M3) b12 0 = some b15 ∧ jv_Tg 0 b15 N3 ∧ jv_Ct g d mt_D_accept [.ref b15, .int x1, .int x2, .int 0, .int 0] M3 N3 0 0 (fun v M19 N19 => jv_rv v (Z (some (.int 1)) M19 N19))) ∧ (¬ ((Prod.fst M3 b8 2) < 8) → Z (some (.int 0)) M3 N3)))))) : jv_J g (d + 1) mt_R_isSentInTrial 0 [some (.ref a0), some (.int x1), some (.int x2)] [] M N cr sr Z := by
  refine jv_iload_n d_R_isSentInTrial_0 rfl rfl ?_
  refine jv_iconst (v := 2) d_R_isSentInTrial_1 (by decide) ?_
  refine jv_icmp_gt (tgt := 28) d_R_isSentInTrial_2 (by decide) ⟨fun c => ?_, fun c => ?_⟩
  · replace h := h.1 c
    refine jv_iconst (v := 0) d_R_isSentInTrial_28 (by decide) ?_
    exact jv_iret d_R_isSentInTrial_29 rfl (jv_nz (by decide)) h
  · replace h := h.2 c
    refine jv_aload_n d_R_isSentInTrial_5 rfl rfl ?_
    refine jv_iload_n d_R_isSentInTrial_6 rfl rfl ?_
    obtain ⟨q1, h⟩ := h
    refine jv_invV [.int x2] [] d_R_isSentInTrial_7 ml_R_88 q1 rfl (Nat.le_of_ble_eq_true rfl) (Nat.zero_add _) (Nat.zero_add _) (jv_Ct.mono h (fun v M3 N3 h => ?_))
    obtain ⟨r2, rfl, h⟩ := h
    change jv_J g (d + 1) mt_R_isSentInTrial 10 [some (.ref a0), some (.int x1), some (.int x2)] [.int r2] M3 N3 cr sr Z
    refine jv_if_eq (tgt := 28) d_R_isSentInTrial_10 (by decide) ⟨fun c => ?_, fun c => ?_⟩
    · replace h := h.1 c
      refine jv_iconst (v := 0) d_R_isSentInTrial_28 (by decide) ?_
      exact jv_iret d_R_isSentInTrial_29 rfl (jv_nz (by decide)) h
    · replace h := h.2 c
      refine jv_aload_n d_R_isSentInTrial_13 rfl rfl ?_
      obtain ⟨q4, h⟩ := h
      obtain ⟨b5, e6, h⟩ := h
      refine jv_getR d_R_isSentInTrial_14 fl_R_30 rfl q4 e6 ?_
      obtain ⟨q7, h⟩ := h
      obtain ⟨b8, e9, h⟩ := h
      refine jv_getR d_R_isSentInTrial_17 fl_R_118 rfl q7 e9 ?_
      obtain ⟨q10, h⟩ := h
      refine jv_getI d_R_isSentInTrial_20 fl_R_122 rfl q10 ?_
      refine jv_bipush (v := 8) d_R_isSentInTrial_23 (by decide) ?_
      refine jv_icmp_lt (tgt := 30) d_R_isSentInTrial_25 (by decide) ⟨fun c => ?_, fun c => ?_⟩
      · replace h := h.1 c
        refine jv_aload_n d_R_isSentInTrial_30 rfl rfl ?_
        obtain ⟨q11, h⟩ := h
        obtain ⟨b12, e13, h⟩ := h
        refine jv_getR d_R_isSentInTrial_31 fl_R_30 rfl q11 e13 ?_
        obtain ⟨q14, h⟩ := h
        obtain ⟨b15, e16, h⟩ := h
        refine jv_getR d_R_isSentInTrial_34 fl_R_118 rfl q14 e16 ?_
        refine jv_iload_n d_R_isSentInTrial_37 rfl rfl ?_
        refine jv_iload_n d_R_isSentInTrial_38 rfl rfl ?_
        refine jv_iconst (v := 0) d_R_isSentInTrial_39 (by decide) ?_
        refine jv_iconst (v := 0) d_R_isSentInTrial_40 (by decide) ?_
        obtain ⟨q17, h⟩ := h
        refine jv_invV [.int x1, .int x2, .int 0, .int 0] [] d_R_isSentInTrial_41 ml_R_144 q17 rfl (Nat.le_of_ble_eq_true rfl) (Nat.zero_add _) (Nat.zero_add _) (jv_Ct.mono h (fun v M19 N19 h => ?_))
        obtain ⟨rfl, h⟩ := h
        change jv_J g (d + 1) mt_R_isSentInTrial 44 [some (.ref a0), some (.int x1), some (.int x2)] [] M19 N19 cr sr Z
        refine jv_iconst (v := 1) d_R_isSentInTrial_44 (by decide) ?_
        exact jv_iret d_R_isSentInTrial_45 rfl (jv_nz (by decide)) h
      · replace h := h.2 c
        refine jv_iconst (v := 0) d_R_isSentInTrial_28 (by decide) ?_
        exact jv_iret d_R_isSentInTrial_29 rfl (jv_nz (by decide)) h
theorem b_R_see_0 {g : jv_G} {d : Nat} {M : jv_Mem} {N cr sr : Nat} {Z : Option Value → jv_Mem → Nat → Prop} {a0 : Nat} {x1 : Int32} {x2 : Int32} {x3 : Int32} (h : jv_Ct g d mt_R_isBelow [.int x1, .int 10] M N 0 0 (fun v M2 N2 => jv_ri v (fun r1 => (r1 = 0 → Z (some (.int (-2))) M2 N2) ∧ (¬ (r1 = 0) → jv_Ct g d mt_R_isBelow [.int x2, .int 3] M2 N2 0 0 (fun v M4 N4 => jv_ri v (fun r3 => (r3 = 0 → Z (some (.int (-2))) M4 N4) ∧ (¬ (r3 = 0) → jv_Ct g d mt_G_range [.int x2] M4 N4 0 0 (fun v M6 N6 => jv_ri v (fun r5 => jv_Ct g d mt_R_isBelow [.int x3, .int r5] M6 N6 0 0 (fun v M8 N8 => jv_ri v (fun r7 => (r7 ≠ 0 → jv_Tg 9 a0 N8 ∧ ∃ b10, Prod.fst (Prod.snd M8) a0 7 = some b10 ∧ jv_Tg 5 b10 N8 ∧ jv_Ct g d mt_G_append [.ref b10, .int x1, .int x2, .int x3] M8 N8 0 0 (fun v M14 N14 => jv_ri v (fun r13 => (r13 = 0 → Z (some (.int (-4))) M14 N14) ∧ (¬ (r13 = 0) → jv_Tg 9 a0 N14 ∧ ∃ b16, Prod.fst (Prod.snd M14) a0 7 = some b16 ∧ jv_Tg 5 b16 N14 ∧ Z (some (.int (Prod.fst M14 b16 3))) M14 N14)))) ∧ (r7 = 0 → Z (some (.int (-2))) M8 N8)))))))))))) : jv_J g (d + 1) mt_R_see 0 [some (.ref a0), some (.int x1), some (.int x2), some (.int x3)] [] M N cr sr Z := by
  refine jv_iload_n d_R_see_0 rfl rfl ?_
  refine jv_bipush (v := 10) d_R_see_1 (by decide) ?_
  refine jv_invS [.int x1, .int 10] [] d_R_see_3 ml_R_111 rfl (Nat.le_of_ble_eq_true rfl) (Nat.zero_add _) (Nat.zero_add _) (jv_Ct.mono h (fun v M2 N2 h => ?_))
  obtain ⟨r1, rfl, h⟩ := h
  change jv_J g (d + 1) mt_R_see 6 [some (.ref a0), some (.int x1), some (.int x2), some (.int x3)] [.int r1] M2 N2 cr sr Z
  refine jv_if_eq (tgt := 28) d_R_see_6 (by decide) ⟨fun c => ?_, fun c => ?_⟩
  · replace h := h.1 c
    refine jv_bipush (v := (-2)) d_R_see_28 (by decide) ?_
    exact jv_iret d_R_see_30 rfl rfl h
  · replace h := h.2 c
    refine jv_iload_n d_R_see_9 rfl rfl ?_
    refine jv_iconst (v := 3) d_R_see_10 (by decide) ?_
    refine jv_invS [.int x2, .int 3] [] d_R_see_11 ml_R_111 rfl (Nat.le_of_ble_eq_true rfl) (Nat.zero_add _) (Nat.zero_add _) (jv_Ct.mono h (fun v M4 N4 h => ?_))
    obtain ⟨r3, rfl, h⟩ := h
    change jv_J g (d + 1) mt_R_see 14 [some (.ref a0), some (.int x1), some (.int x2), some (.int x3)] [.int r3] M4 N4 cr sr Z
    refine jv_if_eq (tgt := 28) d_R_see_14 (by decide) ⟨fun c => ?_, fun c => ?_⟩
    · replace h := h.1 c
      refine jv_bipush (v := (-2)) d_R_see_28 (by decide) ?_
      exact jv_iret d_R_see_30 rfl rfl h
    · replace h := h.2 c
      refine jv_iload_n d_R_see_17 rfl rfl ?_
      refine jv_iload_n d_R_see_18 rfl rfl ?_
      refine jv_invS [.int x2] [.int x3] d_R_see_19 ml_R_199 rfl (Nat.le_of_ble_eq_true rfl) (Nat.zero_add _) (Nat.zero_add _) (jv_Ct.mono h (fun v M6 N6 h => ?_))
      obtain ⟨r5, rfl, h⟩ := h
      change jv_J g (d + 1) mt_R_see 22 [some (.ref a0), some (.int x1), some (.int x2), some (.int x3)] [.int r5, .int x3] M6 N6 cr sr Z
      refine jv_invS [.int x3, .int r5] [] d_R_see_22 ml_R_111 rfl (Nat.le_of_ble_eq_true rfl) (Nat.zero_add _) (Nat.zero_add _) (jv_Ct.mono h (fun v M8 N8 h => ?_))
      obtain ⟨r7, rfl, h⟩ := h
      change jv_J g (d + 1) mt_R_see 25 [some (.ref a0), some (.int x1), some (.int x2), some (.int x3)] [.int r7] M8 N8 cr sr Z
      refine jv_if_ne (tgt := 31) d_R_see_25 (by decide) ⟨fun c => ?_, fun c => ?_⟩
      · replace h := h.1 c
        refine jv_aload_n d_R_see_31 rfl rfl ?_
        obtain ⟨q9, h⟩ := h
        obtain ⟨b10, e11, h⟩ := h
        refine jv_getR d_R_see_32 fl_R_51 rfl q9 e11 ?_
        refine jv_iload_n d_R_see_35 rfl rfl ?_
        refine jv_iload_n d_R_see_36 rfl rfl ?_
        refine jv_iload_n d_R_see_37 rfl rfl ?_
        obtain ⟨q12, h⟩ := h
        refine jv_invV [.int x1, .int x2, .int x3] [] d_R_see_38 ml_R_202 q12 rfl (Nat.le_of_ble_eq_true rfl) (Nat.zero_add _) (Nat.zero_add _) (jv_Ct.mono h (fun v M14 N14 h => ?_))
        obtain ⟨r13, rfl, h⟩ := h
        change jv_J g (d + 1) mt_R_see 41 [some (.ref a0), some (.int x1), some (.int x2), some (.int x3)] [.int r13] M14 N14 cr sr Z
        refine jv_if_eq (tgt := 54) d_R_see_41 (by decide) ⟨fun c => ?_, fun c => ?_⟩
        · replace h := h.1 c
          refine jv_bipush (v := (-4)) d_R_see_54 (by decide) ?_
          exact jv_iret d_R_see_56 rfl rfl h
        · replace h := h.2 c
          refine jv_aload_n d_R_see_44 rfl rfl ?_
          obtain ⟨q15, h⟩ := h
          obtain ⟨b16, e17, h⟩ := h
          refine jv_getR d_R_see_45 fl_R_51 rfl q15 e17 ?_
          obtain ⟨q18, h⟩ := h
          refine jv_getI d_R_see_48 fl_R_205 rfl q18 ?_
          refine jv_goto (tgt := 56) d_R_see_51 (by decide) ?_
          exact jv_iret d_R_see_56 rfl rfl h
      · replace h := h.2 c
        refine jv_bipush (v := (-2)) d_R_see_28 (by decide) ?_
        exact jv_iret d_R_see_30 rfl rfl h
theorem b_R_unsee_0 {g : jv_G} {d : Nat} {M : jv_Mem} {N cr sr : Nat} {Z : Option Value → jv_Mem → Nat → Prop} {a0 : Nat} (h : jv_Tg 9 a0 N ∧ ∃ b2, Prod.fst (Prod.snd M) a0 7 = some b2 ∧ jv_Tg 5 b2 N ∧ jv_Tg 9 a0 N ∧ ∃ b6, Prod.fst (Prod.snd M) a0 7 = some b6 ∧ jv_Tg 5 b6 N ∧ Z (some (.int (Prod.fst M b2 3))) (jv_si M b6 3 0) N) : jv_J g d mt_R_unsee 0 [some (.ref a0), none] [] M N cr sr Z := by
  refine jv_aload_n d_R_unsee_0 rfl rfl ?_
  obtain ⟨q1, h⟩ := h
  obtain ⟨b2, e3, h⟩ := h
  refine jv_getR d_R_unsee_1 fl_R_51 rfl q1 e3 ?_
  obtain ⟨q4, h⟩ := h
  refine jv_getI d_R_unsee_4 fl_R_205 rfl q4 ?_
  refine jv_istore_n (L' := [some (.ref a0), some (.int (Prod.fst M b2 3))]) d_R_unsee_7 rfl (Nat.le_of_ble_eq_true rfl) rfl ?_
  refine jv_aload_n d_R_unsee_8 rfl rfl ?_
  obtain ⟨q5, h⟩ := h
  obtain ⟨b6, e7, h⟩ := h
  refine jv_getR d_R_unsee_9 fl_R_51 rfl q5 e7 ?_
  refine jv_iconst (v := 0) d_R_unsee_12 (by decide) ?_
  obtain ⟨q8, h⟩ := h
  refine jv_putI d_R_unsee_13 fl_R_205 (fun r hr => by cases hr; rfl) rfl q8 ?_
  refine jv_iload_n d_R_unsee_16 rfl rfl ?_
  exact jv_iret d_R_unsee_17 rfl rfl h
theorem b_R_which_0 {g : jv_G} {d : Nat} {M : jv_Mem} {N cr sr : Nat} {Z : Option Value → jv_Mem → Nat → Prop} {a0 : Nat} (h : jv_Tg 9 a0 N ∧ ∃ b2, Prod.fst (Prod.snd M) a0 2 = some b2 ∧ jv_Tg 6 b2 N ∧ jv_Ct g d mt_S_everyHart [.ref b2] M N 0 0 (fun v M6 N6 => jv_ri v (fun r5 => jv_Tg 9 a0 N6 ∧ ∃ b8, Prod.fst (Prod.snd M6) a0 3 = some b8 ∧ jv_Tg 9 a0 N6 ∧ ∃ b11, Prod.fst (Prod.snd M6) a0 2 = some b11 ∧ jv_Tg 6 b8 N6 ∧ jv_Ct g d mt_S_copyFrom [.ref b8, .ref b11] M6 N6 0 0 (fun v M15 N15 => jv_rv v (jv_J g (d + 1) mt_R_which 21 [some (.ref a0), some (.int r5), some (.int 0), none] [] M15 N15 cr sr Z))))) : jv_J g (d + 1) mt_R_which 0 [some (.ref a0), none, none, none] [] M N cr sr Z := by
  refine jv_aload_n d_R_which_0 rfl rfl ?_
  obtain ⟨q1, h⟩ := h
  obtain ⟨b2, e3, h⟩ := h
  refine jv_getR d_R_which_1 fl_R_26 rfl q1 e3 ?_
  obtain ⟨q4, h⟩ := h
  refine jv_invV [] [] d_R_which_4 ml_R_178 q4 rfl (Nat.le_of_ble_eq_true rfl) (Nat.zero_add _) (Nat.zero_add _) (jv_Ct.mono h (fun v M6 N6 h => ?_))
  obtain ⟨r5, rfl, h⟩ := h
  change jv_J g (d + 1) mt_R_which 7 [some (.ref a0), none, none, none] [.int r5] M6 N6 cr sr Z
  refine jv_istore_n (L' := [some (.ref a0), some (.int r5), none, none]) d_R_which_7 rfl (Nat.le_of_ble_eq_true rfl) rfl ?_
  refine jv_aload_n d_R_which_8 rfl rfl ?_
  obtain ⟨q7, h⟩ := h
  obtain ⟨b8, e9, h⟩ := h
  refine jv_getR d_R_which_9 fl_R_30 rfl q7 e9 ?_
  refine jv_aload_n d_R_which_12 rfl rfl ?_
  obtain ⟨q10, h⟩ := h
  obtain ⟨b11, e12, h⟩ := h
  refine jv_getR d_R_which_13 fl_R_26 rfl q10 e12 ?_
  obtain ⟨q13, h⟩ := h
  refine jv_invV [.ref b11] [] d_R_which_16 ml_R_79 q13 rfl (Nat.le_of_ble_eq_true rfl) (Nat.zero_add _) (Nat.zero_add _) (jv_Ct.mono h (fun v M15 N15 h => ?_))
  obtain ⟨rfl, h⟩ := h
  change jv_J g (d + 1) mt_R_which 19 [some (.ref a0), some (.int r5), none, none] [] M15 N15 cr sr Z
  refine jv_iconst (v := 0) d_R_which_19 (by decide) ?_
  refine jv_istore_n (L' := [some (.ref a0), some (.int r5), some (.int 0), none]) d_R_which_20 rfl (Nat.le_of_ble_eq_true rfl) rfl ?_
  exact h
theorem b_R_which_21 {g : jv_G} {d : Nat} {M : jv_Mem} {N cr sr : Nat} {Z : Option Value → jv_Mem → Nat → Prop} {a0 : Nat} {x1 : Int32} {x2 : Int32} (h : (9 < x2 → Z (some (.int x1)) M N) ∧ (¬ (9 < x2) → (x2 ≤ 0 → jv_J g (d + 1) mt_R_which 45 [some (.ref a0), some (.int x1), some (.int x2), some (.int 0)] [] M N cr sr Z) ∧ (¬ (x2 ≤ 0) → jv_Tg 9 a0 N ∧ ∃ b2, Prod.fst (Prod.snd M) a0 3 = some b2 ∧ jv_Tg 9 a0 N ∧ ∃ b5, Prod.fst (Prod.snd M) a0 1 = some b5 ∧ jv_Tg 6 b2 N ∧ jv_Ct g d mt_S_pass [.ref b2, .ref b5, .int 1] M N 0 0 (fun v M9 N9 => jv_rv v (jv_J g (d + 1) mt_R_which 45 [some (.ref a0), some (.int x1), some (.int x2), some (.int 0)] [] M9 N9 cr sr Z))))) : jv_J g (d + 1) mt_R_which 21 [some (.ref a0), some (.int x1), some (.int x2), none] [] M N cr sr Z := by
  refine jv_iload_n d_R_which_21 rfl rfl ?_
  refine jv_bipush (v := 9) d_R_which_22 (by decide) ?_
  refine jv_icmp_gt (tgt := 96) d_R_which_24 (by decide) ⟨fun c => ?_, fun c => ?_⟩
  · replace h := h.1 c
    refine jv_iload_n d_R_which_96 rfl rfl ?_
    exact jv_iret d_R_which_97 rfl rfl h
  · replace h := h.2 c
    refine jv_iload_n d_R_which_27 rfl rfl ?_
    refine jv_if_le (tgt := 43) d_R_which_28 (by decide) ⟨fun c => ?_, fun c => ?_⟩
    · replace h := h.1 c
      refine jv_iconst (v := 0) d_R_which_43 (by decide) ?_
      refine jv_istore_n (L' := [some (.ref a0), some (.int x1), some (.int x2), some (.int 0)]) d_R_which_44 rfl (Nat.le_of_ble_eq_true rfl) rfl ?_
      exact h
    · replace h := h.2 c
      refine jv_aload_n d_R_which_31 rfl rfl ?_
      obtain ⟨q1, h⟩ := h
      obtain ⟨b2, e3, h⟩ := h
      refine jv_getR d_R_which_32 fl_R_30 rfl q1 e3 ?_
      refine jv_aload_n d_R_which_35 rfl rfl ?_
      obtain ⟨q4, h⟩ := h
      obtain ⟨b5, e6, h⟩ := h
      refine jv_getR d_R_which_36 fl_R_19 rfl q4 e6 ?_
      refine jv_iconst (v := 1) d_R_which_39 (by decide) ?_
      obtain ⟨q7, h⟩ := h
      refine jv_invV [.ref b5, .int 1] [] d_R_which_40 ml_R_137 q7 rfl (Nat.le_of_ble_eq_true rfl) (Nat.zero_add _) (Nat.zero_add _) (jv_Ct.mono h (fun v M9 N9 h => ?_))
      obtain ⟨rfl, h⟩ := h
      change jv_J g (d + 1) mt_R_which 43 [some (.ref a0), some (.int x1), some (.int x2), none] [] M9 N9 cr sr Z
      refine jv_iconst (v := 0) d_R_which_43 (by decide) ?_
      refine jv_istore_n (L' := [some (.ref a0), some (.int x1), some (.int x2), some (.int 0)]) d_R_which_44 rfl (Nat.le_of_ble_eq_true rfl) rfl ?_
      exact h
theorem b_R_which_45 {g : jv_G} {d : Nat} {M : jv_Mem} {N cr sr : Nat} {Z : Option Value → jv_Mem → Nat → Prop} {a0 : Nat} {x1 : Int32} {x2 : Int32} {x3 : Int32} (h : jv_Tg 9 a0 N ∧ ∃ b2, Prod.fst (Prod.snd M) a0 3 = some b2 ∧ jv_Tg 6 b2 N ∧ ((Prod.fst M b2 4) ≤ x3 → jv_J g (d + 1) mt_R_which 21 [some (.ref a0), some (.int x1), some (.int (x2 + 1)), none] [] M N cr sr Z) ∧ (¬ ((Prod.fst M b2 4) ≤ x3) → jv_Tg 9 a0 N ∧ ∃ b6, Prod.fst (Prod.snd M) a0 7 = some b6 ∧ jv_Tg 9 a0 N ∧ ∃ b9, Prod.fst (Prod.snd M) a0 3 = some b9 ∧ jv_Tg 6 b9 N ∧ ∃ b12, Prod.fst (Prod.snd M) b9 1 = some b12 ∧ jv_Tg 13 b12 N ∧ vp_in x3 (jv_sh b12).2 ∧ ∃ b16, Prod.fst (Prod.snd M) b12 (Int32.toNatClampNeg x3) = some b16 ∧ jv_Tg 5 b6 N ∧ jv_Ct g d mt_G_allow [.ref b6, .int x2, .ref b16] M N 0 0 (fun v M20 N20 => jv_ri v (fun r19 => (r19 ≠ 0 → jv_J g (d + 1) mt_R_which 45 [some (.ref a0), some (.int x1), some (.int x2), some (.int (x3 + 1))] [] M20 N20 cr sr Z) ∧ (r19 = 0 → jv_J g (d + 1) mt_R_which 45 [some (.ref a0), some (.int (x1 &&& ((1 <<< (x3 &&& 31)) ^^^ (-1)))), some (.int x2), some (.int (x3 + 1))] [] M20 N20 cr sr Z))))) : jv_J g (d + 1) mt_R_which 45 [some (.ref a0), some (.int x1), some (.int x2), some (.int x3)] [] M N cr sr Z := by
  refine jv_iload_n d_R_which_45 rfl rfl ?_
  refine jv_aload_n d_R_which_46 rfl rfl ?_
  obtain ⟨q1, h⟩ := h
  obtain ⟨b2, e3, h⟩ := h
  refine jv_getR d_R_which_47 fl_R_30 rfl q1 e3 ?_
  obtain ⟨q4, h⟩ := h
  refine jv_getI d_R_which_50 fl_R_85 rfl q4 ?_
  refine jv_icmp_ge (tgt := 90) d_R_which_53 (by decide) ⟨fun c => ?_, fun c => ?_⟩
  · replace h := h.1 c
    refine jv_iinc (v := (x2 + 1)) (L' := [some (.ref a0), some (.int x1), some (.int (x2 + 1)), some (.int x3)]) d_R_which_90 rfl rfl (Nat.le_of_ble_eq_true rfl) rfl ?_
    refine jv_goto (tgt := 21) d_R_which_93 (by decide) ?_
    refine jv_weak (L' := [some (.ref a0), some (.int x1), some (.int (x2 + 1)), none]) (by simp [jv_le]) ?_
    exact h
  · replace h := h.2 c
    refine jv_aload_n d_R_which_56 rfl rfl ?_
    obtain ⟨q5, h⟩ := h
    obtain ⟨b6, e7, h⟩ := h
    refine jv_getR d_R_which_57 fl_R_51 rfl q5 e7 ?_
    refine jv_iload_n d_R_which_60 rfl rfl ?_
    refine jv_aload_n d_R_which_61 rfl rfl ?_
    obtain ⟨q8, h⟩ := h
    obtain ⟨b9, e10, h⟩ := h
    refine jv_getR d_R_which_62 fl_R_30 rfl q8 e10 ?_
    obtain ⟨q11, h⟩ := h
    obtain ⟨b12, e13, h⟩ := h
    refine jv_getR d_R_which_65 fl_R_91 rfl q11 e13 ?_
    refine jv_iload_n d_R_which_68 rfl rfl ?_
    obtain ⟨q14, q15, b16, e17, h⟩ := h
    refine jv_aald (t := 13) d_R_which_69 (by decide) q14 q15 e17 ?_
    obtain ⟨q18, h⟩ := h
    refine jv_invV [.int x2, .ref b16] [] d_R_which_70 ml_R_206 q18 rfl (Nat.le_of_ble_eq_true rfl) (Nat.zero_add _) (Nat.zero_add _) (jv_Ct.mono h (fun v M20 N20 h => ?_))
    obtain ⟨r19, rfl, h⟩ := h
    change jv_J g (d + 1) mt_R_which 73 [some (.ref a0), some (.int x1), some (.int x2), some (.int x3)] [.int r19] M20 N20 cr sr Z
    refine jv_if_ne (tgt := 84) d_R_which_73 (by decide) ⟨fun c => ?_, fun c => ?_⟩
    · replace h := h.1 c
      refine jv_iinc (v := (x3 + 1)) (L' := [some (.ref a0), some (.int x1), some (.int x2), some (.int (x3 + 1))]) d_R_which_84 rfl rfl (Nat.le_of_ble_eq_true rfl) rfl ?_
      refine jv_goto (tgt := 45) d_R_which_87 (by decide) ?_
      exact h
    · replace h := h.2 c
      refine jv_iload_n d_R_which_76 rfl rfl ?_
      refine jv_iconst (v := 1) d_R_which_77 (by decide) ?_
      refine jv_iload_n d_R_which_78 rfl rfl ?_
      refine jv_ishl d_R_which_79 ?_
      refine jv_iconst (v := (-1)) d_R_which_80 (by decide) ?_
      refine jv_ixor d_R_which_81 ?_
      refine jv_iand d_R_which_82 ?_
      refine jv_istore_n (L' := [some (.ref a0), some (.int (x1 &&& ((1 <<< (x3 &&& 31)) ^^^ (-1)))), some (.int x2), some (.int x3)]) d_R_which_83 rfl (Nat.le_of_ble_eq_true rfl) rfl ?_
      refine jv_iinc (v := (x3 + 1)) (L' := [some (.ref a0), some (.int (x1 &&& ((1 <<< (x3 &&& 31)) ^^^ (-1)))), some (.int x2), some (.int (x3 + 1))]) d_R_which_84 rfl rfl (Nat.le_of_ble_eq_true rfl) rfl ?_
      refine jv_goto (tgt := 45) d_R_which_87 (by decide) ?_
      exact h
theorem b_R_share_0 {g : jv_G} {d : Nat} {M : jv_Mem} {N cr sr : Nat} {Z : Option Value → jv_Mem → Nat → Prop} {a0 : Nat} {x1 : Int32} {x2 : Int32} (h : jv_Tg 9 a0 N ∧ jv_Ct g d mt_R_isTrigger [.ref a0, .int x1] M N 0 0 (fun v M3 N3 => jv_ri v (fun r2 => (r2 ≠ 0 → jv_Tg 9 a0 N3 ∧ ∃ b5, Prod.fst (Prod.snd M3) a0 2 = some b5 ∧ jv_Tg 6 b5 N3 ∧ jv_J g (d + 1) mt_R_share 21 [some (.ref a0), some (.int x1), some (.int x2), some (.int (Prod.fst M3 b5 5)), some (.int 0), none, none, none, none] [] M3 N3 cr sr Z) ∧ (r2 = 0 → Z (some (.int (-1))) M3 N3)))) : jv_J g (d + 1) mt_R_share 0 [some (.ref a0), some (.int x1), some (.int x2), none, none, none, none, none, none] [] M N cr sr Z := by
  refine jv_aload_n d_R_share_0 rfl rfl ?_
  refine jv_iload_n d_R_share_1 rfl rfl ?_
  obtain ⟨q1, h⟩ := h
  refine jv_invV [.int x1] [] d_R_share_2 ml_R_101 q1 rfl (Nat.le_of_ble_eq_true rfl) (Nat.zero_add _) (Nat.zero_add _) (jv_Ct.mono h (fun v M3 N3 h => ?_))
  obtain ⟨r2, rfl, h⟩ := h
  change jv_J g (d + 1) mt_R_share 5 [some (.ref a0), some (.int x1), some (.int x2), none, none, none, none, none, none] [.int r2] M3 N3 cr sr Z
  refine jv_if_ne (tgt := 10) d_R_share_5 (by decide) ⟨fun c => ?_, fun c => ?_⟩
  · replace h := h.1 c
    refine jv_aload_n d_R_share_10 rfl rfl ?_
    obtain ⟨q4, h⟩ := h
    obtain ⟨b5, e6, h⟩ := h
    refine jv_getR d_R_share_11 fl_R_26 rfl q4 e6 ?_
    obtain ⟨q7, h⟩ := h
    refine jv_getI d_R_share_14 fl_R_210 rfl q7 ?_
    refine jv_istore_n (L' := [some (.ref a0), some (.int x1), some (.int x2), some (.int (Prod.fst M3 b5 5)), none, none, none, none, none]) d_R_share_17 rfl (Nat.le_of_ble_eq_true rfl) rfl ?_
    refine jv_iconst (v := 0) d_R_share_18 (by decide) ?_
    refine jv_istore (L' := [some (.ref a0), some (.int x1), some (.int x2), some (.int (Prod.fst M3 b5 5)), some (.int 0), none, none, none, none]) d_R_share_19 (Nat.le_of_ble_eq_true rfl) rfl ?_
    exact h
  · replace h := h.2 c
    refine jv_iconst (v := (-1)) d_R_share_8 (by decide) ?_
    exact jv_iret d_R_share_9 rfl rfl h
theorem b_R_share_21 {g : jv_G} {d : Nat} {M : jv_Mem} {N cr sr : Nat} {Z : Option Value → jv_Mem → Nat → Prop} {a0 : Nat} {x1 : Int32} {x2 : Int32} {x3 : Int32} {x4 : Int32} (h : ((1 <<< (x3 &&& 31)) ≤ x4 → jv_J g (d + 1) mt_R_share 54 [some (.ref a0), some (.int x1), some (.int x2), some (.int x3), some (.long 0), none, some (.int 0), none, none] [] M N cr sr Z) ∧ (¬ ((1 <<< (x3 &&& 31)) ≤ x4) → jv_Tg 9 a0 N ∧ ∃ b2, Prod.fst (Prod.snd M) a0 8 = some b2 ∧ jv_Tg 9 a0 N ∧ jv_Ct g d mt_R_worth [.ref a0, .int x4] M N 0 0 (fun v M6 N6 => jv_ri v (fun r5 => jv_Tg 11 b2 N6 ∧ vp_in x4 (jv_sh b2).2 ∧ jv_J g (d + 1) mt_R_share 21 [some (.ref a0), some (.int x1), some (.int x2), some (.int x3), some (.int (x4 + 1)), none, none, none, none] [] (jv_si M6 b2 (Int32.toNatClampNeg x4) r5) N6 cr sr Z)))) : jv_J g (d + 1) mt_R_share 21 [some (.ref a0), some (.int x1), some (.int x2), some (.int x3), some (.int x4), none, none, none, none] [] M N cr sr Z := by
  refine jv_iload d_R_share_21 rfl ?_
  refine jv_iconst (v := 1) d_R_share_23 (by decide) ?_
  refine jv_iload_n d_R_share_24 rfl rfl ?_
  refine jv_ishl d_R_share_25 ?_
  refine jv_icmp_ge (tgt := 48) d_R_share_26 (by decide) ⟨fun c => ?_, fun c => ?_⟩
  · replace h := h.1 c
    refine jv_lconst (v := 0) d_R_share_48 (by decide) ?_
    refine jv_lstore (L' := [some (.ref a0), some (.int x1), some (.int x2), some (.int x3), some (.long 0), none, none, none, none]) d_R_share_49 (Nat.le_of_ble_eq_true rfl) rfl ?_
    refine jv_iconst (v := 0) d_R_share_51 (by decide) ?_
    refine jv_istore (L' := [some (.ref a0), some (.int x1), some (.int x2), some (.int x3), some (.long 0), none, some (.int 0), none, none]) d_R_share_52 (Nat.le_of_ble_eq_true rfl) rfl ?_
    exact h
  · replace h := h.2 c
    refine jv_aload_n d_R_share_29 rfl rfl ?_
    obtain ⟨q1, h⟩ := h
    obtain ⟨b2, e3, h⟩ := h
    refine jv_getR d_R_share_30 fl_R_55 rfl q1 e3 ?_
    refine jv_iload d_R_share_33 rfl ?_
    refine jv_aload_n d_R_share_35 rfl rfl ?_
    refine jv_iload d_R_share_36 rfl ?_
    obtain ⟨q4, h⟩ := h
    refine jv_invV [.int x4] [.int x4, .ref b2] d_R_share_38 ml_R_213 q4 rfl (Nat.le_of_ble_eq_true rfl) (Nat.zero_add _) (Nat.zero_add _) (jv_Ct.mono h (fun v M6 N6 h => ?_))
    obtain ⟨r5, rfl, h⟩ := h
    change jv_J g (d + 1) mt_R_share 41 [some (.ref a0), some (.int x1), some (.int x2), some (.int x3), some (.int x4), none, none, none, none] [.int r5, .int x4, .ref b2] M6 N6 cr sr Z
    obtain ⟨q7, q8, h⟩ := h
    refine jv_iast d_R_share_41 q7 q8 ?_
    refine jv_iinc (v := (x4 + 1)) (L' := [some (.ref a0), some (.int x1), some (.int x2), some (.int x3), some (.int (x4 + 1)), none, none, none, none]) d_R_share_42 rfl rfl (Nat.le_of_ble_eq_true rfl) rfl ?_
    refine jv_goto (tgt := 21) d_R_share_45 (by decide) ?_
    exact h
theorem b_R_share_54 {g : jv_G} {d : Nat} {M : jv_Mem} {N cr sr : Nat} {Z : Option Value → jv_Mem → Nat → Prop} {a0 : Nat} {x1 : Int32} {x2 : Int32} {x3 : Int32} {l4 : Int64} {x6 : Int32} (h : ((1 <<< (x3 &&& 31)) ≤ x6 → vp_in x3 7 ∧ jv_Ct g d mt_R_part [.long l4, .long (Int32.toInt64 (jv_fact (Int32.toNatClampNeg x3))), .int x2] M N 0 0 (fun v M3 N3 => jv_ri v (fun r2 => Z (some (.int r2)) M3 N3))) ∧ (¬ ((1 <<< (x3 &&& 31)) ≤ x6) → (((x6 >>> (x1 &&& 31)) &&& 1) ≠ 0 → jv_J g (d + 1) mt_R_share 54 [some (.ref a0), some (.int x1), some (.int x2), some (.int x3), some (.long l4), none, some (.int (x6 + 1)), none, none] [] M N cr sr Z) ∧ (((x6 >>> (x1 &&& 31)) &&& 1) = 0 → jv_Ct g d mt_JI_bitCount [.int x6] M N 0 0 (fun v M5 N5 => jv_ri v (fun r4 => vp_in r4 7 ∧ vp_in ((x3 - 1) - r4) 7 ∧ jv_Tg 9 a0 N5 ∧ ∃ b9, Prod.fst (Prod.snd M5) a0 8 = some b9 ∧ jv_Tg 11 b9 N5 ∧ vp_in (x6 ||| (1 <<< (x1 &&& 31))) (jv_sh b9).2 ∧ jv_Tg 9 a0 N5 ∧ ∃ b14, Prod.fst (Prod.snd M5) a0 8 = some b14 ∧ jv_Tg 11 b14 N5 ∧ vp_in x6 (jv_sh b14).2 ∧ jv_J g (d + 1) mt_R_share 54 [some (.ref a0), some (.int x1), some (.int x2), some (.int x3), some (.long (l4 + ((Int32.toInt64 ((jv_fact (Int32.toNatClampNeg r4)) * (jv_fact (Int32.toNatClampNeg ((x3 - 1) - r4))))) * (Int32.toInt64 ((Prod.fst M5 b9 (Int32.toNatClampNeg (x6 ||| (1 <<< (x1 &&& 31))))) - (Prod.fst M5 b14 (Int32.toNatClampNeg x6))))))), none, some (.int (x6 + 1)), none, none] [] M5 N5 cr sr Z))))) : jv_J g (d + 1) mt_R_share 54 [some (.ref a0), some (.int x1), some (.int x2), some (.int x3), some (.long l4), none, some (.int x6), none, none] [] M N cr sr Z := by
  refine jv_iload d_R_share_54 rfl ?_
  refine jv_iconst (v := 1) d_R_share_56 (by decide) ?_
  refine jv_iload_n d_R_share_57 rfl rfl ?_
  refine jv_ishl d_R_share_58 ?_
  refine jv_icmp_ge (tgt := 132) d_R_share_59 (by decide) ⟨fun c => ?_, fun c => ?_⟩
  · replace h := h.1 c
    refine jv_lload d_R_share_132 rfl ?_
    refine jv_gFac d_R_share_134 sf_R_216 ?_
    refine jv_iload_n d_R_share_137 rfl rfl ?_
    obtain ⟨q1, h⟩ := h
    refine jv_roald (f := jv_fact) d_R_share_138 (Or.inr (Or.inr ⟨rfl, rfl, rfl⟩)) q1 ?_
    refine jv_i2l d_R_share_139 ?_
    refine jv_iload_n d_R_share_140 rfl rfl ?_
    refine jv_invS [.long l4, .long (Int32.toInt64 (jv_fact (Int32.toNatClampNeg x3))), .int x2] [] d_R_share_141 ml_R_219 rfl (Nat.le_of_ble_eq_true rfl) (Nat.zero_add _) (Nat.zero_add _) (jv_Ct.mono h (fun v M3 N3 h => ?_))
    obtain ⟨r2, rfl, h⟩ := h
    change jv_J g (d + 1) mt_R_share 144 [some (.ref a0), some (.int x1), some (.int x2), some (.int x3), some (.long l4), none, some (.int x6), none, none] [.int r2] M3 N3 cr sr Z
    exact jv_iret d_R_share_144 rfl rfl h
  · replace h := h.2 c
    refine jv_iload d_R_share_62 rfl ?_
    refine jv_iload_n d_R_share_64 rfl rfl ?_
    refine jv_ishr d_R_share_65 ?_
    refine jv_iconst (v := 1) d_R_share_66 (by decide) ?_
    refine jv_iand d_R_share_67 ?_
    refine jv_if_ne (tgt := 126) d_R_share_68 (by decide) ⟨fun c => ?_, fun c => ?_⟩
    · replace h := h.1 c
      refine jv_iinc (v := (x6 + 1)) (L' := [some (.ref a0), some (.int x1), some (.int x2), some (.int x3), some (.long l4), none, some (.int (x6 + 1)), none, none]) d_R_share_126 rfl rfl (Nat.le_of_ble_eq_true rfl) rfl ?_
      refine jv_goto (tgt := 54) d_R_share_129 (by decide) ?_
      exact h
    · replace h := h.2 c
      refine jv_iload d_R_share_71 rfl ?_
      refine jv_invS [.int x6] [] d_R_share_73 ml_R_184 rfl (Nat.le_of_ble_eq_true rfl) (Nat.zero_add _) (Nat.zero_add _) (jv_Ct.mono h (fun v M5 N5 h => ?_))
      obtain ⟨r4, rfl, h⟩ := h
      change jv_J g (d + 1) mt_R_share 76 [some (.ref a0), some (.int x1), some (.int x2), some (.int x3), some (.long l4), none, some (.int x6), none, none] [.int r4] M5 N5 cr sr Z
      refine jv_istore (L' := [some (.ref a0), some (.int x1), some (.int x2), some (.int x3), some (.long l4), none, some (.int x6), some (.int r4), none]) d_R_share_76 (Nat.le_of_ble_eq_true rfl) rfl ?_
      refine jv_gFac d_R_share_78 sf_R_216 ?_
      refine jv_iload d_R_share_81 rfl ?_
      obtain ⟨q6, h⟩ := h
      refine jv_roald (f := jv_fact) d_R_share_83 (Or.inr (Or.inr ⟨rfl, rfl, rfl⟩)) q6 ?_
      refine jv_gFac d_R_share_84 sf_R_216 ?_
      refine jv_iload_n d_R_share_87 rfl rfl ?_
      refine jv_iconst (v := 1) d_R_share_88 (by decide) ?_
      refine jv_isub d_R_share_89 ?_
      refine jv_iload d_R_share_90 rfl ?_
      refine jv_isub d_R_share_92 ?_
      obtain ⟨q7, h⟩ := h
      refine jv_roald (f := jv_fact) d_R_share_93 (Or.inr (Or.inr ⟨rfl, rfl, rfl⟩)) q7 ?_
      refine jv_imul d_R_share_94 ?_
      refine jv_istore (L' := [some (.ref a0), some (.int x1), some (.int x2), some (.int x3), some (.long l4), none, some (.int x6), some (.int r4), some (.int ((jv_fact (Int32.toNatClampNeg r4)) * (jv_fact (Int32.toNatClampNeg ((x3 - 1) - r4)))))]) d_R_share_95 (Nat.le_of_ble_eq_true rfl) rfl ?_
      refine jv_lload d_R_share_97 rfl ?_
      refine jv_iload d_R_share_99 rfl ?_
      refine jv_i2l d_R_share_101 ?_
      refine jv_aload_n d_R_share_102 rfl rfl ?_
      obtain ⟨q8, h⟩ := h
      obtain ⟨b9, e10, h⟩ := h
      refine jv_getR d_R_share_103 fl_R_55 rfl q8 e10 ?_
      refine jv_iload d_R_share_106 rfl ?_
      refine jv_iconst (v := 1) d_R_share_108 (by decide) ?_
      refine jv_iload_n d_R_share_109 rfl rfl ?_
      refine jv_ishl d_R_share_110 ?_
      refine jv_ior d_R_share_111 ?_
      obtain ⟨q11, q12, h⟩ := h
      refine jv_iald d_R_share_112 q11 q12 ?_
      refine jv_aload_n d_R_share_113 rfl rfl ?_
      obtain ⟨q13, h⟩ := h
      obtain ⟨b14, e15, h⟩ := h
      refine jv_getR d_R_share_114 fl_R_55 rfl q13 e15 ?_
      refine jv_iload d_R_share_117 rfl ?_
      obtain ⟨q16, q17, h⟩ := h
      refine jv_iald d_R_share_119 q16 q17 ?_
      refine jv_isub d_R_share_120 ?_
      refine jv_i2l d_R_share_121 ?_
      refine jv_lmul d_R_share_122 ?_
      refine jv_ladd d_R_share_123 ?_
      refine jv_lstore (L' := [some (.ref a0), some (.int x1), some (.int x2), some (.int x3), some (.long (l4 + ((Int32.toInt64 ((jv_fact (Int32.toNatClampNeg r4)) * (jv_fact (Int32.toNatClampNeg ((x3 - 1) - r4))))) * (Int32.toInt64 ((Prod.fst M5 b9 (Int32.toNatClampNeg (x6 ||| (1 <<< (x1 &&& 31))))) - (Prod.fst M5 b14 (Int32.toNatClampNeg x6))))))), none, some (.int x6), some (.int r4), some (.int ((jv_fact (Int32.toNatClampNeg r4)) * (jv_fact (Int32.toNatClampNeg ((x3 - 1) - r4)))))]) d_R_share_124 (Nat.le_of_ble_eq_true rfl) rfl ?_
      refine jv_iinc (v := (x6 + 1)) (L' := [some (.ref a0), some (.int x1), some (.int x2), some (.int x3), some (.long (l4 + ((Int32.toInt64 ((jv_fact (Int32.toNatClampNeg r4)) * (jv_fact (Int32.toNatClampNeg ((x3 - 1) - r4))))) * (Int32.toInt64 ((Prod.fst M5 b9 (Int32.toNatClampNeg (x6 ||| (1 <<< (x1 &&& 31))))) - (Prod.fst M5 b14 (Int32.toNatClampNeg x6))))))), none, some (.int (x6 + 1)), some (.int r4), some (.int ((jv_fact (Int32.toNatClampNeg r4)) * (jv_fact (Int32.toNatClampNeg ((x3 - 1) - r4)))))]) d_R_share_126 rfl rfl (Nat.le_of_ble_eq_true rfl) rfl ?_
      refine jv_goto (tgt := 54) d_R_share_129 (by decide) ?_
      refine jv_weak (L' := [some (.ref a0), some (.int x1), some (.int x2), some (.int x3), some (.long (l4 + ((Int32.toInt64 ((jv_fact (Int32.toNatClampNeg r4)) * (jv_fact (Int32.toNatClampNeg ((x3 - 1) - r4))))) * (Int32.toInt64 ((Prod.fst M5 b9 (Int32.toNatClampNeg (x6 ||| (1 <<< (x1 &&& 31))))) - (Prod.fst M5 b14 (Int32.toNatClampNeg x6))))))), none, some (.int (x6 + 1)), none, none]) (by simp [jv_le]) ?_
      exact h
theorem b_R_worth_0 {g : jv_G} {d : Nat} {M : jv_Mem} {N cr sr : Nat} {Z : Option Value → jv_Mem → Nat → Prop} {a0 : Nat} {x1 : Int32} (h : jv_Tg 9 a0 N ∧ ∃ b2, Prod.fst (Prod.snd M) a0 3 = some b2 ∧ jv_Tg 9 a0 N ∧ ∃ b5, Prod.fst (Prod.snd M) a0 2 = some b5 ∧ jv_Tg 6 b2 N ∧ jv_Ct g d mt_S_copyFrom [.ref b2, .ref b5] M N 0 0 (fun v M9 N9 => jv_rv v (jv_Tg 9 a0 N9 ∧ ∃ b11, Prod.fst (Prod.snd M9) a0 3 = some b11 ∧ jv_Tg 6 b11 N9 ∧ jv_J g (d + 1) mt_R_worth 25 [some (.ref a0), none, some (.int 0), some (.int 0)] [] (jv_si M9 b11 6 (x1 ^^^ (-1))) N9 cr sr Z))) : jv_J g (d + 1) mt_R_worth 0 [some (.ref a0), some (.int x1), none, none] [] M N cr sr Z := by
  refine jv_iconst (v := 0) d_R_worth_0 (by decide) ?_
  refine jv_istore_n (L' := [some (.ref a0), some (.int x1), some (.int 0), none]) d_R_worth_1 rfl (Nat.le_of_ble_eq_true rfl) rfl ?_
  refine jv_aload_n d_R_worth_2 rfl rfl ?_
  obtain ⟨q1, h⟩ := h
  obtain ⟨b2, e3, h⟩ := h
  refine jv_getR d_R_worth_3 fl_R_30 rfl q1 e3 ?_
  refine jv_aload_n d_R_worth_6 rfl rfl ?_
  obtain ⟨q4, h⟩ := h
  obtain ⟨b5, e6, h⟩ := h
  refine jv_getR d_R_worth_7 fl_R_26 rfl q4 e6 ?_
  obtain ⟨q7, h⟩ := h
  refine jv_invV [.ref b5] [] d_R_worth_10 ml_R_79 q7 rfl (Nat.le_of_ble_eq_true rfl) (Nat.zero_add _) (Nat.zero_add _) (jv_Ct.mono h (fun v M9 N9 h => ?_))
  obtain ⟨rfl, h⟩ := h
  change jv_J g (d + 1) mt_R_worth 13 [some (.ref a0), some (.int x1), some (.int 0), none] [] M9 N9 cr sr Z
  refine jv_aload_n d_R_worth_13 rfl rfl ?_
  obtain ⟨q10, h⟩ := h
  obtain ⟨b11, e12, h⟩ := h
  refine jv_getR d_R_worth_14 fl_R_30 rfl q10 e12 ?_
  refine jv_iload_n d_R_worth_17 rfl rfl ?_
  refine jv_iconst (v := (-1)) d_R_worth_18 (by decide) ?_
  refine jv_ixor d_R_worth_19 ?_
  obtain ⟨q13, h⟩ := h
  refine jv_putI d_R_worth_20 fl_R_270 (fun r hr => by cases hr; rfl) rfl q13 ?_
  refine jv_iconst (v := 0) d_R_worth_23 (by decide) ?_
  refine jv_istore_n (L' := [some (.ref a0), some (.int x1), some (.int 0), some (.int 0)]) d_R_worth_24 rfl (Nat.le_of_ble_eq_true rfl) rfl ?_
  refine jv_weak (L' := [some (.ref a0), none, some (.int 0), some (.int 0)]) (by simp [jv_le]) ?_
  exact h
theorem b_R_worth_25 {g : jv_G} {d : Nat} {M : jv_Mem} {N cr sr : Nat} {Z : Option Value → jv_Mem → Nat → Prop} {a0 : Nat} {x2 : Int32} {x3 : Int32} (h : (20 ≤ x3 → Z (some (.int x2)) M N) ∧ (¬ (20 ≤ x3) → jv_Tg 9 a0 N ∧ ∃ b2, Prod.fst (Prod.snd M) a0 3 = some b2 ∧ jv_Tg 9 a0 N ∧ ∃ b5, Prod.fst (Prod.snd M) a0 1 = some b5 ∧ jv_Tg 6 b2 N ∧ jv_Ct g d mt_S_pass [.ref b2, .ref b5, .int 1] M N 0 0 (fun v M9 N9 => jv_rv v (jv_Tg 9 a0 N9 ∧ ∃ b11, Prod.fst (Prod.snd M9) a0 3 = some b11 ∧ jv_Tg 6 b11 N9 ∧ jv_Ct g d mt_S_haltedCount [.ref b11] M9 N9 0 0 (fun v M15 N15 => jv_ri v (fun r14 => jv_J g (d + 1) mt_R_worth 25 [some (.ref a0), none, some (.int (x2 + r14)), some (.int (x3 + 1))] [] M15 N15 cr sr Z)))))) : jv_J g (d + 1) mt_R_worth 25 [some (.ref a0), none, some (.int x2), some (.int x3)] [] M N cr sr Z := by
  refine jv_iload_n d_R_worth_25 rfl rfl ?_
  refine jv_bipush (v := 20) d_R_worth_26 (by decide) ?_
  refine jv_icmp_ge (tgt := 59) d_R_worth_28 (by decide) ⟨fun c => ?_, fun c => ?_⟩
  · replace h := h.1 c
    refine jv_iload_n d_R_worth_59 rfl rfl ?_
    exact jv_iret d_R_worth_60 rfl rfl h
  · replace h := h.2 c
    refine jv_aload_n d_R_worth_31 rfl rfl ?_
    obtain ⟨q1, h⟩ := h
    obtain ⟨b2, e3, h⟩ := h
    refine jv_getR d_R_worth_32 fl_R_30 rfl q1 e3 ?_
    refine jv_aload_n d_R_worth_35 rfl rfl ?_
    obtain ⟨q4, h⟩ := h
    obtain ⟨b5, e6, h⟩ := h
    refine jv_getR d_R_worth_36 fl_R_19 rfl q4 e6 ?_
    refine jv_iconst (v := 1) d_R_worth_39 (by decide) ?_
    obtain ⟨q7, h⟩ := h
    refine jv_invV [.ref b5, .int 1] [] d_R_worth_40 ml_R_137 q7 rfl (Nat.le_of_ble_eq_true rfl) (Nat.zero_add _) (Nat.zero_add _) (jv_Ct.mono h (fun v M9 N9 h => ?_))
    obtain ⟨rfl, h⟩ := h
    change jv_J g (d + 1) mt_R_worth 43 [some (.ref a0), none, some (.int x2), some (.int x3)] [] M9 N9 cr sr Z
    refine jv_iload_n d_R_worth_43 rfl rfl ?_
    refine jv_aload_n d_R_worth_44 rfl rfl ?_
    obtain ⟨q10, h⟩ := h
    obtain ⟨b11, e12, h⟩ := h
    refine jv_getR d_R_worth_45 fl_R_30 rfl q10 e12 ?_
    obtain ⟨q13, h⟩ := h
    refine jv_invV [] [.int x2] d_R_worth_48 ml_R_141 q13 rfl (Nat.le_of_ble_eq_true rfl) (Nat.zero_add _) (Nat.zero_add _) (jv_Ct.mono h (fun v M15 N15 h => ?_))
    obtain ⟨r14, rfl, h⟩ := h
    change jv_J g (d + 1) mt_R_worth 51 [some (.ref a0), none, some (.int x2), some (.int x3)] [.int r14, .int x2] M15 N15 cr sr Z
    refine jv_iadd d_R_worth_51 ?_
    refine jv_istore_n (L' := [some (.ref a0), none, some (.int (x2 + r14)), some (.int x3)]) d_R_worth_52 rfl (Nat.le_of_ble_eq_true rfl) rfl ?_
    refine jv_iinc (v := (x3 + 1)) (L' := [some (.ref a0), none, some (.int (x2 + r14)), some (.int (x3 + 1))]) d_R_worth_53 rfl rfl (Nat.le_of_ble_eq_true rfl) rfl ?_
    refine jv_goto (tgt := 25) d_R_worth_56 (by decide) ?_
    exact h
theorem b_R_part_0 {g : jv_G} {d : Nat} {M : jv_Mem} {N cr sr : Nat} {Z : Option Value → jv_Mem → Nat → Prop} {l0 : Int64} {l2 : Int64} {x4 : Int32} (h : jv_J g (d + 1) mt_R_part 12 [some (.long l0), none, some (.long l2), none, some (.int x4), some (.long l2), none, some (.long (if 0 < l0 then l0 else -l0)), none, some (.int 0), none, none] [] M N cr sr Z) : jv_J g (d + 1) mt_R_part 0 [some (.long l0), none, some (.long l2), none, some (.int x4), none, none, none, none, none, none, none] [] M N cr sr Z := by
  refine jv_lload_n d_R_part_0 rfl rfl ?_
  refine jv_lstore (L' := [some (.long l0), none, some (.long l2), none, some (.int x4), some (.long l2), none, none, none, none, none, none]) d_R_part_1 (Nat.le_of_ble_eq_true rfl) rfl ?_
  refine jv_lload_n d_R_part_3 rfl rfl ?_
  refine jv_mabs d_R_part_4 ml_R_277 (Nat.le_of_ble_eq_true rfl) ?_
  refine jv_lstore (L' := [some (.long l0), none, some (.long l2), none, some (.int x4), some (.long l2), none, some (.long (if 0 < l0 then l0 else -l0)), none, none, none, none]) d_R_part_7 (Nat.le_of_ble_eq_true rfl) rfl ?_
  refine jv_iconst (v := 0) d_R_part_9 (by decide) ?_
  refine jv_istore (L' := [some (.long l0), none, some (.long l2), none, some (.int x4), some (.long l2), none, some (.long (if 0 < l0 then l0 else -l0)), none, some (.int 0), none, none]) d_R_part_10 (Nat.le_of_ble_eq_true rfl) rfl ?_
  exact h
theorem b_R_part_12 {g : jv_G} {d : Nat} {M : jv_Mem} {N cr sr : Nat} {Z : Option Value → jv_Mem → Nat → Prop} {l0 : Int64} {l2 : Int64} {x4 : Int32} {l5 : Int64} {l7 : Int64} {x9 : Int32} (h : (100 ≤ x9 → ((lg_cmp l5 0) ≠ 0 → (x4 = 0 → ¬ l5 = 0 ∧ Z (some (.int (Int64.toInt32 (l2 / l5)))) M N) ∧ (¬ (x4 = 0) → ¬ l5 = 0 ∧ Z (some (.int (Int64.toInt32 (l0 / l5)))) M N)) ∧ ((lg_cmp l5 0) = 0 → Z (some (.int 0)) M N)) ∧ (¬ (100 ≤ x9) → ((lg_cmp l7 0) = 0 → ((lg_cmp l5 0) ≠ 0 → (x4 = 0 → ¬ l5 = 0 ∧ Z (some (.int (Int64.toInt32 (l2 / l5)))) M N) ∧ (¬ (x4 = 0) → ¬ l5 = 0 ∧ Z (some (.int (Int64.toInt32 (l0 / l5)))) M N)) ∧ ((lg_cmp l5 0) = 0 → Z (some (.int 0)) M N)) ∧ (¬ ((lg_cmp l7 0) = 0) → ¬ l7 = 0 ∧ jv_J g (d + 1) mt_R_part 12 [some (.long l0), none, some (.long l2), none, some (.int x4), some (.long l7), none, some (.long (l5 - l5 / l7 * l7)), none, some (.int (x9 + 1)), none, none] [] M N cr sr Z))) : jv_J g (d + 1) mt_R_part 12 [some (.long l0), none, some (.long l2), none, some (.int x4), some (.long l5), none, some (.long l7), none, some (.int x9), none, none] [] M N cr sr Z := by
  refine jv_iload d_R_part_12 rfl ?_
  refine jv_bipush (v := 100) d_R_part_14 (by decide) ?_
  refine jv_icmp_ge (tgt := 47) d_R_part_16 (by decide) ⟨fun c => ?_, fun c => ?_⟩
  · replace h := h.1 c
    refine jv_lload d_R_part_47 rfl ?_
    refine jv_lconst (v := 0) d_R_part_49 (by decide) ?_
    refine jv_lcmp d_R_part_50 ?_
    refine jv_if_ne (tgt := 56) d_R_part_51 (by decide) ⟨fun c => ?_, fun c => ?_⟩
    · replace h := h.1 c
      refine jv_iload d_R_part_56 rfl ?_
      refine jv_if_eq (tgt := 65) d_R_part_58 (by decide) ⟨fun c => ?_, fun c => ?_⟩
      · replace h := h.1 c
        refine jv_lload_n d_R_part_65 rfl rfl ?_
        refine jv_lload d_R_part_66 rfl ?_
        obtain ⟨q1, h⟩ := h
        refine jv_ldiv d_R_part_68 q1 ?_
        refine jv_l2i d_R_part_69 ?_
        exact jv_iret d_R_part_70 rfl rfl h
      · replace h := h.2 c
        refine jv_lload_n d_R_part_61 rfl rfl ?_
        refine jv_goto (tgt := 66) d_R_part_62 (by decide) ?_
        refine jv_lload d_R_part_66 rfl ?_
        obtain ⟨q2, h⟩ := h
        refine jv_ldiv d_R_part_68 q2 ?_
        refine jv_l2i d_R_part_69 ?_
        exact jv_iret d_R_part_70 rfl rfl h
    · replace h := h.2 c
      refine jv_iconst (v := 0) d_R_part_54 (by decide) ?_
      exact jv_iret d_R_part_55 rfl rfl h
  · replace h := h.2 c
    refine jv_lload d_R_part_19 rfl ?_
    refine jv_lconst (v := 0) d_R_part_21 (by decide) ?_
    refine jv_lcmp d_R_part_22 ?_
    refine jv_if_eq (tgt := 47) d_R_part_23 (by decide) ⟨fun c => ?_, fun c => ?_⟩
    · replace h := h.1 c
      refine jv_lload d_R_part_47 rfl ?_
      refine jv_lconst (v := 0) d_R_part_49 (by decide) ?_
      refine jv_lcmp d_R_part_50 ?_
      refine jv_if_ne (tgt := 56) d_R_part_51 (by decide) ⟨fun c => ?_, fun c => ?_⟩
      · replace h := h.1 c
        refine jv_iload d_R_part_56 rfl ?_
        refine jv_if_eq (tgt := 65) d_R_part_58 (by decide) ⟨fun c => ?_, fun c => ?_⟩
        · replace h := h.1 c
          refine jv_lload_n d_R_part_65 rfl rfl ?_
          refine jv_lload d_R_part_66 rfl ?_
          obtain ⟨q3, h⟩ := h
          refine jv_ldiv d_R_part_68 q3 ?_
          refine jv_l2i d_R_part_69 ?_
          exact jv_iret d_R_part_70 rfl rfl h
        · replace h := h.2 c
          refine jv_lload_n d_R_part_61 rfl rfl ?_
          refine jv_goto (tgt := 66) d_R_part_62 (by decide) ?_
          refine jv_lload d_R_part_66 rfl ?_
          obtain ⟨q4, h⟩ := h
          refine jv_ldiv d_R_part_68 q4 ?_
          refine jv_l2i d_R_part_69 ?_
          exact jv_iret d_R_part_70 rfl rfl h
      · replace h := h.2 c
        refine jv_iconst (v := 0) d_R_part_54 (by decide) ?_
        exact jv_iret d_R_part_55 rfl rfl h
    · replace h := h.2 c
      refine jv_lload d_R_part_26 rfl ?_
      refine jv_lload d_R_part_28 rfl ?_
      obtain ⟨q5, h⟩ := h
      refine jv_lrem d_R_part_30 q5 ?_
      refine jv_lstore (L' := [some (.long l0), none, some (.long l2), none, some (.int x4), some (.long l5), none, some (.long l7), none, some (.int x9), some (.long (l5 - l5 / l7 * l7)), none]) d_R_part_31 (Nat.le_of_ble_eq_true rfl) rfl ?_
      refine jv_lload d_R_part_33 rfl ?_
      refine jv_lstore (L' := [some (.long l0), none, some (.long l2), none, some (.int x4), some (.long l7), none, some (.long l7), none, some (.int x9), some (.long (l5 - l5 / l7 * l7)), none]) d_R_part_35 (Nat.le_of_ble_eq_true rfl) rfl ?_
      refine jv_lload d_R_part_37 rfl ?_
      refine jv_lstore (L' := [some (.long l0), none, some (.long l2), none, some (.int x4), some (.long l7), none, some (.long (l5 - l5 / l7 * l7)), none, some (.int x9), some (.long (l5 - l5 / l7 * l7)), none]) d_R_part_39 (Nat.le_of_ble_eq_true rfl) rfl ?_
      refine jv_iinc (v := (x9 + 1)) (L' := [some (.long l0), none, some (.long l2), none, some (.int x4), some (.long l7), none, some (.long (l5 - l5 / l7 * l7)), none, some (.int (x9 + 1)), some (.long (l5 - l5 / l7 * l7)), none]) d_R_part_41 rfl rfl (Nat.le_of_ble_eq_true rfl) rfl ?_
      refine jv_goto (tgt := 12) d_R_part_44 (by decide) ?_
      refine jv_weak (L' := [some (.long l0), none, some (.long l2), none, some (.int x4), some (.long l7), none, some (.long (l5 - l5 / l7 * l7)), none, some (.int (x9 + 1)), none, none]) (by simp [jv_le]) ?_
      exact h
theorem b_R_lost_0 {g : jv_G} {d : Nat} {M : jv_Mem} {N cr sr : Nat} {Z : Option Value → jv_Mem → Nat → Prop} {a0 : Nat} {x1 : Int32} {x2 : Int32} (h : jv_Ct g d mt_R_isBelow [.int x1, .int 11] M N 0 0 (fun v M2 N2 => jv_ri v (fun r1 => (r1 ≠ 0 → jv_Tg 9 a0 N2 ∧ ∃ b4, Prod.fst (Prod.snd M2) a0 2 = some b4 ∧ jv_Tg 6 b4 N2 ∧ ∃ b7, Prod.fst (Prod.snd M2) b4 0 = some b7 ∧ jv_Tg 0 b7 N2 ∧ jv_J g (d + 1) mt_R_lost 29 [some (.ref a0), some (.int x1), some (.int x2), some (.int (Prod.fst M2 b7 2)), some (.long 0), none, some (.int 0), none, none, none] [] M2 N2 cr sr Z) ∧ (r1 = 0 → Z (some (.int (-2))) M2 N2)))) : jv_J g (d + 1) mt_R_lost 0 [some (.ref a0), some (.int x1), some (.int x2), none, none, none, none, none, none, none] [] M N cr sr Z := by
  refine jv_iload_n d_R_lost_0 rfl rfl ?_
  refine jv_bipush (v := 11) d_R_lost_1 (by decide) ?_
  refine jv_invS [.int x1, .int 11] [] d_R_lost_3 ml_R_111 rfl (Nat.le_of_ble_eq_true rfl) (Nat.zero_add _) (Nat.zero_add _) (jv_Ct.mono h (fun v M2 N2 h => ?_))
  obtain ⟨r1, rfl, h⟩ := h
  change jv_J g (d + 1) mt_R_lost 6 [some (.ref a0), some (.int x1), some (.int x2), none, none, none, none, none, none, none] [.int r1] M2 N2 cr sr Z
  refine jv_if_ne (tgt := 12) d_R_lost_6 (by decide) ⟨fun c => ?_, fun c => ?_⟩
  · replace h := h.1 c
    refine jv_aload_n d_R_lost_12 rfl rfl ?_
    obtain ⟨q3, h⟩ := h
    obtain ⟨b4, e5, h⟩ := h
    refine jv_getR d_R_lost_13 fl_R_26 rfl q3 e5 ?_
    obtain ⟨q6, h⟩ := h
    obtain ⟨b7, e8, h⟩ := h
    refine jv_getR d_R_lost_16 fl_R_118 rfl q6 e8 ?_
    obtain ⟨q9, h⟩ := h
    refine jv_getI d_R_lost_19 fl_R_122 rfl q9 ?_
    refine jv_istore_n (L' := [some (.ref a0), some (.int x1), some (.int x2), some (.int (Prod.fst M2 b7 2)), none, none, none, none, none, none]) d_R_lost_22 rfl (Nat.le_of_ble_eq_true rfl) rfl ?_
    refine jv_lconst (v := 0) d_R_lost_23 (by decide) ?_
    refine jv_lstore (L' := [some (.ref a0), some (.int x1), some (.int x2), some (.int (Prod.fst M2 b7 2)), some (.long 0), none, none, none, none, none]) d_R_lost_24 (Nat.le_of_ble_eq_true rfl) rfl ?_
    refine jv_iconst (v := 0) d_R_lost_26 (by decide) ?_
    refine jv_istore (L' := [some (.ref a0), some (.int x1), some (.int x2), some (.int (Prod.fst M2 b7 2)), some (.long 0), none, some (.int 0), none, none, none]) d_R_lost_27 (Nat.le_of_ble_eq_true rfl) rfl ?_
    exact h
  · replace h := h.2 c
    refine jv_bipush (v := (-2)) d_R_lost_9 (by decide) ?_
    exact jv_iret d_R_lost_11 rfl rfl h
theorem b_R_lost_29 {g : jv_G} {d : Nat} {M : jv_Mem} {N cr sr : Nat} {Z : Option Value → jv_Mem → Nat → Prop} {a0 : Nat} {x1 : Int32} {x2 : Int32} {x3 : Int32} {l4 : Int64} {x6 : Int32} (h : ((1 <<< (x3 &&& 31)) ≤ x6 → jv_Ct g d mt_R_power [.int 10, .int x3] M N 0 0 (fun v M2 N2 => jv_rl v (fun r1 => jv_Ct g d mt_R_part [.long l4, .long r1, .int x2] M2 N2 0 0 (fun v M4 N4 => jv_ri v (fun r3 => Z (some (.int r3)) M4 N4))))) ∧ (¬ ((1 <<< (x3 &&& 31)) ≤ x6) → jv_Ct g d mt_JI_bitCount [.int x6] M N 0 0 (fun v M6 N6 => jv_ri v (fun r5 => jv_Ct g d mt_R_power [.int x1, .int r5] M6 N6 0 0 (fun v M8 N8 => jv_rl v (fun r7 => jv_Ct g d mt_R_power [.int (10 - x1), .int (x3 - r5)] M8 N8 0 0 (fun v M10 N10 => jv_rl v (fun r9 => ((lg_cmp (r7 * r9) 0) = 0 → jv_J g (d + 1) mt_R_lost 29 [some (.ref a0), some (.int x1), some (.int x2), some (.int x3), some (.long l4), none, some (.int (x6 + 1)), none, none, none] [] M10 N10 cr sr Z) ∧ (¬ ((lg_cmp (r7 * r9) 0) = 0) → jv_Tg 9 a0 N10 ∧ jv_Ct g d mt_R_endsHaltedWithout [.ref a0, .int x6] M10 N10 0 0 (fun v M13 N13 => jv_ri v (fun r12 => (r12 = 0 → jv_J g (d + 1) mt_R_lost 29 [some (.ref a0), some (.int x1), some (.int x2), some (.int x3), some (.long l4), none, some (.int (x6 + 1)), none, none, none] [] M13 N13 cr sr Z) ∧ (¬ (r12 = 0) → jv_J g (d + 1) mt_R_lost 29 [some (.ref a0), some (.int x1), some (.int x2), some (.int x3), some (.long (l4 + (r7 * r9))), none, some (.int (x6 + 1)), none, none, none] [] M13 N13 cr sr Z)))))))))))) : jv_J g (d + 1) mt_R_lost 29 [some (.ref a0), some (.int x1), some (.int x2), some (.int x3), some (.long l4), none, some (.int x6), none, none, none] [] M N cr sr Z := by
  refine jv_iload d_R_lost_29 rfl ?_
  refine jv_iconst (v := 1) d_R_lost_31 (by decide) ?_
  refine jv_iload_n d_R_lost_32 rfl rfl ?_
  refine jv_ishl d_R_lost_33 ?_
  refine jv_icmp_ge (tgt := 93) d_R_lost_34 (by decide) ⟨fun c => ?_, fun c => ?_⟩
  · replace h := h.1 c
    refine jv_lload d_R_lost_93 rfl ?_
    refine jv_bipush (v := 10) d_R_lost_95 (by decide) ?_
    refine jv_iload_n d_R_lost_97 rfl rfl ?_
    refine jv_invS [.int 10, .int x3] [.long l4] d_R_lost_98 ml_R_190 rfl (Nat.le_of_ble_eq_true rfl) (Nat.zero_add _) (Nat.zero_add _) (jv_Ct.mono h (fun v M2 N2 h => ?_))
    obtain ⟨r1, rfl, h⟩ := h
    change jv_J g (d + 1) mt_R_lost 101 [some (.ref a0), some (.int x1), some (.int x2), some (.int x3), some (.long l4), none, some (.int x6), none, none, none] [.long r1, .long l4] M2 N2 cr sr Z
    refine jv_iload_n d_R_lost_101 rfl rfl ?_
    refine jv_invS [.long l4, .long r1, .int x2] [] d_R_lost_102 ml_R_219 rfl (Nat.le_of_ble_eq_true rfl) (Nat.zero_add _) (Nat.zero_add _) (jv_Ct.mono h (fun v M4 N4 h => ?_))
    obtain ⟨r3, rfl, h⟩ := h
    change jv_J g (d + 1) mt_R_lost 105 [some (.ref a0), some (.int x1), some (.int x2), some (.int x3), some (.long l4), none, some (.int x6), none, none, none] [.int r3] M4 N4 cr sr Z
    exact jv_iret d_R_lost_105 rfl rfl h
  · replace h := h.2 c
    refine jv_iload d_R_lost_37 rfl ?_
    refine jv_invS [.int x6] [] d_R_lost_39 ml_R_184 rfl (Nat.le_of_ble_eq_true rfl) (Nat.zero_add _) (Nat.zero_add _) (jv_Ct.mono h (fun v M6 N6 h => ?_))
    obtain ⟨r5, rfl, h⟩ := h
    change jv_J g (d + 1) mt_R_lost 42 [some (.ref a0), some (.int x1), some (.int x2), some (.int x3), some (.long l4), none, some (.int x6), none, none, none] [.int r5] M6 N6 cr sr Z
    refine jv_istore (L' := [some (.ref a0), some (.int x1), some (.int x2), some (.int x3), some (.long l4), none, some (.int x6), some (.int r5), none, none]) d_R_lost_42 (Nat.le_of_ble_eq_true rfl) rfl ?_
    refine jv_iload_n d_R_lost_44 rfl rfl ?_
    refine jv_iload d_R_lost_45 rfl ?_
    refine jv_invS [.int x1, .int r5] [] d_R_lost_47 ml_R_190 rfl (Nat.le_of_ble_eq_true rfl) (Nat.zero_add _) (Nat.zero_add _) (jv_Ct.mono h (fun v M8 N8 h => ?_))
    obtain ⟨r7, rfl, h⟩ := h
    change jv_J g (d + 1) mt_R_lost 50 [some (.ref a0), some (.int x1), some (.int x2), some (.int x3), some (.long l4), none, some (.int x6), some (.int r5), none, none] [.long r7] M8 N8 cr sr Z
    refine jv_bipush (v := 10) d_R_lost_50 (by decide) ?_
    refine jv_iload_n d_R_lost_52 rfl rfl ?_
    refine jv_isub d_R_lost_53 ?_
    refine jv_iload_n d_R_lost_54 rfl rfl ?_
    refine jv_iload d_R_lost_55 rfl ?_
    refine jv_isub d_R_lost_57 ?_
    refine jv_invS [.int (10 - x1), .int (x3 - r5)] [.long r7] d_R_lost_58 ml_R_190 rfl (Nat.le_of_ble_eq_true rfl) (Nat.zero_add _) (Nat.zero_add _) (jv_Ct.mono h (fun v M10 N10 h => ?_))
    obtain ⟨r9, rfl, h⟩ := h
    change jv_J g (d + 1) mt_R_lost 61 [some (.ref a0), some (.int x1), some (.int x2), some (.int x3), some (.long l4), none, some (.int x6), some (.int r5), none, none] [.long r9, .long r7] M10 N10 cr sr Z
    refine jv_lmul d_R_lost_61 ?_
    refine jv_lstore (L' := [some (.ref a0), some (.int x1), some (.int x2), some (.int x3), some (.long l4), none, some (.int x6), some (.int r5), some (.long (r7 * r9)), none]) d_R_lost_62 (Nat.le_of_ble_eq_true rfl) rfl ?_
    refine jv_lload d_R_lost_64 rfl ?_
    refine jv_lconst (v := 0) d_R_lost_66 (by decide) ?_
    refine jv_lcmp d_R_lost_67 ?_
    refine jv_if_eq (tgt := 87) d_R_lost_68 (by decide) ⟨fun c => ?_, fun c => ?_⟩
    · replace h := h.1 c
      refine jv_iinc (v := (x6 + 1)) (L' := [some (.ref a0), some (.int x1), some (.int x2), some (.int x3), some (.long l4), none, some (.int (x6 + 1)), some (.int r5), some (.long (r7 * r9)), none]) d_R_lost_87 rfl rfl (Nat.le_of_ble_eq_true rfl) rfl ?_
      refine jv_goto (tgt := 29) d_R_lost_90 (by decide) ?_
      refine jv_weak (L' := [some (.ref a0), some (.int x1), some (.int x2), some (.int x3), some (.long l4), none, some (.int (x6 + 1)), none, none, none]) (by simp [jv_le]) ?_
      exact h
    · replace h := h.2 c
      refine jv_aload_n d_R_lost_71 rfl rfl ?_
      refine jv_iload d_R_lost_72 rfl ?_
      obtain ⟨q11, h⟩ := h
      refine jv_invV [.int x6] [] d_R_lost_74 ml_R_223 q11 rfl (Nat.le_of_ble_eq_true rfl) (Nat.zero_add _) (Nat.zero_add _) (jv_Ct.mono h (fun v M13 N13 h => ?_))
      obtain ⟨r12, rfl, h⟩ := h
      change jv_J g (d + 1) mt_R_lost 77 [some (.ref a0), some (.int x1), some (.int x2), some (.int x3), some (.long l4), none, some (.int x6), some (.int r5), some (.long (r7 * r9)), none] [.int r12] M13 N13 cr sr Z
      refine jv_if_eq (tgt := 87) d_R_lost_77 (by decide) ⟨fun c => ?_, fun c => ?_⟩
      · replace h := h.1 c
        refine jv_iinc (v := (x6 + 1)) (L' := [some (.ref a0), some (.int x1), some (.int x2), some (.int x3), some (.long l4), none, some (.int (x6 + 1)), some (.int r5), some (.long (r7 * r9)), none]) d_R_lost_87 rfl rfl (Nat.le_of_ble_eq_true rfl) rfl ?_
        refine jv_goto (tgt := 29) d_R_lost_90 (by decide) ?_
        refine jv_weak (L' := [some (.ref a0), some (.int x1), some (.int x2), some (.int x3), some (.long l4), none, some (.int (x6 + 1)), none, none, none]) (by simp [jv_le]) ?_
        exact h
      · replace h := h.2 c
        refine jv_lload d_R_lost_80 rfl ?_
        refine jv_lload d_R_lost_82 rfl ?_
        refine jv_ladd d_R_lost_84 ?_
        refine jv_lstore (L' := [some (.ref a0), some (.int x1), some (.int x2), some (.int x3), some (.long (l4 + (r7 * r9))), none, some (.int x6), some (.int r5), some (.long (r7 * r9)), none]) d_R_lost_85 (Nat.le_of_ble_eq_true rfl) rfl ?_
        refine jv_iinc (v := (x6 + 1)) (L' := [some (.ref a0), some (.int x1), some (.int x2), some (.int x3), some (.long (l4 + (r7 * r9))), none, some (.int (x6 + 1)), some (.int r5), some (.long (r7 * r9)), none]) d_R_lost_87 rfl rfl (Nat.le_of_ble_eq_true rfl) rfl ?_
        refine jv_goto (tgt := 29) d_R_lost_90 (by decide) ?_
        refine jv_weak (L' := [some (.ref a0), some (.int x1), some (.int x2), some (.int x3), some (.long (l4 + (r7 * r9))), none, some (.int (x6 + 1)), none, none, none]) (by simp [jv_le]) ?_
        exact h
theorem b_R_endsHaltedWithout_0 {g : jv_G} {d : Nat} {M : jv_Mem} {N cr sr : Nat} {Z : Option Value → jv_Mem → Nat → Prop} {a0 : Nat} {x1 : Int32} (h : jv_Tg 9 a0 N ∧ ∃ b2, Prod.fst (Prod.snd M) a0 3 = some b2 ∧ jv_Tg 9 a0 N ∧ ∃ b5, Prod.fst (Prod.snd M) a0 2 = some b5 ∧ jv_Tg 6 b2 N ∧ jv_Ct g d mt_S_copyFrom [.ref b2, .ref b5] M N 0 0 (fun v M9 N9 => jv_rv v (jv_Tg 9 a0 N9 ∧ ∃ b11, Prod.fst (Prod.snd M9) a0 3 = some b11 ∧ jv_Tg 6 b11 N9 ∧ ∃ b14, Prod.fst (Prod.snd M9) b11 0 = some b14 ∧ jv_Tg 0 b14 N9 ∧ jv_Ct g d mt_D_lose [.ref b14, .int x1] M9 N9 0 0 (fun v M18 N18 => jv_rv v (jv_Tg 9 a0 N18 ∧ ∃ b20, Prod.fst (Prod.snd M18) a0 3 = some b20 ∧ jv_Tg 9 a0 N18 ∧ ∃ b23, Prod.fst (Prod.snd M18) a0 1 = some b23 ∧ jv_Tg 6 b20 N18 ∧ jv_Ct g d mt_S_pass [.ref b20, .ref b23, .int 10] M18 N18 0 0 (fun v M27 N27 => jv_rv v (jv_Tg 9 a0 N27 ∧ ∃ b29, Prod.fst (Prod.snd M27) a0 3 = some b29 ∧ jv_Tg 6 b29 N27 ∧ jv_Ct g d mt_S_haltedSet [.ref b29] M27 N27 0 0 (fun v M33 N33 => jv_ri v (fun r32 => jv_Tg 9 a0 N33 ∧ ∃ b35, Prod.fst (Prod.snd M33) a0 3 = some b35 ∧ jv_Tg 6 b35 N33 ∧ jv_Ct g d mt_S_everyHart [.ref b35] M33 N33 0 0 (fun v M39 N39 => jv_ri v (fun r38 => (r32 ≠ r38 → Z (some (.int 0)) M39 N39) ∧ (r32 = r38 → Z (some (.int 1)) M39 N39)))))))))))) : jv_J g (d + 1) mt_R_endsHaltedWithout 0 [some (.ref a0), some (.int x1)] [] M N cr sr Z := by
  refine jv_aload_n d_R_endsHaltedWithout_0 rfl rfl ?_
  obtain ⟨q1, h⟩ := h
  obtain ⟨b2, e3, h⟩ := h
  refine jv_getR d_R_endsHaltedWithout_1 fl_R_30 rfl q1 e3 ?_
  refine jv_aload_n d_R_endsHaltedWithout_4 rfl rfl ?_
  obtain ⟨q4, h⟩ := h
  obtain ⟨b5, e6, h⟩ := h
  refine jv_getR d_R_endsHaltedWithout_5 fl_R_26 rfl q4 e6 ?_
  obtain ⟨q7, h⟩ := h
  refine jv_invV [.ref b5] [] d_R_endsHaltedWithout_8 ml_R_79 q7 rfl (Nat.le_of_ble_eq_true rfl) (Nat.zero_add _) (Nat.zero_add _) (jv_Ct.mono h (fun v M9 N9 h => ?_))
  obtain ⟨rfl, h⟩ := h
  change jv_J g (d + 1) mt_R_endsHaltedWithout 11 [some (.ref a0), some (.int x1)] [] M9 N9 cr sr Z
  refine jv_aload_n d_R_endsHaltedWithout_11 rfl rfl ?_
  obtain ⟨q10, h⟩ := h
  obtain ⟨b11, e12, h⟩ := h
  refine jv_getR d_R_endsHaltedWithout_12 fl_R_30 rfl q10 e12 ?_
  obtain ⟨q13, h⟩ := h
  obtain ⟨b14, e15, h⟩ := h
  refine jv_getR d_R_endsHaltedWithout_15 fl_R_118 rfl q13 e15 ?_
  refine jv_iload_n d_R_endsHaltedWithout_18 rfl rfl ?_
  obtain ⟨q16, h⟩ := h
  refine jv_invV [.int x1] [] d_R_endsHaltedWithout_19 ml_R_273 q16 rfl (Nat.le_of_ble_eq_true rfl) (Nat.zero_add _) (Nat.zero_add _) (jv_Ct.mono h (fun v M18 N18 h => ?_))
  obtain ⟨rfl, h⟩ := h
  change jv_J g (d + 1) mt_R_endsHaltedWithout 22 [some (.ref a0), some (.int x1)] [] M18 N18 cr sr Z
  refine jv_aload_n d_R_endsHaltedWithout_22 rfl rfl ?_
  obtain ⟨q19, h⟩ := h
  obtain ⟨b20, e21, h⟩ := h
  refine jv_getR d_R_endsHaltedWithout_23 fl_R_30 rfl q19 e21 ?_
  refine jv_aload_n d_R_endsHaltedWithout_26 rfl rfl ?_
  obtain ⟨q22, h⟩ := h
  obtain ⟨b23, e24, h⟩ := h
  refine jv_getR d_R_endsHaltedWithout_27 fl_R_19 rfl q22 e24 ?_
  refine jv_bipush (v := 10) d_R_endsHaltedWithout_30 (by decide) ?_
  obtain ⟨q25, h⟩ := h
  refine jv_invV [.ref b23, .int 10] [] d_R_endsHaltedWithout_32 ml_R_137 q25 rfl (Nat.le_of_ble_eq_true rfl) (Nat.zero_add _) (Nat.zero_add _) (jv_Ct.mono h (fun v M27 N27 h => ?_))
  obtain ⟨rfl, h⟩ := h
  change jv_J g (d + 1) mt_R_endsHaltedWithout 35 [some (.ref a0), some (.int x1)] [] M27 N27 cr sr Z
  refine jv_aload_n d_R_endsHaltedWithout_35 rfl rfl ?_
  obtain ⟨q28, h⟩ := h
  obtain ⟨b29, e30, h⟩ := h
  refine jv_getR d_R_endsHaltedWithout_36 fl_R_30 rfl q28 e30 ?_
  obtain ⟨q31, h⟩ := h
  refine jv_invV [] [] d_R_endsHaltedWithout_39 ml_R_235 q31 rfl (Nat.le_of_ble_eq_true rfl) (Nat.zero_add _) (Nat.zero_add _) (jv_Ct.mono h (fun v M33 N33 h => ?_))
  obtain ⟨r32, rfl, h⟩ := h
  change jv_J g (d + 1) mt_R_endsHaltedWithout 42 [some (.ref a0), some (.int x1)] [.int r32] M33 N33 cr sr Z
  refine jv_aload_n d_R_endsHaltedWithout_42 rfl rfl ?_
  obtain ⟨q34, h⟩ := h
  obtain ⟨b35, e36, h⟩ := h
  refine jv_getR d_R_endsHaltedWithout_43 fl_R_30 rfl q34 e36 ?_
  obtain ⟨q37, h⟩ := h
  refine jv_invV [] [.int r32] d_R_endsHaltedWithout_46 ml_R_178 q37 rfl (Nat.le_of_ble_eq_true rfl) (Nat.zero_add _) (Nat.zero_add _) (jv_Ct.mono h (fun v M39 N39 h => ?_))
  obtain ⟨r38, rfl, h⟩ := h
  change jv_J g (d + 1) mt_R_endsHaltedWithout 49 [some (.ref a0), some (.int x1)] [.int r38, .int r32] M39 N39 cr sr Z
  refine jv_icmp_ne (tgt := 56) d_R_endsHaltedWithout_49 (by decide) ⟨fun c => ?_, fun c => ?_⟩
  · replace h := h.1 c
    refine jv_iconst (v := 0) d_R_endsHaltedWithout_56 (by decide) ?_
    exact jv_iret d_R_endsHaltedWithout_57 rfl (jv_nz (by decide)) h
  · replace h := h.2 c
    refine jv_iconst (v := 1) d_R_endsHaltedWithout_52 (by decide) ?_
    refine jv_goto (tgt := 57) d_R_endsHaltedWithout_53 (by decide) ?_
    exact jv_iret d_R_endsHaltedWithout_57 rfl (jv_nz (by decide)) h
theorem b_R_seed_0 {g : jv_G} {d : Nat} {M : jv_Mem} {N cr sr : Nat} {Z : Option Value → jv_Mem → Nat → Prop} {a0 : Nat} {l1 : Int64} (h : jv_Tg 9 a0 N ∧ jv_Tg 9 a0 N ∧ Z (some (.long (Prod.snd (Prod.snd M) a0))) (jv_sl M a0 l1) N) : jv_J g d mt_R_seed 0 [some (.ref a0), some (.long l1), none, none, none] [] M N cr sr Z := by
  refine jv_aload_n d_R_seed_0 rfl rfl ?_
  obtain ⟨q1, h⟩ := h
  refine jv_getL d_R_seed_1 fl_R_226 rfl q1 ?_
  refine jv_lstore_n (L' := [some (.ref a0), some (.long l1), none, some (.long (Prod.snd (Prod.snd M) a0)), none]) d_R_seed_4 rfl (Nat.le_of_ble_eq_true rfl) rfl ?_
  refine jv_aload_n d_R_seed_5 rfl rfl ?_
  refine jv_lload_n d_R_seed_6 rfl rfl ?_
  obtain ⟨q2, h⟩ := h
  refine jv_putL d_R_seed_7 fl_R_226 (fun r hr => by cases hr; rfl) rfl jv_one9 q2 ?_
  refine jv_lload_n d_R_seed_10 rfl rfl ?_
  exact jv_lret d_R_seed_11 rfl h
theorem b_R_drawn_0 {g : jv_G} {d : Nat} {M : jv_Mem} {N cr sr : Nat} {Z : Option Value → jv_Mem → Nat → Prop} {a0 : Nat} {x1 : Int32} (h : (x1 < 1 → Z (some (.int (-2))) M N) ∧ (¬ (x1 < 1) → (x1 ≤ 20 → jv_Tg 9 a0 N ∧ ∃ b2, Prod.fst (Prod.snd M) a0 3 = some b2 ∧ jv_Tg 9 a0 N ∧ ∃ b5, Prod.fst (Prod.snd M) a0 2 = some b5 ∧ jv_Tg 6 b2 N ∧ jv_Ct g d mt_S_copyFrom [.ref b2, .ref b5] M N 0 0 (fun v M9 N9 => jv_rv v (jv_J g (d + 1) mt_R_drawn 29 [some (.ref a0), some (.int x1), some (.int 0), some (.int 0), none] [] M9 N9 cr sr Z))) ∧ (¬ (x1 ≤ 20) → Z (some (.int (-2))) M N))) : jv_J g (d + 1) mt_R_drawn 0 [some (.ref a0), some (.int x1), none, none, none] [] M N cr sr Z := by
  refine jv_iload_n d_R_drawn_0 rfl rfl ?_
  refine jv_iconst (v := 1) d_R_drawn_1 (by decide) ?_
  refine jv_icmp_lt (tgt := 11) d_R_drawn_2 (by decide) ⟨fun c => ?_, fun c => ?_⟩
  · replace h := h.1 c
    refine jv_bipush (v := (-2)) d_R_drawn_11 (by decide) ?_
    exact jv_iret d_R_drawn_13 rfl rfl h
  · replace h := h.2 c
    refine jv_iload_n d_R_drawn_5 rfl rfl ?_
    refine jv_bipush (v := 20) d_R_drawn_6 (by decide) ?_
    refine jv_icmp_le (tgt := 14) d_R_drawn_8 (by decide) ⟨fun c => ?_, fun c => ?_⟩
    · replace h := h.1 c
      refine jv_iconst (v := 0) d_R_drawn_14 (by decide) ?_
      refine jv_istore_n (L' := [some (.ref a0), some (.int x1), some (.int 0), none, none]) d_R_drawn_15 rfl (Nat.le_of_ble_eq_true rfl) rfl ?_
      refine jv_aload_n d_R_drawn_16 rfl rfl ?_
      obtain ⟨q1, h⟩ := h
      obtain ⟨b2, e3, h⟩ := h
      refine jv_getR d_R_drawn_17 fl_R_30 rfl q1 e3 ?_
      refine jv_aload_n d_R_drawn_20 rfl rfl ?_
      obtain ⟨q4, h⟩ := h
      obtain ⟨b5, e6, h⟩ := h
      refine jv_getR d_R_drawn_21 fl_R_26 rfl q4 e6 ?_
      obtain ⟨q7, h⟩ := h
      refine jv_invV [.ref b5] [] d_R_drawn_24 ml_R_79 q7 rfl (Nat.le_of_ble_eq_true rfl) (Nat.zero_add _) (Nat.zero_add _) (jv_Ct.mono h (fun v M9 N9 h => ?_))
      obtain ⟨rfl, h⟩ := h
      change jv_J g (d + 1) mt_R_drawn 27 [some (.ref a0), some (.int x1), some (.int 0), none, none] [] M9 N9 cr sr Z
      refine jv_iconst (v := 0) d_R_drawn_27 (by decide) ?_
      refine jv_istore_n (L' := [some (.ref a0), some (.int x1), some (.int 0), some (.int 0), none]) d_R_drawn_28 rfl (Nat.le_of_ble_eq_true rfl) rfl ?_
      exact h
    · replace h := h.2 c
      refine jv_bipush (v := (-2)) d_R_drawn_11 (by decide) ?_
      exact jv_iret d_R_drawn_13 rfl rfl h
theorem b_R_drawn_29 {g : jv_G} {d : Nat} {M : jv_Mem} {N cr sr : Nat} {Z : Option Value → jv_Mem → Nat → Prop} {a0 : Nat} {x1 : Int32} {x2 : Int32} {x3 : Int32} (h : (x1 ≤ x3 → Z (some (.int x2)) M N) ∧ (¬ (x1 ≤ x3) → jv_Tg 9 a0 N ∧ jv_Tg 9 a0 N ∧ jv_Tg 9 a0 N ∧ ∃ b4, Prod.fst (Prod.snd (jv_sl M a0 (((Prod.snd (Prod.snd M) a0) * 6364136223846793005) + 1442695040888963407))) a0 3 = some b4 ∧ jv_Tg 6 b4 N ∧ ((Prod.fst (jv_sl M a0 (((Prod.snd (Prod.snd M) a0) * 6364136223846793005) + 1442695040888963407)) b4 4) ≤ 0 → jv_J g (d + 1) mt_R_drawn 29 [some (.ref a0), some (.int x1), some (.int x2), some (.int (x3 + 1)), none] [] (jv_sl M a0 (((Prod.snd (Prod.snd M) a0) * 6364136223846793005) + 1442695040888963407)) N cr sr Z) ∧ (¬ ((Prod.fst (jv_sl M a0 (((Prod.snd (Prod.snd M) a0) * 6364136223846793005) + 1442695040888963407)) b4 4) ≤ 0) → jv_Tg 9 a0 N ∧ jv_Tg 9 a0 N ∧ ∃ b9, Prod.fst (Prod.snd (jv_sl M a0 (((Prod.snd (Prod.snd M) a0) * 6364136223846793005) + 1442695040888963407))) a0 3 = some b9 ∧ jv_Tg 6 b9 N ∧ ∃ b12, Prod.fst (Prod.snd (jv_sl M a0 (((Prod.snd (Prod.snd M) a0) * 6364136223846793005) + 1442695040888963407))) b9 0 = some b12 ∧ jv_Tg 0 b12 N ∧ (8 ≤ (Prod.fst (jv_sl M a0 (((Prod.snd (Prod.snd M) a0) * 6364136223846793005) + 1442695040888963407)) b12 2) → jv_J g (d + 1) mt_R_drawn 113 [some (.ref a0), some (.int x1), some (.int x2), some (.int x3), none] [] (jv_sl M a0 (((Prod.snd (Prod.snd M) a0) * 6364136223846793005) + 1442695040888963407)) N cr sr Z) ∧ (¬ (8 ≤ (Prod.fst (jv_sl M a0 (((Prod.snd (Prod.snd M) a0) * 6364136223846793005) + 1442695040888963407)) b12 2)) → jv_Tg 9 a0 N ∧ ∃ b16, Prod.fst (Prod.snd (jv_sl M a0 (((Prod.snd (Prod.snd M) a0) * 6364136223846793005) + 1442695040888963407))) a0 3 = some b16 ∧ jv_Tg 6 b16 N ∧ ∃ b19, Prod.fst (Prod.snd (jv_sl M a0 (((Prod.snd (Prod.snd M) a0) * 6364136223846793005) + 1442695040888963407))) b16 0 = some b19 ∧ jv_Tg 9 a0 N ∧ ∃ b22, Prod.fst (Prod.snd (jv_sl M a0 (((Prod.snd (Prod.snd M) a0) * 6364136223846793005) + 1442695040888963407))) a0 3 = some b22 ∧ jv_Tg 6 b22 N ∧ ¬ (Prod.fst (jv_sl M a0 (((Prod.snd (Prod.snd M) a0) * 6364136223846793005) + 1442695040888963407)) b22 4) = 0 ∧ jv_Tg 0 b19 N ∧ jv_Ct g d mt_D_accept [.ref b19, .int ((Int64.toInt32 ((((Prod.snd (Prod.snd (jv_sl M a0 (((Prod.snd (Prod.snd M) a0) * 6364136223846793005) + 1442695040888963407))) a0) : Int64).toUInt64 >>> ((33 : Int32).toInt64.toUInt64 &&& Int64.toUInt64 63)).toInt64)) - (Int64.toInt32 ((((Prod.snd (Prod.snd (jv_sl M a0 (((Prod.snd (Prod.snd M) a0) * 6364136223846793005) + 1442695040888963407))) a0) : Int64).toUInt64 >>> ((33 : Int32).toInt64.toUInt64 &&& Int64.toUInt64 63)).toInt64)) / 3 * 3), .int (((Int64.toInt32 ((((Prod.snd (Prod.snd (jv_sl M a0 (((Prod.snd (Prod.snd M) a0) * 6364136223846793005) + 1442695040888963407))) a0) : Int64).toUInt64 >>> ((33 : Int32).toInt64.toUInt64 &&& Int64.toUInt64 63)).toInt64)) / 4) - ((Int64.toInt32 ((((Prod.snd (Prod.snd (jv_sl M a0 (((Prod.snd (Prod.snd M) a0) * 6364136223846793005) + 1442695040888963407))) a0) : Int64).toUInt64 >>> ((33 : Int32).toInt64.toUInt64 &&& Int64.toUInt64 63)).toInt64)) / 4) / (Prod.fst (jv_sl M a0 (((Prod.snd (Prod.snd M) a0) * 6364136223846793005) + 1442695040888963407)) b22 4) * (Prod.fst (jv_sl M a0 (((Prod.snd (Prod.snd M) a0) * 6364136223846793005) + 1442695040888963407)) b22 4)), .int 0, .int 0] (jv_sl M a0 (((Prod.snd (Prod.snd M) a0) * 6364136223846793005) + 1442695040888963407)) N 0 0 (fun v M28 N28 => jv_rv v (jv_J g (d + 1) mt_R_drawn 113 [some (.ref a0), some (.int x1), some (.int x2), some (.int x3), none] [] M28 N28 cr sr Z)))))) : jv_J g (d + 1) mt_R_drawn 29 [some (.ref a0), some (.int x1), some (.int x2), some (.int x3), none] [] M N cr sr Z := by
  refine jv_iload_n d_R_drawn_29 rfl rfl ?_
  refine jv_iload_n d_R_drawn_30 rfl rfl ?_
  refine jv_icmp_ge (tgt := 141) d_R_drawn_31 (by decide) ⟨fun c => ?_, fun c => ?_⟩
  · replace h := h.1 c
    refine jv_iload_n d_R_drawn_141 rfl rfl ?_
    exact jv_iret d_R_drawn_142 rfl rfl h
  · replace h := h.2 c
    refine jv_aload_n d_R_drawn_34 rfl rfl ?_
    refine jv_aload_n d_R_drawn_35 rfl rfl ?_
    obtain ⟨q1, h⟩ := h
    refine jv_getL d_R_drawn_36 fl_R_226 rfl q1 ?_
    refine jv_ldc2 d_R_drawn_39 co_R_230 ?_
    refine jv_lmul d_R_drawn_42 ?_
    refine jv_ldc2 d_R_drawn_43 co_R_232 ?_
    refine jv_ladd d_R_drawn_46 ?_
    obtain ⟨q2, h⟩ := h
    refine jv_putL d_R_drawn_47 fl_R_226 (fun r hr => by cases hr; rfl) rfl jv_one9 q2 ?_
    refine jv_aload_n d_R_drawn_50 rfl rfl ?_
    obtain ⟨q3, h⟩ := h
    obtain ⟨b4, e5, h⟩ := h
    refine jv_getR d_R_drawn_51 fl_R_30 rfl q3 e5 ?_
    obtain ⟨q6, h⟩ := h
    refine jv_getI d_R_drawn_54 fl_R_85 rfl q6 ?_
    refine jv_if_le (tgt := 135) d_R_drawn_57 (by decide) ⟨fun c => ?_, fun c => ?_⟩
    · replace h := h.1 c
      refine jv_iinc (v := (x3 + 1)) (L' := [some (.ref a0), some (.int x1), some (.int x2), some (.int (x3 + 1)), none]) d_R_drawn_135 rfl rfl (Nat.le_of_ble_eq_true rfl) rfl ?_
      refine jv_goto (tgt := 29) d_R_drawn_138 (by decide) ?_
      exact h
    · replace h := h.2 c
      refine jv_aload_n d_R_drawn_60 rfl rfl ?_
      obtain ⟨q7, h⟩ := h
      refine jv_getL d_R_drawn_61 fl_R_226 rfl q7 ?_
      refine jv_bipush (v := 33) d_R_drawn_64 (by decide) ?_
      refine jv_lushr d_R_drawn_66 ?_
      refine jv_l2i d_R_drawn_67 ?_
      refine jv_istore (L' := [some (.ref a0), some (.int x1), some (.int x2), some (.int x3), some (.int (Int64.toInt32 ((((Prod.snd (Prod.snd (jv_sl M a0 (((Prod.snd (Prod.snd M) a0) * 6364136223846793005) + 1442695040888963407))) a0) : Int64).toUInt64 >>> ((33 : Int32).toInt64.toUInt64 &&& Int64.toUInt64 63)).toInt64)))]) d_R_drawn_68 (Nat.le_of_ble_eq_true rfl) rfl ?_
      refine jv_aload_n d_R_drawn_70 rfl rfl ?_
      obtain ⟨q8, h⟩ := h
      obtain ⟨b9, e10, h⟩ := h
      refine jv_getR d_R_drawn_71 fl_R_30 rfl q8 e10 ?_
      obtain ⟨q11, h⟩ := h
      obtain ⟨b12, e13, h⟩ := h
      refine jv_getR d_R_drawn_74 fl_R_118 rfl q11 e13 ?_
      obtain ⟨q14, h⟩ := h
      refine jv_getI d_R_drawn_77 fl_R_122 rfl q14 ?_
      refine jv_bipush (v := 8) d_R_drawn_80 (by decide) ?_
      refine jv_icmp_ge (tgt := 113) d_R_drawn_82 (by decide) ⟨fun c => ?_, fun c => ?_⟩
      · replace h := h.1 c
        refine jv_weak (L' := [some (.ref a0), some (.int x1), some (.int x2), some (.int x3), none]) (by simp [jv_le]) ?_
        exact h
      · replace h := h.2 c
        refine jv_aload_n d_R_drawn_85 rfl rfl ?_
        obtain ⟨q15, h⟩ := h
        obtain ⟨b16, e17, h⟩ := h
        refine jv_getR d_R_drawn_86 fl_R_30 rfl q15 e17 ?_
        obtain ⟨q18, h⟩ := h
        obtain ⟨b19, e20, h⟩ := h
        refine jv_getR d_R_drawn_89 fl_R_118 rfl q18 e20 ?_
        refine jv_iload d_R_drawn_92 rfl ?_
        refine jv_iconst (v := 3) d_R_drawn_94 (by decide) ?_
        refine jv_irem d_R_drawn_95 (by decide) ?_
        refine jv_iload d_R_drawn_96 rfl ?_
        refine jv_iconst (v := 4) d_R_drawn_98 (by decide) ?_
        refine jv_idiv d_R_drawn_99 (by decide) ?_
        refine jv_aload_n d_R_drawn_100 rfl rfl ?_
        obtain ⟨q21, h⟩ := h
        obtain ⟨b22, e23, h⟩ := h
        refine jv_getR d_R_drawn_101 fl_R_30 rfl q21 e23 ?_
        obtain ⟨q24, h⟩ := h
        refine jv_getI d_R_drawn_104 fl_R_85 rfl q24 ?_
        obtain ⟨q25, h⟩ := h
        refine jv_irem d_R_drawn_107 q25 ?_
        refine jv_iconst (v := 0) d_R_drawn_108 (by decide) ?_
        refine jv_iconst (v := 0) d_R_drawn_109 (by decide) ?_
        obtain ⟨q26, h⟩ := h
        refine jv_invV [.int ((Int64.toInt32 ((((Prod.snd (Prod.snd (jv_sl M a0 (((Prod.snd (Prod.snd M) a0) * 6364136223846793005) + 1442695040888963407))) a0) : Int64).toUInt64 >>> ((33 : Int32).toInt64.toUInt64 &&& Int64.toUInt64 63)).toInt64)) - (Int64.toInt32 ((((Prod.snd (Prod.snd (jv_sl M a0 (((Prod.snd (Prod.snd M) a0) * 6364136223846793005) + 1442695040888963407))) a0) : Int64).toUInt64 >>> ((33 : Int32).toInt64.toUInt64 &&& Int64.toUInt64 63)).toInt64)) / 3 * 3), .int (((Int64.toInt32 ((((Prod.snd (Prod.snd (jv_sl M a0 (((Prod.snd (Prod.snd M) a0) * 6364136223846793005) + 1442695040888963407))) a0) : Int64).toUInt64 >>> ((33 : Int32).toInt64.toUInt64 &&& Int64.toUInt64 63)).toInt64)) / 4) - ((Int64.toInt32 ((((Prod.snd (Prod.snd (jv_sl M a0 (((Prod.snd (Prod.snd M) a0) * 6364136223846793005) + 1442695040888963407))) a0) : Int64).toUInt64 >>> ((33 : Int32).toInt64.toUInt64 &&& Int64.toUInt64 63)).toInt64)) / 4) / (Prod.fst (jv_sl M a0 (((Prod.snd (Prod.snd M) a0) * 6364136223846793005) + 1442695040888963407)) b22 4) * (Prod.fst (jv_sl M a0 (((Prod.snd (Prod.snd M) a0) * 6364136223846793005) + 1442695040888963407)) b22 4)), .int 0, .int 0] [] d_R_drawn_110 ml_R_144 q26 rfl (Nat.le_of_ble_eq_true rfl) (Nat.zero_add _) (Nat.zero_add _) (jv_Ct.mono h (fun v M28 N28 h => ?_))
        obtain ⟨rfl, h⟩ := h
        change jv_J g (d + 1) mt_R_drawn 113 [some (.ref a0), some (.int x1), some (.int x2), some (.int x3), some (.int (Int64.toInt32 ((((Prod.snd (Prod.snd (jv_sl M a0 (((Prod.snd (Prod.snd M) a0) * 6364136223846793005) + 1442695040888963407))) a0) : Int64).toUInt64 >>> ((33 : Int32).toInt64.toUInt64 &&& Int64.toUInt64 63)).toInt64)))] [] M28 N28 cr sr Z
        refine jv_weak (L' := [some (.ref a0), some (.int x1), some (.int x2), some (.int x3), none]) (by simp [jv_le]) ?_
        exact h
theorem b_R_drawn_113 {g : jv_G} {d : Nat} {M : jv_Mem} {N cr sr : Nat} {Z : Option Value → jv_Mem → Nat → Prop} {a0 : Nat} {x1 : Int32} {x2 : Int32} {x3 : Int32} (h : jv_Tg 9 a0 N ∧ ∃ b2, Prod.fst (Prod.snd M) a0 3 = some b2 ∧ jv_Tg 9 a0 N ∧ ∃ b5, Prod.fst (Prod.snd M) a0 1 = some b5 ∧ jv_Tg 6 b2 N ∧ jv_Ct g d mt_S_pass [.ref b2, .ref b5, .int 1] M N 0 0 (fun v M9 N9 => jv_rv v (jv_Tg 9 a0 N9 ∧ ∃ b11, Prod.fst (Prod.snd M9) a0 3 = some b11 ∧ jv_Tg 6 b11 N9 ∧ jv_Ct g d mt_S_haltedCount [.ref b11] M9 N9 0 0 (fun v M15 N15 => jv_ri v (fun r14 => jv_J g (d + 1) mt_R_drawn 29 [some (.ref a0), some (.int x1), some (.int (x2 + r14)), some (.int (x3 + 1)), none] [] M15 N15 cr sr Z))))) : jv_J g (d + 1) mt_R_drawn 113 [some (.ref a0), some (.int x1), some (.int x2), some (.int x3), none] [] M N cr sr Z := by
  refine jv_aload_n d_R_drawn_113 rfl rfl ?_
  obtain ⟨q1, h⟩ := h
  obtain ⟨b2, e3, h⟩ := h
  refine jv_getR d_R_drawn_114 fl_R_30 rfl q1 e3 ?_
  refine jv_aload_n d_R_drawn_117 rfl rfl ?_
  obtain ⟨q4, h⟩ := h
  obtain ⟨b5, e6, h⟩ := h
  refine jv_getR d_R_drawn_118 fl_R_19 rfl q4 e6 ?_
  refine jv_iconst (v := 1) d_R_drawn_121 (by decide) ?_
  obtain ⟨q7, h⟩ := h
  refine jv_invV [.ref b5, .int 1] [] d_R_drawn_122 ml_R_137 q7 rfl (Nat.le_of_ble_eq_true rfl) (Nat.zero_add _) (Nat.zero_add _) (jv_Ct.mono h (fun v M9 N9 h => ?_))
  obtain ⟨rfl, h⟩ := h
  change jv_J g (d + 1) mt_R_drawn 125 [some (.ref a0), some (.int x1), some (.int x2), some (.int x3), none] [] M9 N9 cr sr Z
  refine jv_iload_n d_R_drawn_125 rfl rfl ?_
  refine jv_aload_n d_R_drawn_126 rfl rfl ?_
  obtain ⟨q10, h⟩ := h
  obtain ⟨b11, e12, h⟩ := h
  refine jv_getR d_R_drawn_127 fl_R_30 rfl q10 e12 ?_
  obtain ⟨q13, h⟩ := h
  refine jv_invV [] [.int x2] d_R_drawn_130 ml_R_141 q13 rfl (Nat.le_of_ble_eq_true rfl) (Nat.zero_add _) (Nat.zero_add _) (jv_Ct.mono h (fun v M15 N15 h => ?_))
  obtain ⟨r14, rfl, h⟩ := h
  change jv_J g (d + 1) mt_R_drawn 133 [some (.ref a0), some (.int x1), some (.int x2), some (.int x3), none] [.int r14, .int x2] M15 N15 cr sr Z
  refine jv_iadd d_R_drawn_133 ?_
  refine jv_istore_n (L' := [some (.ref a0), some (.int x1), some (.int (x2 + r14)), some (.int x3), none]) d_R_drawn_134 rfl (Nat.le_of_ble_eq_true rfl) rfl ?_
  refine jv_iinc (v := (x3 + 1)) (L' := [some (.ref a0), some (.int x1), some (.int (x2 + r14)), some (.int (x3 + 1)), none]) d_R_drawn_135 rfl rfl (Nat.le_of_ble_eq_true rfl) rfl ?_
  refine jv_goto (tgt := 29) d_R_drawn_138 (by decide) ?_
  exact h
theorem b_R_keep_0 {g : jv_G} {d : Nat} {M : jv_Mem} {N cr sr : Nat} {Z : Option Value → jv_Mem → Nat → Prop} {a0 : Nat} {x1 : Int32} (h : jv_Ct g d mt_R_isBelow [.int x1, .int 2] M N 0 0 (fun v M2 N2 => jv_ri v (fun r1 => (r1 ≠ 0 → jv_Tg 9 a0 N2 ∧ ∃ b4, Prod.fst (Prod.snd M2) a0 5 = some b4 ∧ jv_Tg 15 b4 N2 ∧ vp_in x1 (jv_sh b4).2 ∧ ∃ b8, Prod.fst (Prod.snd M2) b4 (Int32.toNatClampNeg x1) = some b8 ∧ jv_Tg 9 a0 N2 ∧ ∃ b11, Prod.fst (Prod.snd M2) a0 2 = some b11 ∧ jv_Tg 6 b8 N2 ∧ jv_Ct g d mt_S_copyFrom [.ref b8, .ref b11] M2 N2 0 0 (fun v M15 N15 => jv_rv v (jv_Tg 9 a0 N15 ∧ ∃ b17, Prod.fst (Prod.snd M15) a0 6 = some b17 ∧ jv_Tg 12 b17 N15 ∧ vp_in x1 (jv_sh b17).2 ∧ jv_Tg 9 a0 N15 ∧ ∃ b22, Prod.fst (Prod.snd (jv_si M15 b17 (Int32.toNatClampNeg x1) 1)) a0 2 = some b22 ∧ jv_Tg 6 b22 N15 ∧ Z (some (.int (Prod.fst (jv_si M15 b17 (Int32.toNatClampNeg x1) 1) b22 4))) (jv_si M15 b17 (Int32.toNatClampNeg x1) 1) N15))) ∧ (r1 = 0 → Z (some (.int (-1))) M2 N2)))) : jv_J g (d + 1) mt_R_keep 0 [some (.ref a0), some (.int x1)] [] M N cr sr Z := by
  refine jv_iload_n d_R_keep_0 rfl rfl ?_
  refine jv_iconst (v := 2) d_R_keep_1 (by decide) ?_
  refine jv_invS [.int x1, .int 2] [] d_R_keep_2 ml_R_111 rfl (Nat.le_of_ble_eq_true rfl) (Nat.zero_add _) (Nat.zero_add _) (jv_Ct.mono h (fun v M2 N2 h => ?_))
  obtain ⟨r1, rfl, h⟩ := h
  change jv_J g (d + 1) mt_R_keep 5 [some (.ref a0), some (.int x1)] [.int r1] M2 N2 cr sr Z
  refine jv_if_ne (tgt := 10) d_R_keep_5 (by decide) ⟨fun c => ?_, fun c => ?_⟩
  · replace h := h.1 c
    refine jv_aload_n d_R_keep_10 rfl rfl ?_
    obtain ⟨q3, h⟩ := h
    obtain ⟨b4, e5, h⟩ := h
    refine jv_getR d_R_keep_11 fl_R_40 rfl q3 e5 ?_
    refine jv_iload_n d_R_keep_14 rfl rfl ?_
    obtain ⟨q6, q7, b8, e9, h⟩ := h
    refine jv_aald (t := 15) d_R_keep_15 (by decide) q6 q7 e9 ?_
    refine jv_aload_n d_R_keep_16 rfl rfl ?_
    obtain ⟨q10, h⟩ := h
    obtain ⟨b11, e12, h⟩ := h
    refine jv_getR d_R_keep_17 fl_R_26 rfl q10 e12 ?_
    obtain ⟨q13, h⟩ := h
    refine jv_invV [.ref b11] [] d_R_keep_20 ml_R_79 q13 rfl (Nat.le_of_ble_eq_true rfl) (Nat.zero_add _) (Nat.zero_add _) (jv_Ct.mono h (fun v M15 N15 h => ?_))
    obtain ⟨rfl, h⟩ := h
    change jv_J g (d + 1) mt_R_keep 23 [some (.ref a0), some (.int x1)] [] M15 N15 cr sr Z
    refine jv_aload_n d_R_keep_23 rfl rfl ?_
    obtain ⟨q16, h⟩ := h
    obtain ⟨b17, e18, h⟩ := h
    refine jv_getR d_R_keep_24 fl_R_44 rfl q16 e18 ?_
    refine jv_iload_n d_R_keep_27 rfl rfl ?_
    refine jv_iconst (v := 1) d_R_keep_28 (by decide) ?_
    obtain ⟨q19, q20, h⟩ := h
    refine jv_zast d_R_keep_29 q19 q20 (by decide) ?_
    refine jv_aload_n d_R_keep_30 rfl rfl ?_
    obtain ⟨q21, h⟩ := h
    obtain ⟨b22, e23, h⟩ := h
    refine jv_getR d_R_keep_31 fl_R_26 rfl q21 e23 ?_
    obtain ⟨q24, h⟩ := h
    refine jv_getI d_R_keep_34 fl_R_85 rfl q24 ?_
    exact jv_iret d_R_keep_37 rfl rfl h
  · replace h := h.2 c
    refine jv_iconst (v := (-1)) d_R_keep_8 (by decide) ?_
    exact jv_iret d_R_keep_9 rfl rfl h
theorem b_R_again_0 {g : jv_G} {d : Nat} {M : jv_Mem} {N cr sr : Nat} {Z : Option Value → jv_Mem → Nat → Prop} {a0 : Nat} {x1 : Int32} (h : jv_Ct g d mt_R_isBelow [.int x1, .int 2] M N 0 0 (fun v M2 N2 => jv_ri v (fun r1 => (r1 ≠ 0 → jv_Tg 9 a0 N2 ∧ ∃ b4, Prod.fst (Prod.snd M2) a0 6 = some b4 ∧ jv_Tg 12 b4 N2 ∧ vp_in x1 (jv_sh b4).2 ∧ ((Prod.fst M2 b4 (Int32.toNatClampNeg x1)) ≠ 0 → jv_Tg 9 a0 N2 ∧ ∃ b9, Prod.fst (Prod.snd M2) a0 2 = some b9 ∧ jv_Tg 9 a0 N2 ∧ ∃ b12, Prod.fst (Prod.snd M2) a0 5 = some b12 ∧ jv_Tg 15 b12 N2 ∧ vp_in x1 (jv_sh b12).2 ∧ ∃ b16, Prod.fst (Prod.snd M2) b12 (Int32.toNatClampNeg x1) = some b16 ∧ jv_Tg 6 b9 N2 ∧ jv_Ct g d mt_S_copyFrom [.ref b9, .ref b16] M2 N2 0 0 (fun v M20 N20 => jv_rv v (jv_Tg 9 a0 N20 ∧ ∃ b22, Prod.fst (Prod.snd M20) a0 4 = some b22 ∧ jv_Tg 3 b22 N20 ∧ jv_Ct g d mt_A_forget [.ref b22] M20 N20 0 0 (fun v M26 N26 => jv_rv v (jv_Tg 9 a0 N26 ∧ ∃ b28, Prod.fst (Prod.snd M26) a0 2 = some b28 ∧ jv_Tg 6 b28 N26 ∧ Z (some (.int (Prod.fst M26 b28 4))) M26 N26))))) ∧ ((Prod.fst M2 b4 (Int32.toNatClampNeg x1)) = 0 → Z (some (.int (-3))) M2 N2)) ∧ (r1 = 0 → Z (some (.int (-1))) M2 N2)))) : jv_J g (d + 1) mt_R_again 0 [some (.ref a0), some (.int x1)] [] M N cr sr Z := by
  refine jv_iload_n d_R_again_0 rfl rfl ?_
  refine jv_iconst (v := 2) d_R_again_1 (by decide) ?_
  refine jv_invS [.int x1, .int 2] [] d_R_again_2 ml_R_111 rfl (Nat.le_of_ble_eq_true rfl) (Nat.zero_add _) (Nat.zero_add _) (jv_Ct.mono h (fun v M2 N2 h => ?_))
  obtain ⟨r1, rfl, h⟩ := h
  change jv_J g (d + 1) mt_R_again 5 [some (.ref a0), some (.int x1)] [.int r1] M2 N2 cr sr Z
  refine jv_if_ne (tgt := 10) d_R_again_5 (by decide) ⟨fun c => ?_, fun c => ?_⟩
  · replace h := h.1 c
    refine jv_aload_n d_R_again_10 rfl rfl ?_
    obtain ⟨q3, h⟩ := h
    obtain ⟨b4, e5, h⟩ := h
    refine jv_getR d_R_again_11 fl_R_44 rfl q3 e5 ?_
    refine jv_iload_n d_R_again_14 rfl rfl ?_
    obtain ⟨q6, q7, h⟩ := h
    refine jv_zald d_R_again_15 q6 q7 ?_
    refine jv_if_ne (tgt := 22) d_R_again_16 (by decide) ⟨fun c => ?_, fun c => ?_⟩
    · replace h := h.1 c
      refine jv_aload_n d_R_again_22 rfl rfl ?_
      obtain ⟨q8, h⟩ := h
      obtain ⟨b9, e10, h⟩ := h
      refine jv_getR d_R_again_23 fl_R_26 rfl q8 e10 ?_
      refine jv_aload_n d_R_again_26 rfl rfl ?_
      obtain ⟨q11, h⟩ := h
      obtain ⟨b12, e13, h⟩ := h
      refine jv_getR d_R_again_27 fl_R_40 rfl q11 e13 ?_
      refine jv_iload_n d_R_again_30 rfl rfl ?_
      obtain ⟨q14, q15, b16, e17, h⟩ := h
      refine jv_aald (t := 15) d_R_again_31 (by decide) q14 q15 e17 ?_
      obtain ⟨q18, h⟩ := h
      refine jv_invV [.ref b16] [] d_R_again_32 ml_R_79 q18 rfl (Nat.le_of_ble_eq_true rfl) (Nat.zero_add _) (Nat.zero_add _) (jv_Ct.mono h (fun v M20 N20 h => ?_))
      obtain ⟨rfl, h⟩ := h
      change jv_J g (d + 1) mt_R_again 35 [some (.ref a0), some (.int x1)] [] M20 N20 cr sr Z
      refine jv_aload_n d_R_again_35 rfl rfl ?_
      obtain ⟨q21, h⟩ := h
      obtain ⟨b22, e23, h⟩ := h
      refine jv_getR d_R_again_36 fl_R_36 rfl q21 e23 ?_
      obtain ⟨q24, h⟩ := h
      refine jv_invV [] [] d_R_again_39 ml_R_82 q24 rfl (Nat.le_of_ble_eq_true rfl) (Nat.zero_add _) (Nat.zero_add _) (jv_Ct.mono h (fun v M26 N26 h => ?_))
      obtain ⟨rfl, h⟩ := h
      change jv_J g (d + 1) mt_R_again 42 [some (.ref a0), some (.int x1)] [] M26 N26 cr sr Z
      refine jv_aload_n d_R_again_42 rfl rfl ?_
      obtain ⟨q27, h⟩ := h
      obtain ⟨b28, e29, h⟩ := h
      refine jv_getR d_R_again_43 fl_R_26 rfl q27 e29 ?_
      obtain ⟨q30, h⟩ := h
      refine jv_getI d_R_again_46 fl_R_85 rfl q30 ?_
      exact jv_iret d_R_again_49 rfl rfl h
    · replace h := h.2 c
      refine jv_bipush (v := (-3)) d_R_again_19 (by decide) ?_
      exact jv_iret d_R_again_21 rfl rfl h
  · replace h := h.2 c
    refine jv_iconst (v := (-1)) d_R_again_8 (by decide) ?_
    exact jv_iret d_R_again_9 rfl rfl h
theorem b_R_count_0 {g : jv_G} {d : Nat} {M : jv_Mem} {N cr sr : Nat} {Z : Option Value → jv_Mem → Nat → Prop} {a0 : Nat} {x1 : Int32} (h : (x1 = 0 → jv_Tg 9 a0 N ∧ ∃ b3, Prod.fst (Prod.snd M) a0 0 = some b3 ∧ jv_Tg 7 b3 N ∧ Z (some (.int (Prod.fst M b3 1))) M N) ∧ (x1 = 1 → jv_Tg 9 a0 N ∧ ∃ b7, Prod.fst (Prod.snd M) a0 1 = some b7 ∧ jv_Tg 4 b7 N ∧ Z (some (.int (Prod.fst M b7 3))) M N) ∧ (x1 = 2 → jv_Tg 9 a0 N ∧ ∃ b11, Prod.fst (Prod.snd M) a0 2 = some b11 ∧ jv_Tg 6 b11 N ∧ Z (some (.int (Prod.fst M b11 4))) M N) ∧ (x1 = 3 → jv_Tg 9 a0 N ∧ ∃ b15, Prod.fst (Prod.snd M) a0 2 = some b15 ∧ jv_Tg 6 b15 N ∧ Z (some (.int (Prod.fst M b15 5))) M N) ∧ (x1 = 4 → jv_Tg 9 a0 N ∧ ∃ b19, Prod.fst (Prod.snd M) a0 2 = some b19 ∧ jv_Tg 6 b19 N ∧ jv_Ct g d mt_S_haltedSet [.ref b19] M N 0 0 (fun v M23 N23 => jv_ri v (fun r22 => Z (some (.int r22)) M23 N23))) ∧ (x1 = 5 → jv_Tg 9 a0 N ∧ ∃ b25, Prod.fst (Prod.snd M) a0 2 = some b25 ∧ jv_Tg 6 b25 N ∧ ∃ b28, Prod.fst (Prod.snd M) b25 0 = some b28 ∧ jv_Tg 0 b28 N ∧ Z (some (.int (Prod.fst M b28 2))) M N) ∧ (x1 = 6 → jv_Tg 9 a0 N ∧ ∃ b32, Prod.fst (Prod.snd M) a0 2 = some b32 ∧ jv_Tg 6 b32 N ∧ ∃ b35, Prod.fst (Prod.snd M) b32 0 = some b35 ∧ jv_Tg 0 b35 N ∧ Z (some (.int (Prod.fst M b35 3))) M N) ∧ (x1 = 7 → jv_Tg 9 a0 N ∧ ∃ b39, Prod.fst (Prod.snd M) a0 2 = some b39 ∧ jv_Tg 6 b39 N ∧ ∃ b42, Prod.fst (Prod.snd M) b39 0 = some b42 ∧ jv_Tg 0 b42 N ∧ Z (some (.int (Prod.fst M b42 4))) M N) ∧ (x1 = 8 → jv_Tg 9 a0 N ∧ ∃ b46, Prod.fst (Prod.snd M) a0 2 = some b46 ∧ jv_Tg 6 b46 N ∧ ∃ b49, Prod.fst (Prod.snd M) b46 0 = some b49 ∧ jv_Tg 0 b49 N ∧ ∃ b52, Prod.fst (Prod.snd M) b49 1 = some b52 ∧ jv_Tg 11 b52 N ∧ vp_in 0 (jv_sh b52).2 ∧ Z (some (.int (Prod.fst M b52 (Int32.toNatClampNeg 0)))) M N) ∧ (x1 = 9 → jv_Tg 9 a0 N ∧ ∃ b57, Prod.fst (Prod.snd M) a0 2 = some b57 ∧ jv_Tg 6 b57 N ∧ ∃ b60, Prod.fst (Prod.snd M) b57 0 = some b60 ∧ jv_Tg 0 b60 N ∧ ∃ b63, Prod.fst (Prod.snd M) b60 1 = some b63 ∧ jv_Tg 11 b63 N ∧ vp_in 1 (jv_sh b63).2 ∧ Z (some (.int (Prod.fst M b63 (Int32.toNatClampNeg 1)))) M N) ∧ (x1 = 10 → jv_Tg 9 a0 N ∧ ∃ b68, Prod.fst (Prod.snd M) a0 4 = some b68 ∧ jv_Tg 3 b68 N ∧ Z (some (.int (Prod.fst M b68 2))) M N) ∧ (x1 = 11 → jv_Tg 9 a0 N ∧ ∃ b72, Prod.fst (Prod.snd M) a0 7 = some b72 ∧ jv_Tg 5 b72 N ∧ Z (some (.int (Prod.fst M b72 3))) M N) ∧ ((x1 ≠ 0 ∧ x1 ≠ 1 ∧ x1 ≠ 2 ∧ x1 ≠ 3 ∧ x1 ≠ 4 ∧ x1 ≠ 5 ∧ x1 ≠ 6 ∧ x1 ≠ 7 ∧ x1 ≠ 8 ∧ x1 ≠ 9 ∧ x1 ≠ 10 ∧ x1 ≠ 11) → Z (some (.int (-2))) M N)) : jv_J g (d + 1) mt_R_count 0 [some (.ref a0), some (.int x1)] [] M N cr sr Z := by
  refine jv_iload_n d_R_count_0 rfl rfl ?_
  have hD1 : (x1 ≠ 0 ∧ x1 ≠ 1 ∧ x1 ≠ 2 ∧ x1 ≠ 3 ∧ x1 ≠ 4 ∧ x1 ≠ 5 ∧ x1 ≠ 6 ∧ x1 ≠ 7 ∧ x1 ≠ 8 ∧ x1 ≠ 9 ∧ x1 ≠ 10 ∧ x1 ≠ 11) → jv_J g (d + 1) mt_R_count 179 [some (.ref a0), some (.int x1)] [] M N cr sr Z := by
    intro c
    replace h := h.2.2.2.2.2.2.2.2.2.2.2.2 c
    refine jv_bipush (v := (-2)) d_R_count_179 (by decide) ?_
    exact jv_iret d_R_count_181 rfl rfl h
  refine jv_tsw (dt := 179) [(0, 64), (1, 72), (2, 80), (3, 88), (4, 96), (5, 104), (6, 115), (7, 126), (8, 137), (9, 150), (10, 163), (11, 171)] d_R_count_1 (by decide) (by decide) (by decide) (fun q hq hx => ?_) (fun hq => ?_)
  · simp only [List.mem_cons, List.not_mem_nil, or_false] at hq
    rcases hq with rfl | rfl | rfl | rfl | rfl | rfl | rfl | rfl | rfl | rfl | rfl | rfl
    · replace h := h.1 hx
      refine jv_aload_n d_R_count_64 rfl rfl ?_
      obtain ⟨q2, h⟩ := h
      obtain ⟨b3, e4, h⟩ := h
      refine jv_getR d_R_count_65 fl_R_10 rfl q2 e4 ?_
      obtain ⟨q5, h⟩ := h
      refine jv_getI d_R_count_68 fl_R_63 rfl q5 ?_
      exact jv_iret d_R_count_71 rfl rfl h
    · replace h := h.2.1 hx
      refine jv_aload_n d_R_count_72 rfl rfl ?_
      obtain ⟨q6, h⟩ := h
      obtain ⟨b7, e8, h⟩ := h
      refine jv_getR d_R_count_73 fl_R_19 rfl q6 e8 ?_
      obtain ⟨q9, h⟩ := h
      refine jv_getI d_R_count_76 fl_R_234 rfl q9 ?_
      exact jv_iret d_R_count_79 rfl rfl h
    · replace h := h.2.2.1 hx
      refine jv_aload_n d_R_count_80 rfl rfl ?_
      obtain ⟨q10, h⟩ := h
      obtain ⟨b11, e12, h⟩ := h
      refine jv_getR d_R_count_81 fl_R_26 rfl q10 e12 ?_
      obtain ⟨q13, h⟩ := h
      refine jv_getI d_R_count_84 fl_R_85 rfl q13 ?_
      exact jv_iret d_R_count_87 rfl rfl h
    · replace h := h.2.2.2.1 hx
      refine jv_aload_n d_R_count_88 rfl rfl ?_
      obtain ⟨q14, h⟩ := h
      obtain ⟨b15, e16, h⟩ := h
      refine jv_getR d_R_count_89 fl_R_26 rfl q14 e16 ?_
      obtain ⟨q17, h⟩ := h
      refine jv_getI d_R_count_92 fl_R_210 rfl q17 ?_
      exact jv_iret d_R_count_95 rfl rfl h
    · replace h := h.2.2.2.2.1 hx
      refine jv_aload_n d_R_count_96 rfl rfl ?_
      obtain ⟨q18, h⟩ := h
      obtain ⟨b19, e20, h⟩ := h
      refine jv_getR d_R_count_97 fl_R_26 rfl q18 e20 ?_
      obtain ⟨q21, h⟩ := h
      refine jv_invV [] [] d_R_count_100 ml_R_235 q21 rfl (Nat.le_of_ble_eq_true rfl) (Nat.zero_add _) (Nat.zero_add _) (jv_Ct.mono h (fun v M23 N23 h => ?_))
      obtain ⟨r22, rfl, h⟩ := h
      change jv_J g (d + 1) mt_R_count 103 [some (.ref a0), some (.int x1)] [.int r22] M23 N23 cr sr Z
      exact jv_iret d_R_count_103 rfl rfl h
    · replace h := h.2.2.2.2.2.1 hx
      refine jv_aload_n d_R_count_104 rfl rfl ?_
      obtain ⟨q24, h⟩ := h
      obtain ⟨b25, e26, h⟩ := h
      refine jv_getR d_R_count_105 fl_R_26 rfl q24 e26 ?_
      obtain ⟨q27, h⟩ := h
      obtain ⟨b28, e29, h⟩ := h
      refine jv_getR d_R_count_108 fl_R_118 rfl q27 e29 ?_
      obtain ⟨q30, h⟩ := h
      refine jv_getI d_R_count_111 fl_R_122 rfl q30 ?_
      exact jv_iret d_R_count_114 rfl rfl h
    · replace h := h.2.2.2.2.2.2.1 hx
      refine jv_aload_n d_R_count_115 rfl rfl ?_
      obtain ⟨q31, h⟩ := h
      obtain ⟨b32, e33, h⟩ := h
      refine jv_getR d_R_count_116 fl_R_26 rfl q31 e33 ?_
      obtain ⟨q34, h⟩ := h
      obtain ⟨b35, e36, h⟩ := h
      refine jv_getR d_R_count_119 fl_R_118 rfl q34 e36 ?_
      obtain ⟨q37, h⟩ := h
      refine jv_getI d_R_count_122 fl_R_148 rfl q37 ?_
      exact jv_iret d_R_count_125 rfl rfl h
    · replace h := h.2.2.2.2.2.2.2.1 hx
      refine jv_aload_n d_R_count_126 rfl rfl ?_
      obtain ⟨q38, h⟩ := h
      obtain ⟨b39, e40, h⟩ := h
      refine jv_getR d_R_count_127 fl_R_26 rfl q38 e40 ?_
      obtain ⟨q41, h⟩ := h
      obtain ⟨b42, e43, h⟩ := h
      refine jv_getR d_R_count_130 fl_R_118 rfl q41 e43 ?_
      obtain ⟨q44, h⟩ := h
      refine jv_getI d_R_count_133 fl_R_238 rfl q44 ?_
      exact jv_iret d_R_count_136 rfl rfl h
    · replace h := h.2.2.2.2.2.2.2.2.1 hx
      refine jv_aload_n d_R_count_137 rfl rfl ?_
      obtain ⟨q45, h⟩ := h
      obtain ⟨b46, e47, h⟩ := h
      refine jv_getR d_R_count_138 fl_R_26 rfl q45 e47 ?_
      obtain ⟨q48, h⟩ := h
      obtain ⟨b49, e50, h⟩ := h
      refine jv_getR d_R_count_141 fl_R_118 rfl q48 e50 ?_
      obtain ⟨q51, h⟩ := h
      obtain ⟨b52, e53, h⟩ := h
      refine jv_getR d_R_count_144 fl_R_161 rfl q51 e53 ?_
      refine jv_iconst (v := 0) d_R_count_147 (by decide) ?_
      obtain ⟨q54, q55, h⟩ := h
      refine jv_iald d_R_count_148 q54 q55 ?_
      exact jv_iret d_R_count_149 rfl rfl h
    · replace h := h.2.2.2.2.2.2.2.2.2.1 hx
      refine jv_aload_n d_R_count_150 rfl rfl ?_
      obtain ⟨q56, h⟩ := h
      obtain ⟨b57, e58, h⟩ := h
      refine jv_getR d_R_count_151 fl_R_26 rfl q56 e58 ?_
      obtain ⟨q59, h⟩ := h
      obtain ⟨b60, e61, h⟩ := h
      refine jv_getR d_R_count_154 fl_R_118 rfl q59 e61 ?_
      obtain ⟨q62, h⟩ := h
      obtain ⟨b63, e64, h⟩ := h
      refine jv_getR d_R_count_157 fl_R_161 rfl q62 e64 ?_
      refine jv_iconst (v := 1) d_R_count_160 (by decide) ?_
      obtain ⟨q65, q66, h⟩ := h
      refine jv_iald d_R_count_161 q65 q66 ?_
      exact jv_iret d_R_count_162 rfl rfl h
    · replace h := h.2.2.2.2.2.2.2.2.2.2.1 hx
      refine jv_aload_n d_R_count_163 rfl rfl ?_
      obtain ⟨q67, h⟩ := h
      obtain ⟨b68, e69, h⟩ := h
      refine jv_getR d_R_count_164 fl_R_36 rfl q67 e69 ?_
      obtain ⟨q70, h⟩ := h
      refine jv_getI d_R_count_167 fl_R_168 rfl q70 ?_
      exact jv_iret d_R_count_170 rfl rfl h
    · replace h := h.2.2.2.2.2.2.2.2.2.2.2.1 hx
      refine jv_aload_n d_R_count_171 rfl rfl ?_
      obtain ⟨q71, h⟩ := h
      obtain ⟨b72, e73, h⟩ := h
      refine jv_getR d_R_count_172 fl_R_51 rfl q71 e73 ?_
      obtain ⟨q74, h⟩ := h
      refine jv_getI d_R_count_175 fl_R_205 rfl q74 ?_
      exact jv_iret d_R_count_178 rfl rfl h
  · exact hD1 ⟨hq _ (List.mem_of_getElem? (i := 0) rfl), hq _ (List.mem_of_getElem? (i := 1) rfl), hq _ (List.mem_of_getElem? (i := 2) rfl), hq _ (List.mem_of_getElem? (i := 3) rfl), hq _ (List.mem_of_getElem? (i := 4) rfl), hq _ (List.mem_of_getElem? (i := 5) rfl), hq _ (List.mem_of_getElem? (i := 6) rfl), hq _ (List.mem_of_getElem? (i := 7) rfl), hq _ (List.mem_of_getElem? (i := 8) rfl), hq _ (List.mem_of_getElem? (i := 9) rfl), hq _ (List.mem_of_getElem? (i := 10) rfl), hq _ (List.mem_of_getElem? (i := 11) rfl)⟩
