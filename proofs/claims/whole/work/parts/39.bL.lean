/-! ===== blocks ===== -/
theorem b_L_law_0 {g : jv_G} {d : Nat} {M : jv_Mem} {N cr sr : Nat} {Z : Option Value → jv_Mem → Nat → Prop}  (h : jv_sh N = (9, 10) ∧ 1 ≤ cr ∧ 10 ≤ sr ∧ ∃ c5 s6 : Nat, c5 ≤ (cr - 1) ∧ s6 ≤ (sr - 10) ∧ jv_Ct g d mt_R_init [.ref N] (jv_zero M N) (N + 1) c5 s6 (fun v M9 N9 => jv_rv v (jv_sh N9 = (10, 34) ∧ 1 ≤ ((cr - 1) - c5) ∧ 34 ≤ ((sr - 10) - s6) ∧ ∃ c14 s15 : Nat, c14 ≤ (((cr - 1) - c5) - 1) ∧ s15 ≤ (((sr - 10) - s6) - 34) ∧ jv_Ct g d mt_M_init [.ref N9] (jv_zero M9 N9) (N9 + 1) c14 s15 (fun v M18 N18 => jv_rv v (jv_J g (d + 1) mt_L_law 18 [some (.retAddr 0), some (.ref N), some (.ref N9), some (.int 0)] [] M18 N18 ((((cr - 1) - c5) - 1) - c14) ((((sr - 10) - s6) - 34) - s15) Z))))) : jv_J g (d + 1) mt_L_law 0 [some (.retAddr 0), none, none, none] [] M N cr sr Z := by
  obtain ⟨q1, q2, q3, h⟩ := h
  refine jv_new (t := 9) (n := 10) _ d_L_law_0 rfl rfl cl_L_7 ins_R ini_R q1 (Nat.sub_add_cancel q2) (Nat.sub_add_cancel q3) ?_
  refine jv_dup d_L_law_3 rfl ?_
  obtain ⟨c5, s6, q7, q8, h⟩ := h
  refine jv_invI [] [.ref N] d_L_law_4 ml_L_9 rfl (Nat.le_of_ble_eq_true rfl) (Nat.add_sub_cancel' q7) (Nat.add_sub_cancel' q8) (jv_Ct.mono h (fun v M9 N9 h => ?_))
  obtain ⟨rfl, h⟩ := h
  change jv_J g (d + 1) mt_L_law 7 [some (.retAddr 0), none, none, none] [.ref N] M9 N9 ((cr - 1) - c5) ((sr - 10) - s6) Z
  refine jv_astore_n (L' := [some (.retAddr 0), some (.ref N), none, none]) d_L_law_7 rfl (Nat.le_of_ble_eq_true rfl) rfl ?_
  obtain ⟨q10, q11, q12, h⟩ := h
  refine jv_new (t := 10) (n := 34) _ d_L_law_8 rfl rfl cl_L_10 ins_M ini_M q10 (Nat.sub_add_cancel q11) (Nat.sub_add_cancel q12) ?_
  refine jv_dup d_L_law_11 rfl ?_
  obtain ⟨c14, s15, q16, q17, h⟩ := h
  refine jv_invI [] [.ref N9] d_L_law_12 ml_L_12 rfl (Nat.le_of_ble_eq_true rfl) (Nat.add_sub_cancel' q16) (Nat.add_sub_cancel' q17) (jv_Ct.mono h (fun v M18 N18 h => ?_))
  obtain ⟨rfl, h⟩ := h
  change jv_J g (d + 1) mt_L_law 15 [some (.retAddr 0), some (.ref N), none, none] [.ref N9] M18 N18 ((((cr - 1) - c5) - 1) - c14) ((((sr - 10) - s6) - 34) - s15) Z
  refine jv_astore_n (L' := [some (.retAddr 0), some (.ref N), some (.ref N9), none]) d_L_law_15 rfl (Nat.le_of_ble_eq_true rfl) rfl ?_
  refine jv_iconst (v := 0) d_L_law_16 (by decide) ?_
  refine jv_istore_n (L' := [some (.retAddr 0), some (.ref N), some (.ref N9), some (.int 0)]) d_L_law_17 rfl (Nat.le_of_ble_eq_true rfl) rfl ?_
  exact h
theorem b_L_law_18 {g : jv_G} {d : Nat} {M : jv_Mem} {N cr sr : Nat} {Z : Option Value → jv_Mem → Nat → Prop} {a1 : Nat} {a2 : Nat} {x3 : Int32} (h : (((Int32.ofNat (jv_L g)) - 7) < x3 → Z (some (.int 1)) M N) ∧ (¬ (((Int32.ofNat (jv_L g)) - 7) < x3) → vp_in x3 (jv_L g) ∧ ((((jv_xs g) (Int32.toNatClampNeg x3)) &&& 31) = 0 → vp_in (x3 + 1) (jv_L g) ∧ jv_Tg 9 a1 N ∧ jv_Ct g d mt_R_write [.ref a1, .int ((jv_xs g) (Int32.toNatClampNeg (x3 + 1)))] M N 0 0 (fun v M6 N6 => jv_ri v (fun r5 => vp_in (x3 + 1) (jv_L g) ∧ jv_Tg 10 a2 N6 ∧ jv_Ct g d mt_M_write [.ref a2, .int ((jv_xs g) (Int32.toNatClampNeg (x3 + 1)))] M6 N6 0 0 (fun v M10 N10 => jv_ri v (fun r9 => (r5 = r9 → jv_J g (d + 1) mt_L_law 18 [some (.retAddr 0), some (.ref a1), some (.ref a2), some (.int (x3 + 7))] [] M10 N10 cr sr Z) ∧ (¬ (r5 = r9) → Z (some (.int 0)) M10 N10)))))) ∧ ((((jv_xs g) (Int32.toNatClampNeg x3)) &&& 31) = 1 → jv_Tg 9 a1 N ∧ jv_Ct g d mt_R_wipe [.ref a1] M N 0 0 (fun v M13 N13 => jv_ri v (fun r12 => jv_Tg 10 a2 N13 ∧ jv_Ct g d mt_M_wipe [.ref a2] M13 N13 0 0 (fun v M16 N16 => jv_ri v (fun r15 => (r12 = r15 → jv_J g (d + 1) mt_L_law 18 [some (.retAddr 0), some (.ref a1), some (.ref a2), some (.int (x3 + 7))] [] M16 N16 cr sr Z) ∧ (¬ (r12 = r15) → Z (some (.int 0)) M16 N16)))))) ∧ ((((jv_xs g) (Int32.toNatClampNeg x3)) &&& 31) = 2 → jv_Tg 9 a1 N ∧ jv_Ct g d mt_R_fault [.ref a1] M N 0 0 (fun v M19 N19 => jv_ri v (fun r18 => jv_Tg 10 a2 N19 ∧ jv_Ct g d mt_M_fault [.ref a2] M19 N19 0 0 (fun v M22 N22 => jv_ri v (fun r21 => (r18 = r21 → jv_J g (d + 1) mt_L_law 18 [some (.retAddr 0), some (.ref a1), some (.ref a2), some (.int (x3 + 7))] [] M22 N22 cr sr Z) ∧ (¬ (r18 = r21) → Z (some (.int 0)) M22 N22)))))) ∧ ((((jv_xs g) (Int32.toNatClampNeg x3)) &&& 31) = 3 → jv_Tg 9 a1 N ∧ jv_Ct g d mt_R_board [.ref a1] M N 0 0 (fun v M25 N25 => jv_ri v (fun r24 => jv_Tg 10 a2 N25 ∧ jv_Ct g d mt_M_board [.ref a2] M25 N25 0 0 (fun v M28 N28 => jv_ri v (fun r27 => (r24 = r27 → jv_J g (d + 1) mt_L_law 18 [some (.retAddr 0), some (.ref a1), some (.ref a2), some (.int (x3 + 7))] [] M28 N28 cr sr Z) ∧ (¬ (r24 = r27) → Z (some (.int 0)) M28 N28)))))) ∧ ((((jv_xs g) (Int32.toNatClampNeg x3)) &&& 31) = 4 → vp_in (x3 + 1) (jv_L g) ∧ vp_in (x3 + 2) (jv_L g) ∧ jv_Tg 9 a1 N ∧ jv_Ct g d mt_R_hart [.ref a1, .int ((jv_xs g) (Int32.toNatClampNeg (x3 + 1))), .int ((jv_xs g) (Int32.toNatClampNeg (x3 + 2)))] M N 0 0 (fun v M33 N33 => jv_ri v (fun r32 => vp_in (x3 + 1) (jv_L g) ∧ vp_in (x3 + 2) (jv_L g) ∧ jv_Tg 10 a2 N33 ∧ jv_Ct g d mt_M_hart [.ref a2, .int ((jv_xs g) (Int32.toNatClampNeg (x3 + 1))), .int ((jv_xs g) (Int32.toNatClampNeg (x3 + 2)))] M33 N33 0 0 (fun v M38 N38 => jv_ri v (fun r37 => (r32 = r37 → jv_J g (d + 1) mt_L_law 18 [some (.retAddr 0), some (.ref a1), some (.ref a2), some (.int (x3 + 7))] [] M38 N38 cr sr Z) ∧ (¬ (r32 = r37) → Z (some (.int 0)) M38 N38)))))) ∧ ((((jv_xs g) (Int32.toNatClampNeg x3)) &&& 31) = 5 → vp_in (x3 + 1) (jv_L g) ∧ vp_in (x3 + 2) (jv_L g) ∧ jv_Tg 9 a1 N ∧ jv_Ct g d mt_R_trigger [.ref a1, .int ((jv_xs g) (Int32.toNatClampNeg (x3 + 1))), .int ((jv_xs g) (Int32.toNatClampNeg (x3 + 2)))] M N 0 0 (fun v M43 N43 => jv_ri v (fun r42 => vp_in (x3 + 1) (jv_L g) ∧ vp_in (x3 + 2) (jv_L g) ∧ jv_Tg 10 a2 N43 ∧ jv_Ct g d mt_M_trigger [.ref a2, .int ((jv_xs g) (Int32.toNatClampNeg (x3 + 1))), .int ((jv_xs g) (Int32.toNatClampNeg (x3 + 2)))] M43 N43 0 0 (fun v M48 N48 => jv_ri v (fun r47 => (r42 = r47 → jv_J g (d + 1) mt_L_law 18 [some (.retAddr 0), some (.ref a1), some (.ref a2), some (.int (x3 + 7))] [] M48 N48 cr sr Z) ∧ (¬ (r42 = r47) → Z (some (.int 0)) M48 N48)))))) ∧ ((((jv_xs g) (Int32.toNatClampNeg x3)) &&& 31) = 6 → vp_in (x3 + 1) (jv_L g) ∧ jv_Tg 9 a1 N ∧ jv_Ct g d mt_R_cell [.ref a1, .int ((jv_xs g) (Int32.toNatClampNeg (x3 + 1)))] M N 0 0 (fun v M52 N52 => jv_ri v (fun r51 => vp_in (x3 + 1) (jv_L g) ∧ jv_Tg 10 a2 N52 ∧ jv_Ct g d mt_M_cell [.ref a2, .int ((jv_xs g) (Int32.toNatClampNeg (x3 + 1)))] M52 N52 0 0 (fun v M56 N56 => jv_ri v (fun r55 => (r51 = r55 → jv_J g (d + 1) mt_L_law 18 [some (.retAddr 0), some (.ref a1), some (.ref a2), some (.int (x3 + 7))] [] M56 N56 cr sr Z) ∧ (¬ (r51 = r55) → Z (some (.int 0)) M56 N56)))))) ∧ ((((jv_xs g) (Int32.toNatClampNeg x3)) &&& 31) = 7 → vp_in (x3 + 1) (jv_L g) ∧ vp_in (x3 + 2) (jv_L g) ∧ jv_Tg 9 a1 N ∧ jv_Ct g d mt_R_order [.ref a1, .int ((jv_xs g) (Int32.toNatClampNeg (x3 + 1))), .int ((jv_xs g) (Int32.toNatClampNeg (x3 + 2)))] M N 0 0 (fun v M61 N61 => jv_ri v (fun r60 => vp_in (x3 + 1) (jv_L g) ∧ vp_in (x3 + 2) (jv_L g) ∧ jv_Tg 10 a2 N61 ∧ jv_Ct g d mt_M_order [.ref a2, .int ((jv_xs g) (Int32.toNatClampNeg (x3 + 1))), .int ((jv_xs g) (Int32.toNatClampNeg (x3 + 2)))] M61 N61 0 0 (fun v M66 N66 => jv_ri v (fun r65 => (r60 = r65 → jv_J g (d + 1) mt_L_law 18 [some (.retAddr 0), some (.ref a1), some (.ref a2), some (.int (x3 + 7))] [] M66 N66 cr sr Z) ∧ (¬ (r60 = r65) → Z (some (.int 0)) M66 N66)))))) ∧ ((((jv_xs g) (Int32.toNatClampNeg x3)) &&& 31) = 8 → vp_in (x3 + 1) (jv_L g) ∧ jv_Tg 9 a1 N ∧ jv_Ct g d mt_R_tick [.ref a1, .int ((jv_xs g) (Int32.toNatClampNeg (x3 + 1)))] M N 0 0 (fun v M70 N70 => jv_ri v (fun r69 => vp_in (x3 + 1) (jv_L g) ∧ jv_Tg 10 a2 N70 ∧ jv_Ct g d mt_M_tick [.ref a2, .int ((jv_xs g) (Int32.toNatClampNeg (x3 + 1)))] M70 N70 0 0 (fun v M74 N74 => jv_ri v (fun r73 => (r69 = r73 → jv_J g (d + 1) mt_L_law 18 [some (.retAddr 0), some (.ref a1), some (.ref a2), some (.int (x3 + 7))] [] M74 N74 cr sr Z) ∧ (¬ (r69 = r73) → Z (some (.int 0)) M74 N74)))))) ∧ ((((jv_xs g) (Int32.toNatClampNeg x3)) &&& 31) = 9 → vp_in (x3 + 1) (jv_L g) ∧ vp_in (x3 + 2) (jv_L g) ∧ vp_in (x3 + 3) (jv_L g) ∧ vp_in (x3 + 4) (jv_L g) ∧ jv_Tg 9 a1 N ∧ jv_Ct g d mt_R_send [.ref a1, .int ((jv_xs g) (Int32.toNatClampNeg (x3 + 1))), .int ((jv_xs g) (Int32.toNatClampNeg (x3 + 2))), .int ((jv_xs g) (Int32.toNatClampNeg (x3 + 3))), .int ((jv_xs g) (Int32.toNatClampNeg (x3 + 4)))] M N 0 0 (fun v M81 N81 => jv_ri v (fun r80 => vp_in (x3 + 1) (jv_L g) ∧ vp_in (x3 + 2) (jv_L g) ∧ vp_in (x3 + 3) (jv_L g) ∧ vp_in (x3 + 4) (jv_L g) ∧ jv_Tg 10 a2 N81 ∧ jv_Ct g d mt_M_send [.ref a2, .int ((jv_xs g) (Int32.toNatClampNeg (x3 + 1))), .int ((jv_xs g) (Int32.toNatClampNeg (x3 + 2))), .int ((jv_xs g) (Int32.toNatClampNeg (x3 + 3))), .int ((jv_xs g) (Int32.toNatClampNeg (x3 + 4)))] M81 N81 0 0 (fun v M88 N88 => jv_ri v (fun r87 => (r80 = r87 → jv_J g (d + 1) mt_L_law 18 [some (.retAddr 0), some (.ref a1), some (.ref a2), some (.int (x3 + 7))] [] M88 N88 cr sr Z) ∧ (¬ (r80 = r87) → Z (some (.int 0)) M88 N88)))))) ∧ ((((jv_xs g) (Int32.toNatClampNeg x3)) &&& 31) = 10 → vp_in (x3 + 1) (jv_L g) ∧ vp_in (x3 + 2) (jv_L g) ∧ vp_in (x3 + 3) (jv_L g) ∧ vp_in (x3 + 4) (jv_L g) ∧ vp_in (x3 + 5) (jv_L g) ∧ vp_in (x3 + 6) (jv_L g) ∧ (((jv_xs g) (Int32.toNatClampNeg (x3 + 6))) = 0 → jv_Tg 9 a1 N ∧ jv_Ct g d mt_R_set [.ref a1, .int ((jv_xs g) (Int32.toNatClampNeg (x3 + 1))), .int ((jv_xs g) (Int32.toNatClampNeg (x3 + 2))), .int ((jv_xs g) (Int32.toNatClampNeg (x3 + 3))), .int ((jv_xs g) (Int32.toNatClampNeg (x3 + 4))), .int ((jv_xs g) (Int32.toNatClampNeg (x3 + 5))), .int 0] M N 0 0 (fun v M97 N97 => jv_ri v (fun r96 => vp_in (x3 + 1) (jv_L g) ∧ vp_in (x3 + 2) (jv_L g) ∧ vp_in (x3 + 3) (jv_L g) ∧ vp_in (x3 + 4) (jv_L g) ∧ vp_in (x3 + 5) (jv_L g) ∧ vp_in (x3 + 6) (jv_L g) ∧ (((jv_xs g) (Int32.toNatClampNeg (x3 + 6))) = 0 → jv_Tg 10 a2 N97 ∧ jv_Ct g d mt_M_set [.ref a2, .int ((jv_xs g) (Int32.toNatClampNeg (x3 + 1))), .int ((jv_xs g) (Int32.toNatClampNeg (x3 + 2))), .int ((jv_xs g) (Int32.toNatClampNeg (x3 + 3))), .int ((jv_xs g) (Int32.toNatClampNeg (x3 + 4))), .int ((jv_xs g) (Int32.toNatClampNeg (x3 + 5))), .int 0] M97 N97 0 0 (fun v M106 N106 => jv_ri v (fun r105 => (r96 = r105 → jv_J g (d + 1) mt_L_law 18 [some (.retAddr 0), some (.ref a1), some (.ref a2), some (.int (x3 + 7))] [] M106 N106 cr sr Z) ∧ (¬ (r96 = r105) → Z (some (.int 0)) M106 N106)))) ∧ (¬ (((jv_xs g) (Int32.toNatClampNeg (x3 + 6))) = 0) → jv_Tg 10 a2 N97 ∧ jv_Ct g d mt_M_set [.ref a2, .int ((jv_xs g) (Int32.toNatClampNeg (x3 + 1))), .int ((jv_xs g) (Int32.toNatClampNeg (x3 + 2))), .int ((jv_xs g) (Int32.toNatClampNeg (x3 + 3))), .int ((jv_xs g) (Int32.toNatClampNeg (x3 + 4))), .int ((jv_xs g) (Int32.toNatClampNeg (x3 + 5))), .int 1] M97 N97 0 0 (fun v M109 N109 => jv_ri v (fun r108 => (r96 = r108 → jv_J g (d + 1) mt_L_law 18 [some (.retAddr 0), some (.ref a1), some (.ref a2), some (.int (x3 + 7))] [] M109 N109 cr sr Z) ∧ (¬ (r96 = r108) → Z (some (.int 0)) M109 N109))))))) ∧ (¬ (((jv_xs g) (Int32.toNatClampNeg (x3 + 6))) = 0) → jv_Tg 9 a1 N ∧ jv_Ct g d mt_R_set [.ref a1, .int ((jv_xs g) (Int32.toNatClampNeg (x3 + 1))), .int ((jv_xs g) (Int32.toNatClampNeg (x3 + 2))), .int ((jv_xs g) (Int32.toNatClampNeg (x3 + 3))), .int ((jv_xs g) (Int32.toNatClampNeg (x3 + 4))), .int ((jv_xs g) (Int32.toNatClampNeg (x3 + 5))), .int 1] M N 0 0 (fun v M112 N112 => jv_ri v (fun r111 => vp_in (x3 + 1) (jv_L g) ∧ vp_in (x3 + 2) (jv_L g) ∧ vp_in (x3 + 3) (jv_L g) ∧ vp_in (x3 + 4) (jv_L g) ∧ vp_in (x3 + 5) (jv_L g) ∧ vp_in (x3 + 6) (jv_L g) ∧ (((jv_xs g) (Int32.toNatClampNeg (x3 + 6))) = 0 → jv_Tg 10 a2 N112 ∧ jv_Ct g d mt_M_set [.ref a2, .int ((jv_xs g) (Int32.toNatClampNeg (x3 + 1))), .int ((jv_xs g) (Int32.toNatClampNeg (x3 + 2))), .int ((jv_xs g) (Int32.toNatClampNeg (x3 + 3))), .int ((jv_xs g) (Int32.toNatClampNeg (x3 + 4))), .int ((jv_xs g) (Int32.toNatClampNeg (x3 + 5))), .int 0] M112 N112 0 0 (fun v M121 N121 => jv_ri v (fun r120 => (r111 = r120 → jv_J g (d + 1) mt_L_law 18 [some (.retAddr 0), some (.ref a1), some (.ref a2), some (.int (x3 + 7))] [] M121 N121 cr sr Z) ∧ (¬ (r111 = r120) → Z (some (.int 0)) M121 N121)))) ∧ (¬ (((jv_xs g) (Int32.toNatClampNeg (x3 + 6))) = 0) → jv_Tg 10 a2 N112 ∧ jv_Ct g d mt_M_set [.ref a2, .int ((jv_xs g) (Int32.toNatClampNeg (x3 + 1))), .int ((jv_xs g) (Int32.toNatClampNeg (x3 + 2))), .int ((jv_xs g) (Int32.toNatClampNeg (x3 + 3))), .int ((jv_xs g) (Int32.toNatClampNeg (x3 + 4))), .int ((jv_xs g) (Int32.toNatClampNeg (x3 + 5))), .int 1] M112 N112 0 0 (fun v M124 N124 => jv_ri v (fun r123 => (r111 = r123 → jv_J g (d + 1) mt_L_law 18 [some (.retAddr 0), some (.ref a1), some (.ref a2), some (.int (x3 + 7))] [] M124 N124 cr sr Z) ∧ (¬ (r111 = r123) → Z (some (.int 0)) M124 N124)))))))) ∧ ((((jv_xs g) (Int32.toNatClampNeg x3)) &&& 31) = 11 → vp_in (x3 + 1) (jv_L g) ∧ vp_in (x3 + 2) (jv_L g) ∧ jv_Tg 9 a1 N ∧ jv_Ct g d mt_R_buffer [.ref a1, .int ((jv_xs g) (Int32.toNatClampNeg (x3 + 1))), .int ((jv_xs g) (Int32.toNatClampNeg (x3 + 2)))] M N 0 0 (fun v M129 N129 => jv_ri v (fun r128 => vp_in (x3 + 1) (jv_L g) ∧ vp_in (x3 + 2) (jv_L g) ∧ jv_Tg 10 a2 N129 ∧ jv_Ct g d mt_M_buffer [.ref a2, .int ((jv_xs g) (Int32.toNatClampNeg (x3 + 1))), .int ((jv_xs g) (Int32.toNatClampNeg (x3 + 2)))] M129 N129 0 0 (fun v M134 N134 => jv_ri v (fun r133 => (r128 = r133 → jv_J g (d + 1) mt_L_law 18 [some (.retAddr 0), some (.ref a1), some (.ref a2), some (.int (x3 + 7))] [] M134 N134 cr sr Z) ∧ (¬ (r128 = r133) → Z (some (.int 0)) M134 N134)))))) ∧ ((((jv_xs g) (Int32.toNatClampNeg x3)) &&& 31) = 12 → jv_Tg 9 a1 N ∧ jv_Ct g d mt_R_clear [.ref a1] M N 0 0 (fun v M137 N137 => jv_ri v (fun r136 => jv_Tg 10 a2 N137 ∧ jv_Ct g d mt_M_clear [.ref a2] M137 N137 0 0 (fun v M140 N140 => jv_ri v (fun r139 => (r136 = r139 → jv_J g (d + 1) mt_L_law 18 [some (.retAddr 0), some (.ref a1), some (.ref a2), some (.int (x3 + 7))] [] M140 N140 cr sr Z) ∧ (¬ (r136 = r139) → Z (some (.int 0)) M140 N140)))))) ∧ ((((jv_xs g) (Int32.toNatClampNeg x3)) &&& 31) = 13 → vp_in (x3 + 1) (jv_L g) ∧ vp_in (x3 + 2) (jv_L g) ∧ jv_Tg 9 a1 N ∧ jv_Ct g d mt_R_poke [.ref a1, .int ((jv_xs g) (Int32.toNatClampNeg (x3 + 1))), .int ((jv_xs g) (Int32.toNatClampNeg (x3 + 2)))] M N 0 0 (fun v M145 N145 => jv_ri v (fun r144 => vp_in (x3 + 1) (jv_L g) ∧ vp_in (x3 + 2) (jv_L g) ∧ jv_Tg 10 a2 N145 ∧ jv_Ct g d mt_M_poke [.ref a2, .int ((jv_xs g) (Int32.toNatClampNeg (x3 + 1))), .int ((jv_xs g) (Int32.toNatClampNeg (x3 + 2)))] M145 N145 0 0 (fun v M150 N150 => jv_ri v (fun r149 => (r144 = r149 → jv_J g (d + 1) mt_L_law 18 [some (.retAddr 0), some (.ref a1), some (.ref a2), some (.int (x3 + 7))] [] M150 N150 cr sr Z) ∧ (¬ (r144 = r149) → Z (some (.int 0)) M150 N150)))))) ∧ ((((jv_xs g) (Int32.toNatClampNeg x3)) &&& 31) = 14 → jv_Tg 9 a1 N ∧ jv_Ct g d mt_R_undo [.ref a1] M N 0 0 (fun v M153 N153 => jv_ri v (fun r152 => jv_Tg 10 a2 N153 ∧ jv_Ct g d mt_M_undo [.ref a2] M153 N153 0 0 (fun v M156 N156 => jv_ri v (fun r155 => (r152 = r155 → jv_J g (d + 1) mt_L_law 18 [some (.retAddr 0), some (.ref a1), some (.ref a2), some (.int (x3 + 7))] [] M156 N156 cr sr Z) ∧ (¬ (r152 = r155) → Z (some (.int 0)) M156 N156)))))) ∧ ((((jv_xs g) (Int32.toNatClampNeg x3)) &&& 31) = 15 → vp_in (x3 + 1) (jv_L g) ∧ vp_in (x3 + 2) (jv_L g) ∧ vp_in (x3 + 3) (jv_L g) ∧ jv_Tg 9 a1 N ∧ jv_Ct g d mt_R_ahead [.ref a1, .int ((jv_xs g) (Int32.toNatClampNeg (x3 + 1))), .int ((jv_xs g) (Int32.toNatClampNeg (x3 + 2))), .int ((jv_xs g) (Int32.toNatClampNeg (x3 + 3)))] M N 0 0 (fun v M162 N162 => jv_ri v (fun r161 => vp_in (x3 + 1) (jv_L g) ∧ vp_in (x3 + 2) (jv_L g) ∧ vp_in (x3 + 3) (jv_L g) ∧ jv_Tg 10 a2 N162 ∧ jv_Ct g d mt_M_ahead [.ref a2, .int ((jv_xs g) (Int32.toNatClampNeg (x3 + 1))), .int ((jv_xs g) (Int32.toNatClampNeg (x3 + 2))), .int ((jv_xs g) (Int32.toNatClampNeg (x3 + 3)))] M162 N162 0 0 (fun v M168 N168 => jv_ri v (fun r167 => (r161 = r167 → jv_J g (d + 1) mt_L_law 18 [some (.retAddr 0), some (.ref a1), some (.ref a2), some (.int (x3 + 7))] [] M168 N168 cr sr Z) ∧ (¬ (r161 = r167) → Z (some (.int 0)) M168 N168)))))) ∧ ((((jv_xs g) (Int32.toNatClampNeg x3)) &&& 31) = 16 → vp_in (x3 + 1) (jv_L g) ∧ jv_Tg 9 a1 N ∧ jv_Ct g d mt_R_halts [.ref a1, .int ((jv_xs g) (Int32.toNatClampNeg (x3 + 1)))] M N 0 0 (fun v M172 N172 => jv_ri v (fun r171 => vp_in (x3 + 1) (jv_L g) ∧ jv_Tg 10 a2 N172 ∧ jv_Ct g d mt_M_halts [.ref a2, .int ((jv_xs g) (Int32.toNatClampNeg (x3 + 1)))] M172 N172 0 0 (fun v M176 N176 => jv_ri v (fun r175 => (r171 = r175 → jv_J g (d + 1) mt_L_law 18 [some (.retAddr 0), some (.ref a1), some (.ref a2), some (.int (x3 + 7))] [] M176 N176 cr sr Z) ∧ (¬ (r171 = r175) → Z (some (.int 0)) M176 N176)))))) ∧ ((((jv_xs g) (Int32.toNatClampNeg x3)) &&& 31) = 17 → vp_in (x3 + 1) (jv_L g) ∧ jv_Tg 9 a1 N ∧ jv_Ct g d mt_R_soonest [.ref a1, .int ((jv_xs g) (Int32.toNatClampNeg (x3 + 1)))] M N 0 0 (fun v M180 N180 => jv_ri v (fun r179 => vp_in (x3 + 1) (jv_L g) ∧ jv_Tg 10 a2 N180 ∧ jv_Ct g d mt_M_soonest [.ref a2, .int ((jv_xs g) (Int32.toNatClampNeg (x3 + 1)))] M180 N180 0 0 (fun v M184 N184 => jv_ri v (fun r183 => (r179 = r183 → jv_J g (d + 1) mt_L_law 18 [some (.retAddr 0), some (.ref a1), some (.ref a2), some (.int (x3 + 7))] [] M184 N184 cr sr Z) ∧ (¬ (r179 = r183) → Z (some (.int 0)) M184 N184)))))) ∧ ((((jv_xs g) (Int32.toNatClampNeg x3)) &&& 31) = 18 → vp_in (x3 + 1) (jv_L g) ∧ jv_Tg 9 a1 N ∧ jv_Ct g d mt_R_all [.ref a1, .int ((jv_xs g) (Int32.toNatClampNeg (x3 + 1)))] M N 0 0 (fun v M188 N188 => jv_ri v (fun r187 => vp_in (x3 + 1) (jv_L g) ∧ jv_Tg 10 a2 N188 ∧ jv_Ct g d mt_M_all [.ref a2, .int ((jv_xs g) (Int32.toNatClampNeg (x3 + 1)))] M188 N188 0 0 (fun v M192 N192 => jv_ri v (fun r191 => (r187 = r191 → jv_J g (d + 1) mt_L_law 18 [some (.retAddr 0), some (.ref a1), some (.ref a2), some (.int (x3 + 7))] [] M192 N192 cr sr Z) ∧ (¬ (r187 = r191) → Z (some (.int 0)) M192 N192)))))) ∧ ((((jv_xs g) (Int32.toNatClampNeg x3)) &&& 31) = 19 → jv_Tg 9 a1 N ∧ jv_Ct g d mt_R_crew [.ref a1] M N 0 0 (fun v M195 N195 => jv_ri v (fun r194 => jv_Tg 10 a2 N195 ∧ jv_Ct g d mt_M_crew [.ref a2] M195 N195 0 0 (fun v M198 N198 => jv_ri v (fun r197 => (r194 = r197 → jv_J g (d + 1) mt_L_law 18 [some (.retAddr 0), some (.ref a1), some (.ref a2), some (.int (x3 + 7))] [] M198 N198 cr sr Z) ∧ (¬ (r194 = r197) → Z (some (.int 0)) M198 N198)))))) ∧ ((((jv_xs g) (Int32.toNatClampNeg x3)) &&& 31) = 20 → vp_in (x3 + 1) (jv_L g) ∧ vp_in (x3 + 2) (jv_L g) ∧ vp_in (x3 + 3) (jv_L g) ∧ jv_Tg 9 a1 N ∧ jv_Ct g d mt_R_judge [.ref a1, .int ((jv_xs g) (Int32.toNatClampNeg (x3 + 1))), .long (((Int32.toInt64 ((jv_xs g) (Int32.toNatClampNeg (x3 + 2)))) <<< ((32 : Int32).toInt64 &&& 63)) ||| ((Int32.toInt64 ((jv_xs g) (Int32.toNatClampNeg (x3 + 3)))) &&& 4294967295))] M N 0 0 (fun v M204 N204 => jv_ri v (fun r203 => vp_in (x3 + 1) (jv_L g) ∧ vp_in (x3 + 2) (jv_L g) ∧ vp_in (x3 + 3) (jv_L g) ∧ jv_Tg 10 a2 N204 ∧ jv_Ct g d mt_M_judge [.ref a2, .int ((jv_xs g) (Int32.toNatClampNeg (x3 + 1))), .long (((Int32.toInt64 ((jv_xs g) (Int32.toNatClampNeg (x3 + 2)))) <<< ((32 : Int32).toInt64 &&& 63)) ||| ((Int32.toInt64 ((jv_xs g) (Int32.toNatClampNeg (x3 + 3)))) &&& 4294967295))] M204 N204 0 0 (fun v M210 N210 => jv_ri v (fun r209 => (r203 = r209 → jv_J g (d + 1) mt_L_law 18 [some (.retAddr 0), some (.ref a1), some (.ref a2), some (.int (x3 + 7))] [] M210 N210 cr sr Z) ∧ (¬ (r203 = r209) → Z (some (.int 0)) M210 N210)))))) ∧ ((((jv_xs g) (Int32.toNatClampNeg x3)) &&& 31) = 21 → vp_in (x3 + 1) (jv_L g) ∧ vp_in (x3 + 2) (jv_L g) ∧ vp_in (x3 + 3) (jv_L g) ∧ jv_Tg 9 a1 N ∧ jv_Ct g d mt_R_see [.ref a1, .int ((jv_xs g) (Int32.toNatClampNeg (x3 + 1))), .int ((jv_xs g) (Int32.toNatClampNeg (x3 + 2))), .int ((jv_xs g) (Int32.toNatClampNeg (x3 + 3)))] M N 0 0 (fun v M216 N216 => jv_ri v (fun r215 => vp_in (x3 + 1) (jv_L g) ∧ vp_in (x3 + 2) (jv_L g) ∧ vp_in (x3 + 3) (jv_L g) ∧ jv_Tg 10 a2 N216 ∧ jv_Ct g d mt_M_see [.ref a2, .int ((jv_xs g) (Int32.toNatClampNeg (x3 + 1))), .int ((jv_xs g) (Int32.toNatClampNeg (x3 + 2))), .int ((jv_xs g) (Int32.toNatClampNeg (x3 + 3)))] M216 N216 0 0 (fun v M222 N222 => jv_ri v (fun r221 => (r215 = r221 → jv_J g (d + 1) mt_L_law 18 [some (.retAddr 0), some (.ref a1), some (.ref a2), some (.int (x3 + 7))] [] M222 N222 cr sr Z) ∧ (¬ (r215 = r221) → Z (some (.int 0)) M222 N222)))))) ∧ ((((jv_xs g) (Int32.toNatClampNeg x3)) &&& 31) = 22 → jv_Tg 9 a1 N ∧ jv_Ct g d mt_R_unsee [.ref a1] M N 0 0 (fun v M225 N225 => jv_ri v (fun r224 => jv_Tg 10 a2 N225 ∧ jv_Ct g d mt_M_unsee [.ref a2] M225 N225 0 0 (fun v M228 N228 => jv_ri v (fun r227 => (r224 = r227 → jv_J g (d + 1) mt_L_law 18 [some (.retAddr 0), some (.ref a1), some (.ref a2), some (.int (x3 + 7))] [] M228 N228 cr sr Z) ∧ (¬ (r224 = r227) → Z (some (.int 0)) M228 N228)))))) ∧ ((((jv_xs g) (Int32.toNatClampNeg x3)) &&& 31) = 23 → jv_Tg 9 a1 N ∧ jv_Ct g d mt_R_which [.ref a1] M N 0 0 (fun v M231 N231 => jv_ri v (fun r230 => jv_Tg 10 a2 N231 ∧ jv_Ct g d mt_M_which [.ref a2] M231 N231 0 0 (fun v M234 N234 => jv_ri v (fun r233 => (r230 = r233 → jv_J g (d + 1) mt_L_law 18 [some (.retAddr 0), some (.ref a1), some (.ref a2), some (.int (x3 + 7))] [] M234 N234 cr sr Z) ∧ (¬ (r230 = r233) → Z (some (.int 0)) M234 N234)))))) ∧ ((((jv_xs g) (Int32.toNatClampNeg x3)) &&& 31) = 24 → vp_in (x3 + 1) (jv_L g) ∧ vp_in (x3 + 2) (jv_L g) ∧ (((jv_xs g) (Int32.toNatClampNeg (x3 + 2))) = 0 → jv_Tg 9 a1 N ∧ jv_Ct g d mt_R_share [.ref a1, .int ((jv_xs g) (Int32.toNatClampNeg (x3 + 1))), .int 0] M N 0 0 (fun v M239 N239 => jv_ri v (fun r238 => vp_in (x3 + 1) (jv_L g) ∧ vp_in (x3 + 2) (jv_L g) ∧ (((jv_xs g) (Int32.toNatClampNeg (x3 + 2))) = 0 → jv_Tg 10 a2 N239 ∧ jv_Ct g d mt_M_share [.ref a2, .int ((jv_xs g) (Int32.toNatClampNeg (x3 + 1))), .int 0] M239 N239 0 0 (fun v M244 N244 => jv_ri v (fun r243 => (r238 = r243 → jv_J g (d + 1) mt_L_law 18 [some (.retAddr 0), some (.ref a1), some (.ref a2), some (.int (x3 + 7))] [] M244 N244 cr sr Z) ∧ (¬ (r238 = r243) → Z (some (.int 0)) M244 N244)))) ∧ (¬ (((jv_xs g) (Int32.toNatClampNeg (x3 + 2))) = 0) → jv_Tg 10 a2 N239 ∧ jv_Ct g d mt_M_share [.ref a2, .int ((jv_xs g) (Int32.toNatClampNeg (x3 + 1))), .int 1] M239 N239 0 0 (fun v M247 N247 => jv_ri v (fun r246 => (r238 = r246 → jv_J g (d + 1) mt_L_law 18 [some (.retAddr 0), some (.ref a1), some (.ref a2), some (.int (x3 + 7))] [] M247 N247 cr sr Z) ∧ (¬ (r238 = r246) → Z (some (.int 0)) M247 N247))))))) ∧ (¬ (((jv_xs g) (Int32.toNatClampNeg (x3 + 2))) = 0) → jv_Tg 9 a1 N ∧ jv_Ct g d mt_R_share [.ref a1, .int ((jv_xs g) (Int32.toNatClampNeg (x3 + 1))), .int 1] M N 0 0 (fun v M250 N250 => jv_ri v (fun r249 => vp_in (x3 + 1) (jv_L g) ∧ vp_in (x3 + 2) (jv_L g) ∧ (((jv_xs g) (Int32.toNatClampNeg (x3 + 2))) = 0 → jv_Tg 10 a2 N250 ∧ jv_Ct g d mt_M_share [.ref a2, .int ((jv_xs g) (Int32.toNatClampNeg (x3 + 1))), .int 0] M250 N250 0 0 (fun v M255 N255 => jv_ri v (fun r254 => (r249 = r254 → jv_J g (d + 1) mt_L_law 18 [some (.retAddr 0), some (.ref a1), some (.ref a2), some (.int (x3 + 7))] [] M255 N255 cr sr Z) ∧ (¬ (r249 = r254) → Z (some (.int 0)) M255 N255)))) ∧ (¬ (((jv_xs g) (Int32.toNatClampNeg (x3 + 2))) = 0) → jv_Tg 10 a2 N250 ∧ jv_Ct g d mt_M_share [.ref a2, .int ((jv_xs g) (Int32.toNatClampNeg (x3 + 1))), .int 1] M250 N250 0 0 (fun v M258 N258 => jv_ri v (fun r257 => (r249 = r257 → jv_J g (d + 1) mt_L_law 18 [some (.retAddr 0), some (.ref a1), some (.ref a2), some (.int (x3 + 7))] [] M258 N258 cr sr Z) ∧ (¬ (r249 = r257) → Z (some (.int 0)) M258 N258)))))))) ∧ ((((jv_xs g) (Int32.toNatClampNeg x3)) &&& 31) = 25 → vp_in (x3 + 1) (jv_L g) ∧ vp_in (x3 + 2) (jv_L g) ∧ (((jv_xs g) (Int32.toNatClampNeg (x3 + 2))) = 0 → jv_Tg 9 a1 N ∧ jv_Ct g d mt_R_lost [.ref a1, .int ((jv_xs g) (Int32.toNatClampNeg (x3 + 1))), .int 0] M N 0 0 (fun v M263 N263 => jv_ri v (fun r262 => vp_in (x3 + 1) (jv_L g) ∧ vp_in (x3 + 2) (jv_L g) ∧ (((jv_xs g) (Int32.toNatClampNeg (x3 + 2))) = 0 → jv_Tg 10 a2 N263 ∧ jv_Ct g d mt_M_lost [.ref a2, .int ((jv_xs g) (Int32.toNatClampNeg (x3 + 1))), .int 0] M263 N263 0 0 (fun v M268 N268 => jv_ri v (fun r267 => (r262 = r267 → jv_J g (d + 1) mt_L_law 18 [some (.retAddr 0), some (.ref a1), some (.ref a2), some (.int (x3 + 7))] [] M268 N268 cr sr Z) ∧ (¬ (r262 = r267) → Z (some (.int 0)) M268 N268)))) ∧ (¬ (((jv_xs g) (Int32.toNatClampNeg (x3 + 2))) = 0) → jv_Tg 10 a2 N263 ∧ jv_Ct g d mt_M_lost [.ref a2, .int ((jv_xs g) (Int32.toNatClampNeg (x3 + 1))), .int 1] M263 N263 0 0 (fun v M271 N271 => jv_ri v (fun r270 => (r262 = r270 → jv_J g (d + 1) mt_L_law 18 [some (.retAddr 0), some (.ref a1), some (.ref a2), some (.int (x3 + 7))] [] M271 N271 cr sr Z) ∧ (¬ (r262 = r270) → Z (some (.int 0)) M271 N271))))))) ∧ (¬ (((jv_xs g) (Int32.toNatClampNeg (x3 + 2))) = 0) → jv_Tg 9 a1 N ∧ jv_Ct g d mt_R_lost [.ref a1, .int ((jv_xs g) (Int32.toNatClampNeg (x3 + 1))), .int 1] M N 0 0 (fun v M274 N274 => jv_ri v (fun r273 => vp_in (x3 + 1) (jv_L g) ∧ vp_in (x3 + 2) (jv_L g) ∧ (((jv_xs g) (Int32.toNatClampNeg (x3 + 2))) = 0 → jv_Tg 10 a2 N274 ∧ jv_Ct g d mt_M_lost [.ref a2, .int ((jv_xs g) (Int32.toNatClampNeg (x3 + 1))), .int 0] M274 N274 0 0 (fun v M279 N279 => jv_ri v (fun r278 => (r273 = r278 → jv_J g (d + 1) mt_L_law 18 [some (.retAddr 0), some (.ref a1), some (.ref a2), some (.int (x3 + 7))] [] M279 N279 cr sr Z) ∧ (¬ (r273 = r278) → Z (some (.int 0)) M279 N279)))) ∧ (¬ (((jv_xs g) (Int32.toNatClampNeg (x3 + 2))) = 0) → jv_Tg 10 a2 N274 ∧ jv_Ct g d mt_M_lost [.ref a2, .int ((jv_xs g) (Int32.toNatClampNeg (x3 + 1))), .int 1] M274 N274 0 0 (fun v M282 N282 => jv_ri v (fun r281 => (r273 = r281 → jv_J g (d + 1) mt_L_law 18 [some (.retAddr 0), some (.ref a1), some (.ref a2), some (.int (x3 + 7))] [] M282 N282 cr sr Z) ∧ (¬ (r273 = r281) → Z (some (.int 0)) M282 N282)))))))) ∧ ((((jv_xs g) (Int32.toNatClampNeg x3)) &&& 31) = 26 → vp_in (x3 + 1) (jv_L g) ∧ vp_in (x3 + 2) (jv_L g) ∧ jv_Tg 9 a1 N ∧ jv_Ct g d mt_R_seed [.ref a1, .long (((Int32.toInt64 ((jv_xs g) (Int32.toNatClampNeg (x3 + 1)))) <<< ((32 : Int32).toInt64 &&& 63)) ||| ((Int32.toInt64 ((jv_xs g) (Int32.toNatClampNeg (x3 + 2)))) &&& 4294967295))] M N 0 0 (fun v M287 N287 => jv_rl v (fun r286 => vp_in (x3 + 1) (jv_L g) ∧ vp_in (x3 + 2) (jv_L g) ∧ jv_Tg 10 a2 N287 ∧ jv_Ct g d mt_M_seed [.ref a2, .long (((Int32.toInt64 ((jv_xs g) (Int32.toNatClampNeg (x3 + 1)))) <<< ((32 : Int32).toInt64 &&& 63)) ||| ((Int32.toInt64 ((jv_xs g) (Int32.toNatClampNeg (x3 + 2)))) &&& 4294967295))] M287 N287 0 0 (fun v M292 N292 => jv_rl v (fun r291 => ((lg_cmp r286 r291) = 0 → jv_J g (d + 1) mt_L_law 18 [some (.retAddr 0), some (.ref a1), some (.ref a2), some (.int (x3 + 7))] [] M292 N292 cr sr Z) ∧ (¬ ((lg_cmp r286 r291) = 0) → Z (some (.int 0)) M292 N292)))))) ∧ ((((jv_xs g) (Int32.toNatClampNeg x3)) &&& 31) = 27 → vp_in (x3 + 1) (jv_L g) ∧ jv_Tg 9 a1 N ∧ jv_Ct g d mt_R_drawn [.ref a1, .int ((jv_xs g) (Int32.toNatClampNeg (x3 + 1)))] M N 0 0 (fun v M296 N296 => jv_ri v (fun r295 => vp_in (x3 + 1) (jv_L g) ∧ jv_Tg 10 a2 N296 ∧ jv_Ct g d mt_M_drawn [.ref a2, .int ((jv_xs g) (Int32.toNatClampNeg (x3 + 1)))] M296 N296 0 0 (fun v M300 N300 => jv_ri v (fun r299 => (r295 = r299 → jv_J g (d + 1) mt_L_law 18 [some (.retAddr 0), some (.ref a1), some (.ref a2), some (.int (x3 + 7))] [] M300 N300 cr sr Z) ∧ (¬ (r295 = r299) → Z (some (.int 0)) M300 N300)))))) ∧ ((((jv_xs g) (Int32.toNatClampNeg x3)) &&& 31) = 28 → vp_in (x3 + 1) (jv_L g) ∧ jv_Tg 9 a1 N ∧ jv_Ct g d mt_R_keep [.ref a1, .int ((jv_xs g) (Int32.toNatClampNeg (x3 + 1)))] M N 0 0 (fun v M304 N304 => jv_ri v (fun r303 => vp_in (x3 + 1) (jv_L g) ∧ jv_Tg 10 a2 N304 ∧ jv_Ct g d mt_M_keep [.ref a2, .int ((jv_xs g) (Int32.toNatClampNeg (x3 + 1)))] M304 N304 0 0 (fun v M308 N308 => jv_ri v (fun r307 => (r303 = r307 → jv_J g (d + 1) mt_L_law 18 [some (.retAddr 0), some (.ref a1), some (.ref a2), some (.int (x3 + 7))] [] M308 N308 cr sr Z) ∧ (¬ (r303 = r307) → Z (some (.int 0)) M308 N308)))))) ∧ ((((jv_xs g) (Int32.toNatClampNeg x3)) &&& 31) = 29 → vp_in (x3 + 1) (jv_L g) ∧ jv_Tg 9 a1 N ∧ jv_Ct g d mt_R_again [.ref a1, .int ((jv_xs g) (Int32.toNatClampNeg (x3 + 1)))] M N 0 0 (fun v M312 N312 => jv_ri v (fun r311 => vp_in (x3 + 1) (jv_L g) ∧ jv_Tg 10 a2 N312 ∧ jv_Ct g d mt_M_again [.ref a2, .int ((jv_xs g) (Int32.toNatClampNeg (x3 + 1)))] M312 N312 0 0 (fun v M316 N316 => jv_ri v (fun r315 => (r311 = r315 → jv_J g (d + 1) mt_L_law 18 [some (.retAddr 0), some (.ref a1), some (.ref a2), some (.int (x3 + 7))] [] M316 N316 cr sr Z) ∧ (¬ (r311 = r315) → Z (some (.int 0)) M316 N316)))))) ∧ ((((jv_xs g) (Int32.toNatClampNeg x3)) &&& 31) = 30 → vp_in (x3 + 1) (jv_L g) ∧ jv_Tg 9 a1 N ∧ jv_Ct g d mt_R_count [.ref a1, .int ((jv_xs g) (Int32.toNatClampNeg (x3 + 1)))] M N 0 0 (fun v M320 N320 => jv_ri v (fun r319 => vp_in (x3 + 1) (jv_L g) ∧ jv_Tg 10 a2 N320 ∧ jv_Ct g d mt_M_count [.ref a2, .int ((jv_xs g) (Int32.toNatClampNeg (x3 + 1)))] M320 N320 0 0 (fun v M324 N324 => jv_ri v (fun r323 => (r319 = r323 → jv_J g (d + 1) mt_L_law 18 [some (.retAddr 0), some (.ref a1), some (.ref a2), some (.int (x3 + 7))] [] M324 N324 cr sr Z) ∧ (¬ (r319 = r323) → Z (some (.int 0)) M324 N324)))))) ∧ (((((jv_xs g) (Int32.toNatClampNeg x3)) &&& 31) ≠ 0 ∧ (((jv_xs g) (Int32.toNatClampNeg x3)) &&& 31) ≠ 1 ∧ (((jv_xs g) (Int32.toNatClampNeg x3)) &&& 31) ≠ 2 ∧ (((jv_xs g) (Int32.toNatClampNeg x3)) &&& 31) ≠ 3 ∧ (((jv_xs g) (Int32.toNatClampNeg x3)) &&& 31) ≠ 4 ∧ (((jv_xs g) (Int32.toNatClampNeg x3)) &&& 31) ≠ 5 ∧ (((jv_xs g) (Int32.toNatClampNeg x3)) &&& 31) ≠ 6 ∧ (((jv_xs g) (Int32.toNatClampNeg x3)) &&& 31) ≠ 7 ∧ (((jv_xs g) (Int32.toNatClampNeg x3)) &&& 31) ≠ 8 ∧ (((jv_xs g) (Int32.toNatClampNeg x3)) &&& 31) ≠ 9 ∧ (((jv_xs g) (Int32.toNatClampNeg x3)) &&& 31) ≠ 10 ∧ (((jv_xs g) (Int32.toNatClampNeg x3)) &&& 31) ≠ 11 ∧ (((jv_xs g) (Int32.toNatClampNeg x3)) &&& 31) ≠ 12 ∧ (((jv_xs g) (Int32.toNatClampNeg x3)) &&& 31) ≠ 13 ∧ (((jv_xs g) (Int32.toNatClampNeg x3)) &&& 31) ≠ 14 ∧ (((jv_xs g) (Int32.toNatClampNeg x3)) &&& 31) ≠ 15 ∧ (((jv_xs g) (Int32.toNatClampNeg x3)) &&& 31) ≠ 16 ∧ (((jv_xs g) (Int32.toNatClampNeg x3)) &&& 31) ≠ 17 ∧ (((jv_xs g) (Int32.toNatClampNeg x3)) &&& 31) ≠ 18 ∧ (((jv_xs g) (Int32.toNatClampNeg x3)) &&& 31) ≠ 19 ∧ (((jv_xs g) (Int32.toNatClampNeg x3)) &&& 31) ≠ 20 ∧ (((jv_xs g) (Int32.toNatClampNeg x3)) &&& 31) ≠ 21 ∧ (((jv_xs g) (Int32.toNatClampNeg x3)) &&& 31) ≠ 22 ∧ (((jv_xs g) (Int32.toNatClampNeg x3)) &&& 31) ≠ 23 ∧ (((jv_xs g) (Int32.toNatClampNeg x3)) &&& 31) ≠ 24 ∧ (((jv_xs g) (Int32.toNatClampNeg x3)) &&& 31) ≠ 25 ∧ (((jv_xs g) (Int32.toNatClampNeg x3)) &&& 31) ≠ 26 ∧ (((jv_xs g) (Int32.toNatClampNeg x3)) &&& 31) ≠ 27 ∧ (((jv_xs g) (Int32.toNatClampNeg x3)) &&& 31) ≠ 28 ∧ (((jv_xs g) (Int32.toNatClampNeg x3)) &&& 31) ≠ 29 ∧ (((jv_xs g) (Int32.toNatClampNeg x3)) &&& 31) ≠ 30) → jv_J g (d + 1) mt_L_law 18 [some (.retAddr 0), some (.ref a1), some (.ref a2), some (.int (x3 + 7))] [] M N cr sr Z))) : jv_J g (d + 1) mt_L_law 18 [some (.retAddr 0), some (.ref a1), some (.ref a2), some (.int x3)] [] M N cr sr Z := by
  refine jv_iload_n d_L_law_18 rfl rfl ?_
  refine jv_aload_nR d_L_law_19 rfl rfl ?_
  refine jv_slen d_L_law_20 ?_
  refine jv_bipush (v := 7) d_L_law_21 (by decide) ?_
  refine jv_isub d_L_law_23 ?_
  refine jv_icmp_gt (tgt := 1122) d_L_law_24 (by decide) ⟨fun c => ?_, fun c => ?_⟩
  · replace h := h.1 c
    refine jv_iconst (v := 1) d_L_law_1122 (by decide) ?_
    exact jv_iret d_L_law_1123 rfl (jv_nz (by decide)) h
  · replace h := h.2 c
    refine jv_aload_nR d_L_law_27 rfl rfl ?_
    refine jv_iload_n d_L_law_28 rfl rfl ?_
    obtain ⟨q1, h⟩ := h
    refine jv_roald (f := (jv_xs g)) d_L_law_29 (Or.inl ⟨rfl, rfl, rfl⟩) q1 ?_
    refine jv_bipush (v := 31) d_L_law_30 (by decide) ?_
    refine jv_iand d_L_law_32 ?_
    have hD2 : ((((jv_xs g) (Int32.toNatClampNeg x3)) &&& 31) ≠ 0 ∧ (((jv_xs g) (Int32.toNatClampNeg x3)) &&& 31) ≠ 1 ∧ (((jv_xs g) (Int32.toNatClampNeg x3)) &&& 31) ≠ 2 ∧ (((jv_xs g) (Int32.toNatClampNeg x3)) &&& 31) ≠ 3 ∧ (((jv_xs g) (Int32.toNatClampNeg x3)) &&& 31) ≠ 4 ∧ (((jv_xs g) (Int32.toNatClampNeg x3)) &&& 31) ≠ 5 ∧ (((jv_xs g) (Int32.toNatClampNeg x3)) &&& 31) ≠ 6 ∧ (((jv_xs g) (Int32.toNatClampNeg x3)) &&& 31) ≠ 7 ∧ (((jv_xs g) (Int32.toNatClampNeg x3)) &&& 31) ≠ 8 ∧ (((jv_xs g) (Int32.toNatClampNeg x3)) &&& 31) ≠ 9 ∧ (((jv_xs g) (Int32.toNatClampNeg x3)) &&& 31) ≠ 10 ∧ (((jv_xs g) (Int32.toNatClampNeg x3)) &&& 31) ≠ 11 ∧ (((jv_xs g) (Int32.toNatClampNeg x3)) &&& 31) ≠ 12 ∧ (((jv_xs g) (Int32.toNatClampNeg x3)) &&& 31) ≠ 13 ∧ (((jv_xs g) (Int32.toNatClampNeg x3)) &&& 31) ≠ 14 ∧ (((jv_xs g) (Int32.toNatClampNeg x3)) &&& 31) ≠ 15 ∧ (((jv_xs g) (Int32.toNatClampNeg x3)) &&& 31) ≠ 16 ∧ (((jv_xs g) (Int32.toNatClampNeg x3)) &&& 31) ≠ 17 ∧ (((jv_xs g) (Int32.toNatClampNeg x3)) &&& 31) ≠ 18 ∧ (((jv_xs g) (Int32.toNatClampNeg x3)) &&& 31) ≠ 19 ∧ (((jv_xs g) (Int32.toNatClampNeg x3)) &&& 31) ≠ 20 ∧ (((jv_xs g) (Int32.toNatClampNeg x3)) &&& 31) ≠ 21 ∧ (((jv_xs g) (Int32.toNatClampNeg x3)) &&& 31) ≠ 22 ∧ (((jv_xs g) (Int32.toNatClampNeg x3)) &&& 31) ≠ 23 ∧ (((jv_xs g) (Int32.toNatClampNeg x3)) &&& 31) ≠ 24 ∧ (((jv_xs g) (Int32.toNatClampNeg x3)) &&& 31) ≠ 25 ∧ (((jv_xs g) (Int32.toNatClampNeg x3)) &&& 31) ≠ 26 ∧ (((jv_xs g) (Int32.toNatClampNeg x3)) &&& 31) ≠ 27 ∧ (((jv_xs g) (Int32.toNatClampNeg x3)) &&& 31) ≠ 28 ∧ (((jv_xs g) (Int32.toNatClampNeg x3)) &&& 31) ≠ 29 ∧ (((jv_xs g) (Int32.toNatClampNeg x3)) &&& 31) ≠ 30) → jv_J g (d + 1) mt_L_law 1116 [some (.retAddr 0), some (.ref a1), some (.ref a2), some (.int x3)] [] M N cr sr Z := by
      intro c
      replace h := h.2.2.2.2.2.2.2.2.2.2.2.2.2.2.2.2.2.2.2.2.2.2.2.2.2.2.2.2.2.2.2 c
      refine jv_iinc (v := (x3 + 7)) (L' := [some (.retAddr 0), some (.ref a1), some (.ref a2), some (.int (x3 + 7))]) d_L_law_1116 rfl rfl (Nat.le_of_ble_eq_true rfl) rfl ?_
      refine jv_goto (tgt := 18) d_L_law_1119 (by decide) ?_
      exact h
    refine jv_tsw (dt := 1116) [(0, 172), (1, 195), (2, 208), (3, 221), (4, 234), (5, 267), (6, 300), (7, 323), (8, 356), (9, 379), (10, 432), (11, 523), (12, 556), (13, 569), (14, 602), (15, 615), (16, 658), (17, 681), (18, 704), (19, 727), (20, 740), (21, 803), (22, 846), (23, 859), (24, 872), (25, 921), (26, 970), (27, 1024), (28, 1047), (29, 1070), (30, 1093)] d_L_law_33 (by decide) (by decide) (by decide) (fun q hq hx => ?_) (fun hq => ?_)
    · simp only [List.mem_cons, List.not_mem_nil, or_false] at hq
      rcases hq with rfl | rfl | rfl | rfl | rfl | rfl | rfl | rfl | rfl | rfl | rfl | rfl | rfl | rfl | rfl | rfl | rfl | rfl | rfl | rfl | rfl | rfl | rfl | rfl | rfl | rfl | rfl | rfl | rfl | rfl | rfl
      · replace h := h.1 hx
        refine jv_aload_n d_L_law_172 rfl rfl ?_
        refine jv_aload_nR d_L_law_173 rfl rfl ?_
        refine jv_iload_n d_L_law_174 rfl rfl ?_
        refine jv_iconst (v := 1) d_L_law_175 (by decide) ?_
        refine jv_iadd d_L_law_176 ?_
        obtain ⟨q3, h⟩ := h
        refine jv_roald (f := (jv_xs g)) d_L_law_177 (Or.inl ⟨rfl, rfl, rfl⟩) q3 ?_
        obtain ⟨q4, h⟩ := h
        refine jv_invV [.int ((jv_xs g) (Int32.toNatClampNeg (x3 + 1)))] [] d_L_law_178 ml_L_13 q4 rfl (Nat.le_of_ble_eq_true rfl) (Nat.zero_add _) (Nat.zero_add _) (jv_Ct.mono h (fun v M6 N6 h => ?_))
        obtain ⟨r5, rfl, h⟩ := h
        change jv_J g (d + 1) mt_L_law 181 [some (.retAddr 0), some (.ref a1), some (.ref a2), some (.int x3)] [.int r5] M6 N6 cr sr Z
        refine jv_aload_n d_L_law_181 rfl rfl ?_
        refine jv_aload_nR d_L_law_182 rfl rfl ?_
        refine jv_iload_n d_L_law_183 rfl rfl ?_
        refine jv_iconst (v := 1) d_L_law_184 (by decide) ?_
        refine jv_iadd d_L_law_185 ?_
        obtain ⟨q7, h⟩ := h
        refine jv_roald (f := (jv_xs g)) d_L_law_186 (Or.inl ⟨rfl, rfl, rfl⟩) q7 ?_
        obtain ⟨q8, h⟩ := h
        refine jv_invV [.int ((jv_xs g) (Int32.toNatClampNeg (x3 + 1)))] [.int r5] d_L_law_187 ml_L_17 q8 rfl (Nat.le_of_ble_eq_true rfl) (Nat.zero_add _) (Nat.zero_add _) (jv_Ct.mono h (fun v M10 N10 h => ?_))
        obtain ⟨r9, rfl, h⟩ := h
        change jv_J g (d + 1) mt_L_law 190 [some (.retAddr 0), some (.ref a1), some (.ref a2), some (.int x3)] [.int r9, .int r5] M10 N10 cr sr Z
        refine jv_icmp_eq (tgt := 1116) d_L_law_190 (by decide) ⟨fun c => ?_, fun c => ?_⟩
        · replace h := h.1 c
          refine jv_iinc (v := (x3 + 7)) (L' := [some (.retAddr 0), some (.ref a1), some (.ref a2), some (.int (x3 + 7))]) d_L_law_1116 rfl rfl (Nat.le_of_ble_eq_true rfl) rfl ?_
          refine jv_goto (tgt := 18) d_L_law_1119 (by decide) ?_
          exact h
        · replace h := h.2 c
          refine jv_iconst (v := 0) d_L_law_193 (by decide) ?_
          exact jv_iret d_L_law_194 rfl (jv_nz (by decide)) h
      · replace h := h.2.1 hx
        refine jv_aload_n d_L_law_195 rfl rfl ?_
        obtain ⟨q11, h⟩ := h
        refine jv_invV [] [] d_L_law_196 ml_L_18 q11 rfl (Nat.le_of_ble_eq_true rfl) (Nat.zero_add _) (Nat.zero_add _) (jv_Ct.mono h (fun v M13 N13 h => ?_))
        obtain ⟨r12, rfl, h⟩ := h
        change jv_J g (d + 1) mt_L_law 199 [some (.retAddr 0), some (.ref a1), some (.ref a2), some (.int x3)] [.int r12] M13 N13 cr sr Z
        refine jv_aload_n d_L_law_199 rfl rfl ?_
        obtain ⟨q14, h⟩ := h
        refine jv_invV [] [.int r12] d_L_law_200 ml_L_22 q14 rfl (Nat.le_of_ble_eq_true rfl) (Nat.zero_add _) (Nat.zero_add _) (jv_Ct.mono h (fun v M16 N16 h => ?_))
        obtain ⟨r15, rfl, h⟩ := h
        change jv_J g (d + 1) mt_L_law 203 [some (.retAddr 0), some (.ref a1), some (.ref a2), some (.int x3)] [.int r15, .int r12] M16 N16 cr sr Z
        refine jv_icmp_eq (tgt := 1116) d_L_law_203 (by decide) ⟨fun c => ?_, fun c => ?_⟩
        · replace h := h.1 c
          refine jv_iinc (v := (x3 + 7)) (L' := [some (.retAddr 0), some (.ref a1), some (.ref a2), some (.int (x3 + 7))]) d_L_law_1116 rfl rfl (Nat.le_of_ble_eq_true rfl) rfl ?_
          refine jv_goto (tgt := 18) d_L_law_1119 (by decide) ?_
          exact h
        · replace h := h.2 c
          refine jv_iconst (v := 0) d_L_law_206 (by decide) ?_
          exact jv_iret d_L_law_207 rfl (jv_nz (by decide)) h
      · replace h := h.2.2.1 hx
        refine jv_aload_n d_L_law_208 rfl rfl ?_
        obtain ⟨q17, h⟩ := h
        refine jv_invV [] [] d_L_law_209 ml_L_23 q17 rfl (Nat.le_of_ble_eq_true rfl) (Nat.zero_add _) (Nat.zero_add _) (jv_Ct.mono h (fun v M19 N19 h => ?_))
        obtain ⟨r18, rfl, h⟩ := h
        change jv_J g (d + 1) mt_L_law 212 [some (.retAddr 0), some (.ref a1), some (.ref a2), some (.int x3)] [.int r18] M19 N19 cr sr Z
        refine jv_aload_n d_L_law_212 rfl rfl ?_
        obtain ⟨q20, h⟩ := h
        refine jv_invV [] [.int r18] d_L_law_213 ml_L_26 q20 rfl (Nat.le_of_ble_eq_true rfl) (Nat.zero_add _) (Nat.zero_add _) (jv_Ct.mono h (fun v M22 N22 h => ?_))
        obtain ⟨r21, rfl, h⟩ := h
        change jv_J g (d + 1) mt_L_law 216 [some (.retAddr 0), some (.ref a1), some (.ref a2), some (.int x3)] [.int r21, .int r18] M22 N22 cr sr Z
        refine jv_icmp_eq (tgt := 1116) d_L_law_216 (by decide) ⟨fun c => ?_, fun c => ?_⟩
        · replace h := h.1 c
          refine jv_iinc (v := (x3 + 7)) (L' := [some (.retAddr 0), some (.ref a1), some (.ref a2), some (.int (x3 + 7))]) d_L_law_1116 rfl rfl (Nat.le_of_ble_eq_true rfl) rfl ?_
          refine jv_goto (tgt := 18) d_L_law_1119 (by decide) ?_
          exact h
        · replace h := h.2 c
          refine jv_iconst (v := 0) d_L_law_219 (by decide) ?_
          exact jv_iret d_L_law_220 rfl (jv_nz (by decide)) h
      · replace h := h.2.2.2.1 hx
        refine jv_aload_n d_L_law_221 rfl rfl ?_
        obtain ⟨q23, h⟩ := h
        refine jv_invV [] [] d_L_law_222 ml_L_27 q23 rfl (Nat.le_of_ble_eq_true rfl) (Nat.zero_add _) (Nat.zero_add _) (jv_Ct.mono h (fun v M25 N25 h => ?_))
        obtain ⟨r24, rfl, h⟩ := h
        change jv_J g (d + 1) mt_L_law 225 [some (.retAddr 0), some (.ref a1), some (.ref a2), some (.int x3)] [.int r24] M25 N25 cr sr Z
        refine jv_aload_n d_L_law_225 rfl rfl ?_
        obtain ⟨q26, h⟩ := h
        refine jv_invV [] [.int r24] d_L_law_226 ml_L_30 q26 rfl (Nat.le_of_ble_eq_true rfl) (Nat.zero_add _) (Nat.zero_add _) (jv_Ct.mono h (fun v M28 N28 h => ?_))
        obtain ⟨r27, rfl, h⟩ := h
        change jv_J g (d + 1) mt_L_law 229 [some (.retAddr 0), some (.ref a1), some (.ref a2), some (.int x3)] [.int r27, .int r24] M28 N28 cr sr Z
        refine jv_icmp_eq (tgt := 1116) d_L_law_229 (by decide) ⟨fun c => ?_, fun c => ?_⟩
        · replace h := h.1 c
          refine jv_iinc (v := (x3 + 7)) (L' := [some (.retAddr 0), some (.ref a1), some (.ref a2), some (.int (x3 + 7))]) d_L_law_1116 rfl rfl (Nat.le_of_ble_eq_true rfl) rfl ?_
          refine jv_goto (tgt := 18) d_L_law_1119 (by decide) ?_
          exact h
        · replace h := h.2 c
          refine jv_iconst (v := 0) d_L_law_232 (by decide) ?_
          exact jv_iret d_L_law_233 rfl (jv_nz (by decide)) h
      · replace h := h.2.2.2.2.1 hx
        refine jv_aload_n d_L_law_234 rfl rfl ?_
        refine jv_aload_nR d_L_law_235 rfl rfl ?_
        refine jv_iload_n d_L_law_236 rfl rfl ?_
        refine jv_iconst (v := 1) d_L_law_237 (by decide) ?_
        refine jv_iadd d_L_law_238 ?_
        obtain ⟨q29, h⟩ := h
        refine jv_roald (f := (jv_xs g)) d_L_law_239 (Or.inl ⟨rfl, rfl, rfl⟩) q29 ?_
        refine jv_aload_nR d_L_law_240 rfl rfl ?_
        refine jv_iload_n d_L_law_241 rfl rfl ?_
        refine jv_iconst (v := 2) d_L_law_242 (by decide) ?_
        refine jv_iadd d_L_law_243 ?_
        obtain ⟨q30, h⟩ := h
        refine jv_roald (f := (jv_xs g)) d_L_law_244 (Or.inl ⟨rfl, rfl, rfl⟩) q30 ?_
        obtain ⟨q31, h⟩ := h
        refine jv_invV [.int ((jv_xs g) (Int32.toNatClampNeg (x3 + 1))), .int ((jv_xs g) (Int32.toNatClampNeg (x3 + 2)))] [] d_L_law_245 ml_L_31 q31 rfl (Nat.le_of_ble_eq_true rfl) (Nat.zero_add _) (Nat.zero_add _) (jv_Ct.mono h (fun v M33 N33 h => ?_))
        obtain ⟨r32, rfl, h⟩ := h
        change jv_J g (d + 1) mt_L_law 248 [some (.retAddr 0), some (.ref a1), some (.ref a2), some (.int x3)] [.int r32] M33 N33 cr sr Z
        refine jv_aload_n d_L_law_248 rfl rfl ?_
        refine jv_aload_nR d_L_law_249 rfl rfl ?_
        refine jv_iload_n d_L_law_250 rfl rfl ?_
        refine jv_iconst (v := 1) d_L_law_251 (by decide) ?_
        refine jv_iadd d_L_law_252 ?_
        obtain ⟨q34, h⟩ := h
        refine jv_roald (f := (jv_xs g)) d_L_law_253 (Or.inl ⟨rfl, rfl, rfl⟩) q34 ?_
        refine jv_aload_nR d_L_law_254 rfl rfl ?_
        refine jv_iload_n d_L_law_255 rfl rfl ?_
        refine jv_iconst (v := 2) d_L_law_256 (by decide) ?_
        refine jv_iadd d_L_law_257 ?_
        obtain ⟨q35, h⟩ := h
        refine jv_roald (f := (jv_xs g)) d_L_law_258 (Or.inl ⟨rfl, rfl, rfl⟩) q35 ?_
        obtain ⟨q36, h⟩ := h
        refine jv_invV [.int ((jv_xs g) (Int32.toNatClampNeg (x3 + 1))), .int ((jv_xs g) (Int32.toNatClampNeg (x3 + 2)))] [.int r32] d_L_law_259 ml_L_35 q36 rfl (Nat.le_of_ble_eq_true rfl) (Nat.zero_add _) (Nat.zero_add _) (jv_Ct.mono h (fun v M38 N38 h => ?_))
        obtain ⟨r37, rfl, h⟩ := h
        change jv_J g (d + 1) mt_L_law 262 [some (.retAddr 0), some (.ref a1), some (.ref a2), some (.int x3)] [.int r37, .int r32] M38 N38 cr sr Z
        refine jv_icmp_eq (tgt := 1116) d_L_law_262 (by decide) ⟨fun c => ?_, fun c => ?_⟩
        · replace h := h.1 c
          refine jv_iinc (v := (x3 + 7)) (L' := [some (.retAddr 0), some (.ref a1), some (.ref a2), some (.int (x3 + 7))]) d_L_law_1116 rfl rfl (Nat.le_of_ble_eq_true rfl) rfl ?_
          refine jv_goto (tgt := 18) d_L_law_1119 (by decide) ?_
          exact h
        · replace h := h.2 c
          refine jv_iconst (v := 0) d_L_law_265 (by decide) ?_
          exact jv_iret d_L_law_266 rfl (jv_nz (by decide)) h
      · replace h := h.2.2.2.2.2.1 hx
        refine jv_aload_n d_L_law_267 rfl rfl ?_
        refine jv_aload_nR d_L_law_268 rfl rfl ?_
        refine jv_iload_n d_L_law_269 rfl rfl ?_
        refine jv_iconst (v := 1) d_L_law_270 (by decide) ?_
        refine jv_iadd d_L_law_271 ?_
        obtain ⟨q39, h⟩ := h
        refine jv_roald (f := (jv_xs g)) d_L_law_272 (Or.inl ⟨rfl, rfl, rfl⟩) q39 ?_
        refine jv_aload_nR d_L_law_273 rfl rfl ?_
        refine jv_iload_n d_L_law_274 rfl rfl ?_
        refine jv_iconst (v := 2) d_L_law_275 (by decide) ?_
        refine jv_iadd d_L_law_276 ?_
        obtain ⟨q40, h⟩ := h
        refine jv_roald (f := (jv_xs g)) d_L_law_277 (Or.inl ⟨rfl, rfl, rfl⟩) q40 ?_
        obtain ⟨q41, h⟩ := h
        refine jv_invV [.int ((jv_xs g) (Int32.toNatClampNeg (x3 + 1))), .int ((jv_xs g) (Int32.toNatClampNeg (x3 + 2)))] [] d_L_law_278 ml_L_36 q41 rfl (Nat.le_of_ble_eq_true rfl) (Nat.zero_add _) (Nat.zero_add _) (jv_Ct.mono h (fun v M43 N43 h => ?_))
        obtain ⟨r42, rfl, h⟩ := h
        change jv_J g (d + 1) mt_L_law 281 [some (.retAddr 0), some (.ref a1), some (.ref a2), some (.int x3)] [.int r42] M43 N43 cr sr Z
        refine jv_aload_n d_L_law_281 rfl rfl ?_
        refine jv_aload_nR d_L_law_282 rfl rfl ?_
        refine jv_iload_n d_L_law_283 rfl rfl ?_
        refine jv_iconst (v := 1) d_L_law_284 (by decide) ?_
        refine jv_iadd d_L_law_285 ?_
        obtain ⟨q44, h⟩ := h
        refine jv_roald (f := (jv_xs g)) d_L_law_286 (Or.inl ⟨rfl, rfl, rfl⟩) q44 ?_
        refine jv_aload_nR d_L_law_287 rfl rfl ?_
        refine jv_iload_n d_L_law_288 rfl rfl ?_
        refine jv_iconst (v := 2) d_L_law_289 (by decide) ?_
        refine jv_iadd d_L_law_290 ?_
        obtain ⟨q45, h⟩ := h
        refine jv_roald (f := (jv_xs g)) d_L_law_291 (Or.inl ⟨rfl, rfl, rfl⟩) q45 ?_
        obtain ⟨q46, h⟩ := h
        refine jv_invV [.int ((jv_xs g) (Int32.toNatClampNeg (x3 + 1))), .int ((jv_xs g) (Int32.toNatClampNeg (x3 + 2)))] [.int r42] d_L_law_292 ml_L_39 q46 rfl (Nat.le_of_ble_eq_true rfl) (Nat.zero_add _) (Nat.zero_add _) (jv_Ct.mono h (fun v M48 N48 h => ?_))
        obtain ⟨r47, rfl, h⟩ := h
        change jv_J g (d + 1) mt_L_law 295 [some (.retAddr 0), some (.ref a1), some (.ref a2), some (.int x3)] [.int r47, .int r42] M48 N48 cr sr Z
        refine jv_icmp_eq (tgt := 1116) d_L_law_295 (by decide) ⟨fun c => ?_, fun c => ?_⟩
        · replace h := h.1 c
          refine jv_iinc (v := (x3 + 7)) (L' := [some (.retAddr 0), some (.ref a1), some (.ref a2), some (.int (x3 + 7))]) d_L_law_1116 rfl rfl (Nat.le_of_ble_eq_true rfl) rfl ?_
          refine jv_goto (tgt := 18) d_L_law_1119 (by decide) ?_
          exact h
        · replace h := h.2 c
          refine jv_iconst (v := 0) d_L_law_298 (by decide) ?_
          exact jv_iret d_L_law_299 rfl (jv_nz (by decide)) h
      · replace h := h.2.2.2.2.2.2.1 hx
        refine jv_aload_n d_L_law_300 rfl rfl ?_
        refine jv_aload_nR d_L_law_301 rfl rfl ?_
        refine jv_iload_n d_L_law_302 rfl rfl ?_
        refine jv_iconst (v := 1) d_L_law_303 (by decide) ?_
        refine jv_iadd d_L_law_304 ?_
        obtain ⟨q49, h⟩ := h
        refine jv_roald (f := (jv_xs g)) d_L_law_305 (Or.inl ⟨rfl, rfl, rfl⟩) q49 ?_
        obtain ⟨q50, h⟩ := h
        refine jv_invV [.int ((jv_xs g) (Int32.toNatClampNeg (x3 + 1)))] [] d_L_law_306 ml_L_40 q50 rfl (Nat.le_of_ble_eq_true rfl) (Nat.zero_add _) (Nat.zero_add _) (jv_Ct.mono h (fun v M52 N52 h => ?_))
        obtain ⟨r51, rfl, h⟩ := h
        change jv_J g (d + 1) mt_L_law 309 [some (.retAddr 0), some (.ref a1), some (.ref a2), some (.int x3)] [.int r51] M52 N52 cr sr Z
        refine jv_aload_n d_L_law_309 rfl rfl ?_
        refine jv_aload_nR d_L_law_310 rfl rfl ?_
        refine jv_iload_n d_L_law_311 rfl rfl ?_
        refine jv_iconst (v := 1) d_L_law_312 (by decide) ?_
        refine jv_iadd d_L_law_313 ?_
        obtain ⟨q53, h⟩ := h
        refine jv_roald (f := (jv_xs g)) d_L_law_314 (Or.inl ⟨rfl, rfl, rfl⟩) q53 ?_
        obtain ⟨q54, h⟩ := h
        refine jv_invV [.int ((jv_xs g) (Int32.toNatClampNeg (x3 + 1)))] [.int r51] d_L_law_315 ml_L_43 q54 rfl (Nat.le_of_ble_eq_true rfl) (Nat.zero_add _) (Nat.zero_add _) (jv_Ct.mono h (fun v M56 N56 h => ?_))
        obtain ⟨r55, rfl, h⟩ := h
        change jv_J g (d + 1) mt_L_law 318 [some (.retAddr 0), some (.ref a1), some (.ref a2), some (.int x3)] [.int r55, .int r51] M56 N56 cr sr Z
        refine jv_icmp_eq (tgt := 1116) d_L_law_318 (by decide) ⟨fun c => ?_, fun c => ?_⟩
        · replace h := h.1 c
          refine jv_iinc (v := (x3 + 7)) (L' := [some (.retAddr 0), some (.ref a1), some (.ref a2), some (.int (x3 + 7))]) d_L_law_1116 rfl rfl (Nat.le_of_ble_eq_true rfl) rfl ?_
          refine jv_goto (tgt := 18) d_L_law_1119 (by decide) ?_
          exact h
        · replace h := h.2 c
          refine jv_iconst (v := 0) d_L_law_321 (by decide) ?_
          exact jv_iret d_L_law_322 rfl (jv_nz (by decide)) h
      · replace h := h.2.2.2.2.2.2.2.1 hx
        refine jv_aload_n d_L_law_323 rfl rfl ?_
        refine jv_aload_nR d_L_law_324 rfl rfl ?_
        refine jv_iload_n d_L_law_325 rfl rfl ?_
        refine jv_iconst (v := 1) d_L_law_326 (by decide) ?_
        refine jv_iadd d_L_law_327 ?_
        obtain ⟨q57, h⟩ := h
        refine jv_roald (f := (jv_xs g)) d_L_law_328 (Or.inl ⟨rfl, rfl, rfl⟩) q57 ?_
        refine jv_aload_nR d_L_law_329 rfl rfl ?_
        refine jv_iload_n d_L_law_330 rfl rfl ?_
        refine jv_iconst (v := 2) d_L_law_331 (by decide) ?_
        refine jv_iadd d_L_law_332 ?_
        obtain ⟨q58, h⟩ := h
        refine jv_roald (f := (jv_xs g)) d_L_law_333 (Or.inl ⟨rfl, rfl, rfl⟩) q58 ?_
        obtain ⟨q59, h⟩ := h
        refine jv_invV [.int ((jv_xs g) (Int32.toNatClampNeg (x3 + 1))), .int ((jv_xs g) (Int32.toNatClampNeg (x3 + 2)))] [] d_L_law_334 ml_L_44 q59 rfl (Nat.le_of_ble_eq_true rfl) (Nat.zero_add _) (Nat.zero_add _) (jv_Ct.mono h (fun v M61 N61 h => ?_))
        obtain ⟨r60, rfl, h⟩ := h
        change jv_J g (d + 1) mt_L_law 337 [some (.retAddr 0), some (.ref a1), some (.ref a2), some (.int x3)] [.int r60] M61 N61 cr sr Z
        refine jv_aload_n d_L_law_337 rfl rfl ?_
        refine jv_aload_nR d_L_law_338 rfl rfl ?_
        refine jv_iload_n d_L_law_339 rfl rfl ?_
        refine jv_iconst (v := 1) d_L_law_340 (by decide) ?_
        refine jv_iadd d_L_law_341 ?_
        obtain ⟨q62, h⟩ := h
        refine jv_roald (f := (jv_xs g)) d_L_law_342 (Or.inl ⟨rfl, rfl, rfl⟩) q62 ?_
        refine jv_aload_nR d_L_law_343 rfl rfl ?_
        refine jv_iload_n d_L_law_344 rfl rfl ?_
        refine jv_iconst (v := 2) d_L_law_345 (by decide) ?_
        refine jv_iadd d_L_law_346 ?_
        obtain ⟨q63, h⟩ := h
        refine jv_roald (f := (jv_xs g)) d_L_law_347 (Or.inl ⟨rfl, rfl, rfl⟩) q63 ?_
        obtain ⟨q64, h⟩ := h
        refine jv_invV [.int ((jv_xs g) (Int32.toNatClampNeg (x3 + 1))), .int ((jv_xs g) (Int32.toNatClampNeg (x3 + 2)))] [.int r60] d_L_law_348 ml_L_47 q64 rfl (Nat.le_of_ble_eq_true rfl) (Nat.zero_add _) (Nat.zero_add _) (jv_Ct.mono h (fun v M66 N66 h => ?_))
        obtain ⟨r65, rfl, h⟩ := h
        change jv_J g (d + 1) mt_L_law 351 [some (.retAddr 0), some (.ref a1), some (.ref a2), some (.int x3)] [.int r65, .int r60] M66 N66 cr sr Z
        refine jv_icmp_eq (tgt := 1116) d_L_law_351 (by decide) ⟨fun c => ?_, fun c => ?_⟩
        · replace h := h.1 c
          refine jv_iinc (v := (x3 + 7)) (L' := [some (.retAddr 0), some (.ref a1), some (.ref a2), some (.int (x3 + 7))]) d_L_law_1116 rfl rfl (Nat.le_of_ble_eq_true rfl) rfl ?_
          refine jv_goto (tgt := 18) d_L_law_1119 (by decide) ?_
          exact h
        · replace h := h.2 c
          refine jv_iconst (v := 0) d_L_law_354 (by decide) ?_
          exact jv_iret d_L_law_355 rfl (jv_nz (by decide)) h
      · replace h := h.2.2.2.2.2.2.2.2.1 hx
        refine jv_aload_n d_L_law_356 rfl rfl ?_
        refine jv_aload_nR d_L_law_357 rfl rfl ?_
        refine jv_iload_n d_L_law_358 rfl rfl ?_
        refine jv_iconst (v := 1) d_L_law_359 (by decide) ?_
        refine jv_iadd d_L_law_360 ?_
        obtain ⟨q67, h⟩ := h
        refine jv_roald (f := (jv_xs g)) d_L_law_361 (Or.inl ⟨rfl, rfl, rfl⟩) q67 ?_
        obtain ⟨q68, h⟩ := h
        refine jv_invV [.int ((jv_xs g) (Int32.toNatClampNeg (x3 + 1)))] [] d_L_law_362 ml_L_48 q68 rfl (Nat.le_of_ble_eq_true rfl) (Nat.zero_add _) (Nat.zero_add _) (jv_Ct.mono h (fun v M70 N70 h => ?_))
        obtain ⟨r69, rfl, h⟩ := h
        change jv_J g (d + 1) mt_L_law 365 [some (.retAddr 0), some (.ref a1), some (.ref a2), some (.int x3)] [.int r69] M70 N70 cr sr Z
        refine jv_aload_n d_L_law_365 rfl rfl ?_
        refine jv_aload_nR d_L_law_366 rfl rfl ?_
        refine jv_iload_n d_L_law_367 rfl rfl ?_
        refine jv_iconst (v := 1) d_L_law_368 (by decide) ?_
        refine jv_iadd d_L_law_369 ?_
        obtain ⟨q71, h⟩ := h
        refine jv_roald (f := (jv_xs g)) d_L_law_370 (Or.inl ⟨rfl, rfl, rfl⟩) q71 ?_
        obtain ⟨q72, h⟩ := h
        refine jv_invV [.int ((jv_xs g) (Int32.toNatClampNeg (x3 + 1)))] [.int r69] d_L_law_371 ml_L_51 q72 rfl (Nat.le_of_ble_eq_true rfl) (Nat.zero_add _) (Nat.zero_add _) (jv_Ct.mono h (fun v M74 N74 h => ?_))
        obtain ⟨r73, rfl, h⟩ := h
        change jv_J g (d + 1) mt_L_law 374 [some (.retAddr 0), some (.ref a1), some (.ref a2), some (.int x3)] [.int r73, .int r69] M74 N74 cr sr Z
        refine jv_icmp_eq (tgt := 1116) d_L_law_374 (by decide) ⟨fun c => ?_, fun c => ?_⟩
        · replace h := h.1 c
          refine jv_iinc (v := (x3 + 7)) (L' := [some (.retAddr 0), some (.ref a1), some (.ref a2), some (.int (x3 + 7))]) d_L_law_1116 rfl rfl (Nat.le_of_ble_eq_true rfl) rfl ?_
          refine jv_goto (tgt := 18) d_L_law_1119 (by decide) ?_
          exact h
        · replace h := h.2 c
          refine jv_iconst (v := 0) d_L_law_377 (by decide) ?_
          exact jv_iret d_L_law_378 rfl (jv_nz (by decide)) h
      · replace h := h.2.2.2.2.2.2.2.2.2.1 hx
        refine jv_aload_n d_L_law_379 rfl rfl ?_
        refine jv_aload_nR d_L_law_380 rfl rfl ?_
        refine jv_iload_n d_L_law_381 rfl rfl ?_
        refine jv_iconst (v := 1) d_L_law_382 (by decide) ?_
        refine jv_iadd d_L_law_383 ?_
        obtain ⟨q75, h⟩ := h
        refine jv_roald (f := (jv_xs g)) d_L_law_384 (Or.inl ⟨rfl, rfl, rfl⟩) q75 ?_
        refine jv_aload_nR d_L_law_385 rfl rfl ?_
        refine jv_iload_n d_L_law_386 rfl rfl ?_
        refine jv_iconst (v := 2) d_L_law_387 (by decide) ?_
        refine jv_iadd d_L_law_388 ?_
        obtain ⟨q76, h⟩ := h
        refine jv_roald (f := (jv_xs g)) d_L_law_389 (Or.inl ⟨rfl, rfl, rfl⟩) q76 ?_
        refine jv_aload_nR d_L_law_390 rfl rfl ?_
        refine jv_iload_n d_L_law_391 rfl rfl ?_
        refine jv_iconst (v := 3) d_L_law_392 (by decide) ?_
        refine jv_iadd d_L_law_393 ?_
        obtain ⟨q77, h⟩ := h
        refine jv_roald (f := (jv_xs g)) d_L_law_394 (Or.inl ⟨rfl, rfl, rfl⟩) q77 ?_
        refine jv_aload_nR d_L_law_395 rfl rfl ?_
        refine jv_iload_n d_L_law_396 rfl rfl ?_
        refine jv_iconst (v := 4) d_L_law_397 (by decide) ?_
        refine jv_iadd d_L_law_398 ?_
        obtain ⟨q78, h⟩ := h
        refine jv_roald (f := (jv_xs g)) d_L_law_399 (Or.inl ⟨rfl, rfl, rfl⟩) q78 ?_
        obtain ⟨q79, h⟩ := h
        refine jv_invV [.int ((jv_xs g) (Int32.toNatClampNeg (x3 + 1))), .int ((jv_xs g) (Int32.toNatClampNeg (x3 + 2))), .int ((jv_xs g) (Int32.toNatClampNeg (x3 + 3))), .int ((jv_xs g) (Int32.toNatClampNeg (x3 + 4)))] [] d_L_law_400 ml_L_52 q79 rfl (Nat.le_of_ble_eq_true rfl) (Nat.zero_add _) (Nat.zero_add _) (jv_Ct.mono h (fun v M81 N81 h => ?_))
        obtain ⟨r80, rfl, h⟩ := h
        change jv_J g (d + 1) mt_L_law 403 [some (.retAddr 0), some (.ref a1), some (.ref a2), some (.int x3)] [.int r80] M81 N81 cr sr Z
        refine jv_aload_n d_L_law_403 rfl rfl ?_
        refine jv_aload_nR d_L_law_404 rfl rfl ?_
        refine jv_iload_n d_L_law_405 rfl rfl ?_
        refine jv_iconst (v := 1) d_L_law_406 (by decide) ?_
        refine jv_iadd d_L_law_407 ?_
        obtain ⟨q82, h⟩ := h
        refine jv_roald (f := (jv_xs g)) d_L_law_408 (Or.inl ⟨rfl, rfl, rfl⟩) q82 ?_
        refine jv_aload_nR d_L_law_409 rfl rfl ?_
        refine jv_iload_n d_L_law_410 rfl rfl ?_
        refine jv_iconst (v := 2) d_L_law_411 (by decide) ?_
        refine jv_iadd d_L_law_412 ?_
        obtain ⟨q83, h⟩ := h
        refine jv_roald (f := (jv_xs g)) d_L_law_413 (Or.inl ⟨rfl, rfl, rfl⟩) q83 ?_
        refine jv_aload_nR d_L_law_414 rfl rfl ?_
        refine jv_iload_n d_L_law_415 rfl rfl ?_
        refine jv_iconst (v := 3) d_L_law_416 (by decide) ?_
        refine jv_iadd d_L_law_417 ?_
        obtain ⟨q84, h⟩ := h
        refine jv_roald (f := (jv_xs g)) d_L_law_418 (Or.inl ⟨rfl, rfl, rfl⟩) q84 ?_
        refine jv_aload_nR d_L_law_419 rfl rfl ?_
        refine jv_iload_n d_L_law_420 rfl rfl ?_
        refine jv_iconst (v := 4) d_L_law_421 (by decide) ?_
        refine jv_iadd d_L_law_422 ?_
        obtain ⟨q85, h⟩ := h
        refine jv_roald (f := (jv_xs g)) d_L_law_423 (Or.inl ⟨rfl, rfl, rfl⟩) q85 ?_
        obtain ⟨q86, h⟩ := h
        refine jv_invV [.int ((jv_xs g) (Int32.toNatClampNeg (x3 + 1))), .int ((jv_xs g) (Int32.toNatClampNeg (x3 + 2))), .int ((jv_xs g) (Int32.toNatClampNeg (x3 + 3))), .int ((jv_xs g) (Int32.toNatClampNeg (x3 + 4)))] [.int r80] d_L_law_424 ml_L_56 q86 rfl (Nat.le_of_ble_eq_true rfl) (Nat.zero_add _) (Nat.zero_add _) (jv_Ct.mono h (fun v M88 N88 h => ?_))
        obtain ⟨r87, rfl, h⟩ := h
        change jv_J g (d + 1) mt_L_law 427 [some (.retAddr 0), some (.ref a1), some (.ref a2), some (.int x3)] [.int r87, .int r80] M88 N88 cr sr Z
        refine jv_icmp_eq (tgt := 1116) d_L_law_427 (by decide) ⟨fun c => ?_, fun c => ?_⟩
        · replace h := h.1 c
          refine jv_iinc (v := (x3 + 7)) (L' := [some (.retAddr 0), some (.ref a1), some (.ref a2), some (.int (x3 + 7))]) d_L_law_1116 rfl rfl (Nat.le_of_ble_eq_true rfl) rfl ?_
          refine jv_goto (tgt := 18) d_L_law_1119 (by decide) ?_
          exact h
        · replace h := h.2 c
          refine jv_iconst (v := 0) d_L_law_430 (by decide) ?_
          exact jv_iret d_L_law_431 rfl (jv_nz (by decide)) h
      · replace h := h.2.2.2.2.2.2.2.2.2.2.1 hx
        refine jv_aload_n d_L_law_432 rfl rfl ?_
        refine jv_aload_nR d_L_law_433 rfl rfl ?_
        refine jv_iload_n d_L_law_434 rfl rfl ?_
        refine jv_iconst (v := 1) d_L_law_435 (by decide) ?_
        refine jv_iadd d_L_law_436 ?_
        obtain ⟨q89, h⟩ := h
        refine jv_roald (f := (jv_xs g)) d_L_law_437 (Or.inl ⟨rfl, rfl, rfl⟩) q89 ?_
        refine jv_aload_nR d_L_law_438 rfl rfl ?_
        refine jv_iload_n d_L_law_439 rfl rfl ?_
        refine jv_iconst (v := 2) d_L_law_440 (by decide) ?_
        refine jv_iadd d_L_law_441 ?_
        obtain ⟨q90, h⟩ := h
        refine jv_roald (f := (jv_xs g)) d_L_law_442 (Or.inl ⟨rfl, rfl, rfl⟩) q90 ?_
        refine jv_aload_nR d_L_law_443 rfl rfl ?_
        refine jv_iload_n d_L_law_444 rfl rfl ?_
        refine jv_iconst (v := 3) d_L_law_445 (by decide) ?_
        refine jv_iadd d_L_law_446 ?_
        obtain ⟨q91, h⟩ := h
        refine jv_roald (f := (jv_xs g)) d_L_law_447 (Or.inl ⟨rfl, rfl, rfl⟩) q91 ?_
        refine jv_aload_nR d_L_law_448 rfl rfl ?_
        refine jv_iload_n d_L_law_449 rfl rfl ?_
        refine jv_iconst (v := 4) d_L_law_450 (by decide) ?_
        refine jv_iadd d_L_law_451 ?_
        obtain ⟨q92, h⟩ := h
        refine jv_roald (f := (jv_xs g)) d_L_law_452 (Or.inl ⟨rfl, rfl, rfl⟩) q92 ?_
        refine jv_aload_nR d_L_law_453 rfl rfl ?_
        refine jv_iload_n d_L_law_454 rfl rfl ?_
        refine jv_iconst (v := 5) d_L_law_455 (by decide) ?_
        refine jv_iadd d_L_law_456 ?_
        obtain ⟨q93, h⟩ := h
        refine jv_roald (f := (jv_xs g)) d_L_law_457 (Or.inl ⟨rfl, rfl, rfl⟩) q93 ?_
        refine jv_aload_nR d_L_law_458 rfl rfl ?_
        refine jv_iload_n d_L_law_459 rfl rfl ?_
        refine jv_bipush (v := 6) d_L_law_460 (by decide) ?_
        refine jv_iadd d_L_law_462 ?_
        obtain ⟨q94, h⟩ := h
        refine jv_roald (f := (jv_xs g)) d_L_law_463 (Or.inl ⟨rfl, rfl, rfl⟩) q94 ?_
        refine jv_if_eq (tgt := 471) d_L_law_464 (by decide) ⟨fun c => ?_, fun c => ?_⟩
        · replace h := h.1 c
          refine jv_iconst (v := 0) d_L_law_471 (by decide) ?_
          obtain ⟨q95, h⟩ := h
          refine jv_invV [.int ((jv_xs g) (Int32.toNatClampNeg (x3 + 1))), .int ((jv_xs g) (Int32.toNatClampNeg (x3 + 2))), .int ((jv_xs g) (Int32.toNatClampNeg (x3 + 3))), .int ((jv_xs g) (Int32.toNatClampNeg (x3 + 4))), .int ((jv_xs g) (Int32.toNatClampNeg (x3 + 5))), .int 0] [] d_L_law_472 ml_L_57 q95 rfl (Nat.le_of_ble_eq_true rfl) (Nat.zero_add _) (Nat.zero_add _) (jv_Ct.mono h (fun v M97 N97 h => ?_))
          obtain ⟨r96, rfl, h⟩ := h
          change jv_J g (d + 1) mt_L_law 475 [some (.retAddr 0), some (.ref a1), some (.ref a2), some (.int x3)] [.int r96] M97 N97 cr sr Z
          refine jv_aload_n d_L_law_475 rfl rfl ?_
          refine jv_aload_nR d_L_law_476 rfl rfl ?_
          refine jv_iload_n d_L_law_477 rfl rfl ?_
          refine jv_iconst (v := 1) d_L_law_478 (by decide) ?_
          refine jv_iadd d_L_law_479 ?_
          obtain ⟨q98, h⟩ := h
          refine jv_roald (f := (jv_xs g)) d_L_law_480 (Or.inl ⟨rfl, rfl, rfl⟩) q98 ?_
          refine jv_aload_nR d_L_law_481 rfl rfl ?_
          refine jv_iload_n d_L_law_482 rfl rfl ?_
          refine jv_iconst (v := 2) d_L_law_483 (by decide) ?_
          refine jv_iadd d_L_law_484 ?_
          obtain ⟨q99, h⟩ := h
          refine jv_roald (f := (jv_xs g)) d_L_law_485 (Or.inl ⟨rfl, rfl, rfl⟩) q99 ?_
          refine jv_aload_nR d_L_law_486 rfl rfl ?_
          refine jv_iload_n d_L_law_487 rfl rfl ?_
          refine jv_iconst (v := 3) d_L_law_488 (by decide) ?_
          refine jv_iadd d_L_law_489 ?_
          obtain ⟨q100, h⟩ := h
          refine jv_roald (f := (jv_xs g)) d_L_law_490 (Or.inl ⟨rfl, rfl, rfl⟩) q100 ?_
          refine jv_aload_nR d_L_law_491 rfl rfl ?_
          refine jv_iload_n d_L_law_492 rfl rfl ?_
          refine jv_iconst (v := 4) d_L_law_493 (by decide) ?_
          refine jv_iadd d_L_law_494 ?_
          obtain ⟨q101, h⟩ := h
          refine jv_roald (f := (jv_xs g)) d_L_law_495 (Or.inl ⟨rfl, rfl, rfl⟩) q101 ?_
          refine jv_aload_nR d_L_law_496 rfl rfl ?_
          refine jv_iload_n d_L_law_497 rfl rfl ?_
          refine jv_iconst (v := 5) d_L_law_498 (by decide) ?_
          refine jv_iadd d_L_law_499 ?_
          obtain ⟨q102, h⟩ := h
          refine jv_roald (f := (jv_xs g)) d_L_law_500 (Or.inl ⟨rfl, rfl, rfl⟩) q102 ?_
          refine jv_aload_nR d_L_law_501 rfl rfl ?_
          refine jv_iload_n d_L_law_502 rfl rfl ?_
          refine jv_bipush (v := 6) d_L_law_503 (by decide) ?_
          refine jv_iadd d_L_law_505 ?_
          obtain ⟨q103, h⟩ := h
          refine jv_roald (f := (jv_xs g)) d_L_law_506 (Or.inl ⟨rfl, rfl, rfl⟩) q103 ?_
          refine jv_if_eq (tgt := 514) d_L_law_507 (by decide) ⟨fun c => ?_, fun c => ?_⟩
          · replace h := h.1 c
            refine jv_iconst (v := 0) d_L_law_514 (by decide) ?_
            obtain ⟨q104, h⟩ := h
            refine jv_invV [.int ((jv_xs g) (Int32.toNatClampNeg (x3 + 1))), .int ((jv_xs g) (Int32.toNatClampNeg (x3 + 2))), .int ((jv_xs g) (Int32.toNatClampNeg (x3 + 3))), .int ((jv_xs g) (Int32.toNatClampNeg (x3 + 4))), .int ((jv_xs g) (Int32.toNatClampNeg (x3 + 5))), .int 0] [.int r96] d_L_law_515 ml_L_61 q104 rfl (Nat.le_of_ble_eq_true rfl) (Nat.zero_add _) (Nat.zero_add _) (jv_Ct.mono h (fun v M106 N106 h => ?_))
            obtain ⟨r105, rfl, h⟩ := h
            change jv_J g (d + 1) mt_L_law 518 [some (.retAddr 0), some (.ref a1), some (.ref a2), some (.int x3)] [.int r105, .int r96] M106 N106 cr sr Z
            refine jv_icmp_eq (tgt := 1116) d_L_law_518 (by decide) ⟨fun c => ?_, fun c => ?_⟩
            · replace h := h.1 c
              refine jv_iinc (v := (x3 + 7)) (L' := [some (.retAddr 0), some (.ref a1), some (.ref a2), some (.int (x3 + 7))]) d_L_law_1116 rfl rfl (Nat.le_of_ble_eq_true rfl) rfl ?_
              refine jv_goto (tgt := 18) d_L_law_1119 (by decide) ?_
              exact h
            · replace h := h.2 c
              refine jv_iconst (v := 0) d_L_law_521 (by decide) ?_
              exact jv_iret d_L_law_522 rfl (jv_nz (by decide)) h
          · replace h := h.2 c
            refine jv_iconst (v := 1) d_L_law_510 (by decide) ?_
            refine jv_goto (tgt := 515) d_L_law_511 (by decide) ?_
            obtain ⟨q107, h⟩ := h
            refine jv_invV [.int ((jv_xs g) (Int32.toNatClampNeg (x3 + 1))), .int ((jv_xs g) (Int32.toNatClampNeg (x3 + 2))), .int ((jv_xs g) (Int32.toNatClampNeg (x3 + 3))), .int ((jv_xs g) (Int32.toNatClampNeg (x3 + 4))), .int ((jv_xs g) (Int32.toNatClampNeg (x3 + 5))), .int 1] [.int r96] d_L_law_515 ml_L_61 q107 rfl (Nat.le_of_ble_eq_true rfl) (Nat.zero_add _) (Nat.zero_add _) (jv_Ct.mono h (fun v M109 N109 h => ?_))
            obtain ⟨r108, rfl, h⟩ := h
            change jv_J g (d + 1) mt_L_law 518 [some (.retAddr 0), some (.ref a1), some (.ref a2), some (.int x3)] [.int r108, .int r96] M109 N109 cr sr Z
            refine jv_icmp_eq (tgt := 1116) d_L_law_518 (by decide) ⟨fun c => ?_, fun c => ?_⟩
            · replace h := h.1 c
              refine jv_iinc (v := (x3 + 7)) (L' := [some (.retAddr 0), some (.ref a1), some (.ref a2), some (.int (x3 + 7))]) d_L_law_1116 rfl rfl (Nat.le_of_ble_eq_true rfl) rfl ?_
              refine jv_goto (tgt := 18) d_L_law_1119 (by decide) ?_
              exact h
            · replace h := h.2 c
              refine jv_iconst (v := 0) d_L_law_521 (by decide) ?_
              exact jv_iret d_L_law_522 rfl (jv_nz (by decide)) h
        · replace h := h.2 c
          refine jv_iconst (v := 1) d_L_law_467 (by decide) ?_
          refine jv_goto (tgt := 472) d_L_law_468 (by decide) ?_
          obtain ⟨q110, h⟩ := h
          refine jv_invV [.int ((jv_xs g) (Int32.toNatClampNeg (x3 + 1))), .int ((jv_xs g) (Int32.toNatClampNeg (x3 + 2))), .int ((jv_xs g) (Int32.toNatClampNeg (x3 + 3))), .int ((jv_xs g) (Int32.toNatClampNeg (x3 + 4))), .int ((jv_xs g) (Int32.toNatClampNeg (x3 + 5))), .int 1] [] d_L_law_472 ml_L_57 q110 rfl (Nat.le_of_ble_eq_true rfl) (Nat.zero_add _) (Nat.zero_add _) (jv_Ct.mono h (fun v M112 N112 h => ?_))
          obtain ⟨r111, rfl, h⟩ := h
          change jv_J g (d + 1) mt_L_law 475 [some (.retAddr 0), some (.ref a1), some (.ref a2), some (.int x3)] [.int r111] M112 N112 cr sr Z
          refine jv_aload_n d_L_law_475 rfl rfl ?_
          refine jv_aload_nR d_L_law_476 rfl rfl ?_
          refine jv_iload_n d_L_law_477 rfl rfl ?_
          refine jv_iconst (v := 1) d_L_law_478 (by decide) ?_
          refine jv_iadd d_L_law_479 ?_
          obtain ⟨q113, h⟩ := h
          refine jv_roald (f := (jv_xs g)) d_L_law_480 (Or.inl ⟨rfl, rfl, rfl⟩) q113 ?_
          refine jv_aload_nR d_L_law_481 rfl rfl ?_
          refine jv_iload_n d_L_law_482 rfl rfl ?_
          refine jv_iconst (v := 2) d_L_law_483 (by decide) ?_
          refine jv_iadd d_L_law_484 ?_
          obtain ⟨q114, h⟩ := h
          refine jv_roald (f := (jv_xs g)) d_L_law_485 (Or.inl ⟨rfl, rfl, rfl⟩) q114 ?_
          refine jv_aload_nR d_L_law_486 rfl rfl ?_
          refine jv_iload_n d_L_law_487 rfl rfl ?_
          refine jv_iconst (v := 3) d_L_law_488 (by decide) ?_
          refine jv_iadd d_L_law_489 ?_
          obtain ⟨q115, h⟩ := h
          refine jv_roald (f := (jv_xs g)) d_L_law_490 (Or.inl ⟨rfl, rfl, rfl⟩) q115 ?_
          refine jv_aload_nR d_L_law_491 rfl rfl ?_
          refine jv_iload_n d_L_law_492 rfl rfl ?_
          refine jv_iconst (v := 4) d_L_law_493 (by decide) ?_
          refine jv_iadd d_L_law_494 ?_
          obtain ⟨q116, h⟩ := h
          refine jv_roald (f := (jv_xs g)) d_L_law_495 (Or.inl ⟨rfl, rfl, rfl⟩) q116 ?_
          refine jv_aload_nR d_L_law_496 rfl rfl ?_
          refine jv_iload_n d_L_law_497 rfl rfl ?_
          refine jv_iconst (v := 5) d_L_law_498 (by decide) ?_
          refine jv_iadd d_L_law_499 ?_
          obtain ⟨q117, h⟩ := h
          refine jv_roald (f := (jv_xs g)) d_L_law_500 (Or.inl ⟨rfl, rfl, rfl⟩) q117 ?_
          refine jv_aload_nR d_L_law_501 rfl rfl ?_
          refine jv_iload_n d_L_law_502 rfl rfl ?_
          refine jv_bipush (v := 6) d_L_law_503 (by decide) ?_
          refine jv_iadd d_L_law_505 ?_
          obtain ⟨q118, h⟩ := h
          refine jv_roald (f := (jv_xs g)) d_L_law_506 (Or.inl ⟨rfl, rfl, rfl⟩) q118 ?_
          refine jv_if_eq (tgt := 514) d_L_law_507 (by decide) ⟨fun c => ?_, fun c => ?_⟩
          · replace h := h.1 c
            refine jv_iconst (v := 0) d_L_law_514 (by decide) ?_
            obtain ⟨q119, h⟩ := h
            refine jv_invV [.int ((jv_xs g) (Int32.toNatClampNeg (x3 + 1))), .int ((jv_xs g) (Int32.toNatClampNeg (x3 + 2))), .int ((jv_xs g) (Int32.toNatClampNeg (x3 + 3))), .int ((jv_xs g) (Int32.toNatClampNeg (x3 + 4))), .int ((jv_xs g) (Int32.toNatClampNeg (x3 + 5))), .int 0] [.int r111] d_L_law_515 ml_L_61 q119 rfl (Nat.le_of_ble_eq_true rfl) (Nat.zero_add _) (Nat.zero_add _) (jv_Ct.mono h (fun v M121 N121 h => ?_))
            obtain ⟨r120, rfl, h⟩ := h
            change jv_J g (d + 1) mt_L_law 518 [some (.retAddr 0), some (.ref a1), some (.ref a2), some (.int x3)] [.int r120, .int r111] M121 N121 cr sr Z
            refine jv_icmp_eq (tgt := 1116) d_L_law_518 (by decide) ⟨fun c => ?_, fun c => ?_⟩
            · replace h := h.1 c
              refine jv_iinc (v := (x3 + 7)) (L' := [some (.retAddr 0), some (.ref a1), some (.ref a2), some (.int (x3 + 7))]) d_L_law_1116 rfl rfl (Nat.le_of_ble_eq_true rfl) rfl ?_
              refine jv_goto (tgt := 18) d_L_law_1119 (by decide) ?_
              exact h
            · replace h := h.2 c
              refine jv_iconst (v := 0) d_L_law_521 (by decide) ?_
              exact jv_iret d_L_law_522 rfl (jv_nz (by decide)) h
          · replace h := h.2 c
            refine jv_iconst (v := 1) d_L_law_510 (by decide) ?_
            refine jv_goto (tgt := 515) d_L_law_511 (by decide) ?_
            obtain ⟨q122, h⟩ := h
            refine jv_invV [.int ((jv_xs g) (Int32.toNatClampNeg (x3 + 1))), .int ((jv_xs g) (Int32.toNatClampNeg (x3 + 2))), .int ((jv_xs g) (Int32.toNatClampNeg (x3 + 3))), .int ((jv_xs g) (Int32.toNatClampNeg (x3 + 4))), .int ((jv_xs g) (Int32.toNatClampNeg (x3 + 5))), .int 1] [.int r111] d_L_law_515 ml_L_61 q122 rfl (Nat.le_of_ble_eq_true rfl) (Nat.zero_add _) (Nat.zero_add _) (jv_Ct.mono h (fun v M124 N124 h => ?_))
            obtain ⟨r123, rfl, h⟩ := h
            change jv_J g (d + 1) mt_L_law 518 [some (.retAddr 0), some (.ref a1), some (.ref a2), some (.int x3)] [.int r123, .int r111] M124 N124 cr sr Z
            refine jv_icmp_eq (tgt := 1116) d_L_law_518 (by decide) ⟨fun c => ?_, fun c => ?_⟩
            · replace h := h.1 c
              refine jv_iinc (v := (x3 + 7)) (L' := [some (.retAddr 0), some (.ref a1), some (.ref a2), some (.int (x3 + 7))]) d_L_law_1116 rfl rfl (Nat.le_of_ble_eq_true rfl) rfl ?_
              refine jv_goto (tgt := 18) d_L_law_1119 (by decide) ?_
              exact h
            · replace h := h.2 c
              refine jv_iconst (v := 0) d_L_law_521 (by decide) ?_
              exact jv_iret d_L_law_522 rfl (jv_nz (by decide)) h
      · replace h := h.2.2.2.2.2.2.2.2.2.2.2.1 hx
        refine jv_aload_n d_L_law_523 rfl rfl ?_
        refine jv_aload_nR d_L_law_524 rfl rfl ?_
        refine jv_iload_n d_L_law_525 rfl rfl ?_
        refine jv_iconst (v := 1) d_L_law_526 (by decide) ?_
        refine jv_iadd d_L_law_527 ?_
        obtain ⟨q125, h⟩ := h
        refine jv_roald (f := (jv_xs g)) d_L_law_528 (Or.inl ⟨rfl, rfl, rfl⟩) q125 ?_
        refine jv_aload_nR d_L_law_529 rfl rfl ?_
        refine jv_iload_n d_L_law_530 rfl rfl ?_
        refine jv_iconst (v := 2) d_L_law_531 (by decide) ?_
        refine jv_iadd d_L_law_532 ?_
        obtain ⟨q126, h⟩ := h
        refine jv_roald (f := (jv_xs g)) d_L_law_533 (Or.inl ⟨rfl, rfl, rfl⟩) q126 ?_
        obtain ⟨q127, h⟩ := h
        refine jv_invV [.int ((jv_xs g) (Int32.toNatClampNeg (x3 + 1))), .int ((jv_xs g) (Int32.toNatClampNeg (x3 + 2)))] [] d_L_law_534 ml_L_62 q127 rfl (Nat.le_of_ble_eq_true rfl) (Nat.zero_add _) (Nat.zero_add _) (jv_Ct.mono h (fun v M129 N129 h => ?_))
        obtain ⟨r128, rfl, h⟩ := h
        change jv_J g (d + 1) mt_L_law 537 [some (.retAddr 0), some (.ref a1), some (.ref a2), some (.int x3)] [.int r128] M129 N129 cr sr Z
        refine jv_aload_n d_L_law_537 rfl rfl ?_
        refine jv_aload_nR d_L_law_538 rfl rfl ?_
        refine jv_iload_n d_L_law_539 rfl rfl ?_
        refine jv_iconst (v := 1) d_L_law_540 (by decide) ?_
        refine jv_iadd d_L_law_541 ?_
        obtain ⟨q130, h⟩ := h
        refine jv_roald (f := (jv_xs g)) d_L_law_542 (Or.inl ⟨rfl, rfl, rfl⟩) q130 ?_
        refine jv_aload_nR d_L_law_543 rfl rfl ?_
        refine jv_iload_n d_L_law_544 rfl rfl ?_
        refine jv_iconst (v := 2) d_L_law_545 (by decide) ?_
        refine jv_iadd d_L_law_546 ?_
        obtain ⟨q131, h⟩ := h
        refine jv_roald (f := (jv_xs g)) d_L_law_547 (Or.inl ⟨rfl, rfl, rfl⟩) q131 ?_
        obtain ⟨q132, h⟩ := h
        refine jv_invV [.int ((jv_xs g) (Int32.toNatClampNeg (x3 + 1))), .int ((jv_xs g) (Int32.toNatClampNeg (x3 + 2)))] [.int r128] d_L_law_548 ml_L_65 q132 rfl (Nat.le_of_ble_eq_true rfl) (Nat.zero_add _) (Nat.zero_add _) (jv_Ct.mono h (fun v M134 N134 h => ?_))
        obtain ⟨r133, rfl, h⟩ := h
        change jv_J g (d + 1) mt_L_law 551 [some (.retAddr 0), some (.ref a1), some (.ref a2), some (.int x3)] [.int r133, .int r128] M134 N134 cr sr Z
        refine jv_icmp_eq (tgt := 1116) d_L_law_551 (by decide) ⟨fun c => ?_, fun c => ?_⟩
        · replace h := h.1 c
          refine jv_iinc (v := (x3 + 7)) (L' := [some (.retAddr 0), some (.ref a1), some (.ref a2), some (.int (x3 + 7))]) d_L_law_1116 rfl rfl (Nat.le_of_ble_eq_true rfl) rfl ?_
          refine jv_goto (tgt := 18) d_L_law_1119 (by decide) ?_
          exact h
        · replace h := h.2 c
          refine jv_iconst (v := 0) d_L_law_554 (by decide) ?_
          exact jv_iret d_L_law_555 rfl (jv_nz (by decide)) h
      · replace h := h.2.2.2.2.2.2.2.2.2.2.2.2.1 hx
        refine jv_aload_n d_L_law_556 rfl rfl ?_
        obtain ⟨q135, h⟩ := h
        refine jv_invV [] [] d_L_law_557 ml_L_66 q135 rfl (Nat.le_of_ble_eq_true rfl) (Nat.zero_add _) (Nat.zero_add _) (jv_Ct.mono h (fun v M137 N137 h => ?_))
        obtain ⟨r136, rfl, h⟩ := h
        change jv_J g (d + 1) mt_L_law 560 [some (.retAddr 0), some (.ref a1), some (.ref a2), some (.int x3)] [.int r136] M137 N137 cr sr Z
        refine jv_aload_n d_L_law_560 rfl rfl ?_
        obtain ⟨q138, h⟩ := h
        refine jv_invV [] [.int r136] d_L_law_561 ml_L_69 q138 rfl (Nat.le_of_ble_eq_true rfl) (Nat.zero_add _) (Nat.zero_add _) (jv_Ct.mono h (fun v M140 N140 h => ?_))
        obtain ⟨r139, rfl, h⟩ := h
        change jv_J g (d + 1) mt_L_law 564 [some (.retAddr 0), some (.ref a1), some (.ref a2), some (.int x3)] [.int r139, .int r136] M140 N140 cr sr Z
        refine jv_icmp_eq (tgt := 1116) d_L_law_564 (by decide) ⟨fun c => ?_, fun c => ?_⟩
        · replace h := h.1 c
          refine jv_iinc (v := (x3 + 7)) (L' := [some (.retAddr 0), some (.ref a1), some (.ref a2), some (.int (x3 + 7))]) d_L_law_1116 rfl rfl (Nat.le_of_ble_eq_true rfl) rfl ?_
          refine jv_goto (tgt := 18) d_L_law_1119 (by decide) ?_
          exact h
        · replace h := h.2 c
          refine jv_iconst (v := 0) d_L_law_567 (by decide) ?_
          exact jv_iret d_L_law_568 rfl (jv_nz (by decide)) h
      · replace h := h.2.2.2.2.2.2.2.2.2.2.2.2.2.1 hx
        refine jv_aload_n d_L_law_569 rfl rfl ?_
        refine jv_aload_nR d_L_law_570 rfl rfl ?_
        refine jv_iload_n d_L_law_571 rfl rfl ?_
        refine jv_iconst (v := 1) d_L_law_572 (by decide) ?_
        refine jv_iadd d_L_law_573 ?_
        obtain ⟨q141, h⟩ := h
        refine jv_roald (f := (jv_xs g)) d_L_law_574 (Or.inl ⟨rfl, rfl, rfl⟩) q141 ?_
        refine jv_aload_nR d_L_law_575 rfl rfl ?_
        refine jv_iload_n d_L_law_576 rfl rfl ?_
        refine jv_iconst (v := 2) d_L_law_577 (by decide) ?_
        refine jv_iadd d_L_law_578 ?_
        obtain ⟨q142, h⟩ := h
        refine jv_roald (f := (jv_xs g)) d_L_law_579 (Or.inl ⟨rfl, rfl, rfl⟩) q142 ?_
        obtain ⟨q143, h⟩ := h
        refine jv_invV [.int ((jv_xs g) (Int32.toNatClampNeg (x3 + 1))), .int ((jv_xs g) (Int32.toNatClampNeg (x3 + 2)))] [] d_L_law_580 ml_L_70 q143 rfl (Nat.le_of_ble_eq_true rfl) (Nat.zero_add _) (Nat.zero_add _) (jv_Ct.mono h (fun v M145 N145 h => ?_))
        obtain ⟨r144, rfl, h⟩ := h
        change jv_J g (d + 1) mt_L_law 583 [some (.retAddr 0), some (.ref a1), some (.ref a2), some (.int x3)] [.int r144] M145 N145 cr sr Z
        refine jv_aload_n d_L_law_583 rfl rfl ?_
        refine jv_aload_nR d_L_law_584 rfl rfl ?_
        refine jv_iload_n d_L_law_585 rfl rfl ?_
        refine jv_iconst (v := 1) d_L_law_586 (by decide) ?_
        refine jv_iadd d_L_law_587 ?_
        obtain ⟨q146, h⟩ := h
        refine jv_roald (f := (jv_xs g)) d_L_law_588 (Or.inl ⟨rfl, rfl, rfl⟩) q146 ?_
        refine jv_aload_nR d_L_law_589 rfl rfl ?_
        refine jv_iload_n d_L_law_590 rfl rfl ?_
        refine jv_iconst (v := 2) d_L_law_591 (by decide) ?_
        refine jv_iadd d_L_law_592 ?_
        obtain ⟨q147, h⟩ := h
        refine jv_roald (f := (jv_xs g)) d_L_law_593 (Or.inl ⟨rfl, rfl, rfl⟩) q147 ?_
        obtain ⟨q148, h⟩ := h
        refine jv_invV [.int ((jv_xs g) (Int32.toNatClampNeg (x3 + 1))), .int ((jv_xs g) (Int32.toNatClampNeg (x3 + 2)))] [.int r144] d_L_law_594 ml_L_73 q148 rfl (Nat.le_of_ble_eq_true rfl) (Nat.zero_add _) (Nat.zero_add _) (jv_Ct.mono h (fun v M150 N150 h => ?_))
        obtain ⟨r149, rfl, h⟩ := h
        change jv_J g (d + 1) mt_L_law 597 [some (.retAddr 0), some (.ref a1), some (.ref a2), some (.int x3)] [.int r149, .int r144] M150 N150 cr sr Z
        refine jv_icmp_eq (tgt := 1116) d_L_law_597 (by decide) ⟨fun c => ?_, fun c => ?_⟩
        · replace h := h.1 c
          refine jv_iinc (v := (x3 + 7)) (L' := [some (.retAddr 0), some (.ref a1), some (.ref a2), some (.int (x3 + 7))]) d_L_law_1116 rfl rfl (Nat.le_of_ble_eq_true rfl) rfl ?_
          refine jv_goto (tgt := 18) d_L_law_1119 (by decide) ?_
          exact h
        · replace h := h.2 c
          refine jv_iconst (v := 0) d_L_law_600 (by decide) ?_
          exact jv_iret d_L_law_601 rfl (jv_nz (by decide)) h
      · replace h := h.2.2.2.2.2.2.2.2.2.2.2.2.2.2.1 hx
        refine jv_aload_n d_L_law_602 rfl rfl ?_
        obtain ⟨q151, h⟩ := h
        refine jv_invV [] [] d_L_law_603 ml_L_74 q151 rfl (Nat.le_of_ble_eq_true rfl) (Nat.zero_add _) (Nat.zero_add _) (jv_Ct.mono h (fun v M153 N153 h => ?_))
        obtain ⟨r152, rfl, h⟩ := h
        change jv_J g (d + 1) mt_L_law 606 [some (.retAddr 0), some (.ref a1), some (.ref a2), some (.int x3)] [.int r152] M153 N153 cr sr Z
        refine jv_aload_n d_L_law_606 rfl rfl ?_
        obtain ⟨q154, h⟩ := h
        refine jv_invV [] [.int r152] d_L_law_607 ml_L_77 q154 rfl (Nat.le_of_ble_eq_true rfl) (Nat.zero_add _) (Nat.zero_add _) (jv_Ct.mono h (fun v M156 N156 h => ?_))
        obtain ⟨r155, rfl, h⟩ := h
        change jv_J g (d + 1) mt_L_law 610 [some (.retAddr 0), some (.ref a1), some (.ref a2), some (.int x3)] [.int r155, .int r152] M156 N156 cr sr Z
        refine jv_icmp_eq (tgt := 1116) d_L_law_610 (by decide) ⟨fun c => ?_, fun c => ?_⟩
        · replace h := h.1 c
          refine jv_iinc (v := (x3 + 7)) (L' := [some (.retAddr 0), some (.ref a1), some (.ref a2), some (.int (x3 + 7))]) d_L_law_1116 rfl rfl (Nat.le_of_ble_eq_true rfl) rfl ?_
          refine jv_goto (tgt := 18) d_L_law_1119 (by decide) ?_
          exact h
        · replace h := h.2 c
          refine jv_iconst (v := 0) d_L_law_613 (by decide) ?_
          exact jv_iret d_L_law_614 rfl (jv_nz (by decide)) h
      · replace h := h.2.2.2.2.2.2.2.2.2.2.2.2.2.2.2.1 hx
        refine jv_aload_n d_L_law_615 rfl rfl ?_
        refine jv_aload_nR d_L_law_616 rfl rfl ?_
        refine jv_iload_n d_L_law_617 rfl rfl ?_
        refine jv_iconst (v := 1) d_L_law_618 (by decide) ?_
        refine jv_iadd d_L_law_619 ?_
        obtain ⟨q157, h⟩ := h
        refine jv_roald (f := (jv_xs g)) d_L_law_620 (Or.inl ⟨rfl, rfl, rfl⟩) q157 ?_
        refine jv_aload_nR d_L_law_621 rfl rfl ?_
        refine jv_iload_n d_L_law_622 rfl rfl ?_
        refine jv_iconst (v := 2) d_L_law_623 (by decide) ?_
        refine jv_iadd d_L_law_624 ?_
        obtain ⟨q158, h⟩ := h
        refine jv_roald (f := (jv_xs g)) d_L_law_625 (Or.inl ⟨rfl, rfl, rfl⟩) q158 ?_
        refine jv_aload_nR d_L_law_626 rfl rfl ?_
        refine jv_iload_n d_L_law_627 rfl rfl ?_
        refine jv_iconst (v := 3) d_L_law_628 (by decide) ?_
        refine jv_iadd d_L_law_629 ?_
        obtain ⟨q159, h⟩ := h
        refine jv_roald (f := (jv_xs g)) d_L_law_630 (Or.inl ⟨rfl, rfl, rfl⟩) q159 ?_
        obtain ⟨q160, h⟩ := h
        refine jv_invV [.int ((jv_xs g) (Int32.toNatClampNeg (x3 + 1))), .int ((jv_xs g) (Int32.toNatClampNeg (x3 + 2))), .int ((jv_xs g) (Int32.toNatClampNeg (x3 + 3)))] [] d_L_law_631 ml_L_78 q160 rfl (Nat.le_of_ble_eq_true rfl) (Nat.zero_add _) (Nat.zero_add _) (jv_Ct.mono h (fun v M162 N162 h => ?_))
        obtain ⟨r161, rfl, h⟩ := h
        change jv_J g (d + 1) mt_L_law 634 [some (.retAddr 0), some (.ref a1), some (.ref a2), some (.int x3)] [.int r161] M162 N162 cr sr Z
        refine jv_aload_n d_L_law_634 rfl rfl ?_
        refine jv_aload_nR d_L_law_635 rfl rfl ?_
        refine jv_iload_n d_L_law_636 rfl rfl ?_
        refine jv_iconst (v := 1) d_L_law_637 (by decide) ?_
        refine jv_iadd d_L_law_638 ?_
        obtain ⟨q163, h⟩ := h
        refine jv_roald (f := (jv_xs g)) d_L_law_639 (Or.inl ⟨rfl, rfl, rfl⟩) q163 ?_
        refine jv_aload_nR d_L_law_640 rfl rfl ?_
        refine jv_iload_n d_L_law_641 rfl rfl ?_
        refine jv_iconst (v := 2) d_L_law_642 (by decide) ?_
        refine jv_iadd d_L_law_643 ?_
        obtain ⟨q164, h⟩ := h
        refine jv_roald (f := (jv_xs g)) d_L_law_644 (Or.inl ⟨rfl, rfl, rfl⟩) q164 ?_
        refine jv_aload_nR d_L_law_645 rfl rfl ?_
        refine jv_iload_n d_L_law_646 rfl rfl ?_
        refine jv_iconst (v := 3) d_L_law_647 (by decide) ?_
        refine jv_iadd d_L_law_648 ?_
        obtain ⟨q165, h⟩ := h
        refine jv_roald (f := (jv_xs g)) d_L_law_649 (Or.inl ⟨rfl, rfl, rfl⟩) q165 ?_
        obtain ⟨q166, h⟩ := h
        refine jv_invV [.int ((jv_xs g) (Int32.toNatClampNeg (x3 + 1))), .int ((jv_xs g) (Int32.toNatClampNeg (x3 + 2))), .int ((jv_xs g) (Int32.toNatClampNeg (x3 + 3)))] [.int r161] d_L_law_650 ml_L_82 q166 rfl (Nat.le_of_ble_eq_true rfl) (Nat.zero_add _) (Nat.zero_add _) (jv_Ct.mono h (fun v M168 N168 h => ?_))
        obtain ⟨r167, rfl, h⟩ := h
        change jv_J g (d + 1) mt_L_law 653 [some (.retAddr 0), some (.ref a1), some (.ref a2), some (.int x3)] [.int r167, .int r161] M168 N168 cr sr Z
        refine jv_icmp_eq (tgt := 1116) d_L_law_653 (by decide) ⟨fun c => ?_, fun c => ?_⟩
        · replace h := h.1 c
          refine jv_iinc (v := (x3 + 7)) (L' := [some (.retAddr 0), some (.ref a1), some (.ref a2), some (.int (x3 + 7))]) d_L_law_1116 rfl rfl (Nat.le_of_ble_eq_true rfl) rfl ?_
          refine jv_goto (tgt := 18) d_L_law_1119 (by decide) ?_
          exact h
        · replace h := h.2 c
          refine jv_iconst (v := 0) d_L_law_656 (by decide) ?_
          exact jv_iret d_L_law_657 rfl (jv_nz (by decide)) h
      · replace h := h.2.2.2.2.2.2.2.2.2.2.2.2.2.2.2.2.1 hx
        refine jv_aload_n d_L_law_658 rfl rfl ?_
        refine jv_aload_nR d_L_law_659 rfl rfl ?_
        refine jv_iload_n d_L_law_660 rfl rfl ?_
        refine jv_iconst (v := 1) d_L_law_661 (by decide) ?_
        refine jv_iadd d_L_law_662 ?_
        obtain ⟨q169, h⟩ := h
        refine jv_roald (f := (jv_xs g)) d_L_law_663 (Or.inl ⟨rfl, rfl, rfl⟩) q169 ?_
        obtain ⟨q170, h⟩ := h
        refine jv_invV [.int ((jv_xs g) (Int32.toNatClampNeg (x3 + 1)))] [] d_L_law_664 ml_L_83 q170 rfl (Nat.le_of_ble_eq_true rfl) (Nat.zero_add _) (Nat.zero_add _) (jv_Ct.mono h (fun v M172 N172 h => ?_))
        obtain ⟨r171, rfl, h⟩ := h
        change jv_J g (d + 1) mt_L_law 667 [some (.retAddr 0), some (.ref a1), some (.ref a2), some (.int x3)] [.int r171] M172 N172 cr sr Z
        refine jv_aload_n d_L_law_667 rfl rfl ?_
        refine jv_aload_nR d_L_law_668 rfl rfl ?_
        refine jv_iload_n d_L_law_669 rfl rfl ?_
        refine jv_iconst (v := 1) d_L_law_670 (by decide) ?_
        refine jv_iadd d_L_law_671 ?_
        obtain ⟨q173, h⟩ := h
        refine jv_roald (f := (jv_xs g)) d_L_law_672 (Or.inl ⟨rfl, rfl, rfl⟩) q173 ?_
        obtain ⟨q174, h⟩ := h
        refine jv_invV [.int ((jv_xs g) (Int32.toNatClampNeg (x3 + 1)))] [.int r171] d_L_law_673 ml_L_86 q174 rfl (Nat.le_of_ble_eq_true rfl) (Nat.zero_add _) (Nat.zero_add _) (jv_Ct.mono h (fun v M176 N176 h => ?_))
        obtain ⟨r175, rfl, h⟩ := h
        change jv_J g (d + 1) mt_L_law 676 [some (.retAddr 0), some (.ref a1), some (.ref a2), some (.int x3)] [.int r175, .int r171] M176 N176 cr sr Z
        refine jv_icmp_eq (tgt := 1116) d_L_law_676 (by decide) ⟨fun c => ?_, fun c => ?_⟩
        · replace h := h.1 c
          refine jv_iinc (v := (x3 + 7)) (L' := [some (.retAddr 0), some (.ref a1), some (.ref a2), some (.int (x3 + 7))]) d_L_law_1116 rfl rfl (Nat.le_of_ble_eq_true rfl) rfl ?_
          refine jv_goto (tgt := 18) d_L_law_1119 (by decide) ?_
          exact h
        · replace h := h.2 c
          refine jv_iconst (v := 0) d_L_law_679 (by decide) ?_
          exact jv_iret d_L_law_680 rfl (jv_nz (by decide)) h
      · replace h := h.2.2.2.2.2.2.2.2.2.2.2.2.2.2.2.2.2.1 hx
        refine jv_aload_n d_L_law_681 rfl rfl ?_
        refine jv_aload_nR d_L_law_682 rfl rfl ?_
        refine jv_iload_n d_L_law_683 rfl rfl ?_
        refine jv_iconst (v := 1) d_L_law_684 (by decide) ?_
        refine jv_iadd d_L_law_685 ?_
        obtain ⟨q177, h⟩ := h
        refine jv_roald (f := (jv_xs g)) d_L_law_686 (Or.inl ⟨rfl, rfl, rfl⟩) q177 ?_
        obtain ⟨q178, h⟩ := h
        refine jv_invV [.int ((jv_xs g) (Int32.toNatClampNeg (x3 + 1)))] [] d_L_law_687 ml_L_87 q178 rfl (Nat.le_of_ble_eq_true rfl) (Nat.zero_add _) (Nat.zero_add _) (jv_Ct.mono h (fun v M180 N180 h => ?_))
        obtain ⟨r179, rfl, h⟩ := h
        change jv_J g (d + 1) mt_L_law 690 [some (.retAddr 0), some (.ref a1), some (.ref a2), some (.int x3)] [.int r179] M180 N180 cr sr Z
        refine jv_aload_n d_L_law_690 rfl rfl ?_
        refine jv_aload_nR d_L_law_691 rfl rfl ?_
        refine jv_iload_n d_L_law_692 rfl rfl ?_
        refine jv_iconst (v := 1) d_L_law_693 (by decide) ?_
        refine jv_iadd d_L_law_694 ?_
        obtain ⟨q181, h⟩ := h
        refine jv_roald (f := (jv_xs g)) d_L_law_695 (Or.inl ⟨rfl, rfl, rfl⟩) q181 ?_
        obtain ⟨q182, h⟩ := h
        refine jv_invV [.int ((jv_xs g) (Int32.toNatClampNeg (x3 + 1)))] [.int r179] d_L_law_696 ml_L_90 q182 rfl (Nat.le_of_ble_eq_true rfl) (Nat.zero_add _) (Nat.zero_add _) (jv_Ct.mono h (fun v M184 N184 h => ?_))
        obtain ⟨r183, rfl, h⟩ := h
        change jv_J g (d + 1) mt_L_law 699 [some (.retAddr 0), some (.ref a1), some (.ref a2), some (.int x3)] [.int r183, .int r179] M184 N184 cr sr Z
        refine jv_icmp_eq (tgt := 1116) d_L_law_699 (by decide) ⟨fun c => ?_, fun c => ?_⟩
        · replace h := h.1 c
          refine jv_iinc (v := (x3 + 7)) (L' := [some (.retAddr 0), some (.ref a1), some (.ref a2), some (.int (x3 + 7))]) d_L_law_1116 rfl rfl (Nat.le_of_ble_eq_true rfl) rfl ?_
          refine jv_goto (tgt := 18) d_L_law_1119 (by decide) ?_
          exact h
        · replace h := h.2 c
          refine jv_iconst (v := 0) d_L_law_702 (by decide) ?_
          exact jv_iret d_L_law_703 rfl (jv_nz (by decide)) h
      · replace h := h.2.2.2.2.2.2.2.2.2.2.2.2.2.2.2.2.2.2.1 hx
        refine jv_aload_n d_L_law_704 rfl rfl ?_
        refine jv_aload_nR d_L_law_705 rfl rfl ?_
        refine jv_iload_n d_L_law_706 rfl rfl ?_
        refine jv_iconst (v := 1) d_L_law_707 (by decide) ?_
        refine jv_iadd d_L_law_708 ?_
        obtain ⟨q185, h⟩ := h
        refine jv_roald (f := (jv_xs g)) d_L_law_709 (Or.inl ⟨rfl, rfl, rfl⟩) q185 ?_
        obtain ⟨q186, h⟩ := h
        refine jv_invV [.int ((jv_xs g) (Int32.toNatClampNeg (x3 + 1)))] [] d_L_law_710 ml_L_91 q186 rfl (Nat.le_of_ble_eq_true rfl) (Nat.zero_add _) (Nat.zero_add _) (jv_Ct.mono h (fun v M188 N188 h => ?_))
        obtain ⟨r187, rfl, h⟩ := h
        change jv_J g (d + 1) mt_L_law 713 [some (.retAddr 0), some (.ref a1), some (.ref a2), some (.int x3)] [.int r187] M188 N188 cr sr Z
        refine jv_aload_n d_L_law_713 rfl rfl ?_
        refine jv_aload_nR d_L_law_714 rfl rfl ?_
        refine jv_iload_n d_L_law_715 rfl rfl ?_
        refine jv_iconst (v := 1) d_L_law_716 (by decide) ?_
        refine jv_iadd d_L_law_717 ?_
        obtain ⟨q189, h⟩ := h
        refine jv_roald (f := (jv_xs g)) d_L_law_718 (Or.inl ⟨rfl, rfl, rfl⟩) q189 ?_
        obtain ⟨q190, h⟩ := h
        refine jv_invV [.int ((jv_xs g) (Int32.toNatClampNeg (x3 + 1)))] [.int r187] d_L_law_719 ml_L_94 q190 rfl (Nat.le_of_ble_eq_true rfl) (Nat.zero_add _) (Nat.zero_add _) (jv_Ct.mono h (fun v M192 N192 h => ?_))
        obtain ⟨r191, rfl, h⟩ := h
        change jv_J g (d + 1) mt_L_law 722 [some (.retAddr 0), some (.ref a1), some (.ref a2), some (.int x3)] [.int r191, .int r187] M192 N192 cr sr Z
        refine jv_icmp_eq (tgt := 1116) d_L_law_722 (by decide) ⟨fun c => ?_, fun c => ?_⟩
        · replace h := h.1 c
          refine jv_iinc (v := (x3 + 7)) (L' := [some (.retAddr 0), some (.ref a1), some (.ref a2), some (.int (x3 + 7))]) d_L_law_1116 rfl rfl (Nat.le_of_ble_eq_true rfl) rfl ?_
          refine jv_goto (tgt := 18) d_L_law_1119 (by decide) ?_
          exact h
        · replace h := h.2 c
          refine jv_iconst (v := 0) d_L_law_725 (by decide) ?_
          exact jv_iret d_L_law_726 rfl (jv_nz (by decide)) h
      · replace h := h.2.2.2.2.2.2.2.2.2.2.2.2.2.2.2.2.2.2.2.1 hx
        refine jv_aload_n d_L_law_727 rfl rfl ?_
        obtain ⟨q193, h⟩ := h
        refine jv_invV [] [] d_L_law_728 ml_L_95 q193 rfl (Nat.le_of_ble_eq_true rfl) (Nat.zero_add _) (Nat.zero_add _) (jv_Ct.mono h (fun v M195 N195 h => ?_))
        obtain ⟨r194, rfl, h⟩ := h
        change jv_J g (d + 1) mt_L_law 731 [some (.retAddr 0), some (.ref a1), some (.ref a2), some (.int x3)] [.int r194] M195 N195 cr sr Z
        refine jv_aload_n d_L_law_731 rfl rfl ?_
        obtain ⟨q196, h⟩ := h
        refine jv_invV [] [.int r194] d_L_law_732 ml_L_98 q196 rfl (Nat.le_of_ble_eq_true rfl) (Nat.zero_add _) (Nat.zero_add _) (jv_Ct.mono h (fun v M198 N198 h => ?_))
        obtain ⟨r197, rfl, h⟩ := h
        change jv_J g (d + 1) mt_L_law 735 [some (.retAddr 0), some (.ref a1), some (.ref a2), some (.int x3)] [.int r197, .int r194] M198 N198 cr sr Z
        refine jv_icmp_eq (tgt := 1116) d_L_law_735 (by decide) ⟨fun c => ?_, fun c => ?_⟩
        · replace h := h.1 c
          refine jv_iinc (v := (x3 + 7)) (L' := [some (.retAddr 0), some (.ref a1), some (.ref a2), some (.int (x3 + 7))]) d_L_law_1116 rfl rfl (Nat.le_of_ble_eq_true rfl) rfl ?_
          refine jv_goto (tgt := 18) d_L_law_1119 (by decide) ?_
          exact h
        · replace h := h.2 c
          refine jv_iconst (v := 0) d_L_law_738 (by decide) ?_
          exact jv_iret d_L_law_739 rfl (jv_nz (by decide)) h
      · replace h := h.2.2.2.2.2.2.2.2.2.2.2.2.2.2.2.2.2.2.2.2.1 hx
        refine jv_aload_n d_L_law_740 rfl rfl ?_
        refine jv_aload_nR d_L_law_741 rfl rfl ?_
        refine jv_iload_n d_L_law_742 rfl rfl ?_
        refine jv_iconst (v := 1) d_L_law_743 (by decide) ?_
        refine jv_iadd d_L_law_744 ?_
        obtain ⟨q199, h⟩ := h
        refine jv_roald (f := (jv_xs g)) d_L_law_745 (Or.inl ⟨rfl, rfl, rfl⟩) q199 ?_
        refine jv_aload_nR d_L_law_746 rfl rfl ?_
        refine jv_iload_n d_L_law_747 rfl rfl ?_
        refine jv_iconst (v := 2) d_L_law_748 (by decide) ?_
        refine jv_iadd d_L_law_749 ?_
        obtain ⟨q200, h⟩ := h
        refine jv_roald (f := (jv_xs g)) d_L_law_750 (Or.inl ⟨rfl, rfl, rfl⟩) q200 ?_
        refine jv_i2l d_L_law_751 ?_
        refine jv_bipush (v := 32) d_L_law_752 (by decide) ?_
        refine jv_lshl d_L_law_754 ?_
        refine jv_aload_nR d_L_law_755 rfl rfl ?_
        refine jv_iload_n d_L_law_756 rfl rfl ?_
        refine jv_iconst (v := 3) d_L_law_757 (by decide) ?_
        refine jv_iadd d_L_law_758 ?_
        obtain ⟨q201, h⟩ := h
        refine jv_roald (f := (jv_xs g)) d_L_law_759 (Or.inl ⟨rfl, rfl, rfl⟩) q201 ?_
        refine jv_i2l d_L_law_760 ?_
        refine jv_ldc2 d_L_law_761 co_L_99 ?_
        refine jv_land d_L_law_764 ?_
        refine jv_lor d_L_law_765 ?_
        obtain ⟨q202, h⟩ := h
        refine jv_invV [.int ((jv_xs g) (Int32.toNatClampNeg (x3 + 1))), .long (((Int32.toInt64 ((jv_xs g) (Int32.toNatClampNeg (x3 + 2)))) <<< ((32 : Int32).toInt64 &&& 63)) ||| ((Int32.toInt64 ((jv_xs g) (Int32.toNatClampNeg (x3 + 3)))) &&& 4294967295))] [] d_L_law_766 ml_L_101 q202 rfl (Nat.le_of_ble_eq_true rfl) (Nat.zero_add _) (Nat.zero_add _) (jv_Ct.mono h (fun v M204 N204 h => ?_))
        obtain ⟨r203, rfl, h⟩ := h
        change jv_J g (d + 1) mt_L_law 769 [some (.retAddr 0), some (.ref a1), some (.ref a2), some (.int x3)] [.int r203] M204 N204 cr sr Z
        refine jv_aload_n d_L_law_769 rfl rfl ?_
        refine jv_aload_nR d_L_law_770 rfl rfl ?_
        refine jv_iload_n d_L_law_771 rfl rfl ?_
        refine jv_iconst (v := 1) d_L_law_772 (by decide) ?_
        refine jv_iadd d_L_law_773 ?_
        obtain ⟨q205, h⟩ := h
        refine jv_roald (f := (jv_xs g)) d_L_law_774 (Or.inl ⟨rfl, rfl, rfl⟩) q205 ?_
        refine jv_aload_nR d_L_law_775 rfl rfl ?_
        refine jv_iload_n d_L_law_776 rfl rfl ?_
        refine jv_iconst (v := 2) d_L_law_777 (by decide) ?_
        refine jv_iadd d_L_law_778 ?_
        obtain ⟨q206, h⟩ := h
        refine jv_roald (f := (jv_xs g)) d_L_law_779 (Or.inl ⟨rfl, rfl, rfl⟩) q206 ?_
        refine jv_i2l d_L_law_780 ?_
        refine jv_bipush (v := 32) d_L_law_781 (by decide) ?_
        refine jv_lshl d_L_law_783 ?_
        refine jv_aload_nR d_L_law_784 rfl rfl ?_
        refine jv_iload_n d_L_law_785 rfl rfl ?_
        refine jv_iconst (v := 3) d_L_law_786 (by decide) ?_
        refine jv_iadd d_L_law_787 ?_
        obtain ⟨q207, h⟩ := h
        refine jv_roald (f := (jv_xs g)) d_L_law_788 (Or.inl ⟨rfl, rfl, rfl⟩) q207 ?_
        refine jv_i2l d_L_law_789 ?_
        refine jv_ldc2 d_L_law_790 co_L_99 ?_
        refine jv_land d_L_law_793 ?_
        refine jv_lor d_L_law_794 ?_
        obtain ⟨q208, h⟩ := h
        refine jv_invV [.int ((jv_xs g) (Int32.toNatClampNeg (x3 + 1))), .long (((Int32.toInt64 ((jv_xs g) (Int32.toNatClampNeg (x3 + 2)))) <<< ((32 : Int32).toInt64 &&& 63)) ||| ((Int32.toInt64 ((jv_xs g) (Int32.toNatClampNeg (x3 + 3)))) &&& 4294967295))] [.int r203] d_L_law_795 ml_L_105 q208 rfl (Nat.le_of_ble_eq_true rfl) (Nat.zero_add _) (Nat.zero_add _) (jv_Ct.mono h (fun v M210 N210 h => ?_))
        obtain ⟨r209, rfl, h⟩ := h
        change jv_J g (d + 1) mt_L_law 798 [some (.retAddr 0), some (.ref a1), some (.ref a2), some (.int x3)] [.int r209, .int r203] M210 N210 cr sr Z
        refine jv_icmp_eq (tgt := 1116) d_L_law_798 (by decide) ⟨fun c => ?_, fun c => ?_⟩
        · replace h := h.1 c
          refine jv_iinc (v := (x3 + 7)) (L' := [some (.retAddr 0), some (.ref a1), some (.ref a2), some (.int (x3 + 7))]) d_L_law_1116 rfl rfl (Nat.le_of_ble_eq_true rfl) rfl ?_
          refine jv_goto (tgt := 18) d_L_law_1119 (by decide) ?_
          exact h
        · replace h := h.2 c
          refine jv_iconst (v := 0) d_L_law_801 (by decide) ?_
          exact jv_iret d_L_law_802 rfl (jv_nz (by decide)) h
      · replace h := h.2.2.2.2.2.2.2.2.2.2.2.2.2.2.2.2.2.2.2.2.2.1 hx
        refine jv_aload_n d_L_law_803 rfl rfl ?_
        refine jv_aload_nR d_L_law_804 rfl rfl ?_
        refine jv_iload_n d_L_law_805 rfl rfl ?_
        refine jv_iconst (v := 1) d_L_law_806 (by decide) ?_
        refine jv_iadd d_L_law_807 ?_
        obtain ⟨q211, h⟩ := h
        refine jv_roald (f := (jv_xs g)) d_L_law_808 (Or.inl ⟨rfl, rfl, rfl⟩) q211 ?_
        refine jv_aload_nR d_L_law_809 rfl rfl ?_
        refine jv_iload_n d_L_law_810 rfl rfl ?_
        refine jv_iconst (v := 2) d_L_law_811 (by decide) ?_
        refine jv_iadd d_L_law_812 ?_
        obtain ⟨q212, h⟩ := h
        refine jv_roald (f := (jv_xs g)) d_L_law_813 (Or.inl ⟨rfl, rfl, rfl⟩) q212 ?_
        refine jv_aload_nR d_L_law_814 rfl rfl ?_
        refine jv_iload_n d_L_law_815 rfl rfl ?_
        refine jv_iconst (v := 3) d_L_law_816 (by decide) ?_
        refine jv_iadd d_L_law_817 ?_
        obtain ⟨q213, h⟩ := h
        refine jv_roald (f := (jv_xs g)) d_L_law_818 (Or.inl ⟨rfl, rfl, rfl⟩) q213 ?_
        obtain ⟨q214, h⟩ := h
        refine jv_invV [.int ((jv_xs g) (Int32.toNatClampNeg (x3 + 1))), .int ((jv_xs g) (Int32.toNatClampNeg (x3 + 2))), .int ((jv_xs g) (Int32.toNatClampNeg (x3 + 3)))] [] d_L_law_819 ml_L_106 q214 rfl (Nat.le_of_ble_eq_true rfl) (Nat.zero_add _) (Nat.zero_add _) (jv_Ct.mono h (fun v M216 N216 h => ?_))
        obtain ⟨r215, rfl, h⟩ := h
        change jv_J g (d + 1) mt_L_law 822 [some (.retAddr 0), some (.ref a1), some (.ref a2), some (.int x3)] [.int r215] M216 N216 cr sr Z
        refine jv_aload_n d_L_law_822 rfl rfl ?_
        refine jv_aload_nR d_L_law_823 rfl rfl ?_
        refine jv_iload_n d_L_law_824 rfl rfl ?_
        refine jv_iconst (v := 1) d_L_law_825 (by decide) ?_
        refine jv_iadd d_L_law_826 ?_
        obtain ⟨q217, h⟩ := h
        refine jv_roald (f := (jv_xs g)) d_L_law_827 (Or.inl ⟨rfl, rfl, rfl⟩) q217 ?_
        refine jv_aload_nR d_L_law_828 rfl rfl ?_
        refine jv_iload_n d_L_law_829 rfl rfl ?_
        refine jv_iconst (v := 2) d_L_law_830 (by decide) ?_
        refine jv_iadd d_L_law_831 ?_
        obtain ⟨q218, h⟩ := h
        refine jv_roald (f := (jv_xs g)) d_L_law_832 (Or.inl ⟨rfl, rfl, rfl⟩) q218 ?_
        refine jv_aload_nR d_L_law_833 rfl rfl ?_
        refine jv_iload_n d_L_law_834 rfl rfl ?_
        refine jv_iconst (v := 3) d_L_law_835 (by decide) ?_
        refine jv_iadd d_L_law_836 ?_
        obtain ⟨q219, h⟩ := h
        refine jv_roald (f := (jv_xs g)) d_L_law_837 (Or.inl ⟨rfl, rfl, rfl⟩) q219 ?_
        obtain ⟨q220, h⟩ := h
        refine jv_invV [.int ((jv_xs g) (Int32.toNatClampNeg (x3 + 1))), .int ((jv_xs g) (Int32.toNatClampNeg (x3 + 2))), .int ((jv_xs g) (Int32.toNatClampNeg (x3 + 3)))] [.int r215] d_L_law_838 ml_L_109 q220 rfl (Nat.le_of_ble_eq_true rfl) (Nat.zero_add _) (Nat.zero_add _) (jv_Ct.mono h (fun v M222 N222 h => ?_))
        obtain ⟨r221, rfl, h⟩ := h
        change jv_J g (d + 1) mt_L_law 841 [some (.retAddr 0), some (.ref a1), some (.ref a2), some (.int x3)] [.int r221, .int r215] M222 N222 cr sr Z
        refine jv_icmp_eq (tgt := 1116) d_L_law_841 (by decide) ⟨fun c => ?_, fun c => ?_⟩
        · replace h := h.1 c
          refine jv_iinc (v := (x3 + 7)) (L' := [some (.retAddr 0), some (.ref a1), some (.ref a2), some (.int (x3 + 7))]) d_L_law_1116 rfl rfl (Nat.le_of_ble_eq_true rfl) rfl ?_
          refine jv_goto (tgt := 18) d_L_law_1119 (by decide) ?_
          exact h
        · replace h := h.2 c
          refine jv_iconst (v := 0) d_L_law_844 (by decide) ?_
          exact jv_iret d_L_law_845 rfl (jv_nz (by decide)) h
      · replace h := h.2.2.2.2.2.2.2.2.2.2.2.2.2.2.2.2.2.2.2.2.2.2.1 hx
        refine jv_aload_n d_L_law_846 rfl rfl ?_
        obtain ⟨q223, h⟩ := h
        refine jv_invV [] [] d_L_law_847 ml_L_110 q223 rfl (Nat.le_of_ble_eq_true rfl) (Nat.zero_add _) (Nat.zero_add _) (jv_Ct.mono h (fun v M225 N225 h => ?_))
        obtain ⟨r224, rfl, h⟩ := h
        change jv_J g (d + 1) mt_L_law 850 [some (.retAddr 0), some (.ref a1), some (.ref a2), some (.int x3)] [.int r224] M225 N225 cr sr Z
        refine jv_aload_n d_L_law_850 rfl rfl ?_
        obtain ⟨q226, h⟩ := h
        refine jv_invV [] [.int r224] d_L_law_851 ml_L_113 q226 rfl (Nat.le_of_ble_eq_true rfl) (Nat.zero_add _) (Nat.zero_add _) (jv_Ct.mono h (fun v M228 N228 h => ?_))
        obtain ⟨r227, rfl, h⟩ := h
        change jv_J g (d + 1) mt_L_law 854 [some (.retAddr 0), some (.ref a1), some (.ref a2), some (.int x3)] [.int r227, .int r224] M228 N228 cr sr Z
        refine jv_icmp_eq (tgt := 1116) d_L_law_854 (by decide) ⟨fun c => ?_, fun c => ?_⟩
        · replace h := h.1 c
          refine jv_iinc (v := (x3 + 7)) (L' := [some (.retAddr 0), some (.ref a1), some (.ref a2), some (.int (x3 + 7))]) d_L_law_1116 rfl rfl (Nat.le_of_ble_eq_true rfl) rfl ?_
          refine jv_goto (tgt := 18) d_L_law_1119 (by decide) ?_
          exact h
        · replace h := h.2 c
          refine jv_iconst (v := 0) d_L_law_857 (by decide) ?_
          exact jv_iret d_L_law_858 rfl (jv_nz (by decide)) h
      · replace h := h.2.2.2.2.2.2.2.2.2.2.2.2.2.2.2.2.2.2.2.2.2.2.2.1 hx
        refine jv_aload_n d_L_law_859 rfl rfl ?_
        obtain ⟨q229, h⟩ := h
        refine jv_invV [] [] d_L_law_860 ml_L_114 q229 rfl (Nat.le_of_ble_eq_true rfl) (Nat.zero_add _) (Nat.zero_add _) (jv_Ct.mono h (fun v M231 N231 h => ?_))
        obtain ⟨r230, rfl, h⟩ := h
        change jv_J g (d + 1) mt_L_law 863 [some (.retAddr 0), some (.ref a1), some (.ref a2), some (.int x3)] [.int r230] M231 N231 cr sr Z
        refine jv_aload_n d_L_law_863 rfl rfl ?_
        obtain ⟨q232, h⟩ := h
        refine jv_invV [] [.int r230] d_L_law_864 ml_L_117 q232 rfl (Nat.le_of_ble_eq_true rfl) (Nat.zero_add _) (Nat.zero_add _) (jv_Ct.mono h (fun v M234 N234 h => ?_))
        obtain ⟨r233, rfl, h⟩ := h
        change jv_J g (d + 1) mt_L_law 867 [some (.retAddr 0), some (.ref a1), some (.ref a2), some (.int x3)] [.int r233, .int r230] M234 N234 cr sr Z
        refine jv_icmp_eq (tgt := 1116) d_L_law_867 (by decide) ⟨fun c => ?_, fun c => ?_⟩
        · replace h := h.1 c
          refine jv_iinc (v := (x3 + 7)) (L' := [some (.retAddr 0), some (.ref a1), some (.ref a2), some (.int (x3 + 7))]) d_L_law_1116 rfl rfl (Nat.le_of_ble_eq_true rfl) rfl ?_
          refine jv_goto (tgt := 18) d_L_law_1119 (by decide) ?_
          exact h
        · replace h := h.2 c
          refine jv_iconst (v := 0) d_L_law_870 (by decide) ?_
          exact jv_iret d_L_law_871 rfl (jv_nz (by decide)) h
      · replace h := h.2.2.2.2.2.2.2.2.2.2.2.2.2.2.2.2.2.2.2.2.2.2.2.2.1 hx
        refine jv_aload_n d_L_law_872 rfl rfl ?_
        refine jv_aload_nR d_L_law_873 rfl rfl ?_
        refine jv_iload_n d_L_law_874 rfl rfl ?_
        refine jv_iconst (v := 1) d_L_law_875 (by decide) ?_
        refine jv_iadd d_L_law_876 ?_
        obtain ⟨q235, h⟩ := h
        refine jv_roald (f := (jv_xs g)) d_L_law_877 (Or.inl ⟨rfl, rfl, rfl⟩) q235 ?_
        refine jv_aload_nR d_L_law_878 rfl rfl ?_
        refine jv_iload_n d_L_law_879 rfl rfl ?_
        refine jv_iconst (v := 2) d_L_law_880 (by decide) ?_
        refine jv_iadd d_L_law_881 ?_
        obtain ⟨q236, h⟩ := h
        refine jv_roald (f := (jv_xs g)) d_L_law_882 (Or.inl ⟨rfl, rfl, rfl⟩) q236 ?_
        refine jv_if_eq (tgt := 890) d_L_law_883 (by decide) ⟨fun c => ?_, fun c => ?_⟩
        · replace h := h.1 c
          refine jv_iconst (v := 0) d_L_law_890 (by decide) ?_
          obtain ⟨q237, h⟩ := h
          refine jv_invV [.int ((jv_xs g) (Int32.toNatClampNeg (x3 + 1))), .int 0] [] d_L_law_891 ml_L_118 q237 rfl (Nat.le_of_ble_eq_true rfl) (Nat.zero_add _) (Nat.zero_add _) (jv_Ct.mono h (fun v M239 N239 h => ?_))
          obtain ⟨r238, rfl, h⟩ := h
          change jv_J g (d + 1) mt_L_law 894 [some (.retAddr 0), some (.ref a1), some (.ref a2), some (.int x3)] [.int r238] M239 N239 cr sr Z
          refine jv_aload_n d_L_law_894 rfl rfl ?_
          refine jv_aload_nR d_L_law_895 rfl rfl ?_
          refine jv_iload_n d_L_law_896 rfl rfl ?_
          refine jv_iconst (v := 1) d_L_law_897 (by decide) ?_
          refine jv_iadd d_L_law_898 ?_
          obtain ⟨q240, h⟩ := h
          refine jv_roald (f := (jv_xs g)) d_L_law_899 (Or.inl ⟨rfl, rfl, rfl⟩) q240 ?_
          refine jv_aload_nR d_L_law_900 rfl rfl ?_
          refine jv_iload_n d_L_law_901 rfl rfl ?_
          refine jv_iconst (v := 2) d_L_law_902 (by decide) ?_
          refine jv_iadd d_L_law_903 ?_
          obtain ⟨q241, h⟩ := h
          refine jv_roald (f := (jv_xs g)) d_L_law_904 (Or.inl ⟨rfl, rfl, rfl⟩) q241 ?_
          refine jv_if_eq (tgt := 912) d_L_law_905 (by decide) ⟨fun c => ?_, fun c => ?_⟩
          · replace h := h.1 c
            refine jv_iconst (v := 0) d_L_law_912 (by decide) ?_
            obtain ⟨q242, h⟩ := h
            refine jv_invV [.int ((jv_xs g) (Int32.toNatClampNeg (x3 + 1))), .int 0] [.int r238] d_L_law_913 ml_L_122 q242 rfl (Nat.le_of_ble_eq_true rfl) (Nat.zero_add _) (Nat.zero_add _) (jv_Ct.mono h (fun v M244 N244 h => ?_))
            obtain ⟨r243, rfl, h⟩ := h
            change jv_J g (d + 1) mt_L_law 916 [some (.retAddr 0), some (.ref a1), some (.ref a2), some (.int x3)] [.int r243, .int r238] M244 N244 cr sr Z
            refine jv_icmp_eq (tgt := 1116) d_L_law_916 (by decide) ⟨fun c => ?_, fun c => ?_⟩
            · replace h := h.1 c
              refine jv_iinc (v := (x3 + 7)) (L' := [some (.retAddr 0), some (.ref a1), some (.ref a2), some (.int (x3 + 7))]) d_L_law_1116 rfl rfl (Nat.le_of_ble_eq_true rfl) rfl ?_
              refine jv_goto (tgt := 18) d_L_law_1119 (by decide) ?_
              exact h
            · replace h := h.2 c
              refine jv_iconst (v := 0) d_L_law_919 (by decide) ?_
              exact jv_iret d_L_law_920 rfl (jv_nz (by decide)) h
          · replace h := h.2 c
            refine jv_iconst (v := 1) d_L_law_908 (by decide) ?_
            refine jv_goto (tgt := 913) d_L_law_909 (by decide) ?_
            obtain ⟨q245, h⟩ := h
            refine jv_invV [.int ((jv_xs g) (Int32.toNatClampNeg (x3 + 1))), .int 1] [.int r238] d_L_law_913 ml_L_122 q245 rfl (Nat.le_of_ble_eq_true rfl) (Nat.zero_add _) (Nat.zero_add _) (jv_Ct.mono h (fun v M247 N247 h => ?_))
            obtain ⟨r246, rfl, h⟩ := h
            change jv_J g (d + 1) mt_L_law 916 [some (.retAddr 0), some (.ref a1), some (.ref a2), some (.int x3)] [.int r246, .int r238] M247 N247 cr sr Z
            refine jv_icmp_eq (tgt := 1116) d_L_law_916 (by decide) ⟨fun c => ?_, fun c => ?_⟩
            · replace h := h.1 c
              refine jv_iinc (v := (x3 + 7)) (L' := [some (.retAddr 0), some (.ref a1), some (.ref a2), some (.int (x3 + 7))]) d_L_law_1116 rfl rfl (Nat.le_of_ble_eq_true rfl) rfl ?_
              refine jv_goto (tgt := 18) d_L_law_1119 (by decide) ?_
              exact h
            · replace h := h.2 c
              refine jv_iconst (v := 0) d_L_law_919 (by decide) ?_
              exact jv_iret d_L_law_920 rfl (jv_nz (by decide)) h
        · replace h := h.2 c
          refine jv_iconst (v := 1) d_L_law_886 (by decide) ?_
          refine jv_goto (tgt := 891) d_L_law_887 (by decide) ?_
          obtain ⟨q248, h⟩ := h
          refine jv_invV [.int ((jv_xs g) (Int32.toNatClampNeg (x3 + 1))), .int 1] [] d_L_law_891 ml_L_118 q248 rfl (Nat.le_of_ble_eq_true rfl) (Nat.zero_add _) (Nat.zero_add _) (jv_Ct.mono h (fun v M250 N250 h => ?_))
          obtain ⟨r249, rfl, h⟩ := h
          change jv_J g (d + 1) mt_L_law 894 [some (.retAddr 0), some (.ref a1), some (.ref a2), some (.int x3)] [.int r249] M250 N250 cr sr Z
          refine jv_aload_n d_L_law_894 rfl rfl ?_
          refine jv_aload_nR d_L_law_895 rfl rfl ?_
          refine jv_iload_n d_L_law_896 rfl rfl ?_
          refine jv_iconst (v := 1) d_L_law_897 (by decide) ?_
          refine jv_iadd d_L_law_898 ?_
          obtain ⟨q251, h⟩ := h
          refine jv_roald (f := (jv_xs g)) d_L_law_899 (Or.inl ⟨rfl, rfl, rfl⟩) q251 ?_
          refine jv_aload_nR d_L_law_900 rfl rfl ?_
          refine jv_iload_n d_L_law_901 rfl rfl ?_
          refine jv_iconst (v := 2) d_L_law_902 (by decide) ?_
          refine jv_iadd d_L_law_903 ?_
          obtain ⟨q252, h⟩ := h
          refine jv_roald (f := (jv_xs g)) d_L_law_904 (Or.inl ⟨rfl, rfl, rfl⟩) q252 ?_
          refine jv_if_eq (tgt := 912) d_L_law_905 (by decide) ⟨fun c => ?_, fun c => ?_⟩
          · replace h := h.1 c
            refine jv_iconst (v := 0) d_L_law_912 (by decide) ?_
            obtain ⟨q253, h⟩ := h
            refine jv_invV [.int ((jv_xs g) (Int32.toNatClampNeg (x3 + 1))), .int 0] [.int r249] d_L_law_913 ml_L_122 q253 rfl (Nat.le_of_ble_eq_true rfl) (Nat.zero_add _) (Nat.zero_add _) (jv_Ct.mono h (fun v M255 N255 h => ?_))
            obtain ⟨r254, rfl, h⟩ := h
            change jv_J g (d + 1) mt_L_law 916 [some (.retAddr 0), some (.ref a1), some (.ref a2), some (.int x3)] [.int r254, .int r249] M255 N255 cr sr Z
            refine jv_icmp_eq (tgt := 1116) d_L_law_916 (by decide) ⟨fun c => ?_, fun c => ?_⟩
            · replace h := h.1 c
              refine jv_iinc (v := (x3 + 7)) (L' := [some (.retAddr 0), some (.ref a1), some (.ref a2), some (.int (x3 + 7))]) d_L_law_1116 rfl rfl (Nat.le_of_ble_eq_true rfl) rfl ?_
              refine jv_goto (tgt := 18) d_L_law_1119 (by decide) ?_
              exact h
            · replace h := h.2 c
              refine jv_iconst (v := 0) d_L_law_919 (by decide) ?_
              exact jv_iret d_L_law_920 rfl (jv_nz (by decide)) h
          · replace h := h.2 c
            refine jv_iconst (v := 1) d_L_law_908 (by decide) ?_
            refine jv_goto (tgt := 913) d_L_law_909 (by decide) ?_
            obtain ⟨q256, h⟩ := h
            refine jv_invV [.int ((jv_xs g) (Int32.toNatClampNeg (x3 + 1))), .int 1] [.int r249] d_L_law_913 ml_L_122 q256 rfl (Nat.le_of_ble_eq_true rfl) (Nat.zero_add _) (Nat.zero_add _) (jv_Ct.mono h (fun v M258 N258 h => ?_))
            obtain ⟨r257, rfl, h⟩ := h
            change jv_J g (d + 1) mt_L_law 916 [some (.retAddr 0), some (.ref a1), some (.ref a2), some (.int x3)] [.int r257, .int r249] M258 N258 cr sr Z
            refine jv_icmp_eq (tgt := 1116) d_L_law_916 (by decide) ⟨fun c => ?_, fun c => ?_⟩
            · replace h := h.1 c
              refine jv_iinc (v := (x3 + 7)) (L' := [some (.retAddr 0), some (.ref a1), some (.ref a2), some (.int (x3 + 7))]) d_L_law_1116 rfl rfl (Nat.le_of_ble_eq_true rfl) rfl ?_
              refine jv_goto (tgt := 18) d_L_law_1119 (by decide) ?_
              exact h
            · replace h := h.2 c
              refine jv_iconst (v := 0) d_L_law_919 (by decide) ?_
              exact jv_iret d_L_law_920 rfl (jv_nz (by decide)) h
      · replace h := h.2.2.2.2.2.2.2.2.2.2.2.2.2.2.2.2.2.2.2.2.2.2.2.2.2.1 hx
        refine jv_aload_n d_L_law_921 rfl rfl ?_
        refine jv_aload_nR d_L_law_922 rfl rfl ?_
        refine jv_iload_n d_L_law_923 rfl rfl ?_
        refine jv_iconst (v := 1) d_L_law_924 (by decide) ?_
        refine jv_iadd d_L_law_925 ?_
        obtain ⟨q259, h⟩ := h
        refine jv_roald (f := (jv_xs g)) d_L_law_926 (Or.inl ⟨rfl, rfl, rfl⟩) q259 ?_
        refine jv_aload_nR d_L_law_927 rfl rfl ?_
        refine jv_iload_n d_L_law_928 rfl rfl ?_
        refine jv_iconst (v := 2) d_L_law_929 (by decide) ?_
        refine jv_iadd d_L_law_930 ?_
        obtain ⟨q260, h⟩ := h
        refine jv_roald (f := (jv_xs g)) d_L_law_931 (Or.inl ⟨rfl, rfl, rfl⟩) q260 ?_
        refine jv_if_eq (tgt := 939) d_L_law_932 (by decide) ⟨fun c => ?_, fun c => ?_⟩
        · replace h := h.1 c
          refine jv_iconst (v := 0) d_L_law_939 (by decide) ?_
          obtain ⟨q261, h⟩ := h
          refine jv_invV [.int ((jv_xs g) (Int32.toNatClampNeg (x3 + 1))), .int 0] [] d_L_law_940 ml_L_123 q261 rfl (Nat.le_of_ble_eq_true rfl) (Nat.zero_add _) (Nat.zero_add _) (jv_Ct.mono h (fun v M263 N263 h => ?_))
          obtain ⟨r262, rfl, h⟩ := h
          change jv_J g (d + 1) mt_L_law 943 [some (.retAddr 0), some (.ref a1), some (.ref a2), some (.int x3)] [.int r262] M263 N263 cr sr Z
          refine jv_aload_n d_L_law_943 rfl rfl ?_
          refine jv_aload_nR d_L_law_944 rfl rfl ?_
          refine jv_iload_n d_L_law_945 rfl rfl ?_
          refine jv_iconst (v := 1) d_L_law_946 (by decide) ?_
          refine jv_iadd d_L_law_947 ?_
          obtain ⟨q264, h⟩ := h
          refine jv_roald (f := (jv_xs g)) d_L_law_948 (Or.inl ⟨rfl, rfl, rfl⟩) q264 ?_
          refine jv_aload_nR d_L_law_949 rfl rfl ?_
          refine jv_iload_n d_L_law_950 rfl rfl ?_
          refine jv_iconst (v := 2) d_L_law_951 (by decide) ?_
          refine jv_iadd d_L_law_952 ?_
          obtain ⟨q265, h⟩ := h
          refine jv_roald (f := (jv_xs g)) d_L_law_953 (Or.inl ⟨rfl, rfl, rfl⟩) q265 ?_
          refine jv_if_eq (tgt := 961) d_L_law_954 (by decide) ⟨fun c => ?_, fun c => ?_⟩
          · replace h := h.1 c
            refine jv_iconst (v := 0) d_L_law_961 (by decide) ?_
            obtain ⟨q266, h⟩ := h
            refine jv_invV [.int ((jv_xs g) (Int32.toNatClampNeg (x3 + 1))), .int 0] [.int r262] d_L_law_962 ml_L_126 q266 rfl (Nat.le_of_ble_eq_true rfl) (Nat.zero_add _) (Nat.zero_add _) (jv_Ct.mono h (fun v M268 N268 h => ?_))
            obtain ⟨r267, rfl, h⟩ := h
            change jv_J g (d + 1) mt_L_law 965 [some (.retAddr 0), some (.ref a1), some (.ref a2), some (.int x3)] [.int r267, .int r262] M268 N268 cr sr Z
            refine jv_icmp_eq (tgt := 1116) d_L_law_965 (by decide) ⟨fun c => ?_, fun c => ?_⟩
            · replace h := h.1 c
              refine jv_iinc (v := (x3 + 7)) (L' := [some (.retAddr 0), some (.ref a1), some (.ref a2), some (.int (x3 + 7))]) d_L_law_1116 rfl rfl (Nat.le_of_ble_eq_true rfl) rfl ?_
              refine jv_goto (tgt := 18) d_L_law_1119 (by decide) ?_
              exact h
            · replace h := h.2 c
              refine jv_iconst (v := 0) d_L_law_968 (by decide) ?_
              exact jv_iret d_L_law_969 rfl (jv_nz (by decide)) h
          · replace h := h.2 c
            refine jv_iconst (v := 1) d_L_law_957 (by decide) ?_
            refine jv_goto (tgt := 962) d_L_law_958 (by decide) ?_
            obtain ⟨q269, h⟩ := h
            refine jv_invV [.int ((jv_xs g) (Int32.toNatClampNeg (x3 + 1))), .int 1] [.int r262] d_L_law_962 ml_L_126 q269 rfl (Nat.le_of_ble_eq_true rfl) (Nat.zero_add _) (Nat.zero_add _) (jv_Ct.mono h (fun v M271 N271 h => ?_))
            obtain ⟨r270, rfl, h⟩ := h
            change jv_J g (d + 1) mt_L_law 965 [some (.retAddr 0), some (.ref a1), some (.ref a2), some (.int x3)] [.int r270, .int r262] M271 N271 cr sr Z
            refine jv_icmp_eq (tgt := 1116) d_L_law_965 (by decide) ⟨fun c => ?_, fun c => ?_⟩
            · replace h := h.1 c
              refine jv_iinc (v := (x3 + 7)) (L' := [some (.retAddr 0), some (.ref a1), some (.ref a2), some (.int (x3 + 7))]) d_L_law_1116 rfl rfl (Nat.le_of_ble_eq_true rfl) rfl ?_
              refine jv_goto (tgt := 18) d_L_law_1119 (by decide) ?_
              exact h
            · replace h := h.2 c
              refine jv_iconst (v := 0) d_L_law_968 (by decide) ?_
              exact jv_iret d_L_law_969 rfl (jv_nz (by decide)) h
        · replace h := h.2 c
          refine jv_iconst (v := 1) d_L_law_935 (by decide) ?_
          refine jv_goto (tgt := 940) d_L_law_936 (by decide) ?_
          obtain ⟨q272, h⟩ := h
          refine jv_invV [.int ((jv_xs g) (Int32.toNatClampNeg (x3 + 1))), .int 1] [] d_L_law_940 ml_L_123 q272 rfl (Nat.le_of_ble_eq_true rfl) (Nat.zero_add _) (Nat.zero_add _) (jv_Ct.mono h (fun v M274 N274 h => ?_))
          obtain ⟨r273, rfl, h⟩ := h
          change jv_J g (d + 1) mt_L_law 943 [some (.retAddr 0), some (.ref a1), some (.ref a2), some (.int x3)] [.int r273] M274 N274 cr sr Z
          refine jv_aload_n d_L_law_943 rfl rfl ?_
          refine jv_aload_nR d_L_law_944 rfl rfl ?_
          refine jv_iload_n d_L_law_945 rfl rfl ?_
          refine jv_iconst (v := 1) d_L_law_946 (by decide) ?_
          refine jv_iadd d_L_law_947 ?_
          obtain ⟨q275, h⟩ := h
          refine jv_roald (f := (jv_xs g)) d_L_law_948 (Or.inl ⟨rfl, rfl, rfl⟩) q275 ?_
          refine jv_aload_nR d_L_law_949 rfl rfl ?_
          refine jv_iload_n d_L_law_950 rfl rfl ?_
          refine jv_iconst (v := 2) d_L_law_951 (by decide) ?_
          refine jv_iadd d_L_law_952 ?_
          obtain ⟨q276, h⟩ := h
          refine jv_roald (f := (jv_xs g)) d_L_law_953 (Or.inl ⟨rfl, rfl, rfl⟩) q276 ?_
          refine jv_if_eq (tgt := 961) d_L_law_954 (by decide) ⟨fun c => ?_, fun c => ?_⟩
          · replace h := h.1 c
            refine jv_iconst (v := 0) d_L_law_961 (by decide) ?_
            obtain ⟨q277, h⟩ := h
            refine jv_invV [.int ((jv_xs g) (Int32.toNatClampNeg (x3 + 1))), .int 0] [.int r273] d_L_law_962 ml_L_126 q277 rfl (Nat.le_of_ble_eq_true rfl) (Nat.zero_add _) (Nat.zero_add _) (jv_Ct.mono h (fun v M279 N279 h => ?_))
            obtain ⟨r278, rfl, h⟩ := h
            change jv_J g (d + 1) mt_L_law 965 [some (.retAddr 0), some (.ref a1), some (.ref a2), some (.int x3)] [.int r278, .int r273] M279 N279 cr sr Z
            refine jv_icmp_eq (tgt := 1116) d_L_law_965 (by decide) ⟨fun c => ?_, fun c => ?_⟩
            · replace h := h.1 c
              refine jv_iinc (v := (x3 + 7)) (L' := [some (.retAddr 0), some (.ref a1), some (.ref a2), some (.int (x3 + 7))]) d_L_law_1116 rfl rfl (Nat.le_of_ble_eq_true rfl) rfl ?_
              refine jv_goto (tgt := 18) d_L_law_1119 (by decide) ?_
              exact h
            · replace h := h.2 c
              refine jv_iconst (v := 0) d_L_law_968 (by decide) ?_
              exact jv_iret d_L_law_969 rfl (jv_nz (by decide)) h
          · replace h := h.2 c
            refine jv_iconst (v := 1) d_L_law_957 (by decide) ?_
            refine jv_goto (tgt := 962) d_L_law_958 (by decide) ?_
            obtain ⟨q280, h⟩ := h
            refine jv_invV [.int ((jv_xs g) (Int32.toNatClampNeg (x3 + 1))), .int 1] [.int r273] d_L_law_962 ml_L_126 q280 rfl (Nat.le_of_ble_eq_true rfl) (Nat.zero_add _) (Nat.zero_add _) (jv_Ct.mono h (fun v M282 N282 h => ?_))
            obtain ⟨r281, rfl, h⟩ := h
            change jv_J g (d + 1) mt_L_law 965 [some (.retAddr 0), some (.ref a1), some (.ref a2), some (.int x3)] [.int r281, .int r273] M282 N282 cr sr Z
            refine jv_icmp_eq (tgt := 1116) d_L_law_965 (by decide) ⟨fun c => ?_, fun c => ?_⟩
            · replace h := h.1 c
              refine jv_iinc (v := (x3 + 7)) (L' := [some (.retAddr 0), some (.ref a1), some (.ref a2), some (.int (x3 + 7))]) d_L_law_1116 rfl rfl (Nat.le_of_ble_eq_true rfl) rfl ?_
              refine jv_goto (tgt := 18) d_L_law_1119 (by decide) ?_
              exact h
            · replace h := h.2 c
              refine jv_iconst (v := 0) d_L_law_968 (by decide) ?_
              exact jv_iret d_L_law_969 rfl (jv_nz (by decide)) h
      · replace h := h.2.2.2.2.2.2.2.2.2.2.2.2.2.2.2.2.2.2.2.2.2.2.2.2.2.2.1 hx
        refine jv_aload_n d_L_law_970 rfl rfl ?_
        refine jv_aload_nR d_L_law_971 rfl rfl ?_
        refine jv_iload_n d_L_law_972 rfl rfl ?_
        refine jv_iconst (v := 1) d_L_law_973 (by decide) ?_
        refine jv_iadd d_L_law_974 ?_
        obtain ⟨q283, h⟩ := h
        refine jv_roald (f := (jv_xs g)) d_L_law_975 (Or.inl ⟨rfl, rfl, rfl⟩) q283 ?_
        refine jv_i2l d_L_law_976 ?_
        refine jv_bipush (v := 32) d_L_law_977 (by decide) ?_
        refine jv_lshl d_L_law_979 ?_
        refine jv_aload_nR d_L_law_980 rfl rfl ?_
        refine jv_iload_n d_L_law_981 rfl rfl ?_
        refine jv_iconst (v := 2) d_L_law_982 (by decide) ?_
        refine jv_iadd d_L_law_983 ?_
        obtain ⟨q284, h⟩ := h
        refine jv_roald (f := (jv_xs g)) d_L_law_984 (Or.inl ⟨rfl, rfl, rfl⟩) q284 ?_
        refine jv_i2l d_L_law_985 ?_
        refine jv_ldc2 d_L_law_986 co_L_99 ?_
        refine jv_land d_L_law_989 ?_
        refine jv_lor d_L_law_990 ?_
        obtain ⟨q285, h⟩ := h
        refine jv_invV [.long (((Int32.toInt64 ((jv_xs g) (Int32.toNatClampNeg (x3 + 1)))) <<< ((32 : Int32).toInt64 &&& 63)) ||| ((Int32.toInt64 ((jv_xs g) (Int32.toNatClampNeg (x3 + 2)))) &&& 4294967295))] [] d_L_law_991 ml_L_127 q285 rfl (Nat.le_of_ble_eq_true rfl) (Nat.zero_add _) (Nat.zero_add _) (jv_Ct.mono h (fun v M287 N287 h => ?_))
        obtain ⟨r286, rfl, h⟩ := h
        change jv_J g (d + 1) mt_L_law 994 [some (.retAddr 0), some (.ref a1), some (.ref a2), some (.int x3)] [.long r286] M287 N287 cr sr Z
        refine jv_aload_n d_L_law_994 rfl rfl ?_
        refine jv_aload_nR d_L_law_995 rfl rfl ?_
        refine jv_iload_n d_L_law_996 rfl rfl ?_
        refine jv_iconst (v := 1) d_L_law_997 (by decide) ?_
        refine jv_iadd d_L_law_998 ?_
        obtain ⟨q288, h⟩ := h
        refine jv_roald (f := (jv_xs g)) d_L_law_999 (Or.inl ⟨rfl, rfl, rfl⟩) q288 ?_
        refine jv_i2l d_L_law_1000 ?_
        refine jv_bipush (v := 32) d_L_law_1001 (by decide) ?_
        refine jv_lshl d_L_law_1003 ?_
        refine jv_aload_nR d_L_law_1004 rfl rfl ?_
        refine jv_iload_n d_L_law_1005 rfl rfl ?_
        refine jv_iconst (v := 2) d_L_law_1006 (by decide) ?_
        refine jv_iadd d_L_law_1007 ?_
        obtain ⟨q289, h⟩ := h
        refine jv_roald (f := (jv_xs g)) d_L_law_1008 (Or.inl ⟨rfl, rfl, rfl⟩) q289 ?_
        refine jv_i2l d_L_law_1009 ?_
        refine jv_ldc2 d_L_law_1010 co_L_99 ?_
        refine jv_land d_L_law_1013 ?_
        refine jv_lor d_L_law_1014 ?_
        obtain ⟨q290, h⟩ := h
        refine jv_invV [.long (((Int32.toInt64 ((jv_xs g) (Int32.toNatClampNeg (x3 + 1)))) <<< ((32 : Int32).toInt64 &&& 63)) ||| ((Int32.toInt64 ((jv_xs g) (Int32.toNatClampNeg (x3 + 2)))) &&& 4294967295))] [.long r286] d_L_law_1015 ml_L_131 q290 rfl (Nat.le_of_ble_eq_true rfl) (Nat.zero_add _) (Nat.zero_add _) (jv_Ct.mono h (fun v M292 N292 h => ?_))
        obtain ⟨r291, rfl, h⟩ := h
        change jv_J g (d + 1) mt_L_law 1018 [some (.retAddr 0), some (.ref a1), some (.ref a2), some (.int x3)] [.long r291, .long r286] M292 N292 cr sr Z
        refine jv_lcmp d_L_law_1018 ?_
        refine jv_if_eq (tgt := 1116) d_L_law_1019 (by decide) ⟨fun c => ?_, fun c => ?_⟩
        · replace h := h.1 c
          refine jv_iinc (v := (x3 + 7)) (L' := [some (.retAddr 0), some (.ref a1), some (.ref a2), some (.int (x3 + 7))]) d_L_law_1116 rfl rfl (Nat.le_of_ble_eq_true rfl) rfl ?_
          refine jv_goto (tgt := 18) d_L_law_1119 (by decide) ?_
          exact h
        · replace h := h.2 c
          refine jv_iconst (v := 0) d_L_law_1022 (by decide) ?_
          exact jv_iret d_L_law_1023 rfl (jv_nz (by decide)) h
      · replace h := h.2.2.2.2.2.2.2.2.2.2.2.2.2.2.2.2.2.2.2.2.2.2.2.2.2.2.2.1 hx
        refine jv_aload_n d_L_law_1024 rfl rfl ?_
        refine jv_aload_nR d_L_law_1025 rfl rfl ?_
        refine jv_iload_n d_L_law_1026 rfl rfl ?_
        refine jv_iconst (v := 1) d_L_law_1027 (by decide) ?_
        refine jv_iadd d_L_law_1028 ?_
        obtain ⟨q293, h⟩ := h
        refine jv_roald (f := (jv_xs g)) d_L_law_1029 (Or.inl ⟨rfl, rfl, rfl⟩) q293 ?_
        obtain ⟨q294, h⟩ := h
        refine jv_invV [.int ((jv_xs g) (Int32.toNatClampNeg (x3 + 1)))] [] d_L_law_1030 ml_L_132 q294 rfl (Nat.le_of_ble_eq_true rfl) (Nat.zero_add _) (Nat.zero_add _) (jv_Ct.mono h (fun v M296 N296 h => ?_))
        obtain ⟨r295, rfl, h⟩ := h
        change jv_J g (d + 1) mt_L_law 1033 [some (.retAddr 0), some (.ref a1), some (.ref a2), some (.int x3)] [.int r295] M296 N296 cr sr Z
        refine jv_aload_n d_L_law_1033 rfl rfl ?_
        refine jv_aload_nR d_L_law_1034 rfl rfl ?_
        refine jv_iload_n d_L_law_1035 rfl rfl ?_
        refine jv_iconst (v := 1) d_L_law_1036 (by decide) ?_
        refine jv_iadd d_L_law_1037 ?_
        obtain ⟨q297, h⟩ := h
        refine jv_roald (f := (jv_xs g)) d_L_law_1038 (Or.inl ⟨rfl, rfl, rfl⟩) q297 ?_
        obtain ⟨q298, h⟩ := h
        refine jv_invV [.int ((jv_xs g) (Int32.toNatClampNeg (x3 + 1)))] [.int r295] d_L_law_1039 ml_L_135 q298 rfl (Nat.le_of_ble_eq_true rfl) (Nat.zero_add _) (Nat.zero_add _) (jv_Ct.mono h (fun v M300 N300 h => ?_))
        obtain ⟨r299, rfl, h⟩ := h
        change jv_J g (d + 1) mt_L_law 1042 [some (.retAddr 0), some (.ref a1), some (.ref a2), some (.int x3)] [.int r299, .int r295] M300 N300 cr sr Z
        refine jv_icmp_eq (tgt := 1116) d_L_law_1042 (by decide) ⟨fun c => ?_, fun c => ?_⟩
        · replace h := h.1 c
          refine jv_iinc (v := (x3 + 7)) (L' := [some (.retAddr 0), some (.ref a1), some (.ref a2), some (.int (x3 + 7))]) d_L_law_1116 rfl rfl (Nat.le_of_ble_eq_true rfl) rfl ?_
          refine jv_goto (tgt := 18) d_L_law_1119 (by decide) ?_
          exact h
        · replace h := h.2 c
          refine jv_iconst (v := 0) d_L_law_1045 (by decide) ?_
          exact jv_iret d_L_law_1046 rfl (jv_nz (by decide)) h
      · replace h := h.2.2.2.2.2.2.2.2.2.2.2.2.2.2.2.2.2.2.2.2.2.2.2.2.2.2.2.2.1 hx
        refine jv_aload_n d_L_law_1047 rfl rfl ?_
        refine jv_aload_nR d_L_law_1048 rfl rfl ?_
        refine jv_iload_n d_L_law_1049 rfl rfl ?_
        refine jv_iconst (v := 1) d_L_law_1050 (by decide) ?_
        refine jv_iadd d_L_law_1051 ?_
        obtain ⟨q301, h⟩ := h
        refine jv_roald (f := (jv_xs g)) d_L_law_1052 (Or.inl ⟨rfl, rfl, rfl⟩) q301 ?_
        obtain ⟨q302, h⟩ := h
        refine jv_invV [.int ((jv_xs g) (Int32.toNatClampNeg (x3 + 1)))] [] d_L_law_1053 ml_L_136 q302 rfl (Nat.le_of_ble_eq_true rfl) (Nat.zero_add _) (Nat.zero_add _) (jv_Ct.mono h (fun v M304 N304 h => ?_))
        obtain ⟨r303, rfl, h⟩ := h
        change jv_J g (d + 1) mt_L_law 1056 [some (.retAddr 0), some (.ref a1), some (.ref a2), some (.int x3)] [.int r303] M304 N304 cr sr Z
        refine jv_aload_n d_L_law_1056 rfl rfl ?_
        refine jv_aload_nR d_L_law_1057 rfl rfl ?_
        refine jv_iload_n d_L_law_1058 rfl rfl ?_
        refine jv_iconst (v := 1) d_L_law_1059 (by decide) ?_
        refine jv_iadd d_L_law_1060 ?_
        obtain ⟨q305, h⟩ := h
        refine jv_roald (f := (jv_xs g)) d_L_law_1061 (Or.inl ⟨rfl, rfl, rfl⟩) q305 ?_
        obtain ⟨q306, h⟩ := h
        refine jv_invV [.int ((jv_xs g) (Int32.toNatClampNeg (x3 + 1)))] [.int r303] d_L_law_1062 ml_L_139 q306 rfl (Nat.le_of_ble_eq_true rfl) (Nat.zero_add _) (Nat.zero_add _) (jv_Ct.mono h (fun v M308 N308 h => ?_))
        obtain ⟨r307, rfl, h⟩ := h
        change jv_J g (d + 1) mt_L_law 1065 [some (.retAddr 0), some (.ref a1), some (.ref a2), some (.int x3)] [.int r307, .int r303] M308 N308 cr sr Z
        refine jv_icmp_eq (tgt := 1116) d_L_law_1065 (by decide) ⟨fun c => ?_, fun c => ?_⟩
        · replace h := h.1 c
          refine jv_iinc (v := (x3 + 7)) (L' := [some (.retAddr 0), some (.ref a1), some (.ref a2), some (.int (x3 + 7))]) d_L_law_1116 rfl rfl (Nat.le_of_ble_eq_true rfl) rfl ?_
          refine jv_goto (tgt := 18) d_L_law_1119 (by decide) ?_
          exact h
        · replace h := h.2 c
          refine jv_iconst (v := 0) d_L_law_1068 (by decide) ?_
          exact jv_iret d_L_law_1069 rfl (jv_nz (by decide)) h
      · replace h := h.2.2.2.2.2.2.2.2.2.2.2.2.2.2.2.2.2.2.2.2.2.2.2.2.2.2.2.2.2.1 hx
        refine jv_aload_n d_L_law_1070 rfl rfl ?_
        refine jv_aload_nR d_L_law_1071 rfl rfl ?_
        refine jv_iload_n d_L_law_1072 rfl rfl ?_
        refine jv_iconst (v := 1) d_L_law_1073 (by decide) ?_
        refine jv_iadd d_L_law_1074 ?_
        obtain ⟨q309, h⟩ := h
        refine jv_roald (f := (jv_xs g)) d_L_law_1075 (Or.inl ⟨rfl, rfl, rfl⟩) q309 ?_
        obtain ⟨q310, h⟩ := h
        refine jv_invV [.int ((jv_xs g) (Int32.toNatClampNeg (x3 + 1)))] [] d_L_law_1076 ml_L_140 q310 rfl (Nat.le_of_ble_eq_true rfl) (Nat.zero_add _) (Nat.zero_add _) (jv_Ct.mono h (fun v M312 N312 h => ?_))
        obtain ⟨r311, rfl, h⟩ := h
        change jv_J g (d + 1) mt_L_law 1079 [some (.retAddr 0), some (.ref a1), some (.ref a2), some (.int x3)] [.int r311] M312 N312 cr sr Z
        refine jv_aload_n d_L_law_1079 rfl rfl ?_
        refine jv_aload_nR d_L_law_1080 rfl rfl ?_
        refine jv_iload_n d_L_law_1081 rfl rfl ?_
        refine jv_iconst (v := 1) d_L_law_1082 (by decide) ?_
        refine jv_iadd d_L_law_1083 ?_
        obtain ⟨q313, h⟩ := h
        refine jv_roald (f := (jv_xs g)) d_L_law_1084 (Or.inl ⟨rfl, rfl, rfl⟩) q313 ?_
        obtain ⟨q314, h⟩ := h
        refine jv_invV [.int ((jv_xs g) (Int32.toNatClampNeg (x3 + 1)))] [.int r311] d_L_law_1085 ml_L_143 q314 rfl (Nat.le_of_ble_eq_true rfl) (Nat.zero_add _) (Nat.zero_add _) (jv_Ct.mono h (fun v M316 N316 h => ?_))
        obtain ⟨r315, rfl, h⟩ := h
        change jv_J g (d + 1) mt_L_law 1088 [some (.retAddr 0), some (.ref a1), some (.ref a2), some (.int x3)] [.int r315, .int r311] M316 N316 cr sr Z
        refine jv_icmp_eq (tgt := 1116) d_L_law_1088 (by decide) ⟨fun c => ?_, fun c => ?_⟩
        · replace h := h.1 c
          refine jv_iinc (v := (x3 + 7)) (L' := [some (.retAddr 0), some (.ref a1), some (.ref a2), some (.int (x3 + 7))]) d_L_law_1116 rfl rfl (Nat.le_of_ble_eq_true rfl) rfl ?_
          refine jv_goto (tgt := 18) d_L_law_1119 (by decide) ?_
          exact h
        · replace h := h.2 c
          refine jv_iconst (v := 0) d_L_law_1091 (by decide) ?_
          exact jv_iret d_L_law_1092 rfl (jv_nz (by decide)) h
      · replace h := h.2.2.2.2.2.2.2.2.2.2.2.2.2.2.2.2.2.2.2.2.2.2.2.2.2.2.2.2.2.2.1 hx
        refine jv_aload_n d_L_law_1093 rfl rfl ?_
        refine jv_aload_nR d_L_law_1094 rfl rfl ?_
        refine jv_iload_n d_L_law_1095 rfl rfl ?_
        refine jv_iconst (v := 1) d_L_law_1096 (by decide) ?_
        refine jv_iadd d_L_law_1097 ?_
        obtain ⟨q317, h⟩ := h
        refine jv_roald (f := (jv_xs g)) d_L_law_1098 (Or.inl ⟨rfl, rfl, rfl⟩) q317 ?_
        obtain ⟨q318, h⟩ := h
        refine jv_invV [.int ((jv_xs g) (Int32.toNatClampNeg (x3 + 1)))] [] d_L_law_1099 ml_L_144 q318 rfl (Nat.le_of_ble_eq_true rfl) (Nat.zero_add _) (Nat.zero_add _) (jv_Ct.mono h (fun v M320 N320 h => ?_))
        obtain ⟨r319, rfl, h⟩ := h
        change jv_J g (d + 1) mt_L_law 1102 [some (.retAddr 0), some (.ref a1), some (.ref a2), some (.int x3)] [.int r319] M320 N320 cr sr Z
        refine jv_aload_n d_L_law_1102 rfl rfl ?_
        refine jv_aload_nR d_L_law_1103 rfl rfl ?_
        refine jv_iload_n d_L_law_1104 rfl rfl ?_
        refine jv_iconst (v := 1) d_L_law_1105 (by decide) ?_
        refine jv_iadd d_L_law_1106 ?_
        obtain ⟨q321, h⟩ := h
        refine jv_roald (f := (jv_xs g)) d_L_law_1107 (Or.inl ⟨rfl, rfl, rfl⟩) q321 ?_
        obtain ⟨q322, h⟩ := h
        refine jv_invV [.int ((jv_xs g) (Int32.toNatClampNeg (x3 + 1)))] [.int r319] d_L_law_1108 ml_L_147 q322 rfl (Nat.le_of_ble_eq_true rfl) (Nat.zero_add _) (Nat.zero_add _) (jv_Ct.mono h (fun v M324 N324 h => ?_))
        obtain ⟨r323, rfl, h⟩ := h
        change jv_J g (d + 1) mt_L_law 1111 [some (.retAddr 0), some (.ref a1), some (.ref a2), some (.int x3)] [.int r323, .int r319] M324 N324 cr sr Z
        refine jv_icmp_eq (tgt := 1116) d_L_law_1111 (by decide) ⟨fun c => ?_, fun c => ?_⟩
        · replace h := h.1 c
          refine jv_iinc (v := (x3 + 7)) (L' := [some (.retAddr 0), some (.ref a1), some (.ref a2), some (.int (x3 + 7))]) d_L_law_1116 rfl rfl (Nat.le_of_ble_eq_true rfl) rfl ?_
          refine jv_goto (tgt := 18) d_L_law_1119 (by decide) ?_
          exact h
        · replace h := h.2 c
          refine jv_iconst (v := 0) d_L_law_1114 (by decide) ?_
          exact jv_iret d_L_law_1115 rfl (jv_nz (by decide)) h
    · exact hD2 ⟨hq _ (List.mem_of_getElem? (i := 0) rfl), hq _ (List.mem_of_getElem? (i := 1) rfl), hq _ (List.mem_of_getElem? (i := 2) rfl), hq _ (List.mem_of_getElem? (i := 3) rfl), hq _ (List.mem_of_getElem? (i := 4) rfl), hq _ (List.mem_of_getElem? (i := 5) rfl), hq _ (List.mem_of_getElem? (i := 6) rfl), hq _ (List.mem_of_getElem? (i := 7) rfl), hq _ (List.mem_of_getElem? (i := 8) rfl), hq _ (List.mem_of_getElem? (i := 9) rfl), hq _ (List.mem_of_getElem? (i := 10) rfl), hq _ (List.mem_of_getElem? (i := 11) rfl), hq _ (List.mem_of_getElem? (i := 12) rfl), hq _ (List.mem_of_getElem? (i := 13) rfl), hq _ (List.mem_of_getElem? (i := 14) rfl), hq _ (List.mem_of_getElem? (i := 15) rfl), hq _ (List.mem_of_getElem? (i := 16) rfl), hq _ (List.mem_of_getElem? (i := 17) rfl), hq _ (List.mem_of_getElem? (i := 18) rfl), hq _ (List.mem_of_getElem? (i := 19) rfl), hq _ (List.mem_of_getElem? (i := 20) rfl), hq _ (List.mem_of_getElem? (i := 21) rfl), hq _ (List.mem_of_getElem? (i := 22) rfl), hq _ (List.mem_of_getElem? (i := 23) rfl), hq _ (List.mem_of_getElem? (i := 24) rfl), hq _ (List.mem_of_getElem? (i := 25) rfl), hq _ (List.mem_of_getElem? (i := 26) rfl), hq _ (List.mem_of_getElem? (i := 27) rfl), hq _ (List.mem_of_getElem? (i := 28) rfl), hq _ (List.mem_of_getElem? (i := 29) rfl), hq _ (List.mem_of_getElem? (i := 30) rfl)⟩
