/-! ===== blocks ===== -/
theorem b_M_runHart_0 {g : jv_G} {d : Nat} {M : jv_Mem} {N cr sr : Nat} {Z : Option Value → jv_Mem → Nat → Prop} {a0 : Nat} {a1 : Nat} {x2 : Int32} (h : jv_Tg 11 a1 N ∧ vp_in ((8 * x2) + 1) (jv_sh a1).2 ∧ ((Prod.fst M a1 (Int32.toNatClampNeg ((8 * x2) + 1))) ≠ 0 → Z none M N) ∧ ((Prod.fst M a1 (Int32.toNatClampNeg ((8 * x2) + 1))) = 0 → jv_Tg 10 a0 N ∧ ((Prod.fst M a0 4) ≠ 0 → jv_Tg 11 a1 N ∧ vp_in (8 * x2) (jv_sh a1).2 ∧ jv_Tg 10 a0 N ∧ ((Prod.fst M a1 (Int32.toNatClampNeg (8 * x2))) < (Prod.fst M a0 4) → jv_Tg 11 a1 N ∧ vp_in (8 * x2) (jv_sh a1).2 ∧ jv_J g (d + 1) mt_M_runHart 40 [some (.ref a0), some (.ref a1), some (.int x2), some (.int (8 * x2)), none] [.int (Prod.fst M a1 (Int32.toNatClampNeg (8 * x2))), .int (8 * x2), .ref a1] M N cr sr Z) ∧ (¬ ((Prod.fst M a1 (Int32.toNatClampNeg (8 * x2))) < (Prod.fst M a0 4)) → jv_J g (d + 1) mt_M_runHart 40 [some (.ref a0), some (.ref a1), some (.int x2), some (.int (8 * x2)), none] [.int 0, .int (8 * x2), .ref a1] M N cr sr Z)) ∧ ((Prod.fst M a0 4) = 0 → Z none M N))) : jv_J g (d + 1) mt_M_runHart 0 [some (.ref a0), some (.ref a1), some (.int x2), none, none] [] M N cr sr Z := by
  refine jv_bipush (v := 8) d_M_runHart_0 (by decide) ?_
  refine jv_iload_n d_M_runHart_2 rfl rfl ?_
  refine jv_imul d_M_runHart_3 ?_
  refine jv_istore_n (L' := [some (.ref a0), some (.ref a1), some (.int x2), some (.int (8 * x2)), none]) d_M_runHart_4 rfl (Nat.le_of_ble_eq_true rfl) rfl ?_
  refine jv_aload_n d_M_runHart_5 rfl rfl ?_
  refine jv_iload_n d_M_runHart_6 rfl rfl ?_
  refine jv_iconst (v := 1) d_M_runHart_7 (by decide) ?_
  refine jv_iadd d_M_runHart_8 ?_
  obtain ⟨q1, q2, h⟩ := h
  refine jv_iald d_M_runHart_9 q1 q2 ?_
  refine jv_if_ne (tgt := 20) d_M_runHart_10 (by decide) ⟨fun c => ?_, fun c => ?_⟩
  · replace h := h.1 c
    exact jv_ret d_M_runHart_20 rfl h
  · replace h := h.2 c
    refine jv_aload_n d_M_runHart_13 rfl rfl ?_
    obtain ⟨q3, h⟩ := h
    refine jv_getI d_M_runHart_14 fl_M_135 rfl q3 ?_
    refine jv_if_ne (tgt := 21) d_M_runHart_17 (by decide) ⟨fun c => ?_, fun c => ?_⟩
    · replace h := h.1 c
      refine jv_aload_n d_M_runHart_21 rfl rfl ?_
      refine jv_iload_n d_M_runHart_22 rfl rfl ?_
      refine jv_aload_n d_M_runHart_23 rfl rfl ?_
      refine jv_iload_n d_M_runHart_24 rfl rfl ?_
      obtain ⟨q4, q5, h⟩ := h
      refine jv_iald d_M_runHart_25 q4 q5 ?_
      refine jv_aload_n d_M_runHart_26 rfl rfl ?_
      obtain ⟨q6, h⟩ := h
      refine jv_getI d_M_runHart_27 fl_M_135 rfl q6 ?_
      refine jv_icmp_lt (tgt := 37) d_M_runHart_30 (by decide) ⟨fun c => ?_, fun c => ?_⟩
      · replace h := h.1 c
        refine jv_aload_n d_M_runHart_37 rfl rfl ?_
        refine jv_iload_n d_M_runHart_38 rfl rfl ?_
        obtain ⟨q7, q8, h⟩ := h
        refine jv_iald d_M_runHart_39 q7 q8 ?_
        exact h
      · replace h := h.2 c
        refine jv_iconst (v := 0) d_M_runHart_33 (by decide) ?_
        refine jv_goto (tgt := 40) d_M_runHart_34 (by decide) ?_
        exact h
    · replace h := h.2 c
      exact jv_ret d_M_runHart_20 rfl h
theorem b_M_runHart_40 {g : jv_G} {d : Nat} {M : jv_Mem} {N cr sr : Nat} {Z : Option Value → jv_Mem → Nat → Prop} {a0 : Nat} {a1 : Nat} {x2 : Int32} {x3 : Int32} {b0 : Nat} {y1 : Int32} {y2 : Int32} (h : jv_Tg 11 b0 N ∧ vp_in y1 (jv_sh b0).2 ∧ jv_Tg 10 a0 N ∧ jv_Ct g d mt_M_isCaught [.ref a0, .ref a1, .int x2] (jv_si M b0 (Int32.toNatClampNeg y1) y2) N 0 0 (fun v M5 N5 => jv_ri v (fun r4 => (r4 = 0 → jv_Tg 10 a0 N5 ∧ ∃ b7, Prod.fst (Prod.snd M5) a0 5 = some b7 ∧ jv_Tg 11 a1 N5 ∧ vp_in x3 (jv_sh a1).2 ∧ jv_Tg 11 b7 N5 ∧ vp_in (Prod.fst M5 a1 (Int32.toNatClampNeg x3)) (jv_sh b7).2 ∧ jv_Tg 11 a1 N5 ∧ vp_in x3 (jv_sh a1).2 ∧ jv_Tg 11 a1 N5 ∧ vp_in x3 (jv_sh a1).2 ∧ (((Prod.fst M5 b7 (Int32.toNatClampNeg (Prod.fst M5 a1 (Int32.toNatClampNeg x3)))) / 1000) = 6 → jv_Tg 11 a1 N5 ∧ vp_in ((x3 + 4) + (((Prod.fst M5 b7 (Int32.toNatClampNeg (Prod.fst M5 a1 (Int32.toNatClampNeg x3)))) / 100) - ((Prod.fst M5 b7 (Int32.toNatClampNeg (Prod.fst M5 a1 (Int32.toNatClampNeg x3)))) / 100) / 10 * 10)) (jv_sh a1).2 ∧ ((Prod.fst (jv_si M5 a1 (Int32.toNatClampNeg x3) ((Prod.fst M5 a1 (Int32.toNatClampNeg x3)) + 1)) a1 (Int32.toNatClampNeg ((x3 + 4) + (((Prod.fst M5 b7 (Int32.toNatClampNeg (Prod.fst M5 a1 (Int32.toNatClampNeg x3)))) / 100) - ((Prod.fst M5 b7 (Int32.toNatClampNeg (Prod.fst M5 a1 (Int32.toNatClampNeg x3)))) / 100) / 10 * 10)))) = 0 → jv_Tg 11 a1 N5 ∧ vp_in x3 (jv_sh a1).2 ∧ jv_Tg 11 a1 N5 ∧ vp_in x3 (jv_sh a1).2 ∧ Z none (jv_si (jv_si M5 a1 (Int32.toNatClampNeg x3) ((Prod.fst M5 a1 (Int32.toNatClampNeg x3)) + 1)) a1 (Int32.toNatClampNeg x3) (Prod.fst (jv_si M5 a1 (Int32.toNatClampNeg x3) ((Prod.fst M5 a1 (Int32.toNatClampNeg x3)) + 1)) a1 (Int32.toNatClampNeg x3))) N5) ∧ (¬ ((Prod.fst (jv_si M5 a1 (Int32.toNatClampNeg x3) ((Prod.fst M5 a1 (Int32.toNatClampNeg x3)) + 1)) a1 (Int32.toNatClampNeg ((x3 + 4) + (((Prod.fst M5 b7 (Int32.toNatClampNeg (Prod.fst M5 a1 (Int32.toNatClampNeg x3)))) / 100) - ((Prod.fst M5 b7 (Int32.toNatClampNeg (Prod.fst M5 a1 (Int32.toNatClampNeg x3)))) / 100) / 10 * 10)))) = 0) → jv_Tg 11 a1 N5 ∧ vp_in x3 (jv_sh a1).2 ∧ Z none (jv_si (jv_si M5 a1 (Int32.toNatClampNeg x3) ((Prod.fst M5 a1 (Int32.toNatClampNeg x3)) + 1)) a1 (Int32.toNatClampNeg x3) ((Prod.fst M5 b7 (Int32.toNatClampNeg (Prod.fst M5 a1 (Int32.toNatClampNeg x3)))) - (Prod.fst M5 b7 (Int32.toNatClampNeg (Prod.fst M5 a1 (Int32.toNatClampNeg x3)))) / 100 * 100)) N5)) ∧ (((Prod.fst M5 b7 (Int32.toNatClampNeg (Prod.fst M5 a1 (Int32.toNatClampNeg x3)))) / 1000) = 7 → jv_Tg 11 a1 N5 ∧ vp_in (x3 + 1) (jv_sh a1).2 ∧ Z none (jv_si (jv_si M5 a1 (Int32.toNatClampNeg x3) ((Prod.fst M5 a1 (Int32.toNatClampNeg x3)) + 1)) a1 (Int32.toNatClampNeg (x3 + 1)) 1) N5) ∧ (((Prod.fst M5 b7 (Int32.toNatClampNeg (Prod.fst M5 a1 (Int32.toNatClampNeg x3)))) / 1000) = 8 → jv_Ct g d mt_M_halt [.ref a1, .int x2, .int 3] (jv_si M5 a1 (Int32.toNatClampNeg x3) ((Prod.fst M5 a1 (Int32.toNatClampNeg x3)) + 1)) N5 0 0 (fun v M32 N32 => jv_rv v (Z none M32 N32))) ∧ ((((Prod.fst M5 b7 (Int32.toNatClampNeg (Prod.fst M5 a1 (Int32.toNatClampNeg x3)))) / 1000) ≠ 6 ∧ ((Prod.fst M5 b7 (Int32.toNatClampNeg (Prod.fst M5 a1 (Int32.toNatClampNeg x3)))) / 1000) ≠ 7 ∧ ((Prod.fst M5 b7 (Int32.toNatClampNeg (Prod.fst M5 a1 (Int32.toNatClampNeg x3)))) / 1000) ≠ 8) → jv_Tg 10 a0 N5 ∧ jv_Ct g d mt_M_doPlain [.ref a0, .ref a1, .int x2, .int (Prod.fst M5 b7 (Int32.toNatClampNeg (Prod.fst M5 a1 (Int32.toNatClampNeg x3))))] (jv_si M5 a1 (Int32.toNatClampNeg x3) ((Prod.fst M5 a1 (Int32.toNatClampNeg x3)) + 1)) N5 0 0 (fun v M20 N20 => jv_rv v (Z none M20 N20)))) ∧ (¬ (r4 = 0) → jv_Ct g d mt_M_halt [.ref a1, .int x2, .int 2] M5 N5 0 0 (fun v M34 N34 => jv_rv v (Z none M34 N34)))))) : jv_J g (d + 1) mt_M_runHart 40 [some (.ref a0), some (.ref a1), some (.int x2), some (.int x3), none] [.int y2, .int y1, .ref b0] M N cr sr Z := by
  obtain ⟨q1, q2, h⟩ := h
  refine jv_iast d_M_runHart_40 q1 q2 ?_
  refine jv_aload_n d_M_runHart_41 rfl rfl ?_
  refine jv_aload_n d_M_runHart_42 rfl rfl ?_
  refine jv_iload_n d_M_runHart_43 rfl rfl ?_
  obtain ⟨q3, h⟩ := h
  refine jv_invV [.ref a1, .int x2] [] d_M_runHart_44 ml_M_186 q3 rfl (Nat.le_of_ble_eq_true rfl) (Nat.zero_add _) (Nat.zero_add _) (jv_Ct.mono h (fun v M5 N5 h => ?_))
  obtain ⟨r4, rfl, h⟩ := h
  change jv_J g (d + 1) mt_M_runHart 47 [some (.ref a0), some (.ref a1), some (.int x2), some (.int x3), none] [.int r4] M5 N5 cr sr Z
  refine jv_if_eq (tgt := 57) d_M_runHart_47 (by decide) ⟨fun c => ?_, fun c => ?_⟩
  · replace h := h.1 c
    refine jv_aload_n d_M_runHart_57 rfl rfl ?_
    obtain ⟨q6, h⟩ := h
    obtain ⟨b7, e8, h⟩ := h
    refine jv_getR d_M_runHart_58 fl_M_13 rfl q6 e8 ?_
    refine jv_aload_n d_M_runHart_61 rfl rfl ?_
    refine jv_iload_n d_M_runHart_62 rfl rfl ?_
    obtain ⟨q9, q10, h⟩ := h
    refine jv_iald d_M_runHart_63 q9 q10 ?_
    obtain ⟨q11, q12, h⟩ := h
    refine jv_iald d_M_runHart_64 q11 q12 ?_
    refine jv_istore (L' := [some (.ref a0), some (.ref a1), some (.int x2), some (.int x3), some (.int (Prod.fst M5 b7 (Int32.toNatClampNeg (Prod.fst M5 a1 (Int32.toNatClampNeg x3)))))]) d_M_runHart_65 (Nat.le_of_ble_eq_true rfl) rfl ?_
    refine jv_aload_n d_M_runHart_67 rfl rfl ?_
    refine jv_iload_n d_M_runHart_68 rfl rfl ?_
    refine jv_dup2 d_M_runHart_69 rfl rfl ?_
    obtain ⟨q13, q14, h⟩ := h
    refine jv_iald d_M_runHart_70 q13 q14 ?_
    refine jv_iconst (v := 1) d_M_runHart_71 (by decide) ?_
    refine jv_iadd d_M_runHart_72 ?_
    obtain ⟨q15, q16, h⟩ := h
    refine jv_iast d_M_runHart_73 q15 q16 ?_
    refine jv_iload d_M_runHart_74 rfl ?_
    refine jv_sipush (v := 1000) d_M_runHart_76 (by decide) ?_
    refine jv_idiv d_M_runHart_79 (by decide) ?_
    have hD17 : (((Prod.fst M5 b7 (Int32.toNatClampNeg (Prod.fst M5 a1 (Int32.toNatClampNeg x3)))) / 1000) ≠ 6 ∧ ((Prod.fst M5 b7 (Int32.toNatClampNeg (Prod.fst M5 a1 (Int32.toNatClampNeg x3)))) / 1000) ≠ 7 ∧ ((Prod.fst M5 b7 (Int32.toNatClampNeg (Prod.fst M5 a1 (Int32.toNatClampNeg x3)))) / 1000) ≠ 8) → jv_J g (d + 1) mt_M_runHart 160 [some (.ref a0), some (.ref a1), some (.int x2), some (.int x3), some (.int (Prod.fst M5 b7 (Int32.toNatClampNeg (Prod.fst M5 a1 (Int32.toNatClampNeg x3)))))] [] (jv_si M5 a1 (Int32.toNatClampNeg x3) ((Prod.fst M5 a1 (Int32.toNatClampNeg x3)) + 1)) N5 cr sr Z := by
      intro c
      replace h := h.2.2.2 c
      refine jv_aload_n d_M_runHart_160 rfl rfl ?_
      refine jv_aload_n d_M_runHart_161 rfl rfl ?_
      refine jv_iload_n d_M_runHart_162 rfl rfl ?_
      refine jv_iload d_M_runHart_163 rfl ?_
      obtain ⟨q18, h⟩ := h
      refine jv_invV [.ref a1, .int x2, .int (Prod.fst M5 b7 (Int32.toNatClampNeg (Prod.fst M5 a1 (Int32.toNatClampNeg x3))))] [] d_M_runHart_165 ml_M_151 q18 rfl (Nat.le_of_ble_eq_true rfl) (Nat.zero_add _) (Nat.zero_add _) (jv_Ct.mono h (fun v M20 N20 h => ?_))
      obtain ⟨rfl, h⟩ := h
      change jv_J g (d + 1) mt_M_runHart 168 [some (.ref a0), some (.ref a1), some (.int x2), some (.int x3), some (.int (Prod.fst M5 b7 (Int32.toNatClampNeg (Prod.fst M5 a1 (Int32.toNatClampNeg x3)))))] [] M20 N20 cr sr Z
      exact jv_ret d_M_runHart_168 rfl h
    refine jv_tsw (dt := 160) [(6, 108), (7, 142), (8, 151)] d_M_runHart_80 (by decide) (by decide) (by decide) (fun q hq hx => ?_) (fun hq => ?_)
    · simp only [List.mem_cons, List.not_mem_nil, or_false] at hq
      rcases hq with rfl | rfl | rfl
      · replace h := h.1 hx
        refine jv_aload_n d_M_runHart_108 rfl rfl ?_
        refine jv_iload_n d_M_runHart_109 rfl rfl ?_
        refine jv_aload_n d_M_runHart_110 rfl rfl ?_
        refine jv_iload_n d_M_runHart_111 rfl rfl ?_
        refine jv_iconst (v := 4) d_M_runHart_112 (by decide) ?_
        refine jv_iadd d_M_runHart_113 ?_
        refine jv_iload d_M_runHart_114 rfl ?_
        refine jv_bipush (v := 100) d_M_runHart_116 (by decide) ?_
        refine jv_idiv d_M_runHart_118 (by decide) ?_
        refine jv_bipush (v := 10) d_M_runHart_119 (by decide) ?_
        refine jv_irem d_M_runHart_121 (by decide) ?_
        refine jv_iadd d_M_runHart_122 ?_
        obtain ⟨q21, q22, h⟩ := h
        refine jv_iald d_M_runHart_123 q21 q22 ?_
        refine jv_if_eq (tgt := 135) d_M_runHart_124 (by decide) ⟨fun c => ?_, fun c => ?_⟩
        · replace h := h.1 c
          refine jv_aload_n d_M_runHart_135 rfl rfl ?_
          refine jv_iload_n d_M_runHart_136 rfl rfl ?_
          obtain ⟨q23, q24, h⟩ := h
          refine jv_iald d_M_runHart_137 q23 q24 ?_
          obtain ⟨q25, q26, h⟩ := h
          refine jv_iast d_M_runHart_138 q25 q26 ?_
          refine jv_goto (tgt := 168) d_M_runHart_139 (by decide) ?_
          exact jv_ret d_M_runHart_168 rfl h
        · replace h := h.2 c
          refine jv_iload d_M_runHart_127 rfl ?_
          refine jv_bipush (v := 100) d_M_runHart_129 (by decide) ?_
          refine jv_irem d_M_runHart_131 (by decide) ?_
          refine jv_goto (tgt := 138) d_M_runHart_132 (by decide) ?_
          obtain ⟨q27, q28, h⟩ := h
          refine jv_iast d_M_runHart_138 q27 q28 ?_
          refine jv_goto (tgt := 168) d_M_runHart_139 (by decide) ?_
          exact jv_ret d_M_runHart_168 rfl h
      · replace h := h.2.1 hx
        refine jv_aload_n d_M_runHart_142 rfl rfl ?_
        refine jv_iload_n d_M_runHart_143 rfl rfl ?_
        refine jv_iconst (v := 1) d_M_runHart_144 (by decide) ?_
        refine jv_iadd d_M_runHart_145 ?_
        refine jv_iconst (v := 1) d_M_runHart_146 (by decide) ?_
        obtain ⟨q29, q30, h⟩ := h
        refine jv_iast d_M_runHart_147 q29 q30 ?_
        refine jv_goto (tgt := 168) d_M_runHart_148 (by decide) ?_
        exact jv_ret d_M_runHart_168 rfl h
      · replace h := h.2.2.1 hx
        refine jv_aload_n d_M_runHart_151 rfl rfl ?_
        refine jv_iload_n d_M_runHart_152 rfl rfl ?_
        refine jv_iconst (v := 3) d_M_runHart_153 (by decide) ?_
        refine jv_invS [.ref a1, .int x2, .int 3] [] d_M_runHart_154 ml_M_155 rfl (Nat.le_of_ble_eq_true rfl) (Nat.zero_add _) (Nat.zero_add _) (jv_Ct.mono h (fun v M32 N32 h => ?_))
        obtain ⟨rfl, h⟩ := h
        change jv_J g (d + 1) mt_M_runHart 157 [some (.ref a0), some (.ref a1), some (.int x2), some (.int x3), some (.int (Prod.fst M5 b7 (Int32.toNatClampNeg (Prod.fst M5 a1 (Int32.toNatClampNeg x3)))))] [] M32 N32 cr sr Z
        refine jv_goto (tgt := 168) d_M_runHart_157 (by decide) ?_
        exact jv_ret d_M_runHart_168 rfl h
    · exact hD17 ⟨hq _ (List.mem_of_getElem? (i := 0) rfl), hq _ (List.mem_of_getElem? (i := 1) rfl), hq _ (List.mem_of_getElem? (i := 2) rfl)⟩
  · replace h := h.2 c
    refine jv_aload_n d_M_runHart_50 rfl rfl ?_
    refine jv_iload_n d_M_runHart_51 rfl rfl ?_
    refine jv_iconst (v := 2) d_M_runHart_52 (by decide) ?_
    refine jv_invS [.ref a1, .int x2, .int 2] [] d_M_runHart_53 ml_M_155 rfl (Nat.le_of_ble_eq_true rfl) (Nat.zero_add _) (Nat.zero_add _) (jv_Ct.mono h (fun v M34 N34 h => ?_))
    obtain ⟨rfl, h⟩ := h
    change jv_J g (d + 1) mt_M_runHart 56 [some (.ref a0), some (.ref a1), some (.int x2), some (.int x3), none] [] M34 N34 cr sr Z
    exact jv_ret d_M_runHart_56 rfl h
theorem b_M_isCaught_0 {g : jv_G} {d : Nat} {M : jv_Mem} {N cr sr : Nat} {Z : Option Value → jv_Mem → Nat → Prop} {a0 : Nat} {a1 : Nat} {x2 : Int32} (h : jv_J g (d + 1) mt_M_isCaught 2 [some (.ref a0), some (.ref a1), some (.int x2), some (.int 0), none, none, none] [] M N cr sr Z) : jv_J g (d + 1) mt_M_isCaught 0 [some (.ref a0), some (.ref a1), some (.int x2), none, none, none, none] [] M N cr sr Z := by
  refine jv_iconst (v := 0) d_M_isCaught_0 (by decide) ?_
  refine jv_istore_n (L' := [some (.ref a0), some (.ref a1), some (.int x2), some (.int 0), none, none, none]) d_M_isCaught_1 rfl (Nat.le_of_ble_eq_true rfl) rfl ?_
  exact h
theorem b_M_isCaught_2 {g : jv_G} {d : Nat} {M : jv_Mem} {N cr sr : Nat} {Z : Option Value → jv_Mem → Nat → Prop} {a0 : Nat} {a1 : Nat} {x2 : Int32} {x3 : Int32} (h : jv_Tg 10 a0 N ∧ ((Prod.fst M a0 9) ≤ x3 → Z (some (.int 0)) M N) ∧ (¬ ((Prod.fst M a0 9) ≤ x3) → jv_Tg 10 a0 N ∧ jv_Ct g d mt_M_matches [.ref a0, .ref a1, .int x3] M N 0 0 (fun v M4 N4 => jv_ri v (fun r3 => jv_J g (d + 1) mt_M_isCaught 21 [some (.ref a0), some (.ref a1), some (.int x2), some (.int x3), some (.int x3), some (.int r3), none] [] M4 N4 cr sr Z)))) : jv_J g (d + 1) mt_M_isCaught 2 [some (.ref a0), some (.ref a1), some (.int x2), some (.int x3), none, none, none] [] M N cr sr Z := by
  refine jv_iload_n d_M_isCaught_2 rfl rfl ?_
  refine jv_aload_n d_M_isCaught_3 rfl rfl ?_
  obtain ⟨q1, h⟩ := h
  refine jv_getI d_M_isCaught_4 fl_M_138 rfl q1 ?_
  refine jv_icmp_ge (tgt := 124) d_M_isCaught_7 (by decide) ⟨fun c => ?_, fun c => ?_⟩
  · replace h := h.1 c
    refine jv_iconst (v := 0) d_M_isCaught_124 (by decide) ?_
    exact jv_iret d_M_isCaught_125 rfl (jv_nz (by decide)) h
  · replace h := h.2 c
    refine jv_iload_n d_M_isCaught_10 rfl rfl ?_
    refine jv_istore (L' := [some (.ref a0), some (.ref a1), some (.int x2), some (.int x3), some (.int x3), none, none]) d_M_isCaught_11 (Nat.le_of_ble_eq_true rfl) rfl ?_
    refine jv_aload_n d_M_isCaught_13 rfl rfl ?_
    refine jv_aload_n d_M_isCaught_14 rfl rfl ?_
    refine jv_iload_n d_M_isCaught_15 rfl rfl ?_
    obtain ⟨q2, h⟩ := h
    refine jv_invV [.ref a1, .int x3] [] d_M_isCaught_16 ml_M_179 q2 rfl (Nat.le_of_ble_eq_true rfl) (Nat.zero_add _) (Nat.zero_add _) (jv_Ct.mono h (fun v M4 N4 h => ?_))
    obtain ⟨r3, rfl, h⟩ := h
    change jv_J g (d + 1) mt_M_isCaught 19 [some (.ref a0), some (.ref a1), some (.int x2), some (.int x3), some (.int x3), none, none] [.int r3] M4 N4 cr sr Z
    refine jv_istore (L' := [some (.ref a0), some (.ref a1), some (.int x2), some (.int x3), some (.int x3), some (.int r3), none]) d_M_isCaught_19 (Nat.le_of_ble_eq_true rfl) rfl ?_
    exact h
theorem b_M_isCaught_21 {g : jv_G} {d : Nat} {M : jv_Mem} {N cr sr : Nat} {Z : Option Value → jv_Mem → Nat → Prop} {a0 : Nat} {a1 : Nat} {x2 : Int32} {x3 : Int32} {x4 : Int32} {x5 : Int32} (h : jv_Tg 10 a0 N ∧ jv_Ct g d mt_M_leads [.ref a0, .ref a1, .int x4] M N 0 0 (fun v M3 N3 => jv_ri v (fun r2 => (r2 = 0 → (x5 = 0 → jv_J g (d + 1) mt_M_isCaught 2 [some (.ref a0), some (.ref a1), some (.int x2), some (.int (x4 + 1)), none, none, none] [] M3 N3 cr sr Z) ∧ (¬ (x5 = 0) → jv_Tg 10 a0 N3 ∧ ∃ b5, Prod.fst (Prod.snd M3) a0 10 = some b5 ∧ jv_Tg 11 b5 N3 ∧ vp_in x3 (jv_sh b5).2 ∧ ((Prod.fst M3 b5 (Int32.toNatClampNeg x3)) ≠ x2 → jv_J g (d + 1) mt_M_isCaught 2 [some (.ref a0), some (.ref a1), some (.int x2), some (.int (x4 + 1)), none, none, none] [] M3 N3 cr sr Z) ∧ ((Prod.fst M3 b5 (Int32.toNatClampNeg x3)) = x2 → jv_Tg 11 a1 N3 ∧ vp_in ((40 + (6 * x3)) + 4) (jv_sh a1).2 ∧ jv_Tg 11 a1 N3 ∧ vp_in ((40 + (6 * x3)) + 4) (jv_sh a1).2 ∧ jv_Tg 11 a1 N3 ∧ vp_in ((40 + (6 * x3)) + 4) (jv_sh a1).2 ∧ ((Prod.fst (jv_si M3 a1 (Int32.toNatClampNeg ((40 + (6 * x3)) + 4)) ((Prod.fst M3 a1 (Int32.toNatClampNeg ((40 + (6 * x3)) + 4))) - 1)) a1 (Int32.toNatClampNeg ((40 + (6 * x3)) + 4))) ≠ 0 → jv_J g (d + 1) mt_M_isCaught 2 [some (.ref a0), some (.ref a1), some (.int x2), some (.int (x4 + 1)), none, none, none] [] (jv_si M3 a1 (Int32.toNatClampNeg ((40 + (6 * x3)) + 4)) ((Prod.fst M3 a1 (Int32.toNatClampNeg ((40 + (6 * x3)) + 4))) - 1)) N3 cr sr Z) ∧ ((Prod.fst (jv_si M3 a1 (Int32.toNatClampNeg ((40 + (6 * x3)) + 4)) ((Prod.fst M3 a1 (Int32.toNatClampNeg ((40 + (6 * x3)) + 4))) - 1)) a1 (Int32.toNatClampNeg ((40 + (6 * x3)) + 4))) = 0 → jv_Tg 11 a1 N3 ∧ vp_in ((40 + (6 * x3)) + 3) (jv_sh a1).2 ∧ jv_Tg 11 a1 N3 ∧ vp_in ((40 + (6 * x3)) + 4) (jv_sh a1).2 ∧ Z (some (.int 1)) (jv_si (jv_si M3 a1 (Int32.toNatClampNeg ((40 + (6 * x3)) + 4)) ((Prod.fst M3 a1 (Int32.toNatClampNeg ((40 + (6 * x3)) + 4))) - 1)) a1 (Int32.toNatClampNeg ((40 + (6 * x3)) + 4)) (Prod.fst (jv_si M3 a1 (Int32.toNatClampNeg ((40 + (6 * x3)) + 4)) ((Prod.fst M3 a1 (Int32.toNatClampNeg ((40 + (6 * x3)) + 4))) - 1)) a1 (Int32.toNatClampNeg ((40 + (6 * x3)) + 3)))) N3)))) ∧ (¬ (r2 = 0) → (x5 = 0 → jv_J g (d + 1) mt_M_isCaught 21 [some (.ref a0), some (.ref a1), some (.int x2), some (.int x3), some (.int (x4 + 1)), some (.int 0), none] [] M3 N3 cr sr Z) ∧ (¬ (x5 = 0) → jv_Tg 10 a0 N3 ∧ jv_Ct g d mt_M_matches [.ref a0, .ref a1, .int (x4 + 1)] M3 N3 0 0 (fun v M21 N21 => jv_ri v (fun r20 => (r20 = 0 → jv_J g (d + 1) mt_M_isCaught 21 [some (.ref a0), some (.ref a1), some (.int x2), some (.int x3), some (.int (x4 + 1)), some (.int 0), none] [] M21 N21 cr sr Z) ∧ (¬ (r20 = 0) → jv_J g (d + 1) mt_M_isCaught 21 [some (.ref a0), some (.ref a1), some (.int x2), some (.int x3), some (.int (x4 + 1)), some (.int 1), none] [] M21 N21 cr sr Z)))))))) : jv_J g (d + 1) mt_M_isCaught 21 [some (.ref a0), some (.ref a1), some (.int x2), some (.int x3), some (.int x4), some (.int x5), none] [] M N cr sr Z := by
  refine jv_aload_n d_M_isCaught_21 rfl rfl ?_
  refine jv_aload_n d_M_isCaught_22 rfl rfl ?_
  refine jv_iload d_M_isCaught_23 rfl ?_
  obtain ⟨q1, h⟩ := h
  refine jv_invV [.ref a1, .int x4] [] d_M_isCaught_25 ml_M_183 q1 rfl (Nat.le_of_ble_eq_true rfl) (Nat.zero_add _) (Nat.zero_add _) (jv_Ct.mono h (fun v M3 N3 h => ?_))
  obtain ⟨r2, rfl, h⟩ := h
  change jv_J g (d + 1) mt_M_isCaught 28 [some (.ref a0), some (.ref a1), some (.int x2), some (.int x3), some (.int x4), some (.int x5), none] [.int r2] M3 N3 cr sr Z
  refine jv_if_eq (tgt := 59) d_M_isCaught_28 (by decide) ⟨fun c => ?_, fun c => ?_⟩
  · replace h := h.1 c
    refine jv_bipush (v := 40) d_M_isCaught_59 (by decide) ?_
    refine jv_bipush (v := 6) d_M_isCaught_61 (by decide) ?_
    refine jv_iload_n d_M_isCaught_63 rfl rfl ?_
    refine jv_imul d_M_isCaught_64 ?_
    refine jv_iadd d_M_isCaught_65 ?_
    refine jv_istore (L' := [some (.ref a0), some (.ref a1), some (.int x2), some (.int x3), some (.int x4), some (.int x5), some (.int (40 + (6 * x3)))]) d_M_isCaught_66 (Nat.le_of_ble_eq_true rfl) rfl ?_
    refine jv_iload d_M_isCaught_68 rfl ?_
    refine jv_if_eq (tgt := 116) d_M_isCaught_70 (by decide) ⟨fun c => ?_, fun c => ?_⟩
    · replace h := h.1 c
      refine jv_iload d_M_isCaught_116 rfl ?_
      refine jv_iconst (v := 1) d_M_isCaught_118 (by decide) ?_
      refine jv_iadd d_M_isCaught_119 ?_
      refine jv_istore_n (L' := [some (.ref a0), some (.ref a1), some (.int x2), some (.int (x4 + 1)), some (.int x4), some (.int x5), some (.int (40 + (6 * x3)))]) d_M_isCaught_120 rfl (Nat.le_of_ble_eq_true rfl) rfl ?_
      refine jv_goto (tgt := 2) d_M_isCaught_121 (by decide) ?_
      refine jv_weak (L' := [some (.ref a0), some (.ref a1), some (.int x2), some (.int (x4 + 1)), none, none, none]) (by simp [jv_le]) ?_
      exact h
    · replace h := h.2 c
      refine jv_aload_n d_M_isCaught_73 rfl rfl ?_
      obtain ⟨q4, h⟩ := h
      obtain ⟨b5, e6, h⟩ := h
      refine jv_getR d_M_isCaught_74 fl_M_22 rfl q4 e6 ?_
      refine jv_iload_n d_M_isCaught_77 rfl rfl ?_
      obtain ⟨q7, q8, h⟩ := h
      refine jv_iald d_M_isCaught_78 q7 q8 ?_
      refine jv_iload_n d_M_isCaught_79 rfl rfl ?_
      refine jv_icmp_ne (tgt := 116) d_M_isCaught_80 (by decide) ⟨fun c => ?_, fun c => ?_⟩
      · replace h := h.1 c
        refine jv_iload d_M_isCaught_116 rfl ?_
        refine jv_iconst (v := 1) d_M_isCaught_118 (by decide) ?_
        refine jv_iadd d_M_isCaught_119 ?_
        refine jv_istore_n (L' := [some (.ref a0), some (.ref a1), some (.int x2), some (.int (x4 + 1)), some (.int x4), some (.int x5), some (.int (40 + (6 * x3)))]) d_M_isCaught_120 rfl (Nat.le_of_ble_eq_true rfl) rfl ?_
        refine jv_goto (tgt := 2) d_M_isCaught_121 (by decide) ?_
        refine jv_weak (L' := [some (.ref a0), some (.ref a1), some (.int x2), some (.int (x4 + 1)), none, none, none]) (by simp [jv_le]) ?_
        exact h
      · replace h := h.2 c
        refine jv_aload_n d_M_isCaught_83 rfl rfl ?_
        refine jv_iload d_M_isCaught_84 rfl ?_
        refine jv_iconst (v := 4) d_M_isCaught_86 (by decide) ?_
        refine jv_iadd d_M_isCaught_87 ?_
        refine jv_dup2 d_M_isCaught_88 rfl rfl ?_
        obtain ⟨q9, q10, h⟩ := h
        refine jv_iald d_M_isCaught_89 q9 q10 ?_
        refine jv_iconst (v := 1) d_M_isCaught_90 (by decide) ?_
        refine jv_isub d_M_isCaught_91 ?_
        obtain ⟨q11, q12, h⟩ := h
        refine jv_iast d_M_isCaught_92 q11 q12 ?_
        refine jv_aload_n d_M_isCaught_93 rfl rfl ?_
        refine jv_iload d_M_isCaught_94 rfl ?_
        refine jv_iconst (v := 4) d_M_isCaught_96 (by decide) ?_
        refine jv_iadd d_M_isCaught_97 ?_
        obtain ⟨q13, q14, h⟩ := h
        refine jv_iald d_M_isCaught_98 q13 q14 ?_
        refine jv_if_ne (tgt := 116) d_M_isCaught_99 (by decide) ⟨fun c => ?_, fun c => ?_⟩
        · replace h := h.1 c
          refine jv_iload d_M_isCaught_116 rfl ?_
          refine jv_iconst (v := 1) d_M_isCaught_118 (by decide) ?_
          refine jv_iadd d_M_isCaught_119 ?_
          refine jv_istore_n (L' := [some (.ref a0), some (.ref a1), some (.int x2), some (.int (x4 + 1)), some (.int x4), some (.int x5), some (.int (40 + (6 * x3)))]) d_M_isCaught_120 rfl (Nat.le_of_ble_eq_true rfl) rfl ?_
          refine jv_goto (tgt := 2) d_M_isCaught_121 (by decide) ?_
          refine jv_weak (L' := [some (.ref a0), some (.ref a1), some (.int x2), some (.int (x4 + 1)), none, none, none]) (by simp [jv_le]) ?_
          exact h
        · replace h := h.2 c
          refine jv_aload_n d_M_isCaught_102 rfl rfl ?_
          refine jv_iload d_M_isCaught_103 rfl ?_
          refine jv_iconst (v := 4) d_M_isCaught_105 (by decide) ?_
          refine jv_iadd d_M_isCaught_106 ?_
          refine jv_aload_n d_M_isCaught_107 rfl rfl ?_
          refine jv_iload d_M_isCaught_108 rfl ?_
          refine jv_iconst (v := 3) d_M_isCaught_110 (by decide) ?_
          refine jv_iadd d_M_isCaught_111 ?_
          obtain ⟨q15, q16, h⟩ := h
          refine jv_iald d_M_isCaught_112 q15 q16 ?_
          obtain ⟨q17, q18, h⟩ := h
          refine jv_iast d_M_isCaught_113 q17 q18 ?_
          refine jv_iconst (v := 1) d_M_isCaught_114 (by decide) ?_
          exact jv_iret d_M_isCaught_115 rfl (jv_nz (by decide)) h
  · replace h := h.2 c
    refine jv_iinc (v := (x4 + 1)) (L' := [some (.ref a0), some (.ref a1), some (.int x2), some (.int x3), some (.int (x4 + 1)), some (.int x5), none]) d_M_isCaught_31 rfl rfl (Nat.le_of_ble_eq_true rfl) rfl ?_
    refine jv_iload d_M_isCaught_34 rfl ?_
    refine jv_if_eq (tgt := 53) d_M_isCaught_36 (by decide) ⟨fun c => ?_, fun c => ?_⟩
    · replace h := h.1 c
      refine jv_iconst (v := 0) d_M_isCaught_53 (by decide) ?_
      refine jv_istore (L' := [some (.ref a0), some (.ref a1), some (.int x2), some (.int x3), some (.int (x4 + 1)), some (.int 0), none]) d_M_isCaught_54 (Nat.le_of_ble_eq_true rfl) rfl ?_
      refine jv_goto (tgt := 21) d_M_isCaught_56 (by decide) ?_
      exact h
    · replace h := h.2 c
      refine jv_aload_n d_M_isCaught_39 rfl rfl ?_
      refine jv_aload_n d_M_isCaught_40 rfl rfl ?_
      refine jv_iload d_M_isCaught_41 rfl ?_
      obtain ⟨q19, h⟩ := h
      refine jv_invV [.ref a1, .int (x4 + 1)] [] d_M_isCaught_43 ml_M_179 q19 rfl (Nat.le_of_ble_eq_true rfl) (Nat.zero_add _) (Nat.zero_add _) (jv_Ct.mono h (fun v M21 N21 h => ?_))
      obtain ⟨r20, rfl, h⟩ := h
      change jv_J g (d + 1) mt_M_isCaught 46 [some (.ref a0), some (.ref a1), some (.int x2), some (.int x3), some (.int (x4 + 1)), some (.int x5), none] [.int r20] M21 N21 cr sr Z
      refine jv_if_eq (tgt := 53) d_M_isCaught_46 (by decide) ⟨fun c => ?_, fun c => ?_⟩
      · replace h := h.1 c
        refine jv_iconst (v := 0) d_M_isCaught_53 (by decide) ?_
        refine jv_istore (L' := [some (.ref a0), some (.ref a1), some (.int x2), some (.int x3), some (.int (x4 + 1)), some (.int 0), none]) d_M_isCaught_54 (Nat.le_of_ble_eq_true rfl) rfl ?_
        refine jv_goto (tgt := 21) d_M_isCaught_56 (by decide) ?_
        exact h
      · replace h := h.2 c
        refine jv_iconst (v := 1) d_M_isCaught_49 (by decide) ?_
        refine jv_goto (tgt := 54) d_M_isCaught_50 (by decide) ?_
        refine jv_istore (L' := [some (.ref a0), some (.ref a1), some (.int x2), some (.int x3), some (.int (x4 + 1)), some (.int 1), none]) d_M_isCaught_54 (Nat.le_of_ble_eq_true rfl) rfl ?_
        refine jv_goto (tgt := 21) d_M_isCaught_56 (by decide) ?_
        exact h
theorem b_M_matches_0 {g : jv_G} {d : Nat} {M : jv_Mem} {N cr sr : Nat} {Z : Option Value → jv_Mem → Nat → Prop} {a0 : Nat} {a1 : Nat} {x2 : Int32} (h : jv_Tg 10 a0 N ∧ ∃ b2, Prod.fst (Prod.snd M) a0 10 = some b2 ∧ jv_Tg 11 b2 N ∧ vp_in x2 (jv_sh b2).2 ∧ jv_Tg 11 a1 N ∧ vp_in (40 + (6 * x2)) (jv_sh a1).2 ∧ ((Prod.fst M a1 (Int32.toNatClampNeg (40 + (6 * x2)))) ≠ 0 → jv_Tg 11 a1 N ∧ vp_in ((40 + (6 * x2)) + 1) (jv_sh a1).2 ∧ jv_Tg 11 a1 N ∧ vp_in (((8 * (Prod.fst M b2 (Int32.toNatClampNeg x2))) + 4) + (Prod.fst M a1 (Int32.toNatClampNeg ((40 + (6 * x2)) + 1)))) (jv_sh a1).2 ∧ jv_Tg 11 a1 N ∧ vp_in ((40 + (6 * x2)) + 2) (jv_sh a1).2 ∧ ((Prod.fst M a1 (Int32.toNatClampNeg (((8 * (Prod.fst M b2 (Int32.toNatClampNeg x2))) + 4) + (Prod.fst M a1 (Int32.toNatClampNeg ((40 + (6 * x2)) + 1)))))) ≠ (Prod.fst M a1 (Int32.toNatClampNeg ((40 + (6 * x2)) + 2))) → Z (some (.int 0)) M N) ∧ ((Prod.fst M a1 (Int32.toNatClampNeg (((8 * (Prod.fst M b2 (Int32.toNatClampNeg x2))) + 4) + (Prod.fst M a1 (Int32.toNatClampNeg ((40 + (6 * x2)) + 1)))))) = (Prod.fst M a1 (Int32.toNatClampNeg ((40 + (6 * x2)) + 2))) → jv_Tg 10 a0 N ∧ jv_Ct g d mt_M_has [.int (Prod.fst M a0 32), .int x2] M N 0 0 (fun v M16 N16 => jv_ri v (fun r15 => (r15 = 0 → Z (some (.int 0)) M16 N16) ∧ (¬ (r15 = 0) → Z (some (.int 1)) M16 N16))))) ∧ ((Prod.fst M a1 (Int32.toNatClampNeg (40 + (6 * x2)))) = 0 → jv_Tg 11 a1 N ∧ vp_in (8 * (Prod.fst M b2 (Int32.toNatClampNeg x2))) (jv_sh a1).2 ∧ jv_Tg 11 a1 N ∧ vp_in ((40 + (6 * x2)) + 1) (jv_sh a1).2 ∧ ((Prod.fst M a1 (Int32.toNatClampNeg (8 * (Prod.fst M b2 (Int32.toNatClampNeg x2))))) ≠ (Prod.fst M a1 (Int32.toNatClampNeg ((40 + (6 * x2)) + 1))) → Z (some (.int 0)) M N) ∧ ((Prod.fst M a1 (Int32.toNatClampNeg (8 * (Prod.fst M b2 (Int32.toNatClampNeg x2))))) = (Prod.fst M a1 (Int32.toNatClampNeg ((40 + (6 * x2)) + 1))) → jv_Tg 10 a0 N ∧ jv_Ct g d mt_M_has [.int (Prod.fst M a0 32), .int x2] M N 0 0 (fun v M23 N23 => jv_ri v (fun r22 => (r22 = 0 → Z (some (.int 0)) M23 N23) ∧ (¬ (r22 = 0) → Z (some (.int 1)) M23 N23)))))) : jv_J g (d + 1) mt_M_matches 0 [some (.ref a0), some (.ref a1), some (.int x2), none, none, none] [] M N cr sr Z := by
  refine jv_bipush (v := 40) d_M_matches_0 (by decide) ?_
  refine jv_bipush (v := 6) d_M_matches_2 (by decide) ?_
  refine jv_iload_n d_M_matches_4 rfl rfl ?_
  refine jv_imul d_M_matches_5 ?_
  refine jv_iadd d_M_matches_6 ?_
  refine jv_istore_n (L' := [some (.ref a0), some (.ref a1), some (.int x2), some (.int (40 + (6 * x2))), none, none]) d_M_matches_7 rfl (Nat.le_of_ble_eq_true rfl) rfl ?_
  refine jv_bipush (v := 8) d_M_matches_8 (by decide) ?_
  refine jv_aload_n d_M_matches_10 rfl rfl ?_
  obtain ⟨q1, h⟩ := h
  obtain ⟨b2, e3, h⟩ := h
  refine jv_getR d_M_matches_11 fl_M_22 rfl q1 e3 ?_
  refine jv_iload_n d_M_matches_14 rfl rfl ?_
  obtain ⟨q4, q5, h⟩ := h
  refine jv_iald d_M_matches_15 q4 q5 ?_
  refine jv_imul d_M_matches_16 ?_
  refine jv_istore (L' := [some (.ref a0), some (.ref a1), some (.int x2), some (.int (40 + (6 * x2))), some (.int (8 * (Prod.fst M b2 (Int32.toNatClampNeg x2)))), none]) d_M_matches_17 (Nat.le_of_ble_eq_true rfl) rfl ?_
  refine jv_aload_n d_M_matches_19 rfl rfl ?_
  refine jv_iload_n d_M_matches_20 rfl rfl ?_
  obtain ⟨q6, q7, h⟩ := h
  refine jv_iald d_M_matches_21 q6 q7 ?_
  refine jv_if_ne (tgt := 45) d_M_matches_22 (by decide) ⟨fun c => ?_, fun c => ?_⟩
  · replace h := h.1 c
    refine jv_aload_n d_M_matches_45 rfl rfl ?_
    refine jv_iload d_M_matches_46 rfl ?_
    refine jv_iconst (v := 4) d_M_matches_48 (by decide) ?_
    refine jv_iadd d_M_matches_49 ?_
    refine jv_aload_n d_M_matches_50 rfl rfl ?_
    refine jv_iload_n d_M_matches_51 rfl rfl ?_
    refine jv_iconst (v := 1) d_M_matches_52 (by decide) ?_
    refine jv_iadd d_M_matches_53 ?_
    obtain ⟨q8, q9, h⟩ := h
    refine jv_iald d_M_matches_54 q8 q9 ?_
    refine jv_iadd d_M_matches_55 ?_
    obtain ⟨q10, q11, h⟩ := h
    refine jv_iald d_M_matches_56 q10 q11 ?_
    refine jv_aload_n d_M_matches_57 rfl rfl ?_
    refine jv_iload_n d_M_matches_58 rfl rfl ?_
    refine jv_iconst (v := 2) d_M_matches_59 (by decide) ?_
    refine jv_iadd d_M_matches_60 ?_
    obtain ⟨q12, q13, h⟩ := h
    refine jv_iald d_M_matches_61 q12 q13 ?_
    refine jv_icmp_ne (tgt := 69) d_M_matches_62 (by decide) ⟨fun c => ?_, fun c => ?_⟩
    · replace h := h.1 c
      refine jv_iconst (v := 0) d_M_matches_69 (by decide) ?_
      refine jv_istore (L' := [some (.ref a0), some (.ref a1), some (.int x2), some (.int (40 + (6 * x2))), some (.int (8 * (Prod.fst M b2 (Int32.toNatClampNeg x2)))), some (.int 0)]) d_M_matches_70 (Nat.le_of_ble_eq_true rfl) rfl ?_
      refine jv_iload d_M_matches_72 rfl ?_
      refine jv_if_eq (tgt := 92) d_M_matches_74 (by decide) ⟨fun c => ?_, fun c => absurd c (by decide)⟩
      refine jv_iconst (v := 0) d_M_matches_92 (by decide) ?_
      exact jv_iret d_M_matches_93 rfl (jv_nz (by decide)) h
    · replace h := h.2 c
      refine jv_iconst (v := 1) d_M_matches_65 (by decide) ?_
      refine jv_goto (tgt := 70) d_M_matches_66 (by decide) ?_
      refine jv_istore (L' := [some (.ref a0), some (.ref a1), some (.int x2), some (.int (40 + (6 * x2))), some (.int (8 * (Prod.fst M b2 (Int32.toNatClampNeg x2)))), some (.int 1)]) d_M_matches_70 (Nat.le_of_ble_eq_true rfl) rfl ?_
      refine jv_iload d_M_matches_72 rfl ?_
      refine jv_if_eq (tgt := 92) d_M_matches_74 (by decide) ⟨fun c => absurd c (by decide), fun c => ?_⟩
      refine jv_aload_n d_M_matches_77 rfl rfl ?_
      obtain ⟨q14, h⟩ := h
      refine jv_getI d_M_matches_78 fl_M_68 rfl q14 ?_
      refine jv_iload_n d_M_matches_81 rfl rfl ?_
      refine jv_invS [.int (Prod.fst M a0 32), .int x2] [] d_M_matches_82 ml_M_175 rfl (Nat.le_of_ble_eq_true rfl) (Nat.zero_add _) (Nat.zero_add _) (jv_Ct.mono h (fun v M16 N16 h => ?_))
      obtain ⟨r15, rfl, h⟩ := h
      change jv_J g (d + 1) mt_M_matches 85 [some (.ref a0), some (.ref a1), some (.int x2), some (.int (40 + (6 * x2))), some (.int (8 * (Prod.fst M b2 (Int32.toNatClampNeg x2)))), some (.int 1)] [.int r15] M16 N16 cr sr Z
      refine jv_if_eq (tgt := 92) d_M_matches_85 (by decide) ⟨fun c => ?_, fun c => ?_⟩
      · replace h := h.1 c
        refine jv_iconst (v := 0) d_M_matches_92 (by decide) ?_
        exact jv_iret d_M_matches_93 rfl (jv_nz (by decide)) h
      · replace h := h.2 c
        refine jv_iconst (v := 1) d_M_matches_88 (by decide) ?_
        refine jv_goto (tgt := 93) d_M_matches_89 (by decide) ?_
        exact jv_iret d_M_matches_93 rfl (jv_nz (by decide)) h
  · replace h := h.2 c
    refine jv_aload_n d_M_matches_25 rfl rfl ?_
    refine jv_iload d_M_matches_26 rfl ?_
    obtain ⟨q17, q18, h⟩ := h
    refine jv_iald d_M_matches_28 q17 q18 ?_
    refine jv_aload_n d_M_matches_29 rfl rfl ?_
    refine jv_iload_n d_M_matches_30 rfl rfl ?_
    refine jv_iconst (v := 1) d_M_matches_31 (by decide) ?_
    refine jv_iadd d_M_matches_32 ?_
    obtain ⟨q19, q20, h⟩ := h
    refine jv_iald d_M_matches_33 q19 q20 ?_
    refine jv_icmp_ne (tgt := 41) d_M_matches_34 (by decide) ⟨fun c => ?_, fun c => ?_⟩
    · replace h := h.1 c
      refine jv_iconst (v := 0) d_M_matches_41 (by decide) ?_
      refine jv_goto (tgt := 70) d_M_matches_42 (by decide) ?_
      refine jv_istore (L' := [some (.ref a0), some (.ref a1), some (.int x2), some (.int (40 + (6 * x2))), some (.int (8 * (Prod.fst M b2 (Int32.toNatClampNeg x2)))), some (.int 0)]) d_M_matches_70 (Nat.le_of_ble_eq_true rfl) rfl ?_
      refine jv_iload d_M_matches_72 rfl ?_
      refine jv_if_eq (tgt := 92) d_M_matches_74 (by decide) ⟨fun c => ?_, fun c => absurd c (by decide)⟩
      refine jv_iconst (v := 0) d_M_matches_92 (by decide) ?_
      exact jv_iret d_M_matches_93 rfl (jv_nz (by decide)) h
    · replace h := h.2 c
      refine jv_iconst (v := 1) d_M_matches_37 (by decide) ?_
      refine jv_goto (tgt := 70) d_M_matches_38 (by decide) ?_
      refine jv_istore (L' := [some (.ref a0), some (.ref a1), some (.int x2), some (.int (40 + (6 * x2))), some (.int (8 * (Prod.fst M b2 (Int32.toNatClampNeg x2)))), some (.int 1)]) d_M_matches_70 (Nat.le_of_ble_eq_true rfl) rfl ?_
      refine jv_iload d_M_matches_72 rfl ?_
      refine jv_if_eq (tgt := 92) d_M_matches_74 (by decide) ⟨fun c => absurd c (by decide), fun c => ?_⟩
      refine jv_aload_n d_M_matches_77 rfl rfl ?_
      obtain ⟨q21, h⟩ := h
      refine jv_getI d_M_matches_78 fl_M_68 rfl q21 ?_
      refine jv_iload_n d_M_matches_81 rfl rfl ?_
      refine jv_invS [.int (Prod.fst M a0 32), .int x2] [] d_M_matches_82 ml_M_175 rfl (Nat.le_of_ble_eq_true rfl) (Nat.zero_add _) (Nat.zero_add _) (jv_Ct.mono h (fun v M23 N23 h => ?_))
      obtain ⟨r22, rfl, h⟩ := h
      change jv_J g (d + 1) mt_M_matches 85 [some (.ref a0), some (.ref a1), some (.int x2), some (.int (40 + (6 * x2))), some (.int (8 * (Prod.fst M b2 (Int32.toNatClampNeg x2)))), some (.int 1)] [.int r22] M23 N23 cr sr Z
      refine jv_if_eq (tgt := 92) d_M_matches_85 (by decide) ⟨fun c => ?_, fun c => ?_⟩
      · replace h := h.1 c
        refine jv_iconst (v := 0) d_M_matches_92 (by decide) ?_
        exact jv_iret d_M_matches_93 rfl (jv_nz (by decide)) h
      · replace h := h.2 c
        refine jv_iconst (v := 1) d_M_matches_88 (by decide) ?_
        refine jv_goto (tgt := 93) d_M_matches_89 (by decide) ?_
        exact jv_iret d_M_matches_93 rfl (jv_nz (by decide)) h
theorem b_M_has_0 {g : jv_G} {d : Nat} {M : jv_Mem} {N cr sr : Nat} {Z : Option Value → jv_Mem → Nat → Prop} {x0 : Int32} {x1 : Int32} (h : (((x0 >>> (x1 &&& 31)) &&& 1) ≠ 1 → Z (some (.int 0)) M N) ∧ (((x0 >>> (x1 &&& 31)) &&& 1) = 1 → Z (some (.int 1)) M N)) : jv_J g d mt_M_has 0 [some (.int x0), some (.int x1)] [] M N cr sr Z := by
  refine jv_iload_n d_M_has_0 rfl rfl ?_
  refine jv_iload_n d_M_has_1 rfl rfl ?_
  refine jv_ishr d_M_has_2 ?_
  refine jv_iconst (v := 1) d_M_has_3 (by decide) ?_
  refine jv_iand d_M_has_4 ?_
  refine jv_iconst (v := 1) d_M_has_5 (by decide) ?_
  refine jv_icmp_ne (tgt := 13) d_M_has_6 (by decide) ⟨fun c => ?_, fun c => ?_⟩
  · replace h := h.1 c
    refine jv_iconst (v := 0) d_M_has_13 (by decide) ?_
    exact jv_iret d_M_has_14 rfl (jv_nz (by decide)) h
  · replace h := h.2 c
    refine jv_iconst (v := 1) d_M_has_9 (by decide) ?_
    refine jv_goto (tgt := 14) d_M_has_10 (by decide) ?_
    exact jv_iret d_M_has_14 rfl (jv_nz (by decide)) h
theorem b_M_leads_0 {g : jv_G} {d : Nat} {M : jv_Mem} {N cr sr : Nat} {Z : Option Value → jv_Mem → Nat → Prop} {a0 : Nat} {a1 : Nat} {x2 : Int32} (h : jv_Tg 10 a0 N ∧ ((Prod.fst M a0 9) ≤ (x2 + 1) → Z (some (.int 0)) M N) ∧ (¬ ((Prod.fst M a0 9) ≤ (x2 + 1)) → jv_Tg 11 a1 N ∧ vp_in ((40 + (6 * x2)) + 5) (jv_sh a1).2 ∧ ((Prod.fst M a1 (Int32.toNatClampNeg ((40 + (6 * x2)) + 5))) ≠ 1 → Z (some (.int 0)) M N) ∧ ((Prod.fst M a1 (Int32.toNatClampNeg ((40 + (6 * x2)) + 5))) = 1 → jv_Tg 10 a0 N ∧ ∃ b5, Prod.fst (Prod.snd M) a0 10 = some b5 ∧ jv_Tg 11 b5 N ∧ vp_in (x2 + 1) (jv_sh b5).2 ∧ jv_Tg 10 a0 N ∧ ∃ b10, Prod.fst (Prod.snd M) a0 10 = some b10 ∧ jv_Tg 11 b10 N ∧ vp_in x2 (jv_sh b10).2 ∧ ((Prod.fst M b5 (Int32.toNatClampNeg (x2 + 1))) ≠ (Prod.fst M b10 (Int32.toNatClampNeg x2)) → Z (some (.int 0)) M N) ∧ ((Prod.fst M b5 (Int32.toNatClampNeg (x2 + 1))) = (Prod.fst M b10 (Int32.toNatClampNeg x2)) → Z (some (.int 1)) M N)))) : jv_J g d mt_M_leads 0 [some (.ref a0), some (.ref a1), some (.int x2)] [] M N cr sr Z := by
  refine jv_iload_n d_M_leads_0 rfl rfl ?_
  refine jv_iconst (v := 1) d_M_leads_1 (by decide) ?_
  refine jv_iadd d_M_leads_2 ?_
  refine jv_aload_n d_M_leads_3 rfl rfl ?_
  obtain ⟨q1, h⟩ := h
  refine jv_getI d_M_leads_4 fl_M_138 rfl q1 ?_
  refine jv_icmp_ge (tgt := 46) d_M_leads_7 (by decide) ⟨fun c => ?_, fun c => ?_⟩
  · replace h := h.1 c
    refine jv_iconst (v := 0) d_M_leads_46 (by decide) ?_
    exact jv_iret d_M_leads_47 rfl (jv_nz (by decide)) h
  · replace h := h.2 c
    refine jv_aload_n d_M_leads_10 rfl rfl ?_
    refine jv_bipush (v := 40) d_M_leads_11 (by decide) ?_
    refine jv_bipush (v := 6) d_M_leads_13 (by decide) ?_
    refine jv_iload_n d_M_leads_15 rfl rfl ?_
    refine jv_imul d_M_leads_16 ?_
    refine jv_iadd d_M_leads_17 ?_
    refine jv_iconst (v := 5) d_M_leads_18 (by decide) ?_
    refine jv_iadd d_M_leads_19 ?_
    obtain ⟨q2, q3, h⟩ := h
    refine jv_iald d_M_leads_20 q2 q3 ?_
    refine jv_iconst (v := 1) d_M_leads_21 (by decide) ?_
    refine jv_icmp_ne (tgt := 46) d_M_leads_22 (by decide) ⟨fun c => ?_, fun c => ?_⟩
    · replace h := h.1 c
      refine jv_iconst (v := 0) d_M_leads_46 (by decide) ?_
      exact jv_iret d_M_leads_47 rfl (jv_nz (by decide)) h
    · replace h := h.2 c
      refine jv_aload_n d_M_leads_25 rfl rfl ?_
      obtain ⟨q4, h⟩ := h
      obtain ⟨b5, e6, h⟩ := h
      refine jv_getR d_M_leads_26 fl_M_22 rfl q4 e6 ?_
      refine jv_iload_n d_M_leads_29 rfl rfl ?_
      refine jv_iconst (v := 1) d_M_leads_30 (by decide) ?_
      refine jv_iadd d_M_leads_31 ?_
      obtain ⟨q7, q8, h⟩ := h
      refine jv_iald d_M_leads_32 q7 q8 ?_
      refine jv_aload_n d_M_leads_33 rfl rfl ?_
      obtain ⟨q9, h⟩ := h
      obtain ⟨b10, e11, h⟩ := h
      refine jv_getR d_M_leads_34 fl_M_22 rfl q9 e11 ?_
      refine jv_iload_n d_M_leads_37 rfl rfl ?_
      obtain ⟨q12, q13, h⟩ := h
      refine jv_iald d_M_leads_38 q12 q13 ?_
      refine jv_icmp_ne (tgt := 46) d_M_leads_39 (by decide) ⟨fun c => ?_, fun c => ?_⟩
      · replace h := h.1 c
        refine jv_iconst (v := 0) d_M_leads_46 (by decide) ?_
        exact jv_iret d_M_leads_47 rfl (jv_nz (by decide)) h
      · replace h := h.2 c
        refine jv_iconst (v := 1) d_M_leads_42 (by decide) ?_
        refine jv_goto (tgt := 47) d_M_leads_43 (by decide) ?_
        exact jv_iret d_M_leads_47 rfl (jv_nz (by decide)) h
theorem b_M_ones_0 {g : jv_G} {d : Nat} {M : jv_Mem} {N cr sr : Nat} {Z : Option Value → jv_Mem → Nat → Prop} {x0 : Int32} (h : jv_J g d mt_M_ones 4 [some (.int x0), some (.int 0), some (.int 0)] [] M N cr sr Z) : jv_J g d mt_M_ones 0 [some (.int x0), none, none] [] M N cr sr Z := by
  refine jv_iconst (v := 0) d_M_ones_0 (by decide) ?_
  refine jv_istore_n (L' := [some (.int x0), some (.int 0), none]) d_M_ones_1 rfl (Nat.le_of_ble_eq_true rfl) rfl ?_
  refine jv_iconst (v := 0) d_M_ones_2 (by decide) ?_
  refine jv_istore_n (L' := [some (.int x0), some (.int 0), some (.int 0)]) d_M_ones_3 rfl (Nat.le_of_ble_eq_true rfl) rfl ?_
  exact h
theorem b_M_ones_4 {g : jv_G} {d : Nat} {M : jv_Mem} {N cr sr : Nat} {Z : Option Value → jv_Mem → Nat → Prop} {x0 : Int32} {x1 : Int32} {x2 : Int32} (h : (8 ≤ x2 → Z (some (.int x1)) M N) ∧ (¬ (8 ≤ x2) → jv_J g d mt_M_ones 4 [some (.int x0), some (.int (x1 + ((x0 >>> (x2 &&& 31)) &&& 1))), some (.int (x2 + 1))] [] M N cr sr Z)) : jv_J g d mt_M_ones 4 [some (.int x0), some (.int x1), some (.int x2)] [] M N cr sr Z := by
  refine jv_iload_n d_M_ones_4 rfl rfl ?_
  refine jv_bipush (v := 8) d_M_ones_5 (by decide) ?_
  refine jv_icmp_ge (tgt := 24) d_M_ones_7 (by decide) ⟨fun c => ?_, fun c => ?_⟩
  · replace h := h.1 c
    refine jv_iload_n d_M_ones_24 rfl rfl ?_
    exact jv_iret d_M_ones_25 rfl rfl h
  · replace h := h.2 c
    refine jv_iload_n d_M_ones_10 rfl rfl ?_
    refine jv_iload_n d_M_ones_11 rfl rfl ?_
    refine jv_iload_n d_M_ones_12 rfl rfl ?_
    refine jv_ishr d_M_ones_13 ?_
    refine jv_iconst (v := 1) d_M_ones_14 (by decide) ?_
    refine jv_iand d_M_ones_15 ?_
    refine jv_iadd d_M_ones_16 ?_
    refine jv_istore_n (L' := [some (.int x0), some (.int (x1 + ((x0 >>> (x2 &&& 31)) &&& 1))), some (.int x2)]) d_M_ones_17 rfl (Nat.le_of_ble_eq_true rfl) rfl ?_
    refine jv_iinc (v := (x2 + 1)) (L' := [some (.int x0), some (.int (x1 + ((x0 >>> (x2 &&& 31)) &&& 1))), some (.int (x2 + 1))]) d_M_ones_18 rfl rfl (Nat.le_of_ble_eq_true rfl) rfl ?_
    refine jv_goto (tgt := 4) d_M_ones_21 (by decide) ?_
    exact h
theorem b_M_send_0 {g : jv_G} {d : Nat} {M : jv_Mem} {N cr sr : Nat} {Z : Option Value → jv_Mem → Nat → Prop} {a0 : Nat} {x1 : Int32} {x2 : Int32} {x3 : Int32} {x4 : Int32} (h : jv_Tg 10 a0 N ∧ jv_Ct g d mt_M_in [.long (Int32.toInt64 x1), .long 0, .long 5] (jv_si M a0 0 0) N 0 0 (fun v M3 N3 => jv_ri v (fun r2 => (r2 ≠ 0 → jv_Tg 10 a0 N3 ∧ jv_Ct g d mt_M_noHart [.ref a0, .int x2] M3 N3 0 0 (fun v M6 N6 => jv_ri v (fun r5 => (r5 = 0 → (x1 = 3 → jv_J g (d + 1) mt_M_send 43 [some (.ref a0), some (.int x1), some (.int x2), some (.int x3), some (.int x4)] [.long 0, .long (Int32.toInt64 x3)] M6 N6 cr sr Z) ∧ (¬ (x1 = 3) → (x1 ≠ 4 → jv_Ct g d mt_M_in [.long (Int32.toInt64 x3), .long 0, .long 0] M6 N6 0 0 (fun v M8 N8 => jv_ri v (fun r7 => (r7 = 0 → jv_J g (d + 1) mt_M_send 78 [none, none, none, none, none] [] M8 N8 cr sr Z) ∧ (¬ (r7 = 0) → (x1 ≠ 4 → jv_J g (d + 1) mt_M_send 72 [some (.ref a0), some (.int x1), some (.int x2), some (.int x3), some (.int x4)] [.long 0, .long 0, .long (Int32.toInt64 x4)] M8 N8 cr sr Z) ∧ (x1 = 4 → jv_J g (d + 1) mt_M_send 72 [some (.ref a0), some (.int x1), some (.int x2), some (.int x3), some (.int x4)] [.long 999, .long 0, .long (Int32.toInt64 x4)] M8 N8 cr sr Z))))) ∧ (x1 = 4 → jv_J g (d + 1) mt_M_send 43 [some (.ref a0), some (.int x1), some (.int x2), some (.int x3), some (.int x4)] [.long 0, .long (Int32.toInt64 x3)] M6 N6 cr sr Z))) ∧ (¬ (r5 = 0) → Z (some (.int (-1))) M6 N6)))) ∧ (r2 = 0 → Z (some (.int (-2))) M3 N3)))) : jv_J g (d + 1) mt_M_send 0 [some (.ref a0), some (.int x1), some (.int x2), some (.int x3), some (.int x4)] [] M N cr sr Z := by
  refine jv_aload_n d_M_send_0 rfl rfl ?_
  refine jv_iconst (v := 0) d_M_send_1 (by decide) ?_
  obtain ⟨q1, h⟩ := h
  refine jv_putI d_M_send_2 fl_M_75 (fun r hr => by cases hr; rfl) rfl q1 ?_
  refine jv_iload_n d_M_send_5 rfl rfl ?_
  refine jv_i2l d_M_send_6 ?_
  refine jv_lconst (v := 0) d_M_send_7 (by decide) ?_
  refine jv_ldc2 d_M_send_8 co_M_236 ?_
  refine jv_invS [.long (Int32.toInt64 x1), .long 0, .long 5] [] d_M_send_11 ml_M_81 rfl (Nat.le_of_ble_eq_true rfl) (Nat.zero_add _) (Nat.zero_add _) (jv_Ct.mono h (fun v M3 N3 h => ?_))
  obtain ⟨r2, rfl, h⟩ := h
  change jv_J g (d + 1) mt_M_send 14 [some (.ref a0), some (.int x1), some (.int x2), some (.int x3), some (.int x4)] [.int r2] M3 N3 cr sr Z
  refine jv_if_ne (tgt := 20) d_M_send_14 (by decide) ⟨fun c => ?_, fun c => ?_⟩
  · replace h := h.1 c
    refine jv_aload_n d_M_send_20 rfl rfl ?_
    refine jv_iload_n d_M_send_21 rfl rfl ?_
    obtain ⟨q4, h⟩ := h
    refine jv_invV [.int x2] [] d_M_send_22 ml_M_206 q4 rfl (Nat.le_of_ble_eq_true rfl) (Nat.zero_add _) (Nat.zero_add _) (jv_Ct.mono h (fun v M6 N6 h => ?_))
    obtain ⟨r5, rfl, h⟩ := h
    change jv_J g (d + 1) mt_M_send 25 [some (.ref a0), some (.int x1), some (.int x2), some (.int x3), some (.int x4)] [.int r5] M6 N6 cr sr Z
    refine jv_if_eq (tgt := 30) d_M_send_25 (by decide) ⟨fun c => ?_, fun c => ?_⟩
    · replace h := h.1 c
      refine jv_iload_n d_M_send_30 rfl rfl ?_
      refine jv_i2l d_M_send_31 ?_
      refine jv_lconst (v := 0) d_M_send_32 (by decide) ?_
      refine jv_iload_n d_M_send_33 rfl rfl ?_
      refine jv_iconst (v := 3) d_M_send_34 (by decide) ?_
      refine jv_icmp_eq (tgt := 43) d_M_send_35 (by decide) ⟨fun c => ?_, fun c => ?_⟩
      · replace h := h.1 c
        exact h
      · replace h := h.2 c
        refine jv_iload_n d_M_send_38 rfl rfl ?_
        refine jv_iconst (v := 4) d_M_send_39 (by decide) ?_
        refine jv_icmp_ne (tgt := 49) d_M_send_40 (by decide) ⟨fun c => ?_, fun c => ?_⟩
        · replace h := h.1 c
          refine jv_lconst (v := 0) d_M_send_49 (by decide) ?_
          refine jv_invS [.long (Int32.toInt64 x3), .long 0, .long 0] [] d_M_send_50 ml_M_81 rfl (Nat.le_of_ble_eq_true rfl) (Nat.zero_add _) (Nat.zero_add _) (jv_Ct.mono h (fun v M8 N8 h => ?_))
          obtain ⟨r7, rfl, h⟩ := h
          change jv_J g (d + 1) mt_M_send 53 [some (.ref a0), some (.int x1), some (.int x2), some (.int x3), some (.int x4)] [.int r7] M8 N8 cr sr Z
          refine jv_if_eq (tgt := 78) d_M_send_53 (by decide) ⟨fun c => ?_, fun c => ?_⟩
          · replace h := h.1 c
            refine jv_weak (L' := [none, none, none, none, none]) (by simp [jv_le]) ?_
            exact h
          · replace h := h.2 c
            refine jv_iload d_M_send_56 rfl ?_
            refine jv_i2l d_M_send_58 ?_
            refine jv_lconst (v := 0) d_M_send_59 (by decide) ?_
            refine jv_iload_n d_M_send_60 rfl rfl ?_
            refine jv_iconst (v := 4) d_M_send_61 (by decide) ?_
            refine jv_icmp_ne (tgt := 71) d_M_send_62 (by decide) ⟨fun c => ?_, fun c => ?_⟩
            · replace h := h.1 c
              refine jv_lconst (v := 0) d_M_send_71 (by decide) ?_
              exact h
            · replace h := h.2 c
              refine jv_ldc2 d_M_send_65 co_M_238 ?_
              refine jv_goto (tgt := 72) d_M_send_68 (by decide) ?_
              exact h
        · replace h := h.2 c
          exact h
    · replace h := h.2 c
      refine jv_iconst (v := (-1)) d_M_send_28 (by decide) ?_
      exact jv_iret d_M_send_29 rfl rfl h
  · replace h := h.2 c
    refine jv_bipush (v := (-2)) d_M_send_17 (by decide) ?_
    exact jv_iret d_M_send_19 rfl rfl h
theorem b_M_send_43 {g : jv_G} {d : Nat} {M : jv_Mem} {N cr sr : Nat} {Z : Option Value → jv_Mem → Nat → Prop} {a0 : Nat} {x1 : Int32} {x2 : Int32} {x3 : Int32} {x4 : Int32} {ly0 : Int64} {ly1 : Int64} (h : jv_Ct g d mt_M_in [.long ly0, .long ly1, .long 3] M N 0 0 (fun v M2 N2 => jv_ri v (fun r1 => (r1 = 0 → jv_J g (d + 1) mt_M_send 78 [none, none, none, none, none] [] M2 N2 cr sr Z) ∧ (¬ (r1 = 0) → (x1 ≠ 4 → jv_J g (d + 1) mt_M_send 72 [some (.ref a0), some (.int x1), some (.int x2), some (.int x3), some (.int x4)] [.long 0, .long 0, .long (Int32.toInt64 x4)] M2 N2 cr sr Z) ∧ (x1 = 4 → jv_J g (d + 1) mt_M_send 72 [some (.ref a0), some (.int x1), some (.int x2), some (.int x3), some (.int x4)] [.long 999, .long 0, .long (Int32.toInt64 x4)] M2 N2 cr sr Z))))) : jv_J g (d + 1) mt_M_send 43 [some (.ref a0), some (.int x1), some (.int x2), some (.int x3), some (.int x4)] [.long ly1, .long ly0] M N cr sr Z := by
  refine jv_ldc2 d_M_send_43 co_M_219 ?_
  refine jv_goto (tgt := 50) d_M_send_46 (by decide) ?_
  refine jv_invS [.long ly0, .long ly1, .long 3] [] d_M_send_50 ml_M_81 rfl (Nat.le_of_ble_eq_true rfl) (Nat.zero_add _) (Nat.zero_add _) (jv_Ct.mono h (fun v M2 N2 h => ?_))
  obtain ⟨r1, rfl, h⟩ := h
  change jv_J g (d + 1) mt_M_send 53 [some (.ref a0), some (.int x1), some (.int x2), some (.int x3), some (.int x4)] [.int r1] M2 N2 cr sr Z
  refine jv_if_eq (tgt := 78) d_M_send_53 (by decide) ⟨fun c => ?_, fun c => ?_⟩
  · replace h := h.1 c
    refine jv_weak (L' := [none, none, none, none, none]) (by simp [jv_le]) ?_
    exact h
  · replace h := h.2 c
    refine jv_iload d_M_send_56 rfl ?_
    refine jv_i2l d_M_send_58 ?_
    refine jv_lconst (v := 0) d_M_send_59 (by decide) ?_
    refine jv_iload_n d_M_send_60 rfl rfl ?_
    refine jv_iconst (v := 4) d_M_send_61 (by decide) ?_
    refine jv_icmp_ne (tgt := 71) d_M_send_62 (by decide) ⟨fun c => ?_, fun c => ?_⟩
    · replace h := h.1 c
      refine jv_lconst (v := 0) d_M_send_71 (by decide) ?_
      exact h
    · replace h := h.2 c
      refine jv_ldc2 d_M_send_65 co_M_238 ?_
      refine jv_goto (tgt := 72) d_M_send_68 (by decide) ?_
      exact h
theorem b_M_send_72 {g : jv_G} {d : Nat} {M : jv_Mem} {N cr sr : Nat} {Z : Option Value → jv_Mem → Nat → Prop} {a0 : Nat} {x1 : Int32} {x2 : Int32} {x3 : Int32} {x4 : Int32} {ly0 : Int64} {ly1 : Int64} {ly2 : Int64} (h : jv_Ct g d mt_M_in [.long ly0, .long ly1, .long ly2] M N 0 0 (fun v M2 N2 => jv_ri v (fun r1 => (r1 ≠ 0 → jv_Tg 10 a0 N2 ∧ ∃ b4, Prod.fst (Prod.snd M2) a0 19 = some b4 ∧ jv_Tg 11 b4 N2 ∧ vp_in 80 (jv_sh b4).2 ∧ ((Prod.fst M2 b4 (Int32.toNatClampNeg 80)) ≠ 8 → jv_Tg 10 a0 N2 ∧ jv_Ct g d mt_M_note [.ref a0] M2 N2 0 0 (fun v M10 N10 => jv_rv v (jv_Tg 10 a0 N10 ∧ ∃ b12, Prod.fst (Prod.snd M10) a0 19 = some b12 ∧ jv_Ct g d mt_M_sendOn [.ref b12, .int x1, .int x2, .int x3, .int x4] M10 N10 0 0 (fun v M15 N15 => jv_rv v (jv_Tg 10 a0 N15 ∧ ∃ b17, Prod.fst (Prod.snd M15) a0 19 = some b17 ∧ jv_Tg 11 b17 N15 ∧ vp_in 76 (jv_sh b17).2 ∧ Z (some (.int (Prod.fst M15 b17 (Int32.toNatClampNeg 76)))) M15 N15))))) ∧ ((Prod.fst M2 b4 (Int32.toNatClampNeg 80)) = 8 → Z (some (.int (-4))) M2 N2)) ∧ (r1 = 0 → jv_J g (d + 1) mt_M_send 78 [none, none, none, none, none] [] M2 N2 cr sr Z)))) : jv_J g (d + 1) mt_M_send 72 [some (.ref a0), some (.int x1), some (.int x2), some (.int x3), some (.int x4)] [.long ly2, .long ly1, .long ly0] M N cr sr Z := by
  refine jv_invS [.long ly0, .long ly1, .long ly2] [] d_M_send_72 ml_M_81 rfl (Nat.le_of_ble_eq_true rfl) (Nat.zero_add _) (Nat.zero_add _) (jv_Ct.mono h (fun v M2 N2 h => ?_))
  obtain ⟨r1, rfl, h⟩ := h
  change jv_J g (d + 1) mt_M_send 75 [some (.ref a0), some (.int x1), some (.int x2), some (.int x3), some (.int x4)] [.int r1] M2 N2 cr sr Z
  refine jv_if_ne (tgt := 81) d_M_send_75 (by decide) ⟨fun c => ?_, fun c => ?_⟩
  · replace h := h.1 c
    refine jv_aload_n d_M_send_81 rfl rfl ?_
    obtain ⟨q3, h⟩ := h
    obtain ⟨b4, e5, h⟩ := h
    refine jv_getR d_M_send_82 fl_M_40 rfl q3 e5 ?_
    refine jv_bipush (v := 80) d_M_send_85 (by decide) ?_
    obtain ⟨q6, q7, h⟩ := h
    refine jv_iald d_M_send_87 q6 q7 ?_
    refine jv_bipush (v := 8) d_M_send_88 (by decide) ?_
    refine jv_icmp_ne (tgt := 96) d_M_send_90 (by decide) ⟨fun c => ?_, fun c => ?_⟩
    · replace h := h.1 c
      refine jv_aload_n d_M_send_96 rfl rfl ?_
      obtain ⟨q8, h⟩ := h
      refine jv_invV [] [] d_M_send_97 ml_M_223 q8 rfl (Nat.le_of_ble_eq_true rfl) (Nat.zero_add _) (Nat.zero_add _) (jv_Ct.mono h (fun v M10 N10 h => ?_))
      obtain ⟨rfl, h⟩ := h
      change jv_J g (d + 1) mt_M_send 100 [some (.ref a0), some (.int x1), some (.int x2), some (.int x3), some (.int x4)] [] M10 N10 cr sr Z
      refine jv_aload_n d_M_send_100 rfl rfl ?_
      obtain ⟨q11, h⟩ := h
      obtain ⟨b12, e13, h⟩ := h
      refine jv_getR d_M_send_101 fl_M_40 rfl q11 e13 ?_
      refine jv_iload_n d_M_send_104 rfl rfl ?_
      refine jv_iload_n d_M_send_105 rfl rfl ?_
      refine jv_iload_n d_M_send_106 rfl rfl ?_
      refine jv_iload d_M_send_107 rfl ?_
      refine jv_invS [.ref b12, .int x1, .int x2, .int x3, .int x4] [] d_M_send_109 ml_M_240 rfl (Nat.le_of_ble_eq_true rfl) (Nat.zero_add _) (Nat.zero_add _) (jv_Ct.mono h (fun v M15 N15 h => ?_))
      obtain ⟨rfl, h⟩ := h
      change jv_J g (d + 1) mt_M_send 112 [some (.ref a0), some (.int x1), some (.int x2), some (.int x3), some (.int x4)] [] M15 N15 cr sr Z
      refine jv_aload_n d_M_send_112 rfl rfl ?_
      obtain ⟨q16, h⟩ := h
      obtain ⟨b17, e18, h⟩ := h
      refine jv_getR d_M_send_113 fl_M_40 rfl q16 e18 ?_
      refine jv_bipush (v := 76) d_M_send_116 (by decide) ?_
      obtain ⟨q19, q20, h⟩ := h
      refine jv_iald d_M_send_118 q19 q20 ?_
      exact jv_iret d_M_send_119 rfl rfl h
    · replace h := h.2 c
      refine jv_bipush (v := (-4)) d_M_send_93 (by decide) ?_
      exact jv_iret d_M_send_95 rfl rfl h
  · replace h := h.2 c
    refine jv_weak (L' := [none, none, none, none, none]) (by simp [jv_le]) ?_
    exact h
theorem b_M_send_78 {g : jv_G} {d : Nat} {M : jv_Mem} {N cr sr : Nat} {Z : Option Value → jv_Mem → Nat → Prop}  (h : Z (some (.int (-2))) M N) : jv_J g (d + 1) mt_M_send 78 [none, none, none, none, none] [] M N cr sr Z := by
  refine jv_bipush (v := (-2)) d_M_send_78 (by decide) ?_
  exact jv_iret d_M_send_80 rfl rfl h
theorem b_M_sendOn_0 {g : jv_G} {d : Nat} {M : jv_Mem} {N cr sr : Nat} {Z : Option Value → jv_Mem → Nat → Prop} {a0 : Nat} {x1 : Int32} {x2 : Int32} {x3 : Int32} {x4 : Int32} (h : (x1 ≤ 2 → jv_J g (d + 1) mt_M_sendOn 13 [some (.ref a0), some (.int x1), some (.int x2), some (.int x3), some (.int x4), none] [] M N cr sr Z) ∧ (¬ (x1 ≤ 2) → jv_Tg 11 a0 N ∧ vp_in 76 (jv_sh a0).2 ∧ ((Prod.fst M a0 (Int32.toNatClampNeg 76)) = 0 → jv_J g (d + 1) mt_M_sendOn 13 [some (.ref a0), some (.int x1), some (.int x2), some (.int x3), some (.int x4), none] [] M N cr sr Z) ∧ (¬ ((Prod.fst M a0 (Int32.toNatClampNeg 76)) = 0) → Z none M N))) : jv_J g (d + 1) mt_M_sendOn 0 [some (.ref a0), some (.int x1), some (.int x2), some (.int x3), some (.int x4), none] [] M N cr sr Z := by
  refine jv_iload_n d_M_sendOn_0 rfl rfl ?_
  refine jv_iconst (v := 2) d_M_sendOn_1 (by decide) ?_
  refine jv_icmp_le (tgt := 13) d_M_sendOn_2 (by decide) ⟨fun c => ?_, fun c => ?_⟩
  · replace h := h.1 c
    exact h
  · replace h := h.2 c
    refine jv_aload_n d_M_sendOn_5 rfl rfl ?_
    refine jv_bipush (v := 76) d_M_sendOn_6 (by decide) ?_
    obtain ⟨q1, q2, h⟩ := h
    refine jv_iald d_M_sendOn_8 q1 q2 ?_
    refine jv_if_eq (tgt := 13) d_M_sendOn_9 (by decide) ⟨fun c => ?_, fun c => ?_⟩
    · replace h := h.1 c
      exact h
    · replace h := h.2 c
      exact jv_ret d_M_sendOn_12 rfl h
theorem b_M_sendOn_13 {g : jv_G} {d : Nat} {M : jv_Mem} {N cr sr : Nat} {Z : Option Value → jv_Mem → Nat → Prop} {a0 : Nat} {x1 : Int32} {x2 : Int32} {x3 : Int32} {x4 : Int32} (h : (x1 ≤ 2 → jv_J g (d + 1) mt_M_sendOn 31 [some (.ref a0), some (.int x1), some (.int x2), some (.int x3), some (.int x4), none] [] M N cr sr Z) ∧ (¬ (x1 ≤ 2) → jv_Ct g d mt_M_isAbstractOn [.ref a0] M N 0 0 (fun v M2 N2 => jv_ri v (fun r1 => (r1 = 0 → jv_J g (d + 1) mt_M_sendOn 31 [some (.ref a0), some (.int x1), some (.int x2), some (.int x3), some (.int x4), none] [] M2 N2 cr sr Z) ∧ (¬ (r1 = 0) → jv_Tg 11 a0 N2 ∧ vp_in 76 (jv_sh a0).2 ∧ Z none (jv_si M2 a0 (Int32.toNatClampNeg 76) 1) N2))))) : jv_J g (d + 1) mt_M_sendOn 13 [some (.ref a0), some (.int x1), some (.int x2), some (.int x3), some (.int x4), none] [] M N cr sr Z := by
  refine jv_iload_n d_M_sendOn_13 rfl rfl ?_
  refine jv_iconst (v := 2) d_M_sendOn_14 (by decide) ?_
  refine jv_icmp_le (tgt := 31) d_M_sendOn_15 (by decide) ⟨fun c => ?_, fun c => ?_⟩
  · replace h := h.1 c
    exact h
  · replace h := h.2 c
    refine jv_aload_n d_M_sendOn_18 rfl rfl ?_
    refine jv_invS [.ref a0] [] d_M_sendOn_19 ml_M_232 rfl (Nat.le_of_ble_eq_true rfl) (Nat.zero_add _) (Nat.zero_add _) (jv_Ct.mono h (fun v M2 N2 h => ?_))
    obtain ⟨r1, rfl, h⟩ := h
    change jv_J g (d + 1) mt_M_sendOn 22 [some (.ref a0), some (.int x1), some (.int x2), some (.int x3), some (.int x4), none] [.int r1] M2 N2 cr sr Z
    refine jv_if_eq (tgt := 31) d_M_sendOn_22 (by decide) ⟨fun c => ?_, fun c => ?_⟩
    · replace h := h.1 c
      exact h
    · replace h := h.2 c
      refine jv_aload_n d_M_sendOn_25 rfl rfl ?_
      refine jv_bipush (v := 76) d_M_sendOn_26 (by decide) ?_
      refine jv_iconst (v := 1) d_M_sendOn_28 (by decide) ?_
      obtain ⟨q3, q4, h⟩ := h
      refine jv_iast d_M_sendOn_29 q3 q4 ?_
      exact jv_ret d_M_sendOn_30 rfl h
theorem b_M_sendOn_31 {g : jv_G} {d : Nat} {M : jv_Mem} {N cr sr : Nat} {Z : Option Value → jv_Mem → Nat → Prop} {a0 : Nat} {x1 : Int32} {x2 : Int32} {x3 : Int32} {x4 : Int32} (h : jv_Tg 11 a0 N ∧ vp_in 80 (jv_sh a0).2 ∧ jv_Tg 11 a0 N ∧ vp_in (81 + (7 * (Prod.fst M a0 (Int32.toNatClampNeg 80)))) (jv_sh a0).2 ∧ jv_Tg 11 a0 N ∧ vp_in ((81 + (7 * (Prod.fst M a0 (Int32.toNatClampNeg 80)))) + 1) (jv_sh a0).2 ∧ jv_Tg 11 a0 N ∧ vp_in ((81 + (7 * (Prod.fst M a0 (Int32.toNatClampNeg 80)))) + 2) (jv_sh a0).2 ∧ jv_Tg 11 a0 N ∧ vp_in ((81 + (7 * (Prod.fst M a0 (Int32.toNatClampNeg 80)))) + 3) (jv_sh a0).2 ∧ jv_Tg 11 a0 N ∧ vp_in ((81 + (7 * (Prod.fst M a0 (Int32.toNatClampNeg 80)))) + 4) (jv_sh a0).2 ∧ jv_Tg 11 a0 N ∧ vp_in ((81 + (7 * (Prod.fst M a0 (Int32.toNatClampNeg 80)))) + 5) (jv_sh a0).2 ∧ jv_Tg 11 a0 N ∧ vp_in ((81 + (7 * (Prod.fst M a0 (Int32.toNatClampNeg 80)))) + 6) (jv_sh a0).2 ∧ jv_Tg 11 a0 N ∧ vp_in 80 (jv_sh a0).2 ∧ jv_Tg 11 a0 N ∧ vp_in 80 (jv_sh a0).2 ∧ Z none (jv_si (jv_si (jv_si (jv_si (jv_si (jv_si (jv_si (jv_si M a0 (Int32.toNatClampNeg (81 + (7 * (Prod.fst M a0 (Int32.toNatClampNeg 80))))) x1) a0 (Int32.toNatClampNeg ((81 + (7 * (Prod.fst M a0 (Int32.toNatClampNeg 80)))) + 1)) x2) a0 (Int32.toNatClampNeg ((81 + (7 * (Prod.fst M a0 (Int32.toNatClampNeg 80)))) + 2)) 0) a0 (Int32.toNatClampNeg ((81 + (7 * (Prod.fst M a0 (Int32.toNatClampNeg 80)))) + 3)) 0) a0 (Int32.toNatClampNeg ((81 + (7 * (Prod.fst M a0 (Int32.toNatClampNeg 80)))) + 4)) x3) a0 (Int32.toNatClampNeg ((81 + (7 * (Prod.fst M a0 (Int32.toNatClampNeg 80)))) + 5)) x4) a0 (Int32.toNatClampNeg ((81 + (7 * (Prod.fst M a0 (Int32.toNatClampNeg 80)))) + 6)) 0) a0 (Int32.toNatClampNeg 80) ((Prod.fst (jv_si (jv_si (jv_si (jv_si (jv_si (jv_si (jv_si M a0 (Int32.toNatClampNeg (81 + (7 * (Prod.fst M a0 (Int32.toNatClampNeg 80))))) x1) a0 (Int32.toNatClampNeg ((81 + (7 * (Prod.fst M a0 (Int32.toNatClampNeg 80)))) + 1)) x2) a0 (Int32.toNatClampNeg ((81 + (7 * (Prod.fst M a0 (Int32.toNatClampNeg 80)))) + 2)) 0) a0 (Int32.toNatClampNeg ((81 + (7 * (Prod.fst M a0 (Int32.toNatClampNeg 80)))) + 3)) 0) a0 (Int32.toNatClampNeg ((81 + (7 * (Prod.fst M a0 (Int32.toNatClampNeg 80)))) + 4)) x3) a0 (Int32.toNatClampNeg ((81 + (7 * (Prod.fst M a0 (Int32.toNatClampNeg 80)))) + 5)) x4) a0 (Int32.toNatClampNeg ((81 + (7 * (Prod.fst M a0 (Int32.toNatClampNeg 80)))) + 6)) 0) a0 (Int32.toNatClampNeg 80)) + 1)) N) : jv_J g (d + 1) mt_M_sendOn 31 [some (.ref a0), some (.int x1), some (.int x2), some (.int x3), some (.int x4), none] [] M N cr sr Z := by
  refine jv_bipush (v := 81) d_M_sendOn_31 (by decide) ?_
  refine jv_bipush (v := 7) d_M_sendOn_33 (by decide) ?_
  refine jv_aload_n d_M_sendOn_35 rfl rfl ?_
  refine jv_bipush (v := 80) d_M_sendOn_36 (by decide) ?_
  obtain ⟨q1, q2, h⟩ := h
  refine jv_iald d_M_sendOn_38 q1 q2 ?_
  refine jv_imul d_M_sendOn_39 ?_
  refine jv_iadd d_M_sendOn_40 ?_
  refine jv_istore (L' := [some (.ref a0), some (.int x1), some (.int x2), some (.int x3), some (.int x4), some (.int (81 + (7 * (Prod.fst M a0 (Int32.toNatClampNeg 80)))))]) d_M_sendOn_41 (Nat.le_of_ble_eq_true rfl) rfl ?_
  refine jv_aload_n d_M_sendOn_43 rfl rfl ?_
  refine jv_iload d_M_sendOn_44 rfl ?_
  refine jv_iload_n d_M_sendOn_46 rfl rfl ?_
  obtain ⟨q3, q4, h⟩ := h
  refine jv_iast d_M_sendOn_47 q3 q4 ?_
  refine jv_aload_n d_M_sendOn_48 rfl rfl ?_
  refine jv_iload d_M_sendOn_49 rfl ?_
  refine jv_iconst (v := 1) d_M_sendOn_51 (by decide) ?_
  refine jv_iadd d_M_sendOn_52 ?_
  refine jv_iload_n d_M_sendOn_53 rfl rfl ?_
  obtain ⟨q5, q6, h⟩ := h
  refine jv_iast d_M_sendOn_54 q5 q6 ?_
  refine jv_aload_n d_M_sendOn_55 rfl rfl ?_
  refine jv_iload d_M_sendOn_56 rfl ?_
  refine jv_iconst (v := 2) d_M_sendOn_58 (by decide) ?_
  refine jv_iadd d_M_sendOn_59 ?_
  refine jv_iconst (v := 0) d_M_sendOn_60 (by decide) ?_
  obtain ⟨q7, q8, h⟩ := h
  refine jv_iast d_M_sendOn_61 q7 q8 ?_
  refine jv_aload_n d_M_sendOn_62 rfl rfl ?_
  refine jv_iload d_M_sendOn_63 rfl ?_
  refine jv_iconst (v := 3) d_M_sendOn_65 (by decide) ?_
  refine jv_iadd d_M_sendOn_66 ?_
  refine jv_iconst (v := 0) d_M_sendOn_67 (by decide) ?_
  obtain ⟨q9, q10, h⟩ := h
  refine jv_iast d_M_sendOn_68 q9 q10 ?_
  refine jv_aload_n d_M_sendOn_69 rfl rfl ?_
  refine jv_iload d_M_sendOn_70 rfl ?_
  refine jv_iconst (v := 4) d_M_sendOn_72 (by decide) ?_
  refine jv_iadd d_M_sendOn_73 ?_
  refine jv_iload_n d_M_sendOn_74 rfl rfl ?_
  obtain ⟨q11, q12, h⟩ := h
  refine jv_iast d_M_sendOn_75 q11 q12 ?_
  refine jv_aload_n d_M_sendOn_76 rfl rfl ?_
  refine jv_iload d_M_sendOn_77 rfl ?_
  refine jv_iconst (v := 5) d_M_sendOn_79 (by decide) ?_
  refine jv_iadd d_M_sendOn_80 ?_
  refine jv_iload d_M_sendOn_81 rfl ?_
  obtain ⟨q13, q14, h⟩ := h
  refine jv_iast d_M_sendOn_83 q13 q14 ?_
  refine jv_aload_n d_M_sendOn_84 rfl rfl ?_
  refine jv_iload d_M_sendOn_85 rfl ?_
  refine jv_bipush (v := 6) d_M_sendOn_87 (by decide) ?_
  refine jv_iadd d_M_sendOn_89 ?_
  refine jv_iconst (v := 0) d_M_sendOn_90 (by decide) ?_
  obtain ⟨q15, q16, h⟩ := h
  refine jv_iast d_M_sendOn_91 q15 q16 ?_
  refine jv_aload_n d_M_sendOn_92 rfl rfl ?_
  refine jv_bipush (v := 80) d_M_sendOn_93 (by decide) ?_
  refine jv_dup2 d_M_sendOn_95 rfl rfl ?_
  obtain ⟨q17, q18, h⟩ := h
  refine jv_iald d_M_sendOn_96 q17 q18 ?_
  refine jv_iconst (v := 1) d_M_sendOn_97 (by decide) ?_
  refine jv_iadd d_M_sendOn_98 ?_
  obtain ⟨q19, q20, h⟩ := h
  refine jv_iast d_M_sendOn_99 q19 q20 ?_
  exact jv_ret d_M_sendOn_100 rfl h
theorem b_M_isAbstractOn_0 {g : jv_G} {d : Nat} {M : jv_Mem} {N cr sr : Nat} {Z : Option Value → jv_Mem → Nat → Prop} {a0 : Nat} (h : jv_J g d mt_M_isAbstractOn 4 [some (.ref a0), some (.int 0), some (.int 0)] [] M N cr sr Z) : jv_J g d mt_M_isAbstractOn 0 [some (.ref a0), none, none] [] M N cr sr Z := by
  refine jv_iconst (v := 0) d_M_isAbstractOn_0 (by decide) ?_
  refine jv_istore_n (L' := [some (.ref a0), some (.int 0), none]) d_M_isAbstractOn_1 rfl (Nat.le_of_ble_eq_true rfl) rfl ?_
  refine jv_iconst (v := 0) d_M_isAbstractOn_2 (by decide) ?_
  refine jv_istore_n (L' := [some (.ref a0), some (.int 0), some (.int 0)]) d_M_isAbstractOn_3 rfl (Nat.le_of_ble_eq_true rfl) rfl ?_
  exact h
theorem b_M_isAbstractOn_4 {g : jv_G} {d : Nat} {M : jv_Mem} {N cr sr : Nat} {Z : Option Value → jv_Mem → Nat → Prop} {a0 : Nat} {x1 : Int32} {x2 : Int32} (h : jv_Tg 11 a0 N ∧ vp_in 80 (jv_sh a0).2 ∧ ((Prod.fst M a0 (Int32.toNatClampNeg 80)) ≤ x2 → (x1 = 0 ∨ x1 = 1) ∧ Z (some (.int x1)) M N) ∧ (¬ ((Prod.fst M a0 (Int32.toNatClampNeg 80)) ≤ x2) → (x1 ≠ 0 → jv_J g d mt_M_isAbstractOn 4 [some (.ref a0), some (.int 1), some (.int (x2 + 1))] [] M N cr sr Z) ∧ (x1 = 0 → jv_Tg 11 a0 N ∧ vp_in (81 + (7 * x2)) (jv_sh a0).2 ∧ ((Prod.fst M a0 (Int32.toNatClampNeg (81 + (7 * x2)))) ≤ 2 → jv_J g d mt_M_isAbstractOn 4 [some (.ref a0), some (.int 0), some (.int (x2 + 1))] [] M N cr sr Z) ∧ (¬ ((Prod.fst M a0 (Int32.toNatClampNeg (81 + (7 * x2)))) ≤ 2) → jv_J g d mt_M_isAbstractOn 4 [some (.ref a0), some (.int 1), some (.int (x2 + 1))] [] M N cr sr Z)))) : jv_J g d mt_M_isAbstractOn 4 [some (.ref a0), some (.int x1), some (.int x2)] [] M N cr sr Z := by
  refine jv_iload_n d_M_isAbstractOn_4 rfl rfl ?_
  refine jv_aload_n d_M_isAbstractOn_5 rfl rfl ?_
  refine jv_bipush (v := 80) d_M_isAbstractOn_6 (by decide) ?_
  obtain ⟨q1, q2, h⟩ := h
  refine jv_iald d_M_isAbstractOn_8 q1 q2 ?_
  refine jv_icmp_ge (tgt := 41) d_M_isAbstractOn_9 (by decide) ⟨fun c => ?_, fun c => ?_⟩
  · replace h := h.1 c
    refine jv_iload_n d_M_isAbstractOn_41 rfl rfl ?_
    exact jv_iret d_M_isAbstractOn_42 rfl (jv_nz h.1) h.2
  · replace h := h.2 c
    refine jv_iload_n d_M_isAbstractOn_12 rfl rfl ?_
    refine jv_if_ne (tgt := 29) d_M_isAbstractOn_13 (by decide) ⟨fun c => ?_, fun c => ?_⟩
    · replace h := h.1 c
      refine jv_iconst (v := 1) d_M_isAbstractOn_29 (by decide) ?_
      refine jv_goto (tgt := 34) d_M_isAbstractOn_30 (by decide) ?_
      refine jv_istore_n (L' := [some (.ref a0), some (.int 1), some (.int x2)]) d_M_isAbstractOn_34 rfl (Nat.le_of_ble_eq_true rfl) rfl ?_
      refine jv_iinc (v := (x2 + 1)) (L' := [some (.ref a0), some (.int 1), some (.int (x2 + 1))]) d_M_isAbstractOn_35 rfl rfl (Nat.le_of_ble_eq_true rfl) rfl ?_
      refine jv_goto (tgt := 4) d_M_isAbstractOn_38 (by decide) ?_
      exact h
    · replace h := h.2 c
      refine jv_aload_n d_M_isAbstractOn_16 rfl rfl ?_
      refine jv_bipush (v := 81) d_M_isAbstractOn_17 (by decide) ?_
      refine jv_bipush (v := 7) d_M_isAbstractOn_19 (by decide) ?_
      refine jv_iload_n d_M_isAbstractOn_21 rfl rfl ?_
      refine jv_imul d_M_isAbstractOn_22 ?_
      refine jv_iadd d_M_isAbstractOn_23 ?_
      obtain ⟨q3, q4, h⟩ := h
      refine jv_iald d_M_isAbstractOn_24 q3 q4 ?_
      refine jv_iconst (v := 2) d_M_isAbstractOn_25 (by decide) ?_
      refine jv_icmp_le (tgt := 33) d_M_isAbstractOn_26 (by decide) ⟨fun c => ?_, fun c => ?_⟩
      · replace h := h.1 c
        refine jv_iconst (v := 0) d_M_isAbstractOn_33 (by decide) ?_
        refine jv_istore_n (L' := [some (.ref a0), some (.int 0), some (.int x2)]) d_M_isAbstractOn_34 rfl (Nat.le_of_ble_eq_true rfl) rfl ?_
        refine jv_iinc (v := (x2 + 1)) (L' := [some (.ref a0), some (.int 0), some (.int (x2 + 1))]) d_M_isAbstractOn_35 rfl rfl (Nat.le_of_ble_eq_true rfl) rfl ?_
        refine jv_goto (tgt := 4) d_M_isAbstractOn_38 (by decide) ?_
        exact h
      · replace h := h.2 c
        refine jv_iconst (v := 1) d_M_isAbstractOn_29 (by decide) ?_
        refine jv_goto (tgt := 34) d_M_isAbstractOn_30 (by decide) ?_
        refine jv_istore_n (L' := [some (.ref a0), some (.int 1), some (.int x2)]) d_M_isAbstractOn_34 rfl (Nat.le_of_ble_eq_true rfl) rfl ?_
        refine jv_iinc (v := (x2 + 1)) (L' := [some (.ref a0), some (.int 1), some (.int (x2 + 1))]) d_M_isAbstractOn_35 rfl rfl (Nat.le_of_ble_eq_true rfl) rfl ?_
        refine jv_goto (tgt := 4) d_M_isAbstractOn_38 (by decide) ?_
        exact h
theorem b_M_set_0 {g : jv_G} {d : Nat} {M : jv_Mem} {N cr sr : Nat} {Z : Option Value → jv_Mem → Nat → Prop} {a0 : Nat} {x1 : Int32} {x2 : Int32} {x3 : Int32} {x4 : Int32} {x5 : Int32} {x6 : Int32} (h : jv_Tg 10 a0 N ∧ jv_Tg 10 a0 N ∧ jv_Ct g d mt_M_in [.long (Int32.toInt64 x1), .long 0, .long (Int32.toInt64 ((Prod.fst (jv_si M a0 0 0) a0 9) - 1))] (jv_si M a0 0 0) N 0 0 (fun v M4 N4 => jv_ri v (fun r3 => (r3 ≠ 0 → jv_Ct g d mt_M_in [.long (Int32.toInt64 x2), .long 0, .long 1] M4 N4 0 0 (fun v M6 N6 => jv_ri v (fun r5 => (r5 = 0 → jv_J g (d + 1) mt_M_set 89 [none, none, none, none, none, none, none, none, none] [] M6 N6 cr sr Z) ∧ (¬ (r5 = 0) → (x2 ≠ 0 → jv_J g (d + 1) mt_M_set 49 [some (.ref a0), some (.int x1), some (.int x2), some (.int x3), some (.int x4), some (.int x5), some (.int x6), none, none] [.long 3, .long 0, .long (Int32.toInt64 x3)] M6 N6 cr sr Z) ∧ (x2 = 0 → jv_J g (d + 1) mt_M_set 49 [some (.ref a0), some (.int x1), some (.int x2), some (.int x3), some (.int x4), some (.int x5), some (.int x6), none, none] [.long 15, .long 0, .long (Int32.toInt64 x3)] M6 N6 cr sr Z))))) ∧ (r3 = 0 → Z (some (.int (-1))) M4 N4)))) : jv_J g (d + 1) mt_M_set 0 [some (.ref a0), some (.int x1), some (.int x2), some (.int x3), some (.int x4), some (.int x5), some (.int x6), none, none] [] M N cr sr Z := by
  refine jv_aload_n d_M_set_0 rfl rfl ?_
  refine jv_iconst (v := 0) d_M_set_1 (by decide) ?_
  obtain ⟨q1, h⟩ := h
  refine jv_putI d_M_set_2 fl_M_75 (fun r hr => by cases hr; rfl) rfl q1 ?_
  refine jv_iload_n d_M_set_5 rfl rfl ?_
  refine jv_i2l d_M_set_6 ?_
  refine jv_lconst (v := 0) d_M_set_7 (by decide) ?_
  refine jv_aload_n d_M_set_8 rfl rfl ?_
  obtain ⟨q2, h⟩ := h
  refine jv_getI d_M_set_9 fl_M_138 rfl q2 ?_
  refine jv_iconst (v := 1) d_M_set_12 (by decide) ?_
  refine jv_isub d_M_set_13 ?_
  refine jv_i2l d_M_set_14 ?_
  refine jv_invS [.long (Int32.toInt64 x1), .long 0, .long (Int32.toInt64 ((Prod.fst (jv_si M a0 0 0) a0 9) - 1))] [] d_M_set_15 ml_M_81 rfl (Nat.le_of_ble_eq_true rfl) (Nat.zero_add _) (Nat.zero_add _) (jv_Ct.mono h (fun v M4 N4 h => ?_))
  obtain ⟨r3, rfl, h⟩ := h
  change jv_J g (d + 1) mt_M_set 18 [some (.ref a0), some (.int x1), some (.int x2), some (.int x3), some (.int x4), some (.int x5), some (.int x6), none, none] [.int r3] M4 N4 cr sr Z
  refine jv_if_ne (tgt := 23) d_M_set_18 (by decide) ⟨fun c => ?_, fun c => ?_⟩
  · replace h := h.1 c
    refine jv_iload_n d_M_set_23 rfl rfl ?_
    refine jv_i2l d_M_set_24 ?_
    refine jv_lconst (v := 0) d_M_set_25 (by decide) ?_
    refine jv_lconst (v := 1) d_M_set_26 (by decide) ?_
    refine jv_invS [.long (Int32.toInt64 x2), .long 0, .long 1] [] d_M_set_27 ml_M_81 rfl (Nat.le_of_ble_eq_true rfl) (Nat.zero_add _) (Nat.zero_add _) (jv_Ct.mono h (fun v M6 N6 h => ?_))
    obtain ⟨r5, rfl, h⟩ := h
    change jv_J g (d + 1) mt_M_set 30 [some (.ref a0), some (.int x1), some (.int x2), some (.int x3), some (.int x4), some (.int x5), some (.int x6), none, none] [.int r5] M6 N6 cr sr Z
    refine jv_if_eq (tgt := 89) d_M_set_30 (by decide) ⟨fun c => ?_, fun c => ?_⟩
    · replace h := h.1 c
      refine jv_weak (L' := [none, none, none, none, none, none, none, none, none]) (by simp [jv_le]) ?_
      exact h
    · replace h := h.2 c
      refine jv_iload_n d_M_set_33 rfl rfl ?_
      refine jv_i2l d_M_set_34 ?_
      refine jv_lconst (v := 0) d_M_set_35 (by decide) ?_
      refine jv_iload_n d_M_set_36 rfl rfl ?_
      refine jv_if_ne (tgt := 46) d_M_set_37 (by decide) ⟨fun c => ?_, fun c => ?_⟩
      · replace h := h.1 c
        refine jv_ldc2 d_M_set_46 co_M_219 ?_
        exact h
      · replace h := h.2 c
        refine jv_ldc2 d_M_set_40 co_M_244 ?_
        refine jv_goto (tgt := 49) d_M_set_43 (by decide) ?_
        exact h
  · replace h := h.2 c
    refine jv_iconst (v := (-1)) d_M_set_21 (by decide) ?_
    exact jv_iret d_M_set_22 rfl rfl h
theorem b_M_set_49 {g : jv_G} {d : Nat} {M : jv_Mem} {N cr sr : Nat} {Z : Option Value → jv_Mem → Nat → Prop} {a0 : Nat} {x1 : Int32} {x2 : Int32} {x3 : Int32} {x4 : Int32} {x5 : Int32} {x6 : Int32} {ly0 : Int64} {ly1 : Int64} {ly2 : Int64} (h : jv_Ct g d mt_M_in [.long ly0, .long ly1, .long ly2] M N 0 0 (fun v M2 N2 => jv_ri v (fun r1 => (r1 = 0 → jv_J g (d + 1) mt_M_set 89 [none, none, none, none, none, none, none, none, none] [] M2 N2 cr sr Z) ∧ (¬ (r1 = 0) → (x2 ≠ 0 → jv_J g (d + 1) mt_M_set 70 [some (.ref a0), some (.int x1), some (.int x2), some (.int x3), some (.int x4), some (.int x5), some (.int x6), none, none] [.long 999, .long 0, .long (Int32.toInt64 x4)] M2 N2 cr sr Z) ∧ (x2 = 0 → jv_J g (d + 1) mt_M_set 70 [some (.ref a0), some (.int x1), some (.int x2), some (.int x3), some (.int x4), some (.int x5), some (.int x6), none, none] [.long 0, .long 0, .long (Int32.toInt64 x4)] M2 N2 cr sr Z))))) : jv_J g (d + 1) mt_M_set 49 [some (.ref a0), some (.int x1), some (.int x2), some (.int x3), some (.int x4), some (.int x5), some (.int x6), none, none] [.long ly2, .long ly1, .long ly0] M N cr sr Z := by
  refine jv_invS [.long ly0, .long ly1, .long ly2] [] d_M_set_49 ml_M_81 rfl (Nat.le_of_ble_eq_true rfl) (Nat.zero_add _) (Nat.zero_add _) (jv_Ct.mono h (fun v M2 N2 h => ?_))
  obtain ⟨r1, rfl, h⟩ := h
  change jv_J g (d + 1) mt_M_set 52 [some (.ref a0), some (.int x1), some (.int x2), some (.int x3), some (.int x4), some (.int x5), some (.int x6), none, none] [.int r1] M2 N2 cr sr Z
  refine jv_if_eq (tgt := 89) d_M_set_52 (by decide) ⟨fun c => ?_, fun c => ?_⟩
  · replace h := h.1 c
    refine jv_weak (L' := [none, none, none, none, none, none, none, none, none]) (by simp [jv_le]) ?_
    exact h
  · replace h := h.2 c
    refine jv_iload d_M_set_55 rfl ?_
    refine jv_i2l d_M_set_57 ?_
    refine jv_lconst (v := 0) d_M_set_58 (by decide) ?_
    refine jv_iload_n d_M_set_59 rfl rfl ?_
    refine jv_if_ne (tgt := 67) d_M_set_60 (by decide) ⟨fun c => ?_, fun c => ?_⟩
    · replace h := h.1 c
      refine jv_ldc2 d_M_set_67 co_M_238 ?_
      exact h
    · replace h := h.2 c
      refine jv_lconst (v := 0) d_M_set_63 (by decide) ?_
      refine jv_goto (tgt := 70) d_M_set_64 (by decide) ?_
      exact h
theorem b_M_set_70 {g : jv_G} {d : Nat} {M : jv_Mem} {N cr sr : Nat} {Z : Option Value → jv_Mem → Nat → Prop} {a0 : Nat} {x1 : Int32} {x2 : Int32} {x3 : Int32} {x4 : Int32} {x5 : Int32} {x6 : Int32} {ly0 : Int64} {ly1 : Int64} {ly2 : Int64} (h : jv_Ct g d mt_M_in [.long ly0, .long ly1, .long ly2] M N 0 0 (fun v M2 N2 => jv_ri v (fun r1 => (r1 = 0 → jv_J g (d + 1) mt_M_set 89 [none, none, none, none, none, none, none, none, none] [] M2 N2 cr sr Z) ∧ (¬ (r1 = 0) → jv_Ct g d mt_M_in [.long (Int32.toInt64 x5), .long 1, .long 9] M2 N2 0 0 (fun v M4 N4 => jv_ri v (fun r3 => (r3 ≠ 0 → jv_Tg 10 a0 N4 ∧ jv_Ct g d mt_M_note [.ref a0] M4 N4 0 0 (fun v M7 N7 => jv_rv v (jv_Tg 10 a0 N7 ∧ ∃ b9, Prod.fst (Prod.snd M7) a0 19 = some b9 ∧ jv_Tg 11 b9 N7 ∧ vp_in (40 + (6 * x1)) (jv_sh b9).2 ∧ jv_Tg 10 a0 N7 ∧ ∃ b14, Prod.fst (Prod.snd M7) a0 19 = some b14 ∧ jv_Tg 11 b14 N7 ∧ vp_in (40 + (6 * x1)) (jv_sh b14).2 ∧ jv_Tg 10 a0 N7 ∧ ∃ b19, Prod.fst (Prod.snd (jv_si M7 b14 (Int32.toNatClampNeg (40 + (6 * x1))) x2)) a0 19 = some b19 ∧ jv_Tg 11 b19 N7 ∧ vp_in ((40 + (6 * x1)) + 1) (jv_sh b19).2 ∧ jv_Tg 10 a0 N7 ∧ ∃ b24, Prod.fst (Prod.snd (jv_si (jv_si M7 b14 (Int32.toNatClampNeg (40 + (6 * x1))) x2) b19 (Int32.toNatClampNeg ((40 + (6 * x1)) + 1)) x3)) a0 19 = some b24 ∧ jv_Tg 11 b24 N7 ∧ vp_in ((40 + (6 * x1)) + 2) (jv_sh b24).2 ∧ jv_Tg 10 a0 N7 ∧ ∃ b29, Prod.fst (Prod.snd (jv_si (jv_si (jv_si M7 b14 (Int32.toNatClampNeg (40 + (6 * x1))) x2) b19 (Int32.toNatClampNeg ((40 + (6 * x1)) + 1)) x3) b24 (Int32.toNatClampNeg ((40 + (6 * x1)) + 2)) x4)) a0 19 = some b29 ∧ jv_Tg 11 b29 N7 ∧ vp_in ((40 + (6 * x1)) + 3) (jv_sh b29).2 ∧ jv_Tg 10 a0 N7 ∧ ∃ b34, Prod.fst (Prod.snd (jv_si (jv_si (jv_si (jv_si M7 b14 (Int32.toNatClampNeg (40 + (6 * x1))) x2) b19 (Int32.toNatClampNeg ((40 + (6 * x1)) + 1)) x3) b24 (Int32.toNatClampNeg ((40 + (6 * x1)) + 2)) x4) b29 (Int32.toNatClampNeg ((40 + (6 * x1)) + 3)) x5)) a0 19 = some b34 ∧ jv_Tg 11 b34 N7 ∧ vp_in ((40 + (6 * x1)) + 4) (jv_sh b34).2 ∧ jv_Tg 10 a0 N7 ∧ ∃ b39, Prod.fst (Prod.snd (jv_si (jv_si (jv_si (jv_si (jv_si M7 b14 (Int32.toNatClampNeg (40 + (6 * x1))) x2) b19 (Int32.toNatClampNeg ((40 + (6 * x1)) + 1)) x3) b24 (Int32.toNatClampNeg ((40 + (6 * x1)) + 2)) x4) b29 (Int32.toNatClampNeg ((40 + (6 * x1)) + 3)) x5) b34 (Int32.toNatClampNeg ((40 + (6 * x1)) + 4)) x5)) a0 19 = some b39 ∧ (x6 = 0 → jv_Tg 11 b39 N7 ∧ vp_in ((40 + (6 * x1)) + 5) (jv_sh b39).2 ∧ Z (some (.int (Prod.fst M7 b9 (Int32.toNatClampNeg (40 + (6 * x1)))))) (jv_si (jv_si (jv_si (jv_si (jv_si (jv_si M7 b14 (Int32.toNatClampNeg (40 + (6 * x1))) x2) b19 (Int32.toNatClampNeg ((40 + (6 * x1)) + 1)) x3) b24 (Int32.toNatClampNeg ((40 + (6 * x1)) + 2)) x4) b29 (Int32.toNatClampNeg ((40 + (6 * x1)) + 3)) x5) b34 (Int32.toNatClampNeg ((40 + (6 * x1)) + 4)) x5) b39 (Int32.toNatClampNeg ((40 + (6 * x1)) + 5)) 0) N7) ∧ (¬ (x6 = 0) → jv_Tg 11 b39 N7 ∧ vp_in ((40 + (6 * x1)) + 5) (jv_sh b39).2 ∧ Z (some (.int (Prod.fst M7 b9 (Int32.toNatClampNeg (40 + (6 * x1)))))) (jv_si (jv_si (jv_si (jv_si (jv_si (jv_si M7 b14 (Int32.toNatClampNeg (40 + (6 * x1))) x2) b19 (Int32.toNatClampNeg ((40 + (6 * x1)) + 1)) x3) b24 (Int32.toNatClampNeg ((40 + (6 * x1)) + 2)) x4) b29 (Int32.toNatClampNeg ((40 + (6 * x1)) + 3)) x5) b34 (Int32.toNatClampNeg ((40 + (6 * x1)) + 4)) x5) b39 (Int32.toNatClampNeg ((40 + (6 * x1)) + 5)) 1) N7)))) ∧ (r3 = 0 → jv_J g (d + 1) mt_M_set 89 [none, none, none, none, none, none, none, none, none] [] M4 N4 cr sr Z))))))) : jv_J g (d + 1) mt_M_set 70 [some (.ref a0), some (.int x1), some (.int x2), some (.int x3), some (.int x4), some (.int x5), some (.int x6), none, none] [.long ly2, .long ly1, .long ly0] M N cr sr Z := by
  refine jv_invS [.long ly0, .long ly1, .long ly2] [] d_M_set_70 ml_M_81 rfl (Nat.le_of_ble_eq_true rfl) (Nat.zero_add _) (Nat.zero_add _) (jv_Ct.mono h (fun v M2 N2 h => ?_))
  obtain ⟨r1, rfl, h⟩ := h
  change jv_J g (d + 1) mt_M_set 73 [some (.ref a0), some (.int x1), some (.int x2), some (.int x3), some (.int x4), some (.int x5), some (.int x6), none, none] [.int r1] M2 N2 cr sr Z
  refine jv_if_eq (tgt := 89) d_M_set_73 (by decide) ⟨fun c => ?_, fun c => ?_⟩
  · replace h := h.1 c
    refine jv_weak (L' := [none, none, none, none, none, none, none, none, none]) (by simp [jv_le]) ?_
    exact h
  · replace h := h.2 c
    refine jv_iload d_M_set_76 rfl ?_
    refine jv_i2l d_M_set_78 ?_
    refine jv_lconst (v := 1) d_M_set_79 (by decide) ?_
    refine jv_ldc2 d_M_set_80 co_M_210 ?_
    refine jv_invS [.long (Int32.toInt64 x5), .long 1, .long 9] [] d_M_set_83 ml_M_81 rfl (Nat.le_of_ble_eq_true rfl) (Nat.zero_add _) (Nat.zero_add _) (jv_Ct.mono h (fun v M4 N4 h => ?_))
    obtain ⟨r3, rfl, h⟩ := h
    change jv_J g (d + 1) mt_M_set 86 [some (.ref a0), some (.int x1), some (.int x2), some (.int x3), some (.int x4), some (.int x5), some (.int x6), none, none] [.int r3] M4 N4 cr sr Z
    refine jv_if_ne (tgt := 92) d_M_set_86 (by decide) ⟨fun c => ?_, fun c => ?_⟩
    · replace h := h.1 c
      refine jv_aload_n d_M_set_92 rfl rfl ?_
      obtain ⟨q5, h⟩ := h
      refine jv_invV [] [] d_M_set_93 ml_M_223 q5 rfl (Nat.le_of_ble_eq_true rfl) (Nat.zero_add _) (Nat.zero_add _) (jv_Ct.mono h (fun v M7 N7 h => ?_))
      obtain ⟨rfl, h⟩ := h
      change jv_J g (d + 1) mt_M_set 96 [some (.ref a0), some (.int x1), some (.int x2), some (.int x3), some (.int x4), some (.int x5), some (.int x6), none, none] [] M7 N7 cr sr Z
      refine jv_bipush (v := 40) d_M_set_96 (by decide) ?_
      refine jv_bipush (v := 6) d_M_set_98 (by decide) ?_
      refine jv_iload_n d_M_set_100 rfl rfl ?_
      refine jv_imul d_M_set_101 ?_
      refine jv_iadd d_M_set_102 ?_
      refine jv_istore (L' := [some (.ref a0), some (.int x1), some (.int x2), some (.int x3), some (.int x4), some (.int x5), some (.int x6), some (.int (40 + (6 * x1))), none]) d_M_set_103 (Nat.le_of_ble_eq_true rfl) rfl ?_
      refine jv_aload_n d_M_set_105 rfl rfl ?_
      obtain ⟨q8, h⟩ := h
      obtain ⟨b9, e10, h⟩ := h
      refine jv_getR d_M_set_106 fl_M_40 rfl q8 e10 ?_
      refine jv_iload d_M_set_109 rfl ?_
      obtain ⟨q11, q12, h⟩ := h
      refine jv_iald d_M_set_111 q11 q12 ?_
      refine jv_istore (L' := [some (.ref a0), some (.int x1), some (.int x2), some (.int x3), some (.int x4), some (.int x5), some (.int x6), some (.int (40 + (6 * x1))), some (.int (Prod.fst M7 b9 (Int32.toNatClampNeg (40 + (6 * x1)))))]) d_M_set_112 (Nat.le_of_ble_eq_true rfl) rfl ?_
      refine jv_aload_n d_M_set_114 rfl rfl ?_
      obtain ⟨q13, h⟩ := h
      obtain ⟨b14, e15, h⟩ := h
      refine jv_getR d_M_set_115 fl_M_40 rfl q13 e15 ?_
      refine jv_iload d_M_set_118 rfl ?_
      refine jv_iload_n d_M_set_120 rfl rfl ?_
      obtain ⟨q16, q17, h⟩ := h
      refine jv_iast d_M_set_121 q16 q17 ?_
      refine jv_aload_n d_M_set_122 rfl rfl ?_
      obtain ⟨q18, h⟩ := h
      obtain ⟨b19, e20, h⟩ := h
      refine jv_getR d_M_set_123 fl_M_40 rfl q18 e20 ?_
      refine jv_iload d_M_set_126 rfl ?_
      refine jv_iconst (v := 1) d_M_set_128 (by decide) ?_
      refine jv_iadd d_M_set_129 ?_
      refine jv_iload_n d_M_set_130 rfl rfl ?_
      obtain ⟨q21, q22, h⟩ := h
      refine jv_iast d_M_set_131 q21 q22 ?_
      refine jv_aload_n d_M_set_132 rfl rfl ?_
      obtain ⟨q23, h⟩ := h
      obtain ⟨b24, e25, h⟩ := h
      refine jv_getR d_M_set_133 fl_M_40 rfl q23 e25 ?_
      refine jv_iload d_M_set_136 rfl ?_
      refine jv_iconst (v := 2) d_M_set_138 (by decide) ?_
      refine jv_iadd d_M_set_139 ?_
      refine jv_iload d_M_set_140 rfl ?_
      obtain ⟨q26, q27, h⟩ := h
      refine jv_iast d_M_set_142 q26 q27 ?_
      refine jv_aload_n d_M_set_143 rfl rfl ?_
      obtain ⟨q28, h⟩ := h
      obtain ⟨b29, e30, h⟩ := h
      refine jv_getR d_M_set_144 fl_M_40 rfl q28 e30 ?_
      refine jv_iload d_M_set_147 rfl ?_
      refine jv_iconst (v := 3) d_M_set_149 (by decide) ?_
      refine jv_iadd d_M_set_150 ?_
      refine jv_iload d_M_set_151 rfl ?_
      obtain ⟨q31, q32, h⟩ := h
      refine jv_iast d_M_set_153 q31 q32 ?_
      refine jv_aload_n d_M_set_154 rfl rfl ?_
      obtain ⟨q33, h⟩ := h
      obtain ⟨b34, e35, h⟩ := h
      refine jv_getR d_M_set_155 fl_M_40 rfl q33 e35 ?_
      refine jv_iload d_M_set_158 rfl ?_
      refine jv_iconst (v := 4) d_M_set_160 (by decide) ?_
      refine jv_iadd d_M_set_161 ?_
      refine jv_iload d_M_set_162 rfl ?_
      obtain ⟨q36, q37, h⟩ := h
      refine jv_iast d_M_set_164 q36 q37 ?_
      refine jv_aload_n d_M_set_165 rfl rfl ?_
      obtain ⟨q38, h⟩ := h
      obtain ⟨b39, e40, h⟩ := h
      refine jv_getR d_M_set_166 fl_M_40 rfl q38 e40 ?_
      refine jv_iload d_M_set_169 rfl ?_
      refine jv_iconst (v := 5) d_M_set_171 (by decide) ?_
      refine jv_iadd d_M_set_172 ?_
      refine jv_iload d_M_set_173 rfl ?_
      refine jv_if_eq (tgt := 182) d_M_set_175 (by decide) ⟨fun c => ?_, fun c => ?_⟩
      · replace h := h.1 c
        refine jv_iconst (v := 0) d_M_set_182 (by decide) ?_
        obtain ⟨q41, q42, h⟩ := h
        refine jv_iast d_M_set_183 q41 q42 ?_
        refine jv_iload d_M_set_184 rfl ?_
        exact jv_iret d_M_set_186 rfl rfl h
      · replace h := h.2 c
        refine jv_iconst (v := 1) d_M_set_178 (by decide) ?_
        refine jv_goto (tgt := 183) d_M_set_179 (by decide) ?_
        obtain ⟨q43, q44, h⟩ := h
        refine jv_iast d_M_set_183 q43 q44 ?_
        refine jv_iload d_M_set_184 rfl ?_
        exact jv_iret d_M_set_186 rfl rfl h
    · replace h := h.2 c
      refine jv_weak (L' := [none, none, none, none, none, none, none, none, none]) (by simp [jv_le]) ?_
      exact h
theorem b_M_set_89 {g : jv_G} {d : Nat} {M : jv_Mem} {N cr sr : Nat} {Z : Option Value → jv_Mem → Nat → Prop}  (h : Z (some (.int (-2))) M N) : jv_J g (d + 1) mt_M_set 89 [none, none, none, none, none, none, none, none, none] [] M N cr sr Z := by
  refine jv_bipush (v := (-2)) d_M_set_89 (by decide) ?_
  exact jv_iret d_M_set_91 rfl rfl h
theorem b_M_buffer_0 {g : jv_G} {d : Nat} {M : jv_Mem} {N cr sr : Nat} {Z : Option Value → jv_Mem → Nat → Prop} {a0 : Nat} {x1 : Int32} {x2 : Int32} (h : jv_Tg 10 a0 N ∧ jv_Ct g d mt_M_in [.long (Int32.toInt64 x1), .long 0, .long 1] (jv_si M a0 0 0) N 0 0 (fun v M3 N3 => jv_ri v (fun r2 => (r2 = 0 → Z (some (.int (-2))) M3 N3) ∧ (¬ (r2 = 0) → jv_Ct g d mt_M_isTold [.int x2] M3 N3 0 0 (fun v M5 N5 => jv_ri v (fun r4 => (r4 ≠ 0 → jv_Tg 10 a0 N5 ∧ jv_Ct g d mt_M_note [.ref a0] M5 N5 0 0 (fun v M8 N8 => jv_rv v (jv_Tg 10 a0 N8 ∧ ∃ b10, Prod.fst (Prod.snd M8) a0 19 = some b10 ∧ jv_Tg 11 b10 N8 ∧ vp_in (78 + x1) (jv_sh b10).2 ∧ jv_Tg 10 a0 N8 ∧ ∃ b15, Prod.fst (Prod.snd M8) a0 19 = some b15 ∧ jv_Tg 11 b15 N8 ∧ vp_in (78 + x1) (jv_sh b15).2 ∧ Z (some (.int (Prod.fst M8 b10 (Int32.toNatClampNeg (78 + x1))))) (jv_si M8 b15 (Int32.toNatClampNeg (78 + x1)) x2) N8))) ∧ (r4 = 0 → Z (some (.int (-2))) M5 N5))))))) : jv_J g (d + 1) mt_M_buffer 0 [some (.ref a0), some (.int x1), some (.int x2), none] [] M N cr sr Z := by
  refine jv_aload_n d_M_buffer_0 rfl rfl ?_
  refine jv_iconst (v := 0) d_M_buffer_1 (by decide) ?_
  obtain ⟨q1, h⟩ := h
  refine jv_putI d_M_buffer_2 fl_M_75 (fun r hr => by cases hr; rfl) rfl q1 ?_
  refine jv_iload_n d_M_buffer_5 rfl rfl ?_
  refine jv_i2l d_M_buffer_6 ?_
  refine jv_lconst (v := 0) d_M_buffer_7 (by decide) ?_
  refine jv_lconst (v := 1) d_M_buffer_8 (by decide) ?_
  refine jv_invS [.long (Int32.toInt64 x1), .long 0, .long 1] [] d_M_buffer_9 ml_M_81 rfl (Nat.le_of_ble_eq_true rfl) (Nat.zero_add _) (Nat.zero_add _) (jv_Ct.mono h (fun v M3 N3 h => ?_))
  obtain ⟨r2, rfl, h⟩ := h
  change jv_J g (d + 1) mt_M_buffer 12 [some (.ref a0), some (.int x1), some (.int x2), none] [.int r2] M3 N3 cr sr Z
  refine jv_if_eq (tgt := 22) d_M_buffer_12 (by decide) ⟨fun c => ?_, fun c => ?_⟩
  · replace h := h.1 c
    refine jv_bipush (v := (-2)) d_M_buffer_22 (by decide) ?_
    exact jv_iret d_M_buffer_24 rfl rfl h
  · replace h := h.2 c
    refine jv_iload_n d_M_buffer_15 rfl rfl ?_
    refine jv_invS [.int x2] [] d_M_buffer_16 ml_M_248 rfl (Nat.le_of_ble_eq_true rfl) (Nat.zero_add _) (Nat.zero_add _) (jv_Ct.mono h (fun v M5 N5 h => ?_))
    obtain ⟨r4, rfl, h⟩ := h
    change jv_J g (d + 1) mt_M_buffer 19 [some (.ref a0), some (.int x1), some (.int x2), none] [.int r4] M5 N5 cr sr Z
    refine jv_if_ne (tgt := 25) d_M_buffer_19 (by decide) ⟨fun c => ?_, fun c => ?_⟩
    · replace h := h.1 c
      refine jv_aload_n d_M_buffer_25 rfl rfl ?_
      obtain ⟨q6, h⟩ := h
      refine jv_invV [] [] d_M_buffer_26 ml_M_223 q6 rfl (Nat.le_of_ble_eq_true rfl) (Nat.zero_add _) (Nat.zero_add _) (jv_Ct.mono h (fun v M8 N8 h => ?_))
      obtain ⟨rfl, h⟩ := h
      change jv_J g (d + 1) mt_M_buffer 29 [some (.ref a0), some (.int x1), some (.int x2), none] [] M8 N8 cr sr Z
      refine jv_aload_n d_M_buffer_29 rfl rfl ?_
      obtain ⟨q9, h⟩ := h
      obtain ⟨b10, e11, h⟩ := h
      refine jv_getR d_M_buffer_30 fl_M_40 rfl q9 e11 ?_
      refine jv_bipush (v := 78) d_M_buffer_33 (by decide) ?_
      refine jv_iload_n d_M_buffer_35 rfl rfl ?_
      refine jv_iadd d_M_buffer_36 ?_
      obtain ⟨q12, q13, h⟩ := h
      refine jv_iald d_M_buffer_37 q12 q13 ?_
      refine jv_istore_n (L' := [some (.ref a0), some (.int x1), some (.int x2), some (.int (Prod.fst M8 b10 (Int32.toNatClampNeg (78 + x1))))]) d_M_buffer_38 rfl (Nat.le_of_ble_eq_true rfl) rfl ?_
      refine jv_aload_n d_M_buffer_39 rfl rfl ?_
      obtain ⟨q14, h⟩ := h
      obtain ⟨b15, e16, h⟩ := h
      refine jv_getR d_M_buffer_40 fl_M_40 rfl q14 e16 ?_
      refine jv_bipush (v := 78) d_M_buffer_43 (by decide) ?_
      refine jv_iload_n d_M_buffer_45 rfl rfl ?_
      refine jv_iadd d_M_buffer_46 ?_
      refine jv_iload_n d_M_buffer_47 rfl rfl ?_
      obtain ⟨q17, q18, h⟩ := h
      refine jv_iast d_M_buffer_48 q17 q18 ?_
      refine jv_iload_n d_M_buffer_49 rfl rfl ?_
      exact jv_iret d_M_buffer_50 rfl rfl h
    · replace h := h.2 c
      refine jv_bipush (v := (-2)) d_M_buffer_22 (by decide) ?_
      exact jv_iret d_M_buffer_24 rfl rfl h
theorem b_M_isTold_0 {g : jv_G} {d : Nat} {M : jv_Mem} {N cr sr : Nat} {Z : Option Value → jv_Mem → Nat → Prop} {x0 : Int32} (h : ((x0 / 100) = 1 → jv_J g (d + 1) mt_M_isTold 46 [some (.int x0), some (.int (x0 / 100)), none] [.int 9] M N cr sr Z) ∧ (¬ ((x0 / 100) = 1) → ((x0 / 100) ≠ 6 → ((x0 / 100) ≠ 3 → ((x0 / 100) = 4 → jv_J g (d + 1) mt_M_isTold 46 [some (.int x0), some (.int (x0 / 100)), none] [.int 7] M N cr sr Z) ∧ (¬ ((x0 / 100) = 4) → ((x0 / 100) ≠ 5 → jv_J g (d + 1) mt_M_isTold 46 [some (.int x0), some (.int (x0 / 100)), none] [.int 0] M N cr sr Z) ∧ ((x0 / 100) = 5 → jv_J g (d + 1) mt_M_isTold 46 [some (.int x0), some (.int (x0 / 100)), none] [.int 7] M N cr sr Z))) ∧ ((x0 / 100) = 3 → jv_J g (d + 1) mt_M_isTold 46 [some (.int x0), some (.int (x0 / 100)), none] [.int 3] M N cr sr Z)) ∧ ((x0 / 100) = 6 → jv_J g (d + 1) mt_M_isTold 46 [some (.int x0), some (.int (x0 / 100)), none] [.int 9] M N cr sr Z))) : jv_J g (d + 1) mt_M_isTold 0 [some (.int x0), none, none] [] M N cr sr Z := by
  refine jv_iload_n d_M_isTold_0 rfl rfl ?_
  refine jv_bipush (v := 100) d_M_isTold_1 (by decide) ?_
  refine jv_idiv d_M_isTold_3 (by decide) ?_
  refine jv_istore_n (L' := [some (.int x0), some (.int (x0 / 100)), none]) d_M_isTold_4 rfl (Nat.le_of_ble_eq_true rfl) rfl ?_
  refine jv_iload_n d_M_isTold_5 rfl rfl ?_
  refine jv_iconst (v := 1) d_M_isTold_6 (by decide) ?_
  refine jv_icmp_eq (tgt := 16) d_M_isTold_7 (by decide) ⟨fun c => ?_, fun c => ?_⟩
  · replace h := h.1 c
    refine jv_bipush (v := 9) d_M_isTold_16 (by decide) ?_
    refine jv_goto (tgt := 46) d_M_isTold_18 (by decide) ?_
    exact h
  · replace h := h.2 c
    refine jv_iload_n d_M_isTold_10 rfl rfl ?_
    refine jv_bipush (v := 6) d_M_isTold_11 (by decide) ?_
    refine jv_icmp_ne (tgt := 21) d_M_isTold_13 (by decide) ⟨fun c => ?_, fun c => ?_⟩
    · replace h := h.1 c
      refine jv_iload_n d_M_isTold_21 rfl rfl ?_
      refine jv_iconst (v := 3) d_M_isTold_22 (by decide) ?_
      refine jv_icmp_ne (tgt := 30) d_M_isTold_23 (by decide) ⟨fun c => ?_, fun c => ?_⟩
      · replace h := h.1 c
        refine jv_iload_n d_M_isTold_30 rfl rfl ?_
        refine jv_iconst (v := 4) d_M_isTold_31 (by decide) ?_
        refine jv_icmp_eq (tgt := 40) d_M_isTold_32 (by decide) ⟨fun c => ?_, fun c => ?_⟩
        · replace h := h.1 c
          refine jv_bipush (v := 7) d_M_isTold_40 (by decide) ?_
          refine jv_goto (tgt := 46) d_M_isTold_42 (by decide) ?_
          exact h
        · replace h := h.2 c
          refine jv_iload_n d_M_isTold_35 rfl rfl ?_
          refine jv_iconst (v := 5) d_M_isTold_36 (by decide) ?_
          refine jv_icmp_ne (tgt := 45) d_M_isTold_37 (by decide) ⟨fun c => ?_, fun c => ?_⟩
          · replace h := h.1 c
            refine jv_iconst (v := 0) d_M_isTold_45 (by decide) ?_
            exact h
          · replace h := h.2 c
            refine jv_bipush (v := 7) d_M_isTold_40 (by decide) ?_
            refine jv_goto (tgt := 46) d_M_isTold_42 (by decide) ?_
            exact h
      · replace h := h.2 c
        refine jv_iconst (v := 3) d_M_isTold_26 (by decide) ?_
        refine jv_goto (tgt := 46) d_M_isTold_27 (by decide) ?_
        exact h
    · replace h := h.2 c
      refine jv_bipush (v := 9) d_M_isTold_16 (by decide) ?_
      refine jv_goto (tgt := 46) d_M_isTold_18 (by decide) ?_
      exact h
theorem b_M_isTold_46 {g : jv_G} {d : Nat} {M : jv_Mem} {N cr sr : Nat} {Z : Option Value → jv_Mem → Nat → Prop} {x0 : Int32} {x1 : Int32} {y0 : Int32} (h : jv_Ct g d mt_M_in [.long (Int32.toInt64 x0), .long 0, .long 899] M N 0 0 (fun v M2 N2 => jv_ri v (fun r1 => (r1 = 0 → Z (some (.int 0)) M2 N2) ∧ (¬ (r1 = 0) → (x1 ≤ 0 → jv_J g (d + 1) mt_M_isTold 81 [some (.int x0), none, some (.int y0)] [.int 0, .int ((x0 / 10) - (x0 / 10) / 10 * 10)] M2 N2 cr sr Z) ∧ (¬ (x1 ≤ 0) → (7 ≤ x1 → jv_J g (d + 1) mt_M_isTold 81 [some (.int x0), none, some (.int y0)] [.int 0, .int ((x0 / 10) - (x0 / 10) / 10 * 10)] M2 N2 cr sr Z) ∧ (¬ (7 ≤ x1) → jv_J g (d + 1) mt_M_isTold 81 [some (.int x0), none, some (.int y0)] [.int 3, .int ((x0 / 10) - (x0 / 10) / 10 * 10)] M2 N2 cr sr Z)))))) : jv_J g (d + 1) mt_M_isTold 46 [some (.int x0), some (.int x1), none] [.int y0] M N cr sr Z := by
  refine jv_istore_n (L' := [some (.int x0), some (.int x1), some (.int y0)]) d_M_isTold_46 rfl (Nat.le_of_ble_eq_true rfl) rfl ?_
  refine jv_iload_n d_M_isTold_47 rfl rfl ?_
  refine jv_i2l d_M_isTold_48 ?_
  refine jv_lconst (v := 0) d_M_isTold_49 (by decide) ?_
  refine jv_ldc2 d_M_isTold_50 co_M_246 ?_
  refine jv_invS [.long (Int32.toInt64 x0), .long 0, .long 899] [] d_M_isTold_53 ml_M_81 rfl (Nat.le_of_ble_eq_true rfl) (Nat.zero_add _) (Nat.zero_add _) (jv_Ct.mono h (fun v M2 N2 h => ?_))
  obtain ⟨r1, rfl, h⟩ := h
  change jv_J g (d + 1) mt_M_isTold 56 [some (.int x0), some (.int x1), some (.int y0)] [.int r1] M2 N2 cr sr Z
  refine jv_if_eq (tgt := 96) d_M_isTold_56 (by decide) ⟨fun c => ?_, fun c => ?_⟩
  · replace h := h.1 c
    refine jv_iconst (v := 0) d_M_isTold_96 (by decide) ?_
    exact jv_iret d_M_isTold_97 rfl (jv_nz (by decide)) h
  · replace h := h.2 c
    refine jv_iload_n d_M_isTold_59 rfl rfl ?_
    refine jv_bipush (v := 10) d_M_isTold_60 (by decide) ?_
    refine jv_idiv d_M_isTold_62 (by decide) ?_
    refine jv_bipush (v := 10) d_M_isTold_63 (by decide) ?_
    refine jv_irem d_M_isTold_65 (by decide) ?_
    refine jv_iload_n d_M_isTold_66 rfl rfl ?_
    refine jv_if_le (tgt := 80) d_M_isTold_67 (by decide) ⟨fun c => ?_, fun c => ?_⟩
    · replace h := h.1 c
      refine jv_iconst (v := 0) d_M_isTold_80 (by decide) ?_
      refine jv_weak (L' := [some (.int x0), none, some (.int y0)]) (by simp [jv_le]) ?_
      exact h
    · replace h := h.2 c
      refine jv_iload_n d_M_isTold_70 rfl rfl ?_
      refine jv_bipush (v := 7) d_M_isTold_71 (by decide) ?_
      refine jv_icmp_ge (tgt := 80) d_M_isTold_73 (by decide) ⟨fun c => ?_, fun c => ?_⟩
      · replace h := h.1 c
        refine jv_iconst (v := 0) d_M_isTold_80 (by decide) ?_
        refine jv_weak (L' := [some (.int x0), none, some (.int y0)]) (by simp [jv_le]) ?_
        exact h
      · replace h := h.2 c
        refine jv_iconst (v := 3) d_M_isTold_76 (by decide) ?_
        refine jv_goto (tgt := 81) d_M_isTold_77 (by decide) ?_
        refine jv_weak (L' := [some (.int x0), none, some (.int y0)]) (by simp [jv_le]) ?_
        exact h
theorem b_M_isTold_81 {g : jv_G} {d : Nat} {M : jv_Mem} {N cr sr : Nat} {Z : Option Value → jv_Mem → Nat → Prop} {x0 : Int32} {x2 : Int32} {y0 : Int32} {y1 : Int32} (h : (y1 < y0 → Z (some (.int 0)) M N) ∧ (¬ (y1 < y0) → (x2 < (x0 - x0 / 10 * 10) → Z (some (.int 0)) M N) ∧ (¬ (x2 < (x0 - x0 / 10 * 10)) → Z (some (.int 1)) M N))) : jv_J g (d + 1) mt_M_isTold 81 [some (.int x0), none, some (.int x2)] [.int y1, .int y0] M N cr sr Z := by
  refine jv_icmp_gt (tgt := 96) d_M_isTold_81 (by decide) ⟨fun c => ?_, fun c => ?_⟩
  · replace h := h.1 c
    refine jv_iconst (v := 0) d_M_isTold_96 (by decide) ?_
    exact jv_iret d_M_isTold_97 rfl (jv_nz (by decide)) h
  · replace h := h.2 c
    refine jv_iload_n d_M_isTold_84 rfl rfl ?_
    refine jv_bipush (v := 10) d_M_isTold_85 (by decide) ?_
    refine jv_irem d_M_isTold_87 (by decide) ?_
    refine jv_iload_n d_M_isTold_88 rfl rfl ?_
    refine jv_icmp_gt (tgt := 96) d_M_isTold_89 (by decide) ⟨fun c => ?_, fun c => ?_⟩
    · replace h := h.1 c
      refine jv_iconst (v := 0) d_M_isTold_96 (by decide) ?_
      exact jv_iret d_M_isTold_97 rfl (jv_nz (by decide)) h
    · replace h := h.2 c
      refine jv_iconst (v := 1) d_M_isTold_92 (by decide) ?_
      refine jv_goto (tgt := 97) d_M_isTold_93 (by decide) ?_
      exact jv_iret d_M_isTold_97 rfl (jv_nz (by decide)) h
theorem b_M_clear_0 {g : jv_G} {d : Nat} {M : jv_Mem} {N cr sr : Nat} {Z : Option Value → jv_Mem → Nat → Prop} {a0 : Nat} (h : jv_Tg 10 a0 N ∧ jv_Tg 10 a0 N ∧ jv_Ct g d mt_M_note [.ref a0] (jv_si M a0 0 0) N 0 0 (fun v M4 N4 => jv_rv v (jv_Tg 10 a0 N4 ∧ ∃ b6, Prod.fst (Prod.snd M4) a0 19 = some b6 ∧ jv_Tg 11 b6 N4 ∧ vp_in 76 (jv_sh b6).2 ∧ jv_Tg 10 a0 N4 ∧ ∃ b11, Prod.fst (Prod.snd M4) a0 19 = some b11 ∧ jv_Tg 11 b11 N4 ∧ vp_in 76 (jv_sh b11).2 ∧ Z (some (.int (Prod.fst M4 b6 (Int32.toNatClampNeg 76)))) (jv_si M4 b11 (Int32.toNatClampNeg 76) 0) N4))) : jv_J g (d + 1) mt_M_clear 0 [some (.ref a0), none] [] M N cr sr Z := by
  refine jv_aload_n d_M_clear_0 rfl rfl ?_
  refine jv_iconst (v := 0) d_M_clear_1 (by decide) ?_
  obtain ⟨q1, h⟩ := h
  refine jv_putI d_M_clear_2 fl_M_75 (fun r hr => by cases hr; rfl) rfl q1 ?_
  refine jv_aload_n d_M_clear_5 rfl rfl ?_
  obtain ⟨q2, h⟩ := h
  refine jv_invV [] [] d_M_clear_6 ml_M_223 q2 rfl (Nat.le_of_ble_eq_true rfl) (Nat.zero_add _) (Nat.zero_add _) (jv_Ct.mono h (fun v M4 N4 h => ?_))
  obtain ⟨rfl, h⟩ := h
  change jv_J g (d + 1) mt_M_clear 9 [some (.ref a0), none] [] M4 N4 cr sr Z
  refine jv_aload_n d_M_clear_9 rfl rfl ?_
  obtain ⟨q5, h⟩ := h
  obtain ⟨b6, e7, h⟩ := h
  refine jv_getR d_M_clear_10 fl_M_40 rfl q5 e7 ?_
  refine jv_bipush (v := 76) d_M_clear_13 (by decide) ?_
  obtain ⟨q8, q9, h⟩ := h
  refine jv_iald d_M_clear_15 q8 q9 ?_
  refine jv_istore_n (L' := [some (.ref a0), some (.int (Prod.fst M4 b6 (Int32.toNatClampNeg 76)))]) d_M_clear_16 rfl (Nat.le_of_ble_eq_true rfl) rfl ?_
  refine jv_aload_n d_M_clear_17 rfl rfl ?_
  obtain ⟨q10, h⟩ := h
  obtain ⟨b11, e12, h⟩ := h
  refine jv_getR d_M_clear_18 fl_M_40 rfl q10 e12 ?_
  refine jv_bipush (v := 76) d_M_clear_21 (by decide) ?_
  refine jv_iconst (v := 0) d_M_clear_23 (by decide) ?_
  obtain ⟨q13, q14, h⟩ := h
  refine jv_iast d_M_clear_24 q13 q14 ?_
  refine jv_iload_n d_M_clear_25 rfl rfl ?_
  exact jv_iret d_M_clear_26 rfl rfl h
theorem b_M_poke_0 {g : jv_G} {d : Nat} {M : jv_Mem} {N cr sr : Nat} {Z : Option Value → jv_Mem → Nat → Prop} {a0 : Nat} {x1 : Int32} {x2 : Int32} (h : jv_Tg 10 a0 N ∧ jv_Ct g d mt_M_in [.long (Int32.toInt64 x1), .long 0, .long 7] (jv_si M a0 0 0) N 0 0 (fun v M3 N3 => jv_ri v (fun r2 => (r2 = 0 → Z (some (.int (-2))) M3 N3) ∧ (¬ (r2 = 0) → jv_Ct g d mt_M_in [.long (Int32.toInt64 x2), .long 0, .long 999] M3 N3 0 0 (fun v M5 N5 => jv_ri v (fun r4 => (r4 ≠ 0 → jv_Tg 10 a0 N5 ∧ jv_Ct g d mt_M_note [.ref a0] M5 N5 0 0 (fun v M8 N8 => jv_rv v (jv_Tg 10 a0 N8 ∧ ∃ b10, Prod.fst (Prod.snd M8) a0 19 = some b10 ∧ jv_Tg 11 b10 N8 ∧ vp_in (32 + x1) (jv_sh b10).2 ∧ jv_Tg 10 a0 N8 ∧ ∃ b15, Prod.fst (Prod.snd M8) a0 19 = some b15 ∧ jv_Tg 11 b15 N8 ∧ vp_in (32 + x1) (jv_sh b15).2 ∧ Z (some (.int (Prod.fst M8 b10 (Int32.toNatClampNeg (32 + x1))))) (jv_si M8 b15 (Int32.toNatClampNeg (32 + x1)) x2) N8))) ∧ (r4 = 0 → Z (some (.int (-2))) M5 N5))))))) : jv_J g (d + 1) mt_M_poke 0 [some (.ref a0), some (.int x1), some (.int x2), none] [] M N cr sr Z := by
  refine jv_aload_n d_M_poke_0 rfl rfl ?_
  refine jv_iconst (v := 0) d_M_poke_1 (by decide) ?_
  obtain ⟨q1, h⟩ := h
  refine jv_putI d_M_poke_2 fl_M_75 (fun r hr => by cases hr; rfl) rfl q1 ?_
  refine jv_iload_n d_M_poke_5 rfl rfl ?_
  refine jv_i2l d_M_poke_6 ?_
  refine jv_lconst (v := 0) d_M_poke_7 (by decide) ?_
  refine jv_ldc2 d_M_poke_8 co_M_217 ?_
  refine jv_invS [.long (Int32.toInt64 x1), .long 0, .long 7] [] d_M_poke_11 ml_M_81 rfl (Nat.le_of_ble_eq_true rfl) (Nat.zero_add _) (Nat.zero_add _) (jv_Ct.mono h (fun v M3 N3 h => ?_))
  obtain ⟨r2, rfl, h⟩ := h
  change jv_J g (d + 1) mt_M_poke 14 [some (.ref a0), some (.int x1), some (.int x2), none] [.int r2] M3 N3 cr sr Z
  refine jv_if_eq (tgt := 29) d_M_poke_14 (by decide) ⟨fun c => ?_, fun c => ?_⟩
  · replace h := h.1 c
    refine jv_bipush (v := (-2)) d_M_poke_29 (by decide) ?_
    exact jv_iret d_M_poke_31 rfl rfl h
  · replace h := h.2 c
    refine jv_iload_n d_M_poke_17 rfl rfl ?_
    refine jv_i2l d_M_poke_18 ?_
    refine jv_lconst (v := 0) d_M_poke_19 (by decide) ?_
    refine jv_ldc2 d_M_poke_20 co_M_238 ?_
    refine jv_invS [.long (Int32.toInt64 x2), .long 0, .long 999] [] d_M_poke_23 ml_M_81 rfl (Nat.le_of_ble_eq_true rfl) (Nat.zero_add _) (Nat.zero_add _) (jv_Ct.mono h (fun v M5 N5 h => ?_))
    obtain ⟨r4, rfl, h⟩ := h
    change jv_J g (d + 1) mt_M_poke 26 [some (.ref a0), some (.int x1), some (.int x2), none] [.int r4] M5 N5 cr sr Z
    refine jv_if_ne (tgt := 32) d_M_poke_26 (by decide) ⟨fun c => ?_, fun c => ?_⟩
    · replace h := h.1 c
      refine jv_aload_n d_M_poke_32 rfl rfl ?_
      obtain ⟨q6, h⟩ := h
      refine jv_invV [] [] d_M_poke_33 ml_M_223 q6 rfl (Nat.le_of_ble_eq_true rfl) (Nat.zero_add _) (Nat.zero_add _) (jv_Ct.mono h (fun v M8 N8 h => ?_))
      obtain ⟨rfl, h⟩ := h
      change jv_J g (d + 1) mt_M_poke 36 [some (.ref a0), some (.int x1), some (.int x2), none] [] M8 N8 cr sr Z
      refine jv_aload_n d_M_poke_36 rfl rfl ?_
      obtain ⟨q9, h⟩ := h
      obtain ⟨b10, e11, h⟩ := h
      refine jv_getR d_M_poke_37 fl_M_40 rfl q9 e11 ?_
      refine jv_bipush (v := 32) d_M_poke_40 (by decide) ?_
      refine jv_iload_n d_M_poke_42 rfl rfl ?_
      refine jv_iadd d_M_poke_43 ?_
      obtain ⟨q12, q13, h⟩ := h
      refine jv_iald d_M_poke_44 q12 q13 ?_
      refine jv_istore_n (L' := [some (.ref a0), some (.int x1), some (.int x2), some (.int (Prod.fst M8 b10 (Int32.toNatClampNeg (32 + x1))))]) d_M_poke_45 rfl (Nat.le_of_ble_eq_true rfl) rfl ?_
      refine jv_aload_n d_M_poke_46 rfl rfl ?_
      obtain ⟨q14, h⟩ := h
      obtain ⟨b15, e16, h⟩ := h
      refine jv_getR d_M_poke_47 fl_M_40 rfl q14 e16 ?_
      refine jv_bipush (v := 32) d_M_poke_50 (by decide) ?_
      refine jv_iload_n d_M_poke_52 rfl rfl ?_
      refine jv_iadd d_M_poke_53 ?_
      refine jv_iload_n d_M_poke_54 rfl rfl ?_
      obtain ⟨q17, q18, h⟩ := h
      refine jv_iast d_M_poke_55 q17 q18 ?_
      refine jv_iload_n d_M_poke_56 rfl rfl ?_
      exact jv_iret d_M_poke_57 rfl rfl h
    · replace h := h.2 c
      refine jv_bipush (v := (-2)) d_M_poke_29 (by decide) ?_
      exact jv_iret d_M_poke_31 rfl rfl h
theorem b_M_undo_0 {g : jv_G} {d : Nat} {M : jv_Mem} {N cr sr : Nat} {Z : Option Value → jv_Mem → Nat → Prop} {a0 : Nat} (h : jv_Tg 10 a0 N ∧ jv_Tg 10 a0 N ∧ ((Prod.fst (jv_si M a0 0 0) a0 23) ≠ 0 → jv_Tg 10 a0 N ∧ jv_Tg 10 a0 N ∧ jv_J g d mt_M_undo 27 [some (.ref a0), some (.int 0)] [] (jv_si (jv_si M a0 0 0) a0 23 ((Prod.fst (jv_si M a0 0 0) a0 23) - 1)) N cr sr Z) ∧ ((Prod.fst (jv_si M a0 0 0) a0 23) = 0 → Z (some (.int (-3))) (jv_si M a0 0 0) N)) : jv_J g d mt_M_undo 0 [some (.ref a0), none] [] M N cr sr Z := by
  refine jv_aload_n d_M_undo_0 rfl rfl ?_
  refine jv_iconst (v := 0) d_M_undo_1 (by decide) ?_
  obtain ⟨q1, h⟩ := h
  refine jv_putI d_M_undo_2 fl_M_75 (fun r hr => by cases hr; rfl) rfl q1 ?_
  refine jv_aload_n d_M_undo_5 rfl rfl ?_
  obtain ⟨q2, h⟩ := h
  refine jv_getI d_M_undo_6 fl_M_141 rfl q2 ?_
  refine jv_if_ne (tgt := 15) d_M_undo_9 (by decide) ⟨fun c => ?_, fun c => ?_⟩
  · replace h := h.1 c
    refine jv_aload_n d_M_undo_15 rfl rfl ?_
    refine jv_dup d_M_undo_16 rfl ?_
    obtain ⟨q3, h⟩ := h
    refine jv_getI d_M_undo_17 fl_M_141 rfl q3 ?_
    refine jv_iconst (v := 1) d_M_undo_20 (by decide) ?_
    refine jv_isub d_M_undo_21 ?_
    obtain ⟨q4, h⟩ := h
    refine jv_putI d_M_undo_22 fl_M_141 (fun r hr => by cases hr; rfl) rfl q4 ?_
    refine jv_iconst (v := 0) d_M_undo_25 (by decide) ?_
    refine jv_istore_n (L' := [some (.ref a0), some (.int 0)]) d_M_undo_26 rfl (Nat.le_of_ble_eq_true rfl) rfl ?_
    exact h
  · replace h := h.2 c
    refine jv_bipush (v := (-3)) d_M_undo_12 (by decide) ?_
    exact jv_iret d_M_undo_14 rfl rfl h
theorem b_M_undo_27 {g : jv_G} {d : Nat} {M : jv_Mem} {N cr sr : Nat} {Z : Option Value → jv_Mem → Nat → Prop} {a0 : Nat} {x1 : Int32} (h : (165 ≤ x1 → jv_Tg 10 a0 N ∧ Z (some (.int (Prod.fst M a0 23))) M N) ∧ (¬ (165 ≤ x1) → jv_Tg 10 a0 N ∧ ∃ b3, Prod.fst (Prod.snd M) a0 19 = some b3 ∧ jv_Tg 10 a0 N ∧ ∃ b6, Prod.fst (Prod.snd M) a0 22 = some b6 ∧ jv_Tg 10 a0 N ∧ jv_Tg 11 b6 N ∧ vp_in ((165 * (Prod.fst M a0 23)) + x1) (jv_sh b6).2 ∧ jv_Tg 11 b3 N ∧ vp_in x1 (jv_sh b3).2 ∧ jv_J g d mt_M_undo 27 [some (.ref a0), some (.int (x1 + 1))] [] (jv_si M b3 (Int32.toNatClampNeg x1) (Prod.fst M b6 (Int32.toNatClampNeg ((165 * (Prod.fst M a0 23)) + x1)))) N cr sr Z)) : jv_J g d mt_M_undo 27 [some (.ref a0), some (.int x1)] [] M N cr sr Z := by
  refine jv_iload_n d_M_undo_27 rfl rfl ?_
  refine jv_sipush (v := 165) d_M_undo_28 (by decide) ?_
  refine jv_icmp_ge (tgt := 61) d_M_undo_31 (by decide) ⟨fun c => ?_, fun c => ?_⟩
  · replace h := h.1 c
    refine jv_aload_n d_M_undo_61 rfl rfl ?_
    obtain ⟨q1, h⟩ := h
    refine jv_getI d_M_undo_62 fl_M_141 rfl q1 ?_
    exact jv_iret d_M_undo_65 rfl rfl h
  · replace h := h.2 c
    refine jv_aload_n d_M_undo_34 rfl rfl ?_
    obtain ⟨q2, h⟩ := h
    obtain ⟨b3, e4, h⟩ := h
    refine jv_getR d_M_undo_35 fl_M_40 rfl q2 e4 ?_
    refine jv_iload_n d_M_undo_38 rfl rfl ?_
    refine jv_aload_n d_M_undo_39 rfl rfl ?_
    obtain ⟨q5, h⟩ := h
    obtain ⟨b6, e7, h⟩ := h
    refine jv_getR d_M_undo_40 fl_M_49 rfl q5 e7 ?_
    refine jv_sipush (v := 165) d_M_undo_43 (by decide) ?_
    refine jv_aload_n d_M_undo_46 rfl rfl ?_
    obtain ⟨q8, h⟩ := h
    refine jv_getI d_M_undo_47 fl_M_141 rfl q8 ?_
    refine jv_imul d_M_undo_50 ?_
    refine jv_iload_n d_M_undo_51 rfl rfl ?_
    refine jv_iadd d_M_undo_52 ?_
    obtain ⟨q9, q10, h⟩ := h
    refine jv_iald d_M_undo_53 q9 q10 ?_
    obtain ⟨q11, q12, h⟩ := h
    refine jv_iast d_M_undo_54 q11 q12 ?_
    refine jv_iinc (v := (x1 + 1)) (L' := [some (.ref a0), some (.int (x1 + 1))]) d_M_undo_55 rfl rfl (Nat.le_of_ble_eq_true rfl) rfl ?_
    refine jv_goto (tgt := 27) d_M_undo_58 (by decide) ?_
    exact h
theorem b_M_ahead_0 {g : jv_G} {d : Nat} {M : jv_Mem} {N cr sr : Nat} {Z : Option Value → jv_Mem → Nat → Prop} {a0 : Nat} {x1 : Int32} {x2 : Int32} {x3 : Int32} (h : jv_Tg 10 a0 N ∧ jv_Tg 10 a0 N ∧ jv_Ct g d mt_M_noHart [.ref a0, .int x2] (jv_si M a0 0 0) N 0 0 (fun v M4 N4 => jv_ri v (fun r3 => (r3 = 0 → jv_Ct g d mt_M_in [.long (Int32.toInt64 x1), .long 0, .long 99] M4 N4 0 0 (fun v M6 N6 => jv_ri v (fun r5 => (r5 = 0 → Z (some (.int (-2))) M6 N6) ∧ (¬ (r5 = 0) → jv_Ct g d mt_M_in [.long (Int32.toInt64 x3), .long 0, .long 9] M6 N6 0 0 (fun v M8 N8 => jv_ri v (fun r7 => (r7 ≠ 0 → jv_Tg 10 a0 N8 ∧ ∃ b10, Prod.fst (Prod.snd M8) a0 20 = some b10 ∧ jv_Tg 10 a0 N8 ∧ ∃ b13, Prod.fst (Prod.snd M8) a0 19 = some b13 ∧ jv_Ct g d mt_M_lay [.ref b10, .ref b13] M8 N8 0 0 (fun v M16 N16 => jv_rv v (jv_Tg 10 a0 N16 ∧ ∃ b18, Prod.fst (Prod.snd M16) a0 20 = some b18 ∧ jv_Tg 10 a0 N16 ∧ jv_Ct g d mt_M_tickMany [.ref a0, .ref b18, .int x1] M16 N16 0 0 (fun v M22 N22 => jv_rv v (jv_Tg 10 a0 N22 ∧ ∃ b24, Prod.fst (Prod.snd M22) a0 20 = some b24 ∧ jv_Tg 10 a0 N22 ∧ jv_Ct g d mt_M_tellHart [.ref a0, .ref b24, .int x2, .int x3] M22 N22 0 0 (fun v M28 N28 => jv_ri v (fun r27 => Z (some (.int r27)) M28 N28))))))) ∧ (r7 = 0 → Z (some (.int (-2))) M8 N8))))))) ∧ (¬ (r3 = 0) → Z (some (.int (-1))) M4 N4)))) : jv_J g (d + 1) mt_M_ahead 0 [some (.ref a0), some (.int x1), some (.int x2), some (.int x3)] [] M N cr sr Z := by
  refine jv_aload_n d_M_ahead_0 rfl rfl ?_
  refine jv_iconst (v := 0) d_M_ahead_1 (by decide) ?_
  obtain ⟨q1, h⟩ := h
  refine jv_putI d_M_ahead_2 fl_M_75 (fun r hr => by cases hr; rfl) rfl q1 ?_
  refine jv_aload_n d_M_ahead_5 rfl rfl ?_
  refine jv_iload_n d_M_ahead_6 rfl rfl ?_
  obtain ⟨q2, h⟩ := h
  refine jv_invV [.int x2] [] d_M_ahead_7 ml_M_206 q2 rfl (Nat.le_of_ble_eq_true rfl) (Nat.zero_add _) (Nat.zero_add _) (jv_Ct.mono h (fun v M4 N4 h => ?_))
  obtain ⟨r3, rfl, h⟩ := h
  change jv_J g (d + 1) mt_M_ahead 10 [some (.ref a0), some (.int x1), some (.int x2), some (.int x3)] [.int r3] M4 N4 cr sr Z
  refine jv_if_eq (tgt := 15) d_M_ahead_10 (by decide) ⟨fun c => ?_, fun c => ?_⟩
  · replace h := h.1 c
    refine jv_iload_n d_M_ahead_15 rfl rfl ?_
    refine jv_i2l d_M_ahead_16 ?_
    refine jv_lconst (v := 0) d_M_ahead_17 (by decide) ?_
    refine jv_ldc2 d_M_ahead_18 co_M_221 ?_
    refine jv_invS [.long (Int32.toInt64 x1), .long 0, .long 99] [] d_M_ahead_21 ml_M_81 rfl (Nat.le_of_ble_eq_true rfl) (Nat.zero_add _) (Nat.zero_add _) (jv_Ct.mono h (fun v M6 N6 h => ?_))
    obtain ⟨r5, rfl, h⟩ := h
    change jv_J g (d + 1) mt_M_ahead 24 [some (.ref a0), some (.int x1), some (.int x2), some (.int x3)] [.int r5] M6 N6 cr sr Z
    refine jv_if_eq (tgt := 39) d_M_ahead_24 (by decide) ⟨fun c => ?_, fun c => ?_⟩
    · replace h := h.1 c
      refine jv_bipush (v := (-2)) d_M_ahead_39 (by decide) ?_
      exact jv_iret d_M_ahead_41 rfl rfl h
    · replace h := h.2 c
      refine jv_iload_n d_M_ahead_27 rfl rfl ?_
      refine jv_i2l d_M_ahead_28 ?_
      refine jv_lconst (v := 0) d_M_ahead_29 (by decide) ?_
      refine jv_ldc2 d_M_ahead_30 co_M_210 ?_
      refine jv_invS [.long (Int32.toInt64 x3), .long 0, .long 9] [] d_M_ahead_33 ml_M_81 rfl (Nat.le_of_ble_eq_true rfl) (Nat.zero_add _) (Nat.zero_add _) (jv_Ct.mono h (fun v M8 N8 h => ?_))
      obtain ⟨r7, rfl, h⟩ := h
      change jv_J g (d + 1) mt_M_ahead 36 [some (.ref a0), some (.int x1), some (.int x2), some (.int x3)] [.int r7] M8 N8 cr sr Z
      refine jv_if_ne (tgt := 42) d_M_ahead_36 (by decide) ⟨fun c => ?_, fun c => ?_⟩
      · replace h := h.1 c
        refine jv_aload_n d_M_ahead_42 rfl rfl ?_
        obtain ⟨q9, h⟩ := h
        obtain ⟨b10, e11, h⟩ := h
        refine jv_getR d_M_ahead_43 fl_M_43 rfl q9 e11 ?_
        refine jv_aload_n d_M_ahead_46 rfl rfl ?_
        obtain ⟨q12, h⟩ := h
        obtain ⟨b13, e14, h⟩ := h
        refine jv_getR d_M_ahead_47 fl_M_40 rfl q12 e14 ?_
        refine jv_invS [.ref b10, .ref b13] [] d_M_ahead_50 ml_M_131 rfl (Nat.le_of_ble_eq_true rfl) (Nat.zero_add _) (Nat.zero_add _) (jv_Ct.mono h (fun v M16 N16 h => ?_))
        obtain ⟨rfl, h⟩ := h
        change jv_J g (d + 1) mt_M_ahead 53 [some (.ref a0), some (.int x1), some (.int x2), some (.int x3)] [] M16 N16 cr sr Z
        refine jv_aload_n d_M_ahead_53 rfl rfl ?_
        refine jv_aload_n d_M_ahead_54 rfl rfl ?_
        obtain ⟨q17, h⟩ := h
        obtain ⟨b18, e19, h⟩ := h
        refine jv_getR d_M_ahead_55 fl_M_43 rfl q17 e19 ?_
        refine jv_iload_n d_M_ahead_58 rfl rfl ?_
        obtain ⟨q20, h⟩ := h
        refine jv_invV [.ref b18, .int x1] [] d_M_ahead_59 ml_M_226 q20 rfl (Nat.le_of_ble_eq_true rfl) (Nat.zero_add _) (Nat.zero_add _) (jv_Ct.mono h (fun v M22 N22 h => ?_))
        obtain ⟨rfl, h⟩ := h
        change jv_J g (d + 1) mt_M_ahead 62 [some (.ref a0), some (.int x1), some (.int x2), some (.int x3)] [] M22 N22 cr sr Z
        refine jv_aload_n d_M_ahead_62 rfl rfl ?_
        refine jv_aload_n d_M_ahead_63 rfl rfl ?_
        obtain ⟨q23, h⟩ := h
        obtain ⟨b24, e25, h⟩ := h
        refine jv_getR d_M_ahead_64 fl_M_43 rfl q23 e25 ?_
        refine jv_iload_n d_M_ahead_67 rfl rfl ?_
        refine jv_iload_n d_M_ahead_68 rfl rfl ?_
        obtain ⟨q26, h⟩ := h
        refine jv_invV [.ref b24, .int x2, .int x3] [] d_M_ahead_69 ml_M_212 q26 rfl (Nat.le_of_ble_eq_true rfl) (Nat.zero_add _) (Nat.zero_add _) (jv_Ct.mono h (fun v M28 N28 h => ?_))
        obtain ⟨r27, rfl, h⟩ := h
        change jv_J g (d + 1) mt_M_ahead 72 [some (.ref a0), some (.int x1), some (.int x2), some (.int x3)] [.int r27] M28 N28 cr sr Z
        exact jv_iret d_M_ahead_72 rfl rfl h
      · replace h := h.2 c
        refine jv_bipush (v := (-2)) d_M_ahead_39 (by decide) ?_
        exact jv_iret d_M_ahead_41 rfl rfl h
  · replace h := h.2 c
    refine jv_iconst (v := (-1)) d_M_ahead_13 (by decide) ?_
    exact jv_iret d_M_ahead_14 rfl rfl h
theorem b_M_halts_0 {g : jv_G} {d : Nat} {M : jv_Mem} {N cr sr : Nat} {Z : Option Value → jv_Mem → Nat → Prop} {a0 : Nat} {x1 : Int32} (h : jv_Tg 10 a0 N ∧ jv_Tg 10 a0 N ∧ jv_Ct g d mt_M_noHart [.ref a0, .int x1] (jv_si M a0 0 0) N 0 0 (fun v M4 N4 => jv_ri v (fun r3 => (r3 = 0 → jv_Tg 10 a0 N4 ∧ ∃ b6, Prod.fst (Prod.snd M4) a0 20 = some b6 ∧ jv_Tg 10 a0 N4 ∧ ∃ b9, Prod.fst (Prod.snd M4) a0 19 = some b9 ∧ jv_Ct g d mt_M_lay [.ref b6, .ref b9] M4 N4 0 0 (fun v M12 N12 => jv_rv v (jv_Tg 10 a0 N12 ∧ ∃ b14, Prod.fst (Prod.snd M12) a0 20 = some b14 ∧ jv_Tg 10 a0 N12 ∧ jv_Ct g d mt_M_haltsOn [.ref a0, .ref b14, .int (1 <<< (x1 &&& 31))] M12 N12 0 0 (fun v M18 N18 => jv_ri v (fun r17 => Z (some (.int r17)) M18 N18))))) ∧ (¬ (r3 = 0) → Z (some (.int (-1))) M4 N4)))) : jv_J g (d + 1) mt_M_halts 0 [some (.ref a0), some (.int x1)] [] M N cr sr Z := by
  refine jv_aload_n d_M_halts_0 rfl rfl ?_
  refine jv_iconst (v := 0) d_M_halts_1 (by decide) ?_
  obtain ⟨q1, h⟩ := h
  refine jv_putI d_M_halts_2 fl_M_75 (fun r hr => by cases hr; rfl) rfl q1 ?_
  refine jv_aload_n d_M_halts_5 rfl rfl ?_
  refine jv_iload_n d_M_halts_6 rfl rfl ?_
  obtain ⟨q2, h⟩ := h
  refine jv_invV [.int x1] [] d_M_halts_7 ml_M_206 q2 rfl (Nat.le_of_ble_eq_true rfl) (Nat.zero_add _) (Nat.zero_add _) (jv_Ct.mono h (fun v M4 N4 h => ?_))
  obtain ⟨r3, rfl, h⟩ := h
  change jv_J g (d + 1) mt_M_halts 10 [some (.ref a0), some (.int x1)] [.int r3] M4 N4 cr sr Z
  refine jv_if_eq (tgt := 15) d_M_halts_10 (by decide) ⟨fun c => ?_, fun c => ?_⟩
  · replace h := h.1 c
    refine jv_aload_n d_M_halts_15 rfl rfl ?_
    obtain ⟨q5, h⟩ := h
    obtain ⟨b6, e7, h⟩ := h
    refine jv_getR d_M_halts_16 fl_M_43 rfl q5 e7 ?_
    refine jv_aload_n d_M_halts_19 rfl rfl ?_
    obtain ⟨q8, h⟩ := h
    obtain ⟨b9, e10, h⟩ := h
    refine jv_getR d_M_halts_20 fl_M_40 rfl q8 e10 ?_
    refine jv_invS [.ref b6, .ref b9] [] d_M_halts_23 ml_M_131 rfl (Nat.le_of_ble_eq_true rfl) (Nat.zero_add _) (Nat.zero_add _) (jv_Ct.mono h (fun v M12 N12 h => ?_))
    obtain ⟨rfl, h⟩ := h
    change jv_J g (d + 1) mt_M_halts 26 [some (.ref a0), some (.int x1)] [] M12 N12 cr sr Z
    refine jv_aload_n d_M_halts_26 rfl rfl ?_
    refine jv_aload_n d_M_halts_27 rfl rfl ?_
    obtain ⟨q13, h⟩ := h
    obtain ⟨b14, e15, h⟩ := h
    refine jv_getR d_M_halts_28 fl_M_43 rfl q13 e15 ?_
    refine jv_iconst (v := 1) d_M_halts_31 (by decide) ?_
    refine jv_iload_n d_M_halts_32 rfl rfl ?_
    refine jv_ishl d_M_halts_33 ?_
    obtain ⟨q16, h⟩ := h
    refine jv_invV [.ref b14, .int (1 <<< (x1 &&& 31))] [] d_M_halts_34 ml_M_251 q16 rfl (Nat.le_of_ble_eq_true rfl) (Nat.zero_add _) (Nat.zero_add _) (jv_Ct.mono h (fun v M18 N18 h => ?_))
    obtain ⟨r17, rfl, h⟩ := h
    change jv_J g (d + 1) mt_M_halts 37 [some (.ref a0), some (.int x1)] [.int r17] M18 N18 cr sr Z
    exact jv_iret d_M_halts_37 rfl rfl h
  · replace h := h.2 c
    refine jv_iconst (v := (-1)) d_M_halts_13 (by decide) ?_
    exact jv_iret d_M_halts_14 rfl rfl h
theorem b_M_haltsOn_0 {g : jv_G} {d : Nat} {M : jv_Mem} {N cr sr : Nat} {Z : Option Value → jv_Mem → Nat → Prop} {a0 : Nat} {a1 : Nat} {x2 : Int32} (h : jv_J g (d + 1) mt_M_haltsOn 2 [some (.ref a0), some (.ref a1), some (.int x2), some (.int 0)] [] M N cr sr Z) : jv_J g (d + 1) mt_M_haltsOn 0 [some (.ref a0), some (.ref a1), some (.int x2), none] [] M N cr sr Z := by
  refine jv_iconst (v := 0) d_M_haltsOn_0 (by decide) ?_
  refine jv_istore_n (L' := [some (.ref a0), some (.ref a1), some (.int x2), some (.int 0)]) d_M_haltsOn_1 rfl (Nat.le_of_ble_eq_true rfl) rfl ?_
  exact h
theorem b_M_haltsOn_2 {g : jv_G} {d : Nat} {M : jv_Mem} {N cr sr : Nat} {Z : Option Value → jv_Mem → Nat → Prop} {a0 : Nat} {a1 : Nat} {x2 : Int32} {x3 : Int32} (h : (60 < x3 → Z (some (.int (-9))) M N) ∧ (¬ (60 < x3) → jv_Tg 10 a0 N ∧ jv_Ct g d mt_M_haltedOf [.ref a1, .int (Prod.fst M a0 6)] M N 0 0 (fun v M3 N3 => jv_ri v (fun r2 => ((x2 &&& (r2 ^^^ (-1))) ≠ 0 → jv_Tg 10 a0 N3 ∧ jv_Ct g d mt_M_tickOn [.ref a0, .ref a1] M3 N3 0 0 (fun v M6 N6 => jv_rv v (jv_J g (d + 1) mt_M_haltsOn 2 [some (.ref a0), some (.ref a1), some (.int x2), some (.int (x3 + 1))] [] M6 N6 cr sr Z))) ∧ ((x2 &&& (r2 ^^^ (-1))) = 0 → Z (some (.int x3)) M3 N3))))) : jv_J g (d + 1) mt_M_haltsOn 2 [some (.ref a0), some (.ref a1), some (.int x2), some (.int x3)] [] M N cr sr Z := by
  refine jv_iload_n d_M_haltsOn_2 rfl rfl ?_
  refine jv_bipush (v := 60) d_M_haltsOn_3 (by decide) ?_
  refine jv_icmp_gt (tgt := 36) d_M_haltsOn_5 (by decide) ⟨fun c => ?_, fun c => ?_⟩
  · replace h := h.1 c
    refine jv_bipush (v := (-9)) d_M_haltsOn_36 (by decide) ?_
    exact jv_iret d_M_haltsOn_38 rfl rfl h
  · replace h := h.2 c
    refine jv_iload_n d_M_haltsOn_8 rfl rfl ?_
    refine jv_aload_n d_M_haltsOn_9 rfl rfl ?_
    refine jv_aload_n d_M_haltsOn_10 rfl rfl ?_
    obtain ⟨q1, h⟩ := h
    refine jv_getI d_M_haltsOn_11 fl_M_78 rfl q1 ?_
    refine jv_invS [.ref a1, .int (Prod.fst M a0 6)] [.int x2] d_M_haltsOn_14 ml_M_189 rfl (Nat.le_of_ble_eq_true rfl) (Nat.zero_add _) (Nat.zero_add _) (jv_Ct.mono h (fun v M3 N3 h => ?_))
    obtain ⟨r2, rfl, h⟩ := h
    change jv_J g (d + 1) mt_M_haltsOn 17 [some (.ref a0), some (.ref a1), some (.int x2), some (.int x3)] [.int r2, .int x2] M3 N3 cr sr Z
    refine jv_iconst (v := (-1)) d_M_haltsOn_17 (by decide) ?_
    refine jv_ixor d_M_haltsOn_18 ?_
    refine jv_iand d_M_haltsOn_19 ?_
    refine jv_if_ne (tgt := 25) d_M_haltsOn_20 (by decide) ⟨fun c => ?_, fun c => ?_⟩
    · replace h := h.1 c
      refine jv_aload_n d_M_haltsOn_25 rfl rfl ?_
      refine jv_aload_n d_M_haltsOn_26 rfl rfl ?_
      obtain ⟨q4, h⟩ := h
      refine jv_invV [.ref a1] [] d_M_haltsOn_27 ml_M_199 q4 rfl (Nat.le_of_ble_eq_true rfl) (Nat.zero_add _) (Nat.zero_add _) (jv_Ct.mono h (fun v M6 N6 h => ?_))
      obtain ⟨rfl, h⟩ := h
      change jv_J g (d + 1) mt_M_haltsOn 30 [some (.ref a0), some (.ref a1), some (.int x2), some (.int x3)] [] M6 N6 cr sr Z
      refine jv_iinc (v := (x3 + 1)) (L' := [some (.ref a0), some (.ref a1), some (.int x2), some (.int (x3 + 1))]) d_M_haltsOn_30 rfl rfl (Nat.le_of_ble_eq_true rfl) rfl ?_
      refine jv_goto (tgt := 2) d_M_haltsOn_33 (by decide) ?_
      exact h
    · replace h := h.2 c
      refine jv_iload_n d_M_haltsOn_23 rfl rfl ?_
      exact jv_iret d_M_haltsOn_24 rfl rfl h
theorem b_M_soonest_0 {g : jv_G} {d : Nat} {M : jv_Mem} {N cr sr : Nat} {Z : Option Value → jv_Mem → Nat → Prop} {a0 : Nat} {x1 : Int32} (h : jv_Tg 10 a0 N ∧ jv_Tg 10 a0 N ∧ jv_Ct g d mt_M_in [.long (Int32.toInt64 x1), .long 0, .long (Int32.toInt64 ((Prod.fst (jv_si M a0 0 0) a0 9) - 1))] (jv_si M a0 0 0) N 0 0 (fun v M4 N4 => jv_ri v (fun r3 => (r3 ≠ 0 → jv_J g (d + 1) mt_M_soonest 31 [some (.ref a0), some (.int x1), some (.int (-9)), some (.int 0), some (.int 0), none, none] [] M4 N4 cr sr Z) ∧ (r3 = 0 → Z (some (.int (-1))) M4 N4)))) : jv_J g (d + 1) mt_M_soonest 0 [some (.ref a0), some (.int x1), none, none, none, none, none] [] M N cr sr Z := by
  refine jv_aload_n d_M_soonest_0 rfl rfl ?_
  refine jv_iconst (v := 0) d_M_soonest_1 (by decide) ?_
  obtain ⟨q1, h⟩ := h
  refine jv_putI d_M_soonest_2 fl_M_75 (fun r hr => by cases hr; rfl) rfl q1 ?_
  refine jv_iload_n d_M_soonest_5 rfl rfl ?_
  refine jv_i2l d_M_soonest_6 ?_
  refine jv_lconst (v := 0) d_M_soonest_7 (by decide) ?_
  refine jv_aload_n d_M_soonest_8 rfl rfl ?_
  obtain ⟨q2, h⟩ := h
  refine jv_getI d_M_soonest_9 fl_M_138 rfl q2 ?_
  refine jv_iconst (v := 1) d_M_soonest_12 (by decide) ?_
  refine jv_isub d_M_soonest_13 ?_
  refine jv_i2l d_M_soonest_14 ?_
  refine jv_invS [.long (Int32.toInt64 x1), .long 0, .long (Int32.toInt64 ((Prod.fst (jv_si M a0 0 0) a0 9) - 1))] [] d_M_soonest_15 ml_M_81 rfl (Nat.le_of_ble_eq_true rfl) (Nat.zero_add _) (Nat.zero_add _) (jv_Ct.mono h (fun v M4 N4 h => ?_))
  obtain ⟨r3, rfl, h⟩ := h
  change jv_J g (d + 1) mt_M_soonest 18 [some (.ref a0), some (.int x1), none, none, none, none, none] [.int r3] M4 N4 cr sr Z
  refine jv_if_ne (tgt := 23) d_M_soonest_18 (by decide) ⟨fun c => ?_, fun c => ?_⟩
  · replace h := h.1 c
    refine jv_bipush (v := (-9)) d_M_soonest_23 (by decide) ?_
    refine jv_istore_n (L' := [some (.ref a0), some (.int x1), some (.int (-9)), none, none, none, none]) d_M_soonest_25 rfl (Nat.le_of_ble_eq_true rfl) rfl ?_
    refine jv_iconst (v := 0) d_M_soonest_26 (by decide) ?_
    refine jv_istore_n (L' := [some (.ref a0), some (.int x1), some (.int (-9)), some (.int 0), none, none, none]) d_M_soonest_27 rfl (Nat.le_of_ble_eq_true rfl) rfl ?_
    refine jv_iconst (v := 0) d_M_soonest_28 (by decide) ?_
    refine jv_istore (L' := [some (.ref a0), some (.int x1), some (.int (-9)), some (.int 0), some (.int 0), none, none]) d_M_soonest_29 (Nat.le_of_ble_eq_true rfl) rfl ?_
    exact h
  · replace h := h.2 c
    refine jv_iconst (v := (-1)) d_M_soonest_21 (by decide) ?_
    exact jv_iret d_M_soonest_22 rfl rfl h
theorem b_M_soonest_31 {g : jv_G} {d : Nat} {M : jv_Mem} {N cr sr : Nat} {Z : Option Value → jv_Mem → Nat → Prop} {a0 : Nat} {x1 : Int32} {x2 : Int32} {x3 : Int32} {x4 : Int32} (h : (16 ≤ x4 → Z (some (.int x2)) M N) ∧ (¬ (16 ≤ x4) → jv_Tg 10 a0 N ∧ ∃ b2, Prod.fst (Prod.snd M) a0 20 = some b2 ∧ jv_Tg 10 a0 N ∧ ∃ b5, Prod.fst (Prod.snd M) a0 19 = some b5 ∧ jv_Ct g d mt_M_lay [.ref b2, .ref b5] M N 0 0 (fun v M8 N8 => jv_rv v (jv_J g (d + 1) mt_M_soonest 61 [some (.ref a0), some (.int x1), some (.int x2), some (.int x3), some (.int x4), some (.int (40 + (6 * x1))), some (.int 0)] [] M8 N8 cr sr Z)))) : jv_J g (d + 1) mt_M_soonest 31 [some (.ref a0), some (.int x1), some (.int x2), some (.int x3), some (.int x4), none, none] [] M N cr sr Z := by
  refine jv_iload d_M_soonest_31 rfl ?_
  refine jv_bipush (v := 16) d_M_soonest_33 (by decide) ?_
  refine jv_icmp_ge (tgt := 161) d_M_soonest_35 (by decide) ⟨fun c => ?_, fun c => ?_⟩
  · replace h := h.1 c
    refine jv_iload_n d_M_soonest_161 rfl rfl ?_
    exact jv_iret d_M_soonest_162 rfl rfl h
  · replace h := h.2 c
    refine jv_aload_n d_M_soonest_38 rfl rfl ?_
    obtain ⟨q1, h⟩ := h
    obtain ⟨b2, e3, h⟩ := h
    refine jv_getR d_M_soonest_39 fl_M_43 rfl q1 e3 ?_
    refine jv_aload_n d_M_soonest_42 rfl rfl ?_
    obtain ⟨q4, h⟩ := h
    obtain ⟨b5, e6, h⟩ := h
    refine jv_getR d_M_soonest_43 fl_M_40 rfl q4 e6 ?_
    refine jv_invS [.ref b2, .ref b5] [] d_M_soonest_46 ml_M_131 rfl (Nat.le_of_ble_eq_true rfl) (Nat.zero_add _) (Nat.zero_add _) (jv_Ct.mono h (fun v M8 N8 h => ?_))
    obtain ⟨rfl, h⟩ := h
    change jv_J g (d + 1) mt_M_soonest 49 [some (.ref a0), some (.int x1), some (.int x2), some (.int x3), some (.int x4), none, none] [] M8 N8 cr sr Z
    refine jv_bipush (v := 40) d_M_soonest_49 (by decide) ?_
    refine jv_bipush (v := 6) d_M_soonest_51 (by decide) ?_
    refine jv_iload_n d_M_soonest_53 rfl rfl ?_
    refine jv_imul d_M_soonest_54 ?_
    refine jv_iadd d_M_soonest_55 ?_
    refine jv_istore (L' := [some (.ref a0), some (.int x1), some (.int x2), some (.int x3), some (.int x4), some (.int (40 + (6 * x1))), none]) d_M_soonest_56 (Nat.le_of_ble_eq_true rfl) rfl ?_
    refine jv_iconst (v := 0) d_M_soonest_58 (by decide) ?_
    refine jv_istore (L' := [some (.ref a0), some (.int x1), some (.int x2), some (.int x3), some (.int x4), some (.int (40 + (6 * x1))), some (.int 0)]) d_M_soonest_59 (Nat.le_of_ble_eq_true rfl) rfl ?_
    exact h
theorem b_M_soonest_61 {g : jv_G} {d : Nat} {M : jv_Mem} {N cr sr : Nat} {Z : Option Value → jv_Mem → Nat → Prop} {a0 : Nat} {x1 : Int32} {x2 : Int32} {x3 : Int32} {x4 : Int32} {x5 : Int32} {x6 : Int32} (h : (6 ≤ x6 → jv_Tg 10 a0 N ∧ ∃ b2, Prod.fst (Prod.snd M) a0 20 = some b2 ∧ jv_Tg 10 a0 N ∧ ∃ b5, Prod.fst (Prod.snd M) a0 10 = some b5 ∧ jv_Tg 11 b5 N ∧ vp_in x1 (jv_sh b5).2 ∧ jv_Tg 10 a0 N ∧ jv_Ct g d mt_M_haltsOn [.ref a0, .ref b2, .int (1 <<< ((Prod.fst M b5 (Int32.toNatClampNeg x1)) &&& 31))] M N 0 0 (fun v M11 N11 => jv_ri v (fun r10 => (r10 = (-9) → jv_J g (d + 1) mt_M_soonest 31 [some (.ref a0), some (.int x1), some (.int x2), some (.int x3), some (.int (x4 + 1)), none, none] [] M11 N11 cr sr Z) ∧ (¬ (r10 = (-9)) → (x2 = (-9) → jv_J g (d + 1) mt_M_soonest 31 [some (.ref a0), some (.int x1), some (.int x4), some (.int r10), some (.int (x4 + 1)), none, none] [] M11 N11 cr sr Z) ∧ (¬ (x2 = (-9)) → (x3 ≤ r10 → jv_J g (d + 1) mt_M_soonest 31 [some (.ref a0), some (.int x1), some (.int x2), some (.int x3), some (.int (x4 + 1)), none, none] [] M11 N11 cr sr Z) ∧ (¬ (x3 ≤ r10) → jv_J g (d + 1) mt_M_soonest 31 [some (.ref a0), some (.int x1), some (.int x4), some (.int r10), some (.int (x4 + 1)), none, none] [] M11 N11 cr sr Z)))))) ∧ (¬ (6 ≤ x6) → jv_Tg 10 a0 N ∧ ∃ b13, Prod.fst (Prod.snd M) a0 20 = some b13 ∧ (x6 ≠ 1 → (x6 = 3 → jv_Tg 11 b13 N ∧ vp_in (x5 + x6) (jv_sh b13).2 ∧ jv_J g (d + 1) mt_M_soonest 61 [some (.ref a0), some (.int x1), some (.int x2), some (.int x3), some (.int x4), some (.int x5), some (.int (x6 + 1))] [] (jv_si M b13 (Int32.toNatClampNeg (x5 + x6)) 1) N cr sr Z) ∧ (¬ (x6 = 3) → (x6 ≠ 4 → jv_Tg 11 b13 N ∧ vp_in (x5 + x6) (jv_sh b13).2 ∧ jv_J g (d + 1) mt_M_soonest 61 [some (.ref a0), some (.int x1), some (.int x2), some (.int x3), some (.int x4), some (.int x5), some (.int (x6 + 1))] [] (jv_si M b13 (Int32.toNatClampNeg (x5 + x6)) 0) N cr sr Z) ∧ (x6 = 4 → jv_Tg 11 b13 N ∧ vp_in (x5 + x6) (jv_sh b13).2 ∧ jv_J g (d + 1) mt_M_soonest 61 [some (.ref a0), some (.int x1), some (.int x2), some (.int x3), some (.int x4), some (.int x5), some (.int (x6 + 1))] [] (jv_si M b13 (Int32.toNatClampNeg (x5 + x6)) 1) N cr sr Z))) ∧ (x6 = 1 → jv_Tg 11 b13 N ∧ vp_in (x5 + x6) (jv_sh b13).2 ∧ jv_J g (d + 1) mt_M_soonest 61 [some (.ref a0), some (.int x1), some (.int x2), some (.int x3), some (.int x4), some (.int x5), some (.int (x6 + 1))] [] (jv_si M b13 (Int32.toNatClampNeg (x5 + x6)) x4) N cr sr Z))) : jv_J g (d + 1) mt_M_soonest 61 [some (.ref a0), some (.int x1), some (.int x2), some (.int x3), some (.int x4), some (.int x5), some (.int x6)] [] M N cr sr Z := by
  refine jv_iload d_M_soonest_61 rfl ?_
  refine jv_bipush (v := 6) d_M_soonest_63 (by decide) ?_
  refine jv_icmp_ge (tgt := 112) d_M_soonest_65 (by decide) ⟨fun c => ?_, fun c => ?_⟩
  · replace h := h.1 c
    refine jv_aload_n d_M_soonest_112 rfl rfl ?_
    refine jv_aload_n d_M_soonest_113 rfl rfl ?_
    obtain ⟨q1, h⟩ := h
    obtain ⟨b2, e3, h⟩ := h
    refine jv_getR d_M_soonest_114 fl_M_43 rfl q1 e3 ?_
    refine jv_iconst (v := 1) d_M_soonest_117 (by decide) ?_
    refine jv_aload_n d_M_soonest_118 rfl rfl ?_
    obtain ⟨q4, h⟩ := h
    obtain ⟨b5, e6, h⟩ := h
    refine jv_getR d_M_soonest_119 fl_M_22 rfl q4 e6 ?_
    refine jv_iload_n d_M_soonest_122 rfl rfl ?_
    obtain ⟨q7, q8, h⟩ := h
    refine jv_iald d_M_soonest_123 q7 q8 ?_
    refine jv_ishl d_M_soonest_124 ?_
    obtain ⟨q9, h⟩ := h
    refine jv_invV [.ref b2, .int (1 <<< ((Prod.fst M b5 (Int32.toNatClampNeg x1)) &&& 31))] [] d_M_soonest_125 ml_M_251 q9 rfl (Nat.le_of_ble_eq_true rfl) (Nat.zero_add _) (Nat.zero_add _) (jv_Ct.mono h (fun v M11 N11 h => ?_))
    obtain ⟨r10, rfl, h⟩ := h
    change jv_J g (d + 1) mt_M_soonest 128 [some (.ref a0), some (.int x1), some (.int x2), some (.int x3), some (.int x4), some (.int x5), some (.int x6)] [.int r10] M11 N11 cr sr Z
    refine jv_istore (L' := [some (.ref a0), some (.int x1), some (.int x2), some (.int x3), some (.int x4), some (.int x5), some (.int r10)]) d_M_soonest_128 (Nat.le_of_ble_eq_true rfl) rfl ?_
    refine jv_iload d_M_soonest_130 rfl ?_
    refine jv_bipush (v := (-9)) d_M_soonest_132 (by decide) ?_
    refine jv_icmp_eq (tgt := 155) d_M_soonest_134 (by decide) ⟨fun c => ?_, fun c => ?_⟩
    · replace h := h.1 c
      refine jv_iinc (v := (x4 + 1)) (L' := [some (.ref a0), some (.int x1), some (.int x2), some (.int x3), some (.int (x4 + 1)), some (.int x5), some (.int r10)]) d_M_soonest_155 rfl rfl (Nat.le_of_ble_eq_true rfl) rfl ?_
      refine jv_goto (tgt := 31) d_M_soonest_158 (by decide) ?_
      refine jv_weak (L' := [some (.ref a0), some (.int x1), some (.int x2), some (.int x3), some (.int (x4 + 1)), none, none]) (by simp [jv_le]) ?_
      exact h
    · replace h := h.2 c
      refine jv_iload_n d_M_soonest_137 rfl rfl ?_
      refine jv_bipush (v := (-9)) d_M_soonest_138 (by decide) ?_
      refine jv_icmp_eq (tgt := 149) d_M_soonest_140 (by decide) ⟨fun c => ?_, fun c => ?_⟩
      · replace h := h.1 c
        refine jv_iload d_M_soonest_149 rfl ?_
        refine jv_istore_n (L' := [some (.ref a0), some (.int x1), some (.int x4), some (.int x3), some (.int x4), some (.int x5), some (.int r10)]) d_M_soonest_151 rfl (Nat.le_of_ble_eq_true rfl) rfl ?_
        refine jv_iload d_M_soonest_152 rfl ?_
        refine jv_istore_n (L' := [some (.ref a0), some (.int x1), some (.int x4), some (.int r10), some (.int x4), some (.int x5), some (.int r10)]) d_M_soonest_154 rfl (Nat.le_of_ble_eq_true rfl) rfl ?_
        refine jv_iinc (v := (x4 + 1)) (L' := [some (.ref a0), some (.int x1), some (.int x4), some (.int r10), some (.int (x4 + 1)), some (.int x5), some (.int r10)]) d_M_soonest_155 rfl rfl (Nat.le_of_ble_eq_true rfl) rfl ?_
        refine jv_goto (tgt := 31) d_M_soonest_158 (by decide) ?_
        refine jv_weak (L' := [some (.ref a0), some (.int x1), some (.int x4), some (.int r10), some (.int (x4 + 1)), none, none]) (by simp [jv_le]) ?_
        exact h
      · replace h := h.2 c
        refine jv_iload d_M_soonest_143 rfl ?_
        refine jv_iload_n d_M_soonest_145 rfl rfl ?_
        refine jv_icmp_ge (tgt := 155) d_M_soonest_146 (by decide) ⟨fun c => ?_, fun c => ?_⟩
        · replace h := h.1 c
          refine jv_iinc (v := (x4 + 1)) (L' := [some (.ref a0), some (.int x1), some (.int x2), some (.int x3), some (.int (x4 + 1)), some (.int x5), some (.int r10)]) d_M_soonest_155 rfl rfl (Nat.le_of_ble_eq_true rfl) rfl ?_
          refine jv_goto (tgt := 31) d_M_soonest_158 (by decide) ?_
          refine jv_weak (L' := [some (.ref a0), some (.int x1), some (.int x2), some (.int x3), some (.int (x4 + 1)), none, none]) (by simp [jv_le]) ?_
          exact h
        · replace h := h.2 c
          refine jv_iload d_M_soonest_149 rfl ?_
          refine jv_istore_n (L' := [some (.ref a0), some (.int x1), some (.int x4), some (.int x3), some (.int x4), some (.int x5), some (.int r10)]) d_M_soonest_151 rfl (Nat.le_of_ble_eq_true rfl) rfl ?_
          refine jv_iload d_M_soonest_152 rfl ?_
          refine jv_istore_n (L' := [some (.ref a0), some (.int x1), some (.int x4), some (.int r10), some (.int x4), some (.int x5), some (.int r10)]) d_M_soonest_154 rfl (Nat.le_of_ble_eq_true rfl) rfl ?_
          refine jv_iinc (v := (x4 + 1)) (L' := [some (.ref a0), some (.int x1), some (.int x4), some (.int r10), some (.int (x4 + 1)), some (.int x5), some (.int r10)]) d_M_soonest_155 rfl rfl (Nat.le_of_ble_eq_true rfl) rfl ?_
          refine jv_goto (tgt := 31) d_M_soonest_158 (by decide) ?_
          refine jv_weak (L' := [some (.ref a0), some (.int x1), some (.int x4), some (.int r10), some (.int (x4 + 1)), none, none]) (by simp [jv_le]) ?_
          exact h
  · replace h := h.2 c
    refine jv_aload_n d_M_soonest_68 rfl rfl ?_
    obtain ⟨q12, h⟩ := h
    obtain ⟨b13, e14, h⟩ := h
    refine jv_getR d_M_soonest_69 fl_M_43 rfl q12 e14 ?_
    refine jv_iload d_M_soonest_72 rfl ?_
    refine jv_iload d_M_soonest_74 rfl ?_
    refine jv_iadd d_M_soonest_76 ?_
    refine jv_iload d_M_soonest_77 rfl ?_
    refine jv_iconst (v := 1) d_M_soonest_79 (by decide) ?_
    refine jv_icmp_ne (tgt := 88) d_M_soonest_80 (by decide) ⟨fun c => ?_, fun c => ?_⟩
    · replace h := h.1 c
      refine jv_iload d_M_soonest_88 rfl ?_
      refine jv_iconst (v := 3) d_M_soonest_90 (by decide) ?_
      refine jv_icmp_eq (tgt := 100) d_M_soonest_91 (by decide) ⟨fun c => ?_, fun c => ?_⟩
      · replace h := h.1 c
        refine jv_iconst (v := 1) d_M_soonest_100 (by decide) ?_
        refine jv_goto (tgt := 105) d_M_soonest_101 (by decide) ?_
        obtain ⟨q15, q16, h⟩ := h
        refine jv_iast d_M_soonest_105 q15 q16 ?_
        refine jv_iinc (v := (x6 + 1)) (L' := [some (.ref a0), some (.int x1), some (.int x2), some (.int x3), some (.int x4), some (.int x5), some (.int (x6 + 1))]) d_M_soonest_106 rfl rfl (Nat.le_of_ble_eq_true rfl) rfl ?_
        refine jv_goto (tgt := 61) d_M_soonest_109 (by decide) ?_
        exact h
      · replace h := h.2 c
        refine jv_iload d_M_soonest_94 rfl ?_
        refine jv_iconst (v := 4) d_M_soonest_96 (by decide) ?_
        refine jv_icmp_ne (tgt := 104) d_M_soonest_97 (by decide) ⟨fun c => ?_, fun c => ?_⟩
        · replace h := h.1 c
          refine jv_iconst (v := 0) d_M_soonest_104 (by decide) ?_
          obtain ⟨q17, q18, h⟩ := h
          refine jv_iast d_M_soonest_105 q17 q18 ?_
          refine jv_iinc (v := (x6 + 1)) (L' := [some (.ref a0), some (.int x1), some (.int x2), some (.int x3), some (.int x4), some (.int x5), some (.int (x6 + 1))]) d_M_soonest_106 rfl rfl (Nat.le_of_ble_eq_true rfl) rfl ?_
          refine jv_goto (tgt := 61) d_M_soonest_109 (by decide) ?_
          exact h
        · replace h := h.2 c
          refine jv_iconst (v := 1) d_M_soonest_100 (by decide) ?_
          refine jv_goto (tgt := 105) d_M_soonest_101 (by decide) ?_
          obtain ⟨q19, q20, h⟩ := h
          refine jv_iast d_M_soonest_105 q19 q20 ?_
          refine jv_iinc (v := (x6 + 1)) (L' := [some (.ref a0), some (.int x1), some (.int x2), some (.int x3), some (.int x4), some (.int x5), some (.int (x6 + 1))]) d_M_soonest_106 rfl rfl (Nat.le_of_ble_eq_true rfl) rfl ?_
          refine jv_goto (tgt := 61) d_M_soonest_109 (by decide) ?_
          exact h
    · replace h := h.2 c
      refine jv_iload d_M_soonest_83 rfl ?_
      refine jv_goto (tgt := 105) d_M_soonest_85 (by decide) ?_
      obtain ⟨q21, q22, h⟩ := h
      refine jv_iast d_M_soonest_105 q21 q22 ?_
      refine jv_iinc (v := (x6 + 1)) (L' := [some (.ref a0), some (.int x1), some (.int x2), some (.int x3), some (.int x4), some (.int x5), some (.int (x6 + 1))]) d_M_soonest_106 rfl rfl (Nat.le_of_ble_eq_true rfl) rfl ?_
      refine jv_goto (tgt := 61) d_M_soonest_109 (by decide) ?_
      exact h
theorem b_M_all_0 {g : jv_G} {d : Nat} {M : jv_Mem} {N cr sr : Nat} {Z : Option Value → jv_Mem → Nat → Prop} {a0 : Nat} {x1 : Int32} (h : jv_Tg 10 a0 N ∧ jv_Tg 10 a0 N ∧ jv_Ct g d mt_M_in [.long (Int32.toInt64 x1), .long 0, .long (Int32.toInt64 ((1 <<< ((Prod.fst (jv_si M a0 0 0) a0 6) &&& 31)) - 1))] (jv_si M a0 0 0) N 0 0 (fun v M4 N4 => jv_ri v (fun r3 => (r3 = 0 → Z (some (.int (-2))) M4 N4) ∧ (¬ (r3 = 0) → jv_Tg 10 a0 N4 ∧ jv_Ct g d mt_M_allBy [.ref a0, .int x1] M4 N4 0 0 (fun v M7 N7 => jv_ri v (fun r6 => Z (some (.int r6)) M7 N7)))))) : jv_J g (d + 1) mt_M_all 0 [some (.ref a0), some (.int x1)] [] M N cr sr Z := by
  refine jv_aload_n d_M_all_0 rfl rfl ?_
  refine jv_iconst (v := 0) d_M_all_1 (by decide) ?_
  obtain ⟨q1, h⟩ := h
  refine jv_putI d_M_all_2 fl_M_75 (fun r hr => by cases hr; rfl) rfl q1 ?_
  refine jv_iload_n d_M_all_5 rfl rfl ?_
  refine jv_i2l d_M_all_6 ?_
  refine jv_lconst (v := 0) d_M_all_7 (by decide) ?_
  refine jv_iconst (v := 1) d_M_all_8 (by decide) ?_
  refine jv_aload_n d_M_all_9 rfl rfl ?_
  obtain ⟨q2, h⟩ := h
  refine jv_getI d_M_all_10 fl_M_78 rfl q2 ?_
  refine jv_ishl d_M_all_13 ?_
  refine jv_iconst (v := 1) d_M_all_14 (by decide) ?_
  refine jv_isub d_M_all_15 ?_
  refine jv_i2l d_M_all_16 ?_
  refine jv_invS [.long (Int32.toInt64 x1), .long 0, .long (Int32.toInt64 ((1 <<< ((Prod.fst (jv_si M a0 0 0) a0 6) &&& 31)) - 1))] [] d_M_all_17 ml_M_81 rfl (Nat.le_of_ble_eq_true rfl) (Nat.zero_add _) (Nat.zero_add _) (jv_Ct.mono h (fun v M4 N4 h => ?_))
  obtain ⟨r3, rfl, h⟩ := h
  change jv_J g (d + 1) mt_M_all 20 [some (.ref a0), some (.int x1)] [.int r3] M4 N4 cr sr Z
  refine jv_if_eq (tgt := 31) d_M_all_20 (by decide) ⟨fun c => ?_, fun c => ?_⟩
  · replace h := h.1 c
    refine jv_bipush (v := (-2)) d_M_all_31 (by decide) ?_
    exact jv_iret d_M_all_33 rfl rfl h
  · replace h := h.2 c
    refine jv_aload_n d_M_all_23 rfl rfl ?_
    refine jv_iload_n d_M_all_24 rfl rfl ?_
    obtain ⟨q5, h⟩ := h
    refine jv_invV [.int x1] [] d_M_all_25 ml_M_254 q5 rfl (Nat.le_of_ble_eq_true rfl) (Nat.zero_add _) (Nat.zero_add _) (jv_Ct.mono h (fun v M7 N7 h => ?_))
    obtain ⟨r6, rfl, h⟩ := h
    change jv_J g (d + 1) mt_M_all 28 [some (.ref a0), some (.int x1)] [.int r6] M7 N7 cr sr Z
    refine jv_goto (tgt := 33) d_M_all_28 (by decide) ?_
    exact jv_iret d_M_all_33 rfl rfl h
theorem b_M_allBy_0 {g : jv_G} {d : Nat} {M : jv_Mem} {N cr sr : Nat} {Z : Option Value → jv_Mem → Nat → Prop} {a0 : Nat} {x1 : Int32} (h : jv_Tg 10 a0 N ∧ ∃ b2, Prod.fst (Prod.snd M) a0 20 = some b2 ∧ jv_Tg 10 a0 N ∧ ∃ b5, Prod.fst (Prod.snd M) a0 19 = some b5 ∧ jv_Ct g d mt_M_lay [.ref b2, .ref b5] M N 0 0 (fun v M8 N8 => jv_rv v (jv_J g (d + 1) mt_M_allBy 13 [some (.ref a0), some (.int x1), some (.int 0)] [] M8 N8 cr sr Z))) : jv_J g (d + 1) mt_M_allBy 0 [some (.ref a0), some (.int x1), none] [] M N cr sr Z := by
  refine jv_aload_n d_M_allBy_0 rfl rfl ?_
  obtain ⟨q1, h⟩ := h
  obtain ⟨b2, e3, h⟩ := h
  refine jv_getR d_M_allBy_1 fl_M_43 rfl q1 e3 ?_
  refine jv_aload_n d_M_allBy_4 rfl rfl ?_
  obtain ⟨q4, h⟩ := h
  obtain ⟨b5, e6, h⟩ := h
  refine jv_getR d_M_allBy_5 fl_M_40 rfl q4 e6 ?_
  refine jv_invS [.ref b2, .ref b5] [] d_M_allBy_8 ml_M_131 rfl (Nat.le_of_ble_eq_true rfl) (Nat.zero_add _) (Nat.zero_add _) (jv_Ct.mono h (fun v M8 N8 h => ?_))
  obtain ⟨rfl, h⟩ := h
  change jv_J g (d + 1) mt_M_allBy 11 [some (.ref a0), some (.int x1), none] [] M8 N8 cr sr Z
  refine jv_iconst (v := 0) d_M_allBy_11 (by decide) ?_
  refine jv_istore_n (L' := [some (.ref a0), some (.int x1), some (.int 0)]) d_M_allBy_12 rfl (Nat.le_of_ble_eq_true rfl) rfl ?_
  exact h
theorem b_M_allBy_13 {g : jv_G} {d : Nat} {M : jv_Mem} {N cr sr : Nat} {Z : Option Value → jv_Mem → Nat → Prop} {a0 : Nat} {x1 : Int32} {x2 : Int32} (h : jv_Tg 10 a0 N ∧ ((Prod.fst M a0 6) ≤ x2 → jv_Tg 10 a0 N ∧ ∃ b3, Prod.fst (Prod.snd M) a0 20 = some b3 ∧ jv_Tg 10 a0 N ∧ jv_Tg 10 a0 N ∧ jv_Ct g d mt_M_haltsOn [.ref a0, .ref b3, .int ((1 <<< ((Prod.fst M a0 6) &&& 31)) - 1)] M N 0 0 (fun v M8 N8 => jv_ri v (fun r7 => Z (some (.int r7)) M8 N8))) ∧ (¬ ((Prod.fst M a0 6) ≤ x2) → jv_Ct g d mt_M_has [.int x1, .int x2] M N 0 0 (fun v M10 N10 => jv_ri v (fun r9 => (r9 = 0 → jv_J g (d + 1) mt_M_allBy 13 [some (.ref a0), some (.int x1), some (.int (x2 + 1))] [] M10 N10 cr sr Z) ∧ (¬ (r9 = 0) → jv_Tg 10 a0 N10 ∧ ∃ b12, Prod.fst (Prod.snd M10) a0 20 = some b12 ∧ jv_Ct g d mt_M_sendOn [.ref b12, .int 0, .int x2, .int 0, .int 0] M10 N10 0 0 (fun v M15 N15 => jv_rv v (jv_J g (d + 1) mt_M_allBy 13 [some (.ref a0), some (.int x1), some (.int (x2 + 1))] [] M15 N15 cr sr Z))))))) : jv_J g (d + 1) mt_M_allBy 13 [some (.ref a0), some (.int x1), some (.int x2)] [] M N cr sr Z := by
  refine jv_iload_n d_M_allBy_13 rfl rfl ?_
  refine jv_aload_n d_M_allBy_14 rfl rfl ?_
  obtain ⟨q1, h⟩ := h
  refine jv_getI d_M_allBy_15 fl_M_78 rfl q1 ?_
  refine jv_icmp_ge (tgt := 46) d_M_allBy_18 (by decide) ⟨fun c => ?_, fun c => ?_⟩
  · replace h := h.1 c
    refine jv_aload_n d_M_allBy_46 rfl rfl ?_
    refine jv_aload_n d_M_allBy_47 rfl rfl ?_
    obtain ⟨q2, h⟩ := h
    obtain ⟨b3, e4, h⟩ := h
    refine jv_getR d_M_allBy_48 fl_M_43 rfl q2 e4 ?_
    refine jv_iconst (v := 1) d_M_allBy_51 (by decide) ?_
    refine jv_aload_n d_M_allBy_52 rfl rfl ?_
    obtain ⟨q5, h⟩ := h
    refine jv_getI d_M_allBy_53 fl_M_78 rfl q5 ?_
    refine jv_ishl d_M_allBy_56 ?_
    refine jv_iconst (v := 1) d_M_allBy_57 (by decide) ?_
    refine jv_isub d_M_allBy_58 ?_
    obtain ⟨q6, h⟩ := h
    refine jv_invV [.ref b3, .int ((1 <<< ((Prod.fst M a0 6) &&& 31)) - 1)] [] d_M_allBy_59 ml_M_251 q6 rfl (Nat.le_of_ble_eq_true rfl) (Nat.zero_add _) (Nat.zero_add _) (jv_Ct.mono h (fun v M8 N8 h => ?_))
    obtain ⟨r7, rfl, h⟩ := h
    change jv_J g (d + 1) mt_M_allBy 62 [some (.ref a0), some (.int x1), some (.int x2)] [.int r7] M8 N8 cr sr Z
    exact jv_iret d_M_allBy_62 rfl rfl h
  · replace h := h.2 c
    refine jv_iload_n d_M_allBy_21 rfl rfl ?_
    refine jv_iload_n d_M_allBy_22 rfl rfl ?_
    refine jv_invS [.int x1, .int x2] [] d_M_allBy_23 ml_M_175 rfl (Nat.le_of_ble_eq_true rfl) (Nat.zero_add _) (Nat.zero_add _) (jv_Ct.mono h (fun v M10 N10 h => ?_))
    obtain ⟨r9, rfl, h⟩ := h
    change jv_J g (d + 1) mt_M_allBy 26 [some (.ref a0), some (.int x1), some (.int x2)] [.int r9] M10 N10 cr sr Z
    refine jv_if_eq (tgt := 40) d_M_allBy_26 (by decide) ⟨fun c => ?_, fun c => ?_⟩
    · replace h := h.1 c
      refine jv_iinc (v := (x2 + 1)) (L' := [some (.ref a0), some (.int x1), some (.int (x2 + 1))]) d_M_allBy_40 rfl rfl (Nat.le_of_ble_eq_true rfl) rfl ?_
      refine jv_goto (tgt := 13) d_M_allBy_43 (by decide) ?_
      exact h
    · replace h := h.2 c
      refine jv_aload_n d_M_allBy_29 rfl rfl ?_
      obtain ⟨q11, h⟩ := h
      obtain ⟨b12, e13, h⟩ := h
      refine jv_getR d_M_allBy_30 fl_M_43 rfl q11 e13 ?_
      refine jv_iconst (v := 0) d_M_allBy_33 (by decide) ?_
      refine jv_iload_n d_M_allBy_34 rfl rfl ?_
      refine jv_iconst (v := 0) d_M_allBy_35 (by decide) ?_
      refine jv_iconst (v := 0) d_M_allBy_36 (by decide) ?_
      refine jv_invS [.ref b12, .int 0, .int x2, .int 0, .int 0] [] d_M_allBy_37 ml_M_240 rfl (Nat.le_of_ble_eq_true rfl) (Nat.zero_add _) (Nat.zero_add _) (jv_Ct.mono h (fun v M15 N15 h => ?_))
      obtain ⟨rfl, h⟩ := h
      change jv_J g (d + 1) mt_M_allBy 40 [some (.ref a0), some (.int x1), some (.int x2)] [] M15 N15 cr sr Z
      refine jv_iinc (v := (x2 + 1)) (L' := [some (.ref a0), some (.int x1), some (.int (x2 + 1))]) d_M_allBy_40 rfl rfl (Nat.le_of_ble_eq_true rfl) rfl ?_
      refine jv_goto (tgt := 13) d_M_allBy_43 (by decide) ?_
      exact h
theorem b_M_crew_0 {g : jv_G} {d : Nat} {M : jv_Mem} {N cr sr : Nat} {Z : Option Value → jv_Mem → Nat → Prop} {a0 : Nat} (h : jv_Tg 10 a0 N ∧ jv_J g (d + 1) mt_M_crew 12 [some (.ref a0), some (.int (-9)), some (.int 0), some (.int 0), none, none] [] (jv_si M a0 0 0) N cr sr Z) : jv_J g (d + 1) mt_M_crew 0 [some (.ref a0), none, none, none, none, none] [] M N cr sr Z := by
  refine jv_aload_n d_M_crew_0 rfl rfl ?_
  refine jv_iconst (v := 0) d_M_crew_1 (by decide) ?_
  obtain ⟨q1, h⟩ := h
  refine jv_putI d_M_crew_2 fl_M_75 (fun r hr => by cases hr; rfl) rfl q1 ?_
  refine jv_bipush (v := (-9)) d_M_crew_5 (by decide) ?_
  refine jv_istore_n (L' := [some (.ref a0), some (.int (-9)), none, none, none, none]) d_M_crew_7 rfl (Nat.le_of_ble_eq_true rfl) rfl ?_
  refine jv_iconst (v := 0) d_M_crew_8 (by decide) ?_
  refine jv_istore_n (L' := [some (.ref a0), some (.int (-9)), some (.int 0), none, none, none]) d_M_crew_9 rfl (Nat.le_of_ble_eq_true rfl) rfl ?_
  refine jv_iconst (v := 0) d_M_crew_10 (by decide) ?_
  refine jv_istore_n (L' := [some (.ref a0), some (.int (-9)), some (.int 0), some (.int 0), none, none]) d_M_crew_11 rfl (Nat.le_of_ble_eq_true rfl) rfl ?_
  exact h
theorem b_M_crew_12 {g : jv_G} {d : Nat} {M : jv_Mem} {N cr sr : Nat} {Z : Option Value → jv_Mem → Nat → Prop} {a0 : Nat} {x1 : Int32} {x2 : Int32} {x3 : Int32} (h : jv_Tg 10 a0 N ∧ ((1 <<< ((Prod.fst M a0 6) &&& 31)) ≤ x3 → Z (some (.int x1)) M N) ∧ (¬ ((1 <<< ((Prod.fst M a0 6) &&& 31)) ≤ x3) → jv_Tg 10 a0 N ∧ jv_Ct g d mt_M_allBy [.ref a0, .int x3] M N 0 0 (fun v M4 N4 => jv_ri v (fun r3 => (x1 = (-9) → jv_J g (d + 1) mt_M_crew 63 [some (.ref a0), some (.int x1), some (.int x2), some (.int x3), some (.int r3), none] [.int 1] M4 N4 cr sr Z) ∧ (¬ (x1 = (-9)) → (r3 < x2 → jv_J g (d + 1) mt_M_crew 63 [some (.ref a0), some (.int x1), some (.int x2), some (.int x3), some (.int r3), none] [.int 1] M4 N4 cr sr Z) ∧ (¬ (r3 < x2) → (r3 ≠ x2 → jv_J g (d + 1) mt_M_crew 63 [some (.ref a0), some (.int x1), some (.int x2), some (.int x3), some (.int r3), none] [.int 0] M4 N4 cr sr Z) ∧ (r3 = x2 → jv_Ct g d mt_M_ones [.int x3] M4 N4 0 0 (fun v M6 N6 => jv_ri v (fun r5 => jv_Ct g d mt_M_ones [.int x1] M6 N6 0 0 (fun v M8 N8 => jv_ri v (fun r7 => (r7 ≤ r5 → jv_J g (d + 1) mt_M_crew 63 [some (.ref a0), some (.int x1), some (.int x2), some (.int x3), some (.int r3), none] [.int 0] M8 N8 cr sr Z) ∧ (¬ (r7 ≤ r5) → jv_J g (d + 1) mt_M_crew 63 [some (.ref a0), some (.int x1), some (.int x2), some (.int x3), some (.int r3), none] [.int 1] M8 N8 cr sr Z)))))))))))) : jv_J g (d + 1) mt_M_crew 12 [some (.ref a0), some (.int x1), some (.int x2), some (.int x3), none, none] [] M N cr sr Z := by
  refine jv_iload_n d_M_crew_12 rfl rfl ?_
  refine jv_iconst (v := 1) d_M_crew_13 (by decide) ?_
  refine jv_aload_n d_M_crew_14 rfl rfl ?_
  obtain ⟨q1, h⟩ := h
  refine jv_getI d_M_crew_15 fl_M_78 rfl q1 ?_
  refine jv_ishl d_M_crew_18 ?_
  refine jv_icmp_ge (tgt := 88) d_M_crew_19 (by decide) ⟨fun c => ?_, fun c => ?_⟩
  · replace h := h.1 c
    refine jv_iload_n d_M_crew_88 rfl rfl ?_
    exact jv_iret d_M_crew_89 rfl rfl h
  · replace h := h.2 c
    refine jv_aload_n d_M_crew_22 rfl rfl ?_
    refine jv_iload_n d_M_crew_23 rfl rfl ?_
    obtain ⟨q2, h⟩ := h
    refine jv_invV [.int x3] [] d_M_crew_24 ml_M_254 q2 rfl (Nat.le_of_ble_eq_true rfl) (Nat.zero_add _) (Nat.zero_add _) (jv_Ct.mono h (fun v M4 N4 h => ?_))
    obtain ⟨r3, rfl, h⟩ := h
    change jv_J g (d + 1) mt_M_crew 27 [some (.ref a0), some (.int x1), some (.int x2), some (.int x3), none, none] [.int r3] M4 N4 cr sr Z
    refine jv_istore (L' := [some (.ref a0), some (.int x1), some (.int x2), some (.int x3), some (.int r3), none]) d_M_crew_27 (Nat.le_of_ble_eq_true rfl) rfl ?_
    refine jv_iload_n d_M_crew_29 rfl rfl ?_
    refine jv_bipush (v := (-9)) d_M_crew_30 (by decide) ?_
    refine jv_icmp_eq (tgt := 58) d_M_crew_32 (by decide) ⟨fun c => ?_, fun c => ?_⟩
    · replace h := h.1 c
      refine jv_iconst (v := 1) d_M_crew_58 (by decide) ?_
      refine jv_goto (tgt := 63) d_M_crew_59 (by decide) ?_
      exact h
    · replace h := h.2 c
      refine jv_iload d_M_crew_35 rfl ?_
      refine jv_iload_n d_M_crew_37 rfl rfl ?_
      refine jv_icmp_lt (tgt := 58) d_M_crew_38 (by decide) ⟨fun c => ?_, fun c => ?_⟩
      · replace h := h.1 c
        refine jv_iconst (v := 1) d_M_crew_58 (by decide) ?_
        refine jv_goto (tgt := 63) d_M_crew_59 (by decide) ?_
        exact h
      · replace h := h.2 c
        refine jv_iload d_M_crew_41 rfl ?_
        refine jv_iload_n d_M_crew_43 rfl rfl ?_
        refine jv_icmp_ne (tgt := 62) d_M_crew_44 (by decide) ⟨fun c => ?_, fun c => ?_⟩
        · replace h := h.1 c
          refine jv_iconst (v := 0) d_M_crew_62 (by decide) ?_
          exact h
        · replace h := h.2 c
          refine jv_iload_n d_M_crew_47 rfl rfl ?_
          refine jv_invS [.int x3] [] d_M_crew_48 ml_M_229 rfl (Nat.le_of_ble_eq_true rfl) (Nat.zero_add _) (Nat.zero_add _) (jv_Ct.mono h (fun v M6 N6 h => ?_))
          obtain ⟨r5, rfl, h⟩ := h
          change jv_J g (d + 1) mt_M_crew 51 [some (.ref a0), some (.int x1), some (.int x2), some (.int x3), some (.int r3), none] [.int r5] M6 N6 cr sr Z
          refine jv_iload_n d_M_crew_51 rfl rfl ?_
          refine jv_invS [.int x1] [.int r5] d_M_crew_52 ml_M_229 rfl (Nat.le_of_ble_eq_true rfl) (Nat.zero_add _) (Nat.zero_add _) (jv_Ct.mono h (fun v M8 N8 h => ?_))
          obtain ⟨r7, rfl, h⟩ := h
          change jv_J g (d + 1) mt_M_crew 55 [some (.ref a0), some (.int x1), some (.int x2), some (.int x3), some (.int r3), none] [.int r7, .int r5] M8 N8 cr sr Z
          refine jv_icmp_ge (tgt := 62) d_M_crew_55 (by decide) ⟨fun c => ?_, fun c => ?_⟩
          · replace h := h.1 c
            refine jv_iconst (v := 0) d_M_crew_62 (by decide) ?_
            exact h
          · replace h := h.2 c
            refine jv_iconst (v := 1) d_M_crew_58 (by decide) ?_
            refine jv_goto (tgt := 63) d_M_crew_59 (by decide) ?_
            exact h
theorem b_M_crew_63 {g : jv_G} {d : Nat} {M : jv_Mem} {N cr sr : Nat} {Z : Option Value → jv_Mem → Nat → Prop} {a0 : Nat} {x1 : Int32} {x2 : Int32} {x3 : Int32} {x4 : Int32} {y0 : Int32} (h : (x4 = (-9) → jv_J g (d + 1) mt_M_crew 12 [some (.ref a0), some (.int x1), some (.int x2), some (.int (x3 + 1)), none, none] [] M N cr sr Z) ∧ (¬ (x4 = (-9)) → (y0 = 0 → jv_J g (d + 1) mt_M_crew 12 [some (.ref a0), some (.int x1), some (.int x2), some (.int (x3 + 1)), none, none] [] M N cr sr Z) ∧ (¬ (y0 = 0) → jv_J g (d + 1) mt_M_crew 12 [some (.ref a0), some (.int x3), some (.int x4), some (.int (x3 + 1)), none, none] [] M N cr sr Z))) : jv_J g (d + 1) mt_M_crew 63 [some (.ref a0), some (.int x1), some (.int x2), some (.int x3), some (.int x4), none] [.int y0] M N cr sr Z := by
  refine jv_istore (L' := [some (.ref a0), some (.int x1), some (.int x2), some (.int x3), some (.int x4), some (.int y0)]) d_M_crew_63 (Nat.le_of_ble_eq_true rfl) rfl ?_
  refine jv_iload d_M_crew_65 rfl ?_
  refine jv_bipush (v := (-9)) d_M_crew_67 (by decide) ?_
  refine jv_icmp_eq (tgt := 82) d_M_crew_69 (by decide) ⟨fun c => ?_, fun c => ?_⟩
  · replace h := h.1 c
    refine jv_iinc (v := (x3 + 1)) (L' := [some (.ref a0), some (.int x1), some (.int x2), some (.int (x3 + 1)), some (.int x4), some (.int y0)]) d_M_crew_82 rfl rfl (Nat.le_of_ble_eq_true rfl) rfl ?_
    refine jv_goto (tgt := 12) d_M_crew_85 (by decide) ?_
    refine jv_weak (L' := [some (.ref a0), some (.int x1), some (.int x2), some (.int (x3 + 1)), none, none]) (by simp [jv_le]) ?_
    exact h
  · replace h := h.2 c
    refine jv_iload d_M_crew_72 rfl ?_
    refine jv_if_eq (tgt := 82) d_M_crew_74 (by decide) ⟨fun c => ?_, fun c => ?_⟩
    · replace h := h.1 c
      refine jv_iinc (v := (x3 + 1)) (L' := [some (.ref a0), some (.int x1), some (.int x2), some (.int (x3 + 1)), some (.int x4), some (.int y0)]) d_M_crew_82 rfl rfl (Nat.le_of_ble_eq_true rfl) rfl ?_
      refine jv_goto (tgt := 12) d_M_crew_85 (by decide) ?_
      refine jv_weak (L' := [some (.ref a0), some (.int x1), some (.int x2), some (.int (x3 + 1)), none, none]) (by simp [jv_le]) ?_
      exact h
    · replace h := h.2 c
      refine jv_iload_n d_M_crew_77 rfl rfl ?_
      refine jv_istore_n (L' := [some (.ref a0), some (.int x3), some (.int x2), some (.int x3), some (.int x4), some (.int y0)]) d_M_crew_78 rfl (Nat.le_of_ble_eq_true rfl) rfl ?_
      refine jv_iload d_M_crew_79 rfl ?_
      refine jv_istore_n (L' := [some (.ref a0), some (.int x3), some (.int x4), some (.int x3), some (.int x4), some (.int y0)]) d_M_crew_81 rfl (Nat.le_of_ble_eq_true rfl) rfl ?_
      refine jv_iinc (v := (x3 + 1)) (L' := [some (.ref a0), some (.int x3), some (.int x4), some (.int (x3 + 1)), some (.int x4), some (.int y0)]) d_M_crew_82 rfl rfl (Nat.le_of_ble_eq_true rfl) rfl ?_
      refine jv_goto (tgt := 12) d_M_crew_85 (by decide) ?_
      refine jv_weak (L' := [some (.ref a0), some (.int x3), some (.int x4), some (.int (x3 + 1)), none, none]) (by simp [jv_le]) ?_
      exact h
theorem b_M_judge_0 {g : jv_G} {d : Nat} {M : jv_Mem} {N cr sr : Nat} {Z : Option Value → jv_Mem → Nat → Prop} {a0 : Nat} {x1 : Int32} {l2 : Int64} (h : jv_Tg 10 a0 N ∧ jv_Ct g d mt_M_in [.long (Int32.toInt64 x1), .long 1, .long 3] (jv_si M a0 0 0) N 0 0 (fun v M3 N3 => jv_ri v (fun r2 => (r2 = 0 → Z (some (.int (-2))) M3 N3) ∧ (¬ (r2 = 0) → jv_Ct g d mt_M_longPower [.long 1000000, .int x1] M3 N3 0 0 (fun v M5 N5 => jv_rl v (fun r4 => jv_Ct g d mt_M_in [.long l2, .long 0, .long (r4 - 1)] M5 N5 0 0 (fun v M7 N7 => jv_ri v (fun r6 => (r6 ≠ 0 → jv_Tg 10 a0 N7 ∧ ∃ b9, Prod.fst (Prod.snd M7) a0 20 = some b9 ∧ jv_Tg 10 a0 N7 ∧ ∃ b12, Prod.fst (Prod.snd M7) a0 19 = some b12 ∧ jv_Ct g d mt_M_lay [.ref b9, .ref b12] M7 N7 0 0 (fun v M15 N15 => jv_rv v (jv_J g (d + 1) mt_M_judge 51 [some (.ref a0), some (.int x1), some (.long l2), none, some (.int 0)] [] M15 N15 cr sr Z))) ∧ (r6 = 0 → Z (some (.int (-2))) M7 N7))))))))) : jv_J g (d + 1) mt_M_judge 0 [some (.ref a0), some (.int x1), some (.long l2), none, none] [] M N cr sr Z := by
  refine jv_aload_n d_M_judge_0 rfl rfl ?_
  refine jv_iconst (v := 0) d_M_judge_1 (by decide) ?_
  obtain ⟨q1, h⟩ := h
  refine jv_putI d_M_judge_2 fl_M_75 (fun r hr => by cases hr; rfl) rfl q1 ?_
  refine jv_iload_n d_M_judge_5 rfl rfl ?_
  refine jv_i2l d_M_judge_6 ?_
  refine jv_lconst (v := 1) d_M_judge_7 (by decide) ?_
  refine jv_ldc2 d_M_judge_8 co_M_219 ?_
  refine jv_invS [.long (Int32.toInt64 x1), .long 1, .long 3] [] d_M_judge_11 ml_M_81 rfl (Nat.le_of_ble_eq_true rfl) (Nat.zero_add _) (Nat.zero_add _) (jv_Ct.mono h (fun v M3 N3 h => ?_))
  obtain ⟨r2, rfl, h⟩ := h
  change jv_J g (d + 1) mt_M_judge 14 [some (.ref a0), some (.int x1), some (.long l2), none, none] [.int r2] M3 N3 cr sr Z
  refine jv_if_eq (tgt := 34) d_M_judge_14 (by decide) ⟨fun c => ?_, fun c => ?_⟩
  · replace h := h.1 c
    refine jv_bipush (v := (-2)) d_M_judge_34 (by decide) ?_
    exact jv_iret d_M_judge_36 rfl rfl h
  · replace h := h.2 c
    refine jv_lload_n d_M_judge_17 rfl rfl ?_
    refine jv_lconst (v := 0) d_M_judge_18 (by decide) ?_
    refine jv_ldc2 d_M_judge_19 co_M_258 ?_
    refine jv_iload_n d_M_judge_22 rfl rfl ?_
    refine jv_invS [.long 1000000, .int x1] [.long 0, .long l2] d_M_judge_23 ml_M_260 rfl (Nat.le_of_ble_eq_true rfl) (Nat.zero_add _) (Nat.zero_add _) (jv_Ct.mono h (fun v M5 N5 h => ?_))
    obtain ⟨r4, rfl, h⟩ := h
    change jv_J g (d + 1) mt_M_judge 26 [some (.ref a0), some (.int x1), some (.long l2), none, none] [.long r4, .long 0, .long l2] M5 N5 cr sr Z
    refine jv_lconst (v := 1) d_M_judge_26 (by decide) ?_
    refine jv_lsub d_M_judge_27 ?_
    refine jv_invS [.long l2, .long 0, .long (r4 - 1)] [] d_M_judge_28 ml_M_81 rfl (Nat.le_of_ble_eq_true rfl) (Nat.zero_add _) (Nat.zero_add _) (jv_Ct.mono h (fun v M7 N7 h => ?_))
    obtain ⟨r6, rfl, h⟩ := h
    change jv_J g (d + 1) mt_M_judge 31 [some (.ref a0), some (.int x1), some (.long l2), none, none] [.int r6] M7 N7 cr sr Z
    refine jv_if_ne (tgt := 37) d_M_judge_31 (by decide) ⟨fun c => ?_, fun c => ?_⟩
    · replace h := h.1 c
      refine jv_aload_n d_M_judge_37 rfl rfl ?_
      obtain ⟨q8, h⟩ := h
      obtain ⟨b9, e10, h⟩ := h
      refine jv_getR d_M_judge_38 fl_M_43 rfl q8 e10 ?_
      refine jv_aload_n d_M_judge_41 rfl rfl ?_
      obtain ⟨q11, h⟩ := h
      obtain ⟨b12, e13, h⟩ := h
      refine jv_getR d_M_judge_42 fl_M_40 rfl q11 e13 ?_
      refine jv_invS [.ref b9, .ref b12] [] d_M_judge_45 ml_M_131 rfl (Nat.le_of_ble_eq_true rfl) (Nat.zero_add _) (Nat.zero_add _) (jv_Ct.mono h (fun v M15 N15 h => ?_))
      obtain ⟨rfl, h⟩ := h
      change jv_J g (d + 1) mt_M_judge 48 [some (.ref a0), some (.int x1), some (.long l2), none, none] [] M15 N15 cr sr Z
      refine jv_iconst (v := 0) d_M_judge_48 (by decide) ?_
      refine jv_istore (L' := [some (.ref a0), some (.int x1), some (.long l2), none, some (.int 0)]) d_M_judge_49 (Nat.le_of_ble_eq_true rfl) rfl ?_
      exact h
    · replace h := h.2 c
      refine jv_bipush (v := (-2)) d_M_judge_34 (by decide) ?_
      exact jv_iret d_M_judge_36 rfl rfl h
theorem b_M_judge_51 {g : jv_G} {d : Nat} {M : jv_Mem} {N cr sr : Nat} {Z : Option Value → jv_Mem → Nat → Prop} {a0 : Nat} {x1 : Int32} {l2 : Int64} {x4 : Int32} (h : (x1 ≤ x4 → Z (some (.int (-9))) M N) ∧ (¬ (x1 ≤ x4) → jv_Ct g d mt_M_longPower [.long 1000000, .int ((x1 - 1) - x4)] M N 0 0 (fun v M2 N2 => jv_rl v (fun r1 => ¬ r1 = 0 ∧ jv_Tg 10 a0 N2 ∧ jv_Ct g d mt_M_does [.ref a0, .int (Int64.toInt32 ((l2 / r1) - (l2 / r1) / 1000000 * 1000000))] M2 N2 0 0 (fun v M6 N6 => jv_ri v (fun r5 => (r5 ≠ 0 → jv_J g (d + 1) mt_M_judge 51 [some (.ref a0), some (.int x1), some (.long l2), none, some (.int (x4 + 1))] [] M6 N6 cr sr Z) ∧ (r5 = 0 → Z (some (.int x4)) M6 N6))))))) : jv_J g (d + 1) mt_M_judge 51 [some (.ref a0), some (.int x1), some (.long l2), none, some (.int x4)] [] M N cr sr Z := by
  refine jv_iload d_M_judge_51 rfl ?_
  refine jv_iload_n d_M_judge_53 rfl rfl ?_
  refine jv_icmp_ge (tgt := 92) d_M_judge_54 (by decide) ⟨fun c => ?_, fun c => ?_⟩
  · replace h := h.1 c
    refine jv_bipush (v := (-9)) d_M_judge_92 (by decide) ?_
    exact jv_iret d_M_judge_94 rfl rfl h
  · replace h := h.2 c
    refine jv_aload_n d_M_judge_57 rfl rfl ?_
    refine jv_lload_n d_M_judge_58 rfl rfl ?_
    refine jv_ldc2 d_M_judge_59 co_M_258 ?_
    refine jv_iload_n d_M_judge_62 rfl rfl ?_
    refine jv_iconst (v := 1) d_M_judge_63 (by decide) ?_
    refine jv_isub d_M_judge_64 ?_
    refine jv_iload d_M_judge_65 rfl ?_
    refine jv_isub d_M_judge_67 ?_
    refine jv_invS [.long 1000000, .int ((x1 - 1) - x4)] [.long l2, .ref a0] d_M_judge_68 ml_M_260 rfl (Nat.le_of_ble_eq_true rfl) (Nat.zero_add _) (Nat.zero_add _) (jv_Ct.mono h (fun v M2 N2 h => ?_))
    obtain ⟨r1, rfl, h⟩ := h
    change jv_J g (d + 1) mt_M_judge 71 [some (.ref a0), some (.int x1), some (.long l2), none, some (.int x4)] [.long r1, .long l2, .ref a0] M2 N2 cr sr Z
    obtain ⟨q3, h⟩ := h
    refine jv_ldiv d_M_judge_71 q3 ?_
    refine jv_ldc2 d_M_judge_72 co_M_258 ?_
    refine jv_lrem d_M_judge_75 (by decide) ?_
    refine jv_l2i d_M_judge_76 ?_
    obtain ⟨q4, h⟩ := h
    refine jv_invV [.int (Int64.toInt32 ((l2 / r1) - (l2 / r1) / 1000000 * 1000000))] [] d_M_judge_77 ml_M_264 q4 rfl (Nat.le_of_ble_eq_true rfl) (Nat.zero_add _) (Nat.zero_add _) (jv_Ct.mono h (fun v M6 N6 h => ?_))
    obtain ⟨r5, rfl, h⟩ := h
    change jv_J g (d + 1) mt_M_judge 80 [some (.ref a0), some (.int x1), some (.long l2), none, some (.int x4)] [.int r5] M6 N6 cr sr Z
    refine jv_if_ne (tgt := 86) d_M_judge_80 (by decide) ⟨fun c => ?_, fun c => ?_⟩
    · replace h := h.1 c
      refine jv_iinc (v := (x4 + 1)) (L' := [some (.ref a0), some (.int x1), some (.long l2), none, some (.int (x4 + 1))]) d_M_judge_86 rfl rfl (Nat.le_of_ble_eq_true rfl) rfl ?_
      refine jv_goto (tgt := 51) d_M_judge_89 (by decide) ?_
      exact h
    · replace h := h.2 c
      refine jv_iload d_M_judge_83 rfl ?_
      exact jv_iret d_M_judge_85 rfl rfl h
theorem b_M_longPower_0 {g : jv_G} {d : Nat} {M : jv_Mem} {N cr sr : Nat} {Z : Option Value → jv_Mem → Nat → Prop} {l0 : Int64} {x2 : Int32} (h : jv_J g d mt_M_longPower 5 [some (.long l0), none, some (.int x2), some (.long 1), none, some (.int 0)] [] M N cr sr Z) : jv_J g d mt_M_longPower 0 [some (.long l0), none, some (.int x2), none, none, none] [] M N cr sr Z := by
  refine jv_lconst (v := 1) d_M_longPower_0 (by decide) ?_
  refine jv_lstore_n (L' := [some (.long l0), none, some (.int x2), some (.long 1), none, none]) d_M_longPower_1 rfl (Nat.le_of_ble_eq_true rfl) rfl ?_
  refine jv_iconst (v := 0) d_M_longPower_2 (by decide) ?_
  refine jv_istore (L' := [some (.long l0), none, some (.int x2), some (.long 1), none, some (.int 0)]) d_M_longPower_3 (Nat.le_of_ble_eq_true rfl) rfl ?_
  exact h
theorem b_M_longPower_5 {g : jv_G} {d : Nat} {M : jv_Mem} {N cr sr : Nat} {Z : Option Value → jv_Mem → Nat → Prop} {l0 : Int64} {x2 : Int32} {l3 : Int64} {x5 : Int32} (h : (x2 ≤ x5 → Z (some (.long l3)) M N) ∧ (¬ (x2 ≤ x5) → jv_J g d mt_M_longPower 5 [some (.long l0), none, some (.int x2), some (.long (l3 * l0)), none, some (.int (x5 + 1))] [] M N cr sr Z)) : jv_J g d mt_M_longPower 5 [some (.long l0), none, some (.int x2), some (.long l3), none, some (.int x5)] [] M N cr sr Z := by
  refine jv_iload d_M_longPower_5 rfl ?_
  refine jv_iload_n d_M_longPower_7 rfl rfl ?_
  refine jv_icmp_ge (tgt := 21) d_M_longPower_8 (by decide) ⟨fun c => ?_, fun c => ?_⟩
  · replace h := h.1 c
    refine jv_lload_n d_M_longPower_21 rfl rfl ?_
    exact jv_lret d_M_longPower_22 rfl h
  · replace h := h.2 c
    refine jv_lload_n d_M_longPower_11 rfl rfl ?_
    refine jv_lload_n d_M_longPower_12 rfl rfl ?_
    refine jv_lmul d_M_longPower_13 ?_
    refine jv_lstore_n (L' := [some (.long l0), none, some (.int x2), some (.long (l3 * l0)), none, some (.int x5)]) d_M_longPower_14 rfl (Nat.le_of_ble_eq_true rfl) rfl ?_
    refine jv_iinc (v := (x5 + 1)) (L' := [some (.long l0), none, some (.int x2), some (.long (l3 * l0)), none, some (.int (x5 + 1))]) d_M_longPower_15 rfl rfl (Nat.le_of_ble_eq_true rfl) rfl ?_
    refine jv_goto (tgt := 5) d_M_longPower_18 (by decide) ?_
    exact h
theorem b_M_does_0 {g : jv_G} {d : Nat} {M : jv_Mem} {N cr sr : Nat} {Z : Option Value → jv_Mem → Nat → Prop} {a0 : Nat} {x1 : Int32} (h : ((x1 / 100000) = 1 → (((10 * ((x1 / 10000) - (x1 / 10000) / 10 * 10)) + ((x1 / 1000) - (x1 / 1000) / 10 * 10)) = 0 → Z (some (.int 0)) M N) ∧ (¬ (((10 * ((x1 / 10000) - (x1 / 10000) / 10 * 10)) + ((x1 / 1000) - (x1 / 1000) / 10 * 10)) = 0) → ((x1 - x1 / 1000 * 1000) = 0 → jv_Tg 10 a0 N ∧ ∃ b3, Prod.fst (Prod.snd M) a0 20 = some b3 ∧ jv_Tg 10 a0 N ∧ jv_Ct g d mt_M_tickMany [.ref a0, .ref b3, .int ((10 * ((x1 / 10000) - (x1 / 10000) / 10 * 10)) + ((x1 / 1000) - (x1 / 1000) / 10 * 10))] M N 0 0 (fun v M7 N7 => jv_rv v (Z (some (.int 1)) M7 N7))) ∧ (¬ ((x1 - x1 / 1000 * 1000) = 0) → Z (some (.int 0)) M N))) ∧ ((x1 / 100000) = 2 → (2 < ((x1 / 10000) - (x1 / 10000) / 10 * 10) → Z (some (.int 0)) M N) ∧ (¬ (2 < ((x1 / 10000) - (x1 / 10000) / 10 * 10)) → jv_Tg 10 a0 N ∧ ((Prod.fst M a0 6) ≤ ((x1 / 1000) - (x1 / 1000) / 10 * 10) → Z (some (.int 0)) M N) ∧ (¬ ((Prod.fst M a0 6) ≤ ((x1 / 1000) - (x1 / 1000) / 10 * 10)) → ((x1 - x1 / 1000 * 1000) ≠ 0 → Z (some (.int 0)) M N) ∧ ((x1 - x1 / 1000 * 1000) = 0 → jv_Tg 10 a0 N ∧ ∃ b10, Prod.fst (Prod.snd M) a0 20 = some b10 ∧ jv_Tg 11 b10 N ∧ vp_in 80 (jv_sh b10).2 ∧ ((Prod.fst M b10 (Int32.toNatClampNeg 80)) < 8 → jv_Tg 10 a0 N ∧ ∃ b15, Prod.fst (Prod.snd M) a0 20 = some b15 ∧ jv_Ct g d mt_M_sendOn [.ref b15, .int ((x1 / 10000) - (x1 / 10000) / 10 * 10), .int ((x1 / 1000) - (x1 / 1000) / 10 * 10), .int 0, .int 0] M N 0 0 (fun v M18 N18 => jv_rv v (Z (some (.int 1)) M18 N18))) ∧ (¬ ((Prod.fst M b10 (Int32.toNatClampNeg 80)) < 8) → Z (some (.int 0)) M N))))) ∧ ((x1 / 100000) = 3 → jv_Tg 10 a0 N ∧ ((Prod.fst M a0 6) ≤ ((x1 / 10000) - (x1 / 10000) / 10 * 10) → Z (some (.int 0)) M N) ∧ (¬ ((Prod.fst M a0 6) ≤ ((x1 / 10000) - (x1 / 10000) / 10 * 10)) → (3 ≤ ((x1 / 1000) - (x1 / 1000) / 10 * 10) → Z (some (.int 0)) M N) ∧ (¬ (3 ≤ ((x1 / 1000) - (x1 / 1000) / 10 * 10)) → ((x1 - x1 / 1000 * 1000) ≠ 0 → Z (some (.int 0)) M N) ∧ ((x1 - x1 / 1000 * 1000) = 0 → jv_Tg 10 a0 N ∧ ∃ b21, Prod.fst (Prod.snd M) a0 20 = some b21 ∧ jv_Tg 11 b21 N ∧ vp_in ((8 * ((x1 / 10000) - (x1 / 10000) / 10 * 10)) + 1) (jv_sh b21).2 ∧ ((Prod.fst M b21 (Int32.toNatClampNeg ((8 * ((x1 / 10000) - (x1 / 10000) / 10 * 10)) + 1))) ≠ ((x1 / 1000) - (x1 / 1000) / 10 * 10) → Z (some (.int 0)) M N) ∧ ((Prod.fst M b21 (Int32.toNatClampNeg ((8 * ((x1 / 10000) - (x1 / 10000) / 10 * 10)) + 1))) = ((x1 / 1000) - (x1 / 1000) / 10 * 10) → Z (some (.int 1)) M N))))) ∧ ((x1 / 100000) = 4 → jv_Tg 10 a0 N ∧ ((Prod.fst M a0 6) ≤ ((x1 / 10000) - (x1 / 10000) / 10 * 10) → Z (some (.int 0)) M N) ∧ (¬ ((Prod.fst M a0 6) ≤ ((x1 / 10000) - (x1 / 10000) / 10 * 10)) → (4 ≤ ((x1 / 1000) - (x1 / 1000) / 10 * 10) → Z (some (.int 0)) M N) ∧ (¬ (4 ≤ ((x1 / 1000) - (x1 / 1000) / 10 * 10)) → jv_Tg 10 a0 N ∧ ∃ b27, Prod.fst (Prod.snd M) a0 20 = some b27 ∧ jv_Tg 11 b27 N ∧ vp_in (((8 * ((x1 / 10000) - (x1 / 10000) / 10 * 10)) + 4) + ((x1 / 1000) - (x1 / 1000) / 10 * 10)) (jv_sh b27).2 ∧ ((Prod.fst M b27 (Int32.toNatClampNeg (((8 * ((x1 / 10000) - (x1 / 10000) / 10 * 10)) + 4) + ((x1 / 1000) - (x1 / 1000) / 10 * 10)))) ≠ (x1 - x1 / 1000 * 1000) → Z (some (.int 0)) M N) ∧ ((Prod.fst M b27 (Int32.toNatClampNeg (((8 * ((x1 / 10000) - (x1 / 10000) / 10 * 10)) + 4) + ((x1 / 1000) - (x1 / 1000) / 10 * 10)))) = (x1 - x1 / 1000 * 1000) → Z (some (.int 1)) M N)))) ∧ ((x1 / 100000) = 5 → (8 ≤ ((x1 / 10000) - (x1 / 10000) / 10 * 10) → Z (some (.int 0)) M N) ∧ (¬ (8 ≤ ((x1 / 10000) - (x1 / 10000) / 10 * 10)) → (((x1 / 1000) - (x1 / 1000) / 10 * 10) ≠ 0 → Z (some (.int 0)) M N) ∧ (((x1 / 1000) - (x1 / 1000) / 10 * 10) = 0 → jv_Tg 10 a0 N ∧ ∃ b32, Prod.fst (Prod.snd M) a0 20 = some b32 ∧ jv_Tg 11 b32 N ∧ vp_in (32 + ((x1 / 10000) - (x1 / 10000) / 10 * 10)) (jv_sh b32).2 ∧ ((Prod.fst M b32 (Int32.toNatClampNeg (32 + ((x1 / 10000) - (x1 / 10000) / 10 * 10)))) ≠ (x1 - x1 / 1000 * 1000) → Z (some (.int 0)) M N) ∧ ((Prod.fst M b32 (Int32.toNatClampNeg (32 + ((x1 / 10000) - (x1 / 10000) / 10 * 10)))) = (x1 - x1 / 1000 * 1000) → Z (some (.int 1)) M N)))) ∧ ((x1 / 100000) = 6 → (((x1 / 1000) - (x1 / 1000) / 10 * 10) ≠ 0 → Z (some (.int 0)) M N) ∧ (((x1 / 1000) - (x1 / 1000) / 10 * 10) = 0 → ((x1 - x1 / 1000 * 1000) ≠ 0 → Z (some (.int 0)) M N) ∧ ((x1 - x1 / 1000 * 1000) = 0 → jv_Tg 10 a0 N ∧ ∃ b37, Prod.fst (Prod.snd M) a0 20 = some b37 ∧ jv_Tg 11 b37 N ∧ vp_in 76 (jv_sh b37).2 ∧ ((Prod.fst M b37 (Int32.toNatClampNeg 76)) ≠ ((x1 / 10000) - (x1 / 10000) / 10 * 10) → Z (some (.int 0)) M N) ∧ ((Prod.fst M b37 (Int32.toNatClampNeg 76)) = ((x1 / 10000) - (x1 / 10000) / 10 * 10) → Z (some (.int 1)) M N)))) ∧ ((x1 / 100000) = 7 → jv_Tg 10 a0 N ∧ ((Prod.fst M a0 6) ≤ ((x1 / 10000) - (x1 / 10000) / 10 * 10) → Z (some (.int 0)) M N) ∧ (¬ ((Prod.fst M a0 6) ≤ ((x1 / 10000) - (x1 / 10000) / 10 * 10)) → (((x1 - x1 / 1000 * 1000) - (x1 - x1 / 1000 * 1000) / 100 * 100) ≠ 0 → Z (some (.int 0)) M N) ∧ (((x1 - x1 / 1000 * 1000) - (x1 - x1 / 1000 * 1000) / 100 * 100) = 0 → jv_Tg 10 a0 N ∧ ∃ b43, Prod.fst (Prod.snd M) a0 20 = some b43 ∧ jv_Tg 11 b43 N ∧ vp_in (8 * ((x1 / 10000) - (x1 / 10000) / 10 * 10)) (jv_sh b43).2 ∧ ((Prod.fst M b43 (Int32.toNatClampNeg (8 * ((x1 / 10000) - (x1 / 10000) / 10 * 10)))) ≠ ((10 * ((x1 / 1000) - (x1 / 1000) / 10 * 10)) + ((x1 - x1 / 1000 * 1000) / 100)) → Z (some (.int 0)) M N) ∧ ((Prod.fst M b43 (Int32.toNatClampNeg (8 * ((x1 / 10000) - (x1 / 10000) / 10 * 10)))) = ((10 * ((x1 / 1000) - (x1 / 1000) / 10 * 10)) + ((x1 - x1 / 1000 * 1000) / 100)) → Z (some (.int 1)) M N)))) ∧ (((x1 / 100000) ≠ 1 ∧ (x1 / 100000) ≠ 2 ∧ (x1 / 100000) ≠ 3 ∧ (x1 / 100000) ≠ 4 ∧ (x1 / 100000) ≠ 5 ∧ (x1 / 100000) ≠ 6 ∧ (x1 / 100000) ≠ 7) → Z (some (.int 0)) M N)) : jv_J g (d + 1) mt_M_does 0 [some (.ref a0), some (.int x1), none, none, none] [] M N cr sr Z := by
  refine jv_iload_n d_M_does_0 rfl rfl ?_
  refine jv_sipush (v := 10000) d_M_does_1 (by decide) ?_
  refine jv_idiv d_M_does_4 (by decide) ?_
  refine jv_bipush (v := 10) d_M_does_5 (by decide) ?_
  refine jv_irem d_M_does_7 (by decide) ?_
  refine jv_istore_n (L' := [some (.ref a0), some (.int x1), some (.int ((x1 / 10000) - (x1 / 10000) / 10 * 10)), none, none]) d_M_does_8 rfl (Nat.le_of_ble_eq_true rfl) rfl ?_
  refine jv_iload_n d_M_does_9 rfl rfl ?_
  refine jv_sipush (v := 1000) d_M_does_10 (by decide) ?_
  refine jv_idiv d_M_does_13 (by decide) ?_
  refine jv_bipush (v := 10) d_M_does_14 (by decide) ?_
  refine jv_irem d_M_does_16 (by decide) ?_
  refine jv_istore_n (L' := [some (.ref a0), some (.int x1), some (.int ((x1 / 10000) - (x1 / 10000) / 10 * 10)), some (.int ((x1 / 1000) - (x1 / 1000) / 10 * 10)), none]) d_M_does_17 rfl (Nat.le_of_ble_eq_true rfl) rfl ?_
  refine jv_iload_n d_M_does_18 rfl rfl ?_
  refine jv_sipush (v := 1000) d_M_does_19 (by decide) ?_
  refine jv_irem d_M_does_22 (by decide) ?_
  refine jv_istore (L' := [some (.ref a0), some (.int x1), some (.int ((x1 / 10000) - (x1 / 10000) / 10 * 10)), some (.int ((x1 / 1000) - (x1 / 1000) / 10 * 10)), some (.int (x1 - x1 / 1000 * 1000))]) d_M_does_23 (Nat.le_of_ble_eq_true rfl) rfl ?_
  refine jv_iload_n d_M_does_25 rfl rfl ?_
  refine jv_ldcw d_M_does_26 co_M_257 ?_
  refine jv_idiv d_M_does_29 (by decide) ?_
  have hD1 : ((x1 / 100000) ≠ 1 ∧ (x1 / 100000) ≠ 2 ∧ (x1 / 100000) ≠ 3 ∧ (x1 / 100000) ≠ 4 ∧ (x1 / 100000) ≠ 5 ∧ (x1 / 100000) ≠ 6 ∧ (x1 / 100000) ≠ 7) → jv_J g (d + 1) mt_M_does 325 [some (.ref a0), some (.int x1), some (.int ((x1 / 10000) - (x1 / 10000) / 10 * 10)), some (.int ((x1 / 1000) - (x1 / 1000) / 10 * 10)), some (.int (x1 - x1 / 1000 * 1000))] [] M N cr sr Z := by
    intro c
    replace h := h.2.2.2.2.2.2.2 c
    refine jv_iconst (v := 0) d_M_does_325 (by decide) ?_
    exact jv_iret d_M_does_326 rfl (jv_nz (by decide)) h
  refine jv_tsw (dt := 325) [(1, 72), (2, 104), (3, 149), (4, 188), (5, 225), (6, 255), (7, 281)] d_M_does_30 (by decide) (by decide) (by decide) (fun q hq hx => ?_) (fun hq => ?_)
  · simp only [List.mem_cons, List.not_mem_nil, or_false] at hq
    rcases hq with rfl | rfl | rfl | rfl | rfl | rfl | rfl
    · replace h := h.1 hx
      refine jv_bipush (v := 10) d_M_does_72 (by decide) ?_
      refine jv_iload_n d_M_does_74 rfl rfl ?_
      refine jv_imul d_M_does_75 ?_
      refine jv_iload_n d_M_does_76 rfl rfl ?_
      refine jv_iadd d_M_does_77 ?_
      refine jv_if_eq (tgt := 86) d_M_does_78 (by decide) ⟨fun c => ?_, fun c => ?_⟩
      · replace h := h.1 c
        refine jv_iconst (v := 0) d_M_does_86 (by decide) ?_
        exact jv_iret d_M_does_87 rfl (jv_nz (by decide)) h
      · replace h := h.2 c
        refine jv_iload d_M_does_81 rfl ?_
        refine jv_if_eq (tgt := 88) d_M_does_83 (by decide) ⟨fun c => ?_, fun c => ?_⟩
        · replace h := h.1 c
          refine jv_aload_n d_M_does_88 rfl rfl ?_
          refine jv_aload_n d_M_does_89 rfl rfl ?_
          obtain ⟨q2, h⟩ := h
          obtain ⟨b3, e4, h⟩ := h
          refine jv_getR d_M_does_90 fl_M_43 rfl q2 e4 ?_
          refine jv_bipush (v := 10) d_M_does_93 (by decide) ?_
          refine jv_iload_n d_M_does_95 rfl rfl ?_
          refine jv_imul d_M_does_96 ?_
          refine jv_iload_n d_M_does_97 rfl rfl ?_
          refine jv_iadd d_M_does_98 ?_
          obtain ⟨q5, h⟩ := h
          refine jv_invV [.ref b3, .int ((10 * ((x1 / 10000) - (x1 / 10000) / 10 * 10)) + ((x1 / 1000) - (x1 / 1000) / 10 * 10))] [] d_M_does_99 ml_M_226 q5 rfl (Nat.le_of_ble_eq_true rfl) (Nat.zero_add _) (Nat.zero_add _) (jv_Ct.mono h (fun v M7 N7 h => ?_))
          obtain ⟨rfl, h⟩ := h
          change jv_J g (d + 1) mt_M_does 102 [some (.ref a0), some (.int x1), some (.int ((x1 / 10000) - (x1 / 10000) / 10 * 10)), some (.int ((x1 / 1000) - (x1 / 1000) / 10 * 10)), some (.int (x1 - x1 / 1000 * 1000))] [] M7 N7 cr sr Z
          refine jv_iconst (v := 1) d_M_does_102 (by decide) ?_
          exact jv_iret d_M_does_103 rfl (jv_nz (by decide)) h
        · replace h := h.2 c
          refine jv_iconst (v := 0) d_M_does_86 (by decide) ?_
          exact jv_iret d_M_does_87 rfl (jv_nz (by decide)) h
    · replace h := h.2.1 hx
      refine jv_iload_n d_M_does_104 rfl rfl ?_
      refine jv_iconst (v := 2) d_M_does_105 (by decide) ?_
      refine jv_icmp_gt (tgt := 134) d_M_does_106 (by decide) ⟨fun c => ?_, fun c => ?_⟩
      · replace h := h.1 c
        refine jv_iconst (v := 0) d_M_does_134 (by decide) ?_
        exact jv_iret d_M_does_135 rfl (jv_nz (by decide)) h
      · replace h := h.2 c
        refine jv_iload_n d_M_does_109 rfl rfl ?_
        refine jv_aload_n d_M_does_110 rfl rfl ?_
        obtain ⟨q8, h⟩ := h
        refine jv_getI d_M_does_111 fl_M_78 rfl q8 ?_
        refine jv_icmp_ge (tgt := 134) d_M_does_114 (by decide) ⟨fun c => ?_, fun c => ?_⟩
        · replace h := h.1 c
          refine jv_iconst (v := 0) d_M_does_134 (by decide) ?_
          exact jv_iret d_M_does_135 rfl (jv_nz (by decide)) h
        · replace h := h.2 c
          refine jv_iload d_M_does_117 rfl ?_
          refine jv_if_ne (tgt := 134) d_M_does_119 (by decide) ⟨fun c => ?_, fun c => ?_⟩
          · replace h := h.1 c
            refine jv_iconst (v := 0) d_M_does_134 (by decide) ?_
            exact jv_iret d_M_does_135 rfl (jv_nz (by decide)) h
          · replace h := h.2 c
            refine jv_aload_n d_M_does_122 rfl rfl ?_
            obtain ⟨q9, h⟩ := h
            obtain ⟨b10, e11, h⟩ := h
            refine jv_getR d_M_does_123 fl_M_43 rfl q9 e11 ?_
            refine jv_bipush (v := 80) d_M_does_126 (by decide) ?_
            obtain ⟨q12, q13, h⟩ := h
            refine jv_iald d_M_does_128 q12 q13 ?_
            refine jv_bipush (v := 8) d_M_does_129 (by decide) ?_
            refine jv_icmp_lt (tgt := 136) d_M_does_131 (by decide) ⟨fun c => ?_, fun c => ?_⟩
            · replace h := h.1 c
              refine jv_aload_n d_M_does_136 rfl rfl ?_
              obtain ⟨q14, h⟩ := h
              obtain ⟨b15, e16, h⟩ := h
              refine jv_getR d_M_does_137 fl_M_43 rfl q14 e16 ?_
              refine jv_iload_n d_M_does_140 rfl rfl ?_
              refine jv_iload_n d_M_does_141 rfl rfl ?_
              refine jv_iconst (v := 0) d_M_does_142 (by decide) ?_
              refine jv_iconst (v := 0) d_M_does_143 (by decide) ?_
              refine jv_invS [.ref b15, .int ((x1 / 10000) - (x1 / 10000) / 10 * 10), .int ((x1 / 1000) - (x1 / 1000) / 10 * 10), .int 0, .int 0] [] d_M_does_144 ml_M_240 rfl (Nat.le_of_ble_eq_true rfl) (Nat.zero_add _) (Nat.zero_add _) (jv_Ct.mono h (fun v M18 N18 h => ?_))
              obtain ⟨rfl, h⟩ := h
              change jv_J g (d + 1) mt_M_does 147 [some (.ref a0), some (.int x1), some (.int ((x1 / 10000) - (x1 / 10000) / 10 * 10)), some (.int ((x1 / 1000) - (x1 / 1000) / 10 * 10)), some (.int (x1 - x1 / 1000 * 1000))] [] M18 N18 cr sr Z
              refine jv_iconst (v := 1) d_M_does_147 (by decide) ?_
              exact jv_iret d_M_does_148 rfl (jv_nz (by decide)) h
            · replace h := h.2 c
              refine jv_iconst (v := 0) d_M_does_134 (by decide) ?_
              exact jv_iret d_M_does_135 rfl (jv_nz (by decide)) h
    · replace h := h.2.2.1 hx
      refine jv_iload_n d_M_does_149 rfl rfl ?_
      refine jv_aload_n d_M_does_150 rfl rfl ?_
      obtain ⟨q19, h⟩ := h
      refine jv_getI d_M_does_151 fl_M_78 rfl q19 ?_
      refine jv_icmp_ge (tgt := 186) d_M_does_154 (by decide) ⟨fun c => ?_, fun c => ?_⟩
      · replace h := h.1 c
        refine jv_iconst (v := 0) d_M_does_186 (by decide) ?_
        exact jv_iret d_M_does_187 rfl (jv_nz (by decide)) h
      · replace h := h.2 c
        refine jv_iload_n d_M_does_157 rfl rfl ?_
        refine jv_iconst (v := 3) d_M_does_158 (by decide) ?_
        refine jv_icmp_ge (tgt := 186) d_M_does_159 (by decide) ⟨fun c => ?_, fun c => ?_⟩
        · replace h := h.1 c
          refine jv_iconst (v := 0) d_M_does_186 (by decide) ?_
          exact jv_iret d_M_does_187 rfl (jv_nz (by decide)) h
        · replace h := h.2 c
          refine jv_iload d_M_does_162 rfl ?_
          refine jv_if_ne (tgt := 186) d_M_does_164 (by decide) ⟨fun c => ?_, fun c => ?_⟩
          · replace h := h.1 c
            refine jv_iconst (v := 0) d_M_does_186 (by decide) ?_
            exact jv_iret d_M_does_187 rfl (jv_nz (by decide)) h
          · replace h := h.2 c
            refine jv_aload_n d_M_does_167 rfl rfl ?_
            obtain ⟨q20, h⟩ := h
            obtain ⟨b21, e22, h⟩ := h
            refine jv_getR d_M_does_168 fl_M_43 rfl q20 e22 ?_
            refine jv_bipush (v := 8) d_M_does_171 (by decide) ?_
            refine jv_iload_n d_M_does_173 rfl rfl ?_
            refine jv_imul d_M_does_174 ?_
            refine jv_iconst (v := 1) d_M_does_175 (by decide) ?_
            refine jv_iadd d_M_does_176 ?_
            obtain ⟨q23, q24, h⟩ := h
            refine jv_iald d_M_does_177 q23 q24 ?_
            refine jv_iload_n d_M_does_178 rfl rfl ?_
            refine jv_icmp_ne (tgt := 186) d_M_does_179 (by decide) ⟨fun c => ?_, fun c => ?_⟩
            · replace h := h.1 c
              refine jv_iconst (v := 0) d_M_does_186 (by decide) ?_
              exact jv_iret d_M_does_187 rfl (jv_nz (by decide)) h
            · replace h := h.2 c
              refine jv_iconst (v := 1) d_M_does_182 (by decide) ?_
              refine jv_goto (tgt := 187) d_M_does_183 (by decide) ?_
              exact jv_iret d_M_does_187 rfl (jv_nz (by decide)) h
    · replace h := h.2.2.2.1 hx
      refine jv_iload_n d_M_does_188 rfl rfl ?_
      refine jv_aload_n d_M_does_189 rfl rfl ?_
      obtain ⟨q25, h⟩ := h
      refine jv_getI d_M_does_190 fl_M_78 rfl q25 ?_
      refine jv_icmp_ge (tgt := 223) d_M_does_193 (by decide) ⟨fun c => ?_, fun c => ?_⟩
      · replace h := h.1 c
        refine jv_iconst (v := 0) d_M_does_223 (by decide) ?_
        exact jv_iret d_M_does_224 rfl (jv_nz (by decide)) h
      · replace h := h.2 c
        refine jv_iload_n d_M_does_196 rfl rfl ?_
        refine jv_iconst (v := 4) d_M_does_197 (by decide) ?_
        refine jv_icmp_ge (tgt := 223) d_M_does_198 (by decide) ⟨fun c => ?_, fun c => ?_⟩
        · replace h := h.1 c
          refine jv_iconst (v := 0) d_M_does_223 (by decide) ?_
          exact jv_iret d_M_does_224 rfl (jv_nz (by decide)) h
        · replace h := h.2 c
          refine jv_aload_n d_M_does_201 rfl rfl ?_
          obtain ⟨q26, h⟩ := h
          obtain ⟨b27, e28, h⟩ := h
          refine jv_getR d_M_does_202 fl_M_43 rfl q26 e28 ?_
          refine jv_bipush (v := 8) d_M_does_205 (by decide) ?_
          refine jv_iload_n d_M_does_207 rfl rfl ?_
          refine jv_imul d_M_does_208 ?_
          refine jv_iconst (v := 4) d_M_does_209 (by decide) ?_
          refine jv_iadd d_M_does_210 ?_
          refine jv_iload_n d_M_does_211 rfl rfl ?_
          refine jv_iadd d_M_does_212 ?_
          obtain ⟨q29, q30, h⟩ := h
          refine jv_iald d_M_does_213 q29 q30 ?_
          refine jv_iload d_M_does_214 rfl ?_
          refine jv_icmp_ne (tgt := 223) d_M_does_216 (by decide) ⟨fun c => ?_, fun c => ?_⟩
          · replace h := h.1 c
            refine jv_iconst (v := 0) d_M_does_223 (by decide) ?_
            exact jv_iret d_M_does_224 rfl (jv_nz (by decide)) h
          · replace h := h.2 c
            refine jv_iconst (v := 1) d_M_does_219 (by decide) ?_
            refine jv_goto (tgt := 224) d_M_does_220 (by decide) ?_
            exact jv_iret d_M_does_224 rfl (jv_nz (by decide)) h
    · replace h := h.2.2.2.2.1 hx
      refine jv_iload_n d_M_does_225 rfl rfl ?_
      refine jv_bipush (v := 8) d_M_does_226 (by decide) ?_
      refine jv_icmp_ge (tgt := 253) d_M_does_228 (by decide) ⟨fun c => ?_, fun c => ?_⟩
      · replace h := h.1 c
        refine jv_iconst (v := 0) d_M_does_253 (by decide) ?_
        exact jv_iret d_M_does_254 rfl (jv_nz (by decide)) h
      · replace h := h.2 c
        refine jv_iload_n d_M_does_231 rfl rfl ?_
        refine jv_if_ne (tgt := 253) d_M_does_232 (by decide) ⟨fun c => ?_, fun c => ?_⟩
        · replace h := h.1 c
          refine jv_iconst (v := 0) d_M_does_253 (by decide) ?_
          exact jv_iret d_M_does_254 rfl (jv_nz (by decide)) h
        · replace h := h.2 c
          refine jv_aload_n d_M_does_235 rfl rfl ?_
          obtain ⟨q31, h⟩ := h
          obtain ⟨b32, e33, h⟩ := h
          refine jv_getR d_M_does_236 fl_M_43 rfl q31 e33 ?_
          refine jv_bipush (v := 32) d_M_does_239 (by decide) ?_
          refine jv_iload_n d_M_does_241 rfl rfl ?_
          refine jv_iadd d_M_does_242 ?_
          obtain ⟨q34, q35, h⟩ := h
          refine jv_iald d_M_does_243 q34 q35 ?_
          refine jv_iload d_M_does_244 rfl ?_
          refine jv_icmp_ne (tgt := 253) d_M_does_246 (by decide) ⟨fun c => ?_, fun c => ?_⟩
          · replace h := h.1 c
            refine jv_iconst (v := 0) d_M_does_253 (by decide) ?_
            exact jv_iret d_M_does_254 rfl (jv_nz (by decide)) h
          · replace h := h.2 c
            refine jv_iconst (v := 1) d_M_does_249 (by decide) ?_
            refine jv_goto (tgt := 254) d_M_does_250 (by decide) ?_
            exact jv_iret d_M_does_254 rfl (jv_nz (by decide)) h
    · replace h := h.2.2.2.2.2.1 hx
      refine jv_iload_n d_M_does_255 rfl rfl ?_
      refine jv_if_ne (tgt := 279) d_M_does_256 (by decide) ⟨fun c => ?_, fun c => ?_⟩
      · replace h := h.1 c
        refine jv_iconst (v := 0) d_M_does_279 (by decide) ?_
        exact jv_iret d_M_does_280 rfl (jv_nz (by decide)) h
      · replace h := h.2 c
        refine jv_iload d_M_does_259 rfl ?_
        refine jv_if_ne (tgt := 279) d_M_does_261 (by decide) ⟨fun c => ?_, fun c => ?_⟩
        · replace h := h.1 c
          refine jv_iconst (v := 0) d_M_does_279 (by decide) ?_
          exact jv_iret d_M_does_280 rfl (jv_nz (by decide)) h
        · replace h := h.2 c
          refine jv_aload_n d_M_does_264 rfl rfl ?_
          obtain ⟨q36, h⟩ := h
          obtain ⟨b37, e38, h⟩ := h
          refine jv_getR d_M_does_265 fl_M_43 rfl q36 e38 ?_
          refine jv_bipush (v := 76) d_M_does_268 (by decide) ?_
          obtain ⟨q39, q40, h⟩ := h
          refine jv_iald d_M_does_270 q39 q40 ?_
          refine jv_iload_n d_M_does_271 rfl rfl ?_
          refine jv_icmp_ne (tgt := 279) d_M_does_272 (by decide) ⟨fun c => ?_, fun c => ?_⟩
          · replace h := h.1 c
            refine jv_iconst (v := 0) d_M_does_279 (by decide) ?_
            exact jv_iret d_M_does_280 rfl (jv_nz (by decide)) h
          · replace h := h.2 c
            refine jv_iconst (v := 1) d_M_does_275 (by decide) ?_
            refine jv_goto (tgt := 280) d_M_does_276 (by decide) ?_
            exact jv_iret d_M_does_280 rfl (jv_nz (by decide)) h
    · replace h := h.2.2.2.2.2.2.1 hx
      refine jv_iload_n d_M_does_281 rfl rfl ?_
      refine jv_aload_n d_M_does_282 rfl rfl ?_
      obtain ⟨q41, h⟩ := h
      refine jv_getI d_M_does_283 fl_M_78 rfl q41 ?_
      refine jv_icmp_ge (tgt := 323) d_M_does_286 (by decide) ⟨fun c => ?_, fun c => ?_⟩
      · replace h := h.1 c
        refine jv_iconst (v := 0) d_M_does_323 (by decide) ?_
        exact jv_iret d_M_does_324 rfl (jv_nz (by decide)) h
      · replace h := h.2 c
        refine jv_iload d_M_does_289 rfl ?_
        refine jv_bipush (v := 100) d_M_does_291 (by decide) ?_
        refine jv_irem d_M_does_293 (by decide) ?_
        refine jv_if_ne (tgt := 323) d_M_does_294 (by decide) ⟨fun c => ?_, fun c => ?_⟩
        · replace h := h.1 c
          refine jv_iconst (v := 0) d_M_does_323 (by decide) ?_
          exact jv_iret d_M_does_324 rfl (jv_nz (by decide)) h
        · replace h := h.2 c
          refine jv_aload_n d_M_does_297 rfl rfl ?_
          obtain ⟨q42, h⟩ := h
          obtain ⟨b43, e44, h⟩ := h
          refine jv_getR d_M_does_298 fl_M_43 rfl q42 e44 ?_
          refine jv_bipush (v := 8) d_M_does_301 (by decide) ?_
          refine jv_iload_n d_M_does_303 rfl rfl ?_
          refine jv_imul d_M_does_304 ?_
          obtain ⟨q45, q46, h⟩ := h
          refine jv_iald d_M_does_305 q45 q46 ?_
          refine jv_bipush (v := 10) d_M_does_306 (by decide) ?_
          refine jv_iload_n d_M_does_308 rfl rfl ?_
          refine jv_imul d_M_does_309 ?_
          refine jv_iload d_M_does_310 rfl ?_
          refine jv_bipush (v := 100) d_M_does_312 (by decide) ?_
          refine jv_idiv d_M_does_314 (by decide) ?_
          refine jv_iadd d_M_does_315 ?_
          refine jv_icmp_ne (tgt := 323) d_M_does_316 (by decide) ⟨fun c => ?_, fun c => ?_⟩
          · replace h := h.1 c
            refine jv_iconst (v := 0) d_M_does_323 (by decide) ?_
            exact jv_iret d_M_does_324 rfl (jv_nz (by decide)) h
          · replace h := h.2 c
            refine jv_iconst (v := 1) d_M_does_319 (by decide) ?_
            refine jv_goto (tgt := 324) d_M_does_320 (by decide) ?_
            exact jv_iret d_M_does_324 rfl (jv_nz (by decide)) h
  · exact hD1 ⟨hq _ (List.mem_of_getElem? (i := 0) rfl), hq _ (List.mem_of_getElem? (i := 1) rfl), hq _ (List.mem_of_getElem? (i := 2) rfl), hq _ (List.mem_of_getElem? (i := 3) rfl), hq _ (List.mem_of_getElem? (i := 4) rfl), hq _ (List.mem_of_getElem? (i := 5) rfl), hq _ (List.mem_of_getElem? (i := 6) rfl)⟩
theorem b_M_see_0 {g : jv_G} {d : Nat} {M : jv_Mem} {N cr sr : Nat} {Z : Option Value → jv_Mem → Nat → Prop} {a0 : Nat} {x1 : Int32} {x2 : Int32} {x3 : Int32} (h : jv_Tg 10 a0 N ∧ jv_Ct g d mt_M_in [.long (Int32.toInt64 x1), .long 0, .long 9] (jv_si M a0 0 0) N 0 0 (fun v M3 N3 => jv_ri v (fun r2 => (r2 = 0 → Z (some (.int (-2))) M3 N3) ∧ (¬ (r2 = 0) → jv_Ct g d mt_M_in [.long (Int32.toInt64 x2), .long 0, .long 2] M3 N3 0 0 (fun v M5 N5 => jv_ri v (fun r4 => (r4 = 0 → Z (some (.int (-2))) M5 N5) ∧ (¬ (r4 = 0) → (x2 ≠ 0 → (x2 ≠ 1 → jv_J g (d + 1) mt_M_see 56 [some (.ref a0), some (.int x1), some (.int x2), some (.int x3)] [.long 999, .long 0, .long (Int32.toInt64 x3)] M5 N5 cr sr Z) ∧ (x2 = 1 → jv_J g (d + 1) mt_M_see 56 [some (.ref a0), some (.int x1), some (.int x2), some (.int x3)] [.long 2, .long 0, .long (Int32.toInt64 x3)] M5 N5 cr sr Z)) ∧ (x2 = 0 → jv_J g (d + 1) mt_M_see 56 [some (.ref a0), some (.int x1), some (.int x2), some (.int x3)] [.long 15, .long 0, .long (Int32.toInt64 x3)] M5 N5 cr sr Z)))))))) : jv_J g (d + 1) mt_M_see 0 [some (.ref a0), some (.int x1), some (.int x2), some (.int x3)] [] M N cr sr Z := by
  refine jv_aload_n d_M_see_0 rfl rfl ?_
  refine jv_iconst (v := 0) d_M_see_1 (by decide) ?_
  obtain ⟨q1, h⟩ := h
  refine jv_putI d_M_see_2 fl_M_75 (fun r hr => by cases hr; rfl) rfl q1 ?_
  refine jv_iload_n d_M_see_5 rfl rfl ?_
  refine jv_i2l d_M_see_6 ?_
  refine jv_lconst (v := 0) d_M_see_7 (by decide) ?_
  refine jv_ldc2 d_M_see_8 co_M_210 ?_
  refine jv_invS [.long (Int32.toInt64 x1), .long 0, .long 9] [] d_M_see_11 ml_M_81 rfl (Nat.le_of_ble_eq_true rfl) (Nat.zero_add _) (Nat.zero_add _) (jv_Ct.mono h (fun v M3 N3 h => ?_))
  obtain ⟨r2, rfl, h⟩ := h
  change jv_J g (d + 1) mt_M_see 14 [some (.ref a0), some (.int x1), some (.int x2), some (.int x3)] [.int r2] M3 N3 cr sr Z
  refine jv_if_eq (tgt := 62) d_M_see_14 (by decide) ⟨fun c => ?_, fun c => ?_⟩
  · replace h := h.1 c
    refine jv_bipush (v := (-2)) d_M_see_62 (by decide) ?_
    exact jv_iret d_M_see_64 rfl rfl h
  · replace h := h.2 c
    refine jv_iload_n d_M_see_17 rfl rfl ?_
    refine jv_i2l d_M_see_18 ?_
    refine jv_lconst (v := 0) d_M_see_19 (by decide) ?_
    refine jv_ldc2 d_M_see_20 co_M_267 ?_
    refine jv_invS [.long (Int32.toInt64 x2), .long 0, .long 2] [] d_M_see_23 ml_M_81 rfl (Nat.le_of_ble_eq_true rfl) (Nat.zero_add _) (Nat.zero_add _) (jv_Ct.mono h (fun v M5 N5 h => ?_))
    obtain ⟨r4, rfl, h⟩ := h
    change jv_J g (d + 1) mt_M_see 26 [some (.ref a0), some (.int x1), some (.int x2), some (.int x3)] [.int r4] M5 N5 cr sr Z
    refine jv_if_eq (tgt := 62) d_M_see_26 (by decide) ⟨fun c => ?_, fun c => ?_⟩
    · replace h := h.1 c
      refine jv_bipush (v := (-2)) d_M_see_62 (by decide) ?_
      exact jv_iret d_M_see_64 rfl rfl h
    · replace h := h.2 c
      refine jv_iload_n d_M_see_29 rfl rfl ?_
      refine jv_i2l d_M_see_30 ?_
      refine jv_lconst (v := 0) d_M_see_31 (by decide) ?_
      refine jv_iload_n d_M_see_32 rfl rfl ?_
      refine jv_if_ne (tgt := 42) d_M_see_33 (by decide) ⟨fun c => ?_, fun c => ?_⟩
      · replace h := h.1 c
        refine jv_iload_n d_M_see_42 rfl rfl ?_
        refine jv_iconst (v := 1) d_M_see_43 (by decide) ?_
        refine jv_icmp_ne (tgt := 53) d_M_see_44 (by decide) ⟨fun c => ?_, fun c => ?_⟩
        · replace h := h.1 c
          refine jv_ldc2 d_M_see_53 co_M_238 ?_
          exact h
        · replace h := h.2 c
          refine jv_ldc2 d_M_see_47 co_M_267 ?_
          refine jv_goto (tgt := 56) d_M_see_50 (by decide) ?_
          exact h
      · replace h := h.2 c
        refine jv_ldc2 d_M_see_36 co_M_244 ?_
        refine jv_goto (tgt := 56) d_M_see_39 (by decide) ?_
        exact h
theorem b_M_see_56 {g : jv_G} {d : Nat} {M : jv_Mem} {N cr sr : Nat} {Z : Option Value → jv_Mem → Nat → Prop} {a0 : Nat} {x1 : Int32} {x2 : Int32} {x3 : Int32} {ly0 : Int64} {ly1 : Int64} {ly2 : Int64} (h : jv_Ct g d mt_M_in [.long ly0, .long ly1, .long ly2] M N 0 0 (fun v M2 N2 => jv_ri v (fun r1 => (r1 ≠ 0 → jv_Tg 10 a0 N2 ∧ ((Prod.fst M2 a0 26) ≠ 6 → jv_Tg 10 a0 N2 ∧ ∃ b5, Prod.fst (Prod.snd M2) a0 27 = some b5 ∧ jv_Tg 10 a0 N2 ∧ jv_Tg 11 b5 N2 ∧ vp_in (Prod.fst M2 a0 26) (jv_sh b5).2 ∧ jv_Tg 10 a0 N2 ∧ ∃ b11, Prod.fst (Prod.snd (jv_si M2 b5 (Int32.toNatClampNeg (Prod.fst M2 a0 26)) x1)) a0 28 = some b11 ∧ jv_Tg 10 a0 N2 ∧ jv_Tg 11 b11 N2 ∧ vp_in (Prod.fst (jv_si M2 b5 (Int32.toNatClampNeg (Prod.fst M2 a0 26)) x1) a0 26) (jv_sh b11).2 ∧ jv_Tg 10 a0 N2 ∧ ∃ b17, Prod.fst (Prod.snd (jv_si (jv_si M2 b5 (Int32.toNatClampNeg (Prod.fst M2 a0 26)) x1) b11 (Int32.toNatClampNeg (Prod.fst (jv_si M2 b5 (Int32.toNatClampNeg (Prod.fst M2 a0 26)) x1) a0 26)) x2)) a0 29 = some b17 ∧ jv_Tg 10 a0 N2 ∧ jv_Tg 11 b17 N2 ∧ vp_in (Prod.fst (jv_si (jv_si M2 b5 (Int32.toNatClampNeg (Prod.fst M2 a0 26)) x1) b11 (Int32.toNatClampNeg (Prod.fst (jv_si M2 b5 (Int32.toNatClampNeg (Prod.fst M2 a0 26)) x1) a0 26)) x2) a0 26) (jv_sh b17).2 ∧ jv_Tg 10 a0 N2 ∧ jv_Tg 10 a0 N2 ∧ jv_Tg 10 a0 N2 ∧ Z (some (.int (Prod.fst (jv_si (jv_si (jv_si (jv_si M2 b5 (Int32.toNatClampNeg (Prod.fst M2 a0 26)) x1) b11 (Int32.toNatClampNeg (Prod.fst (jv_si M2 b5 (Int32.toNatClampNeg (Prod.fst M2 a0 26)) x1) a0 26)) x2) b17 (Int32.toNatClampNeg (Prod.fst (jv_si (jv_si M2 b5 (Int32.toNatClampNeg (Prod.fst M2 a0 26)) x1) b11 (Int32.toNatClampNeg (Prod.fst (jv_si M2 b5 (Int32.toNatClampNeg (Prod.fst M2 a0 26)) x1) a0 26)) x2) a0 26)) x3) a0 26 ((Prod.fst (jv_si (jv_si (jv_si M2 b5 (Int32.toNatClampNeg (Prod.fst M2 a0 26)) x1) b11 (Int32.toNatClampNeg (Prod.fst (jv_si M2 b5 (Int32.toNatClampNeg (Prod.fst M2 a0 26)) x1) a0 26)) x2) b17 (Int32.toNatClampNeg (Prod.fst (jv_si (jv_si M2 b5 (Int32.toNatClampNeg (Prod.fst M2 a0 26)) x1) b11 (Int32.toNatClampNeg (Prod.fst (jv_si M2 b5 (Int32.toNatClampNeg (Prod.fst M2 a0 26)) x1) a0 26)) x2) a0 26)) x3) a0 26) + 1)) a0 26))) (jv_si (jv_si (jv_si (jv_si M2 b5 (Int32.toNatClampNeg (Prod.fst M2 a0 26)) x1) b11 (Int32.toNatClampNeg (Prod.fst (jv_si M2 b5 (Int32.toNatClampNeg (Prod.fst M2 a0 26)) x1) a0 26)) x2) b17 (Int32.toNatClampNeg (Prod.fst (jv_si (jv_si M2 b5 (Int32.toNatClampNeg (Prod.fst M2 a0 26)) x1) b11 (Int32.toNatClampNeg (Prod.fst (jv_si M2 b5 (Int32.toNatClampNeg (Prod.fst M2 a0 26)) x1) a0 26)) x2) a0 26)) x3) a0 26 ((Prod.fst (jv_si (jv_si (jv_si M2 b5 (Int32.toNatClampNeg (Prod.fst M2 a0 26)) x1) b11 (Int32.toNatClampNeg (Prod.fst (jv_si M2 b5 (Int32.toNatClampNeg (Prod.fst M2 a0 26)) x1) a0 26)) x2) b17 (Int32.toNatClampNeg (Prod.fst (jv_si (jv_si M2 b5 (Int32.toNatClampNeg (Prod.fst M2 a0 26)) x1) b11 (Int32.toNatClampNeg (Prod.fst (jv_si M2 b5 (Int32.toNatClampNeg (Prod.fst M2 a0 26)) x1) a0 26)) x2) a0 26)) x3) a0 26) + 1)) N2) ∧ ((Prod.fst M2 a0 26) = 6 → Z (some (.int (-4))) M2 N2)) ∧ (r1 = 0 → Z (some (.int (-2))) M2 N2)))) : jv_J g (d + 1) mt_M_see 56 [some (.ref a0), some (.int x1), some (.int x2), some (.int x3)] [.long ly2, .long ly1, .long ly0] M N cr sr Z := by
  refine jv_invS [.long ly0, .long ly1, .long ly2] [] d_M_see_56 ml_M_81 rfl (Nat.le_of_ble_eq_true rfl) (Nat.zero_add _) (Nat.zero_add _) (jv_Ct.mono h (fun v M2 N2 h => ?_))
  obtain ⟨r1, rfl, h⟩ := h
  change jv_J g (d + 1) mt_M_see 59 [some (.ref a0), some (.int x1), some (.int x2), some (.int x3)] [.int r1] M2 N2 cr sr Z
  refine jv_if_ne (tgt := 65) d_M_see_59 (by decide) ⟨fun c => ?_, fun c => ?_⟩
  · replace h := h.1 c
    refine jv_aload_n d_M_see_65 rfl rfl ?_
    obtain ⟨q3, h⟩ := h
    refine jv_getI d_M_see_66 fl_M_269 rfl q3 ?_
    refine jv_bipush (v := 6) d_M_see_69 (by decide) ?_
    refine jv_icmp_ne (tgt := 77) d_M_see_71 (by decide) ⟨fun c => ?_, fun c => ?_⟩
    · replace h := h.1 c
      refine jv_aload_n d_M_see_77 rfl rfl ?_
      obtain ⟨q4, h⟩ := h
      obtain ⟨b5, e6, h⟩ := h
      refine jv_getR d_M_see_78 fl_M_59 rfl q4 e6 ?_
      refine jv_aload_n d_M_see_81 rfl rfl ?_
      obtain ⟨q7, h⟩ := h
      refine jv_getI d_M_see_82 fl_M_269 rfl q7 ?_
      refine jv_iload_n d_M_see_85 rfl rfl ?_
      obtain ⟨q8, q9, h⟩ := h
      refine jv_iast d_M_see_86 q8 q9 ?_
      refine jv_aload_n d_M_see_87 rfl rfl ?_
      obtain ⟨q10, h⟩ := h
      obtain ⟨b11, e12, h⟩ := h
      refine jv_getR d_M_see_88 fl_M_62 rfl q10 e12 ?_
      refine jv_aload_n d_M_see_91 rfl rfl ?_
      obtain ⟨q13, h⟩ := h
      refine jv_getI d_M_see_92 fl_M_269 rfl q13 ?_
      refine jv_iload_n d_M_see_95 rfl rfl ?_
      obtain ⟨q14, q15, h⟩ := h
      refine jv_iast d_M_see_96 q14 q15 ?_
      refine jv_aload_n d_M_see_97 rfl rfl ?_
      obtain ⟨q16, h⟩ := h
      obtain ⟨b17, e18, h⟩ := h
      refine jv_getR d_M_see_98 fl_M_65 rfl q16 e18 ?_
      refine jv_aload_n d_M_see_101 rfl rfl ?_
      obtain ⟨q19, h⟩ := h
      refine jv_getI d_M_see_102 fl_M_269 rfl q19 ?_
      refine jv_iload_n d_M_see_105 rfl rfl ?_
      obtain ⟨q20, q21, h⟩ := h
      refine jv_iast d_M_see_106 q20 q21 ?_
      refine jv_aload_n d_M_see_107 rfl rfl ?_
      refine jv_dup d_M_see_108 rfl ?_
      obtain ⟨q22, h⟩ := h
      refine jv_getI d_M_see_109 fl_M_269 rfl q22 ?_
      refine jv_iconst (v := 1) d_M_see_112 (by decide) ?_
      refine jv_iadd d_M_see_113 ?_
      obtain ⟨q23, h⟩ := h
      refine jv_putI d_M_see_114 fl_M_269 (fun r hr => by cases hr; rfl) rfl q23 ?_
      refine jv_aload_n d_M_see_117 rfl rfl ?_
      obtain ⟨q24, h⟩ := h
      refine jv_getI d_M_see_118 fl_M_269 rfl q24 ?_
      exact jv_iret d_M_see_121 rfl rfl h
    · replace h := h.2 c
      refine jv_bipush (v := (-4)) d_M_see_74 (by decide) ?_
      exact jv_iret d_M_see_76 rfl rfl h
  · replace h := h.2 c
    refine jv_bipush (v := (-2)) d_M_see_62 (by decide) ?_
    exact jv_iret d_M_see_64 rfl rfl h
theorem b_M_unsee_0 {g : jv_G} {d : Nat} {M : jv_Mem} {N cr sr : Nat} {Z : Option Value → jv_Mem → Nat → Prop} {a0 : Nat} (h : jv_Tg 10 a0 N ∧ jv_Tg 10 a0 N ∧ jv_Tg 10 a0 N ∧ Z (some (.int (Prod.fst (jv_si M a0 0 0) a0 26))) (jv_si (jv_si M a0 0 0) a0 26 0) N) : jv_J g d mt_M_unsee 0 [some (.ref a0), none] [] M N cr sr Z := by
  refine jv_aload_n d_M_unsee_0 rfl rfl ?_
  refine jv_iconst (v := 0) d_M_unsee_1 (by decide) ?_
  obtain ⟨q1, h⟩ := h
  refine jv_putI d_M_unsee_2 fl_M_75 (fun r hr => by cases hr; rfl) rfl q1 ?_
  refine jv_aload_n d_M_unsee_5 rfl rfl ?_
  obtain ⟨q2, h⟩ := h
  refine jv_getI d_M_unsee_6 fl_M_269 rfl q2 ?_
  refine jv_istore_n (L' := [some (.ref a0), some (.int (Prod.fst (jv_si M a0 0 0) a0 26))]) d_M_unsee_9 rfl (Nat.le_of_ble_eq_true rfl) rfl ?_
  refine jv_aload_n d_M_unsee_10 rfl rfl ?_
  refine jv_iconst (v := 0) d_M_unsee_11 (by decide) ?_
  obtain ⟨q3, h⟩ := h
  refine jv_putI d_M_unsee_12 fl_M_269 (fun r hr => by cases hr; rfl) rfl q3 ?_
  refine jv_iload_n d_M_unsee_15 rfl rfl ?_
  exact jv_iret d_M_unsee_16 rfl rfl h
theorem b_M_which_0 {g : jv_G} {d : Nat} {M : jv_Mem} {N cr sr : Nat} {Z : Option Value → jv_Mem → Nat → Prop} {a0 : Nat} (h : jv_Tg 10 a0 N ∧ jv_Tg 10 a0 N ∧ jv_Tg 10 a0 N ∧ ∃ b4, Prod.fst (Prod.snd (jv_si M a0 0 0)) a0 20 = some b4 ∧ jv_Tg 10 a0 N ∧ ∃ b7, Prod.fst (Prod.snd (jv_si M a0 0 0)) a0 19 = some b7 ∧ jv_Ct g d mt_M_lay [.ref b4, .ref b7] (jv_si M a0 0 0) N 0 0 (fun v M10 N10 => jv_rv v (jv_J g (d + 1) mt_M_which 27 [some (.ref a0), some (.int ((1 <<< ((Prod.fst (jv_si M a0 0 0) a0 6) &&& 31)) - 1)), some (.int 0), none, none, none] [] M10 N10 cr sr Z))) : jv_J g (d + 1) mt_M_which 0 [some (.ref a0), none, none, none, none, none] [] M N cr sr Z := by
  refine jv_aload_n d_M_which_0 rfl rfl ?_
  refine jv_iconst (v := 0) d_M_which_1 (by decide) ?_
  obtain ⟨q1, h⟩ := h
  refine jv_putI d_M_which_2 fl_M_75 (fun r hr => by cases hr; rfl) rfl q1 ?_
  refine jv_iconst (v := 1) d_M_which_5 (by decide) ?_
  refine jv_aload_n d_M_which_6 rfl rfl ?_
  obtain ⟨q2, h⟩ := h
  refine jv_getI d_M_which_7 fl_M_78 rfl q2 ?_
  refine jv_ishl d_M_which_10 ?_
  refine jv_iconst (v := 1) d_M_which_11 (by decide) ?_
  refine jv_isub d_M_which_12 ?_
  refine jv_istore_n (L' := [some (.ref a0), some (.int ((1 <<< ((Prod.fst (jv_si M a0 0 0) a0 6) &&& 31)) - 1)), none, none, none, none]) d_M_which_13 rfl (Nat.le_of_ble_eq_true rfl) rfl ?_
  refine jv_aload_n d_M_which_14 rfl rfl ?_
  obtain ⟨q3, h⟩ := h
  obtain ⟨b4, e5, h⟩ := h
  refine jv_getR d_M_which_15 fl_M_43 rfl q3 e5 ?_
  refine jv_aload_n d_M_which_18 rfl rfl ?_
  obtain ⟨q6, h⟩ := h
  obtain ⟨b7, e8, h⟩ := h
  refine jv_getR d_M_which_19 fl_M_40 rfl q6 e8 ?_
  refine jv_invS [.ref b4, .ref b7] [] d_M_which_22 ml_M_131 rfl (Nat.le_of_ble_eq_true rfl) (Nat.zero_add _) (Nat.zero_add _) (jv_Ct.mono h (fun v M10 N10 h => ?_))
  obtain ⟨rfl, h⟩ := h
  change jv_J g (d + 1) mt_M_which 25 [some (.ref a0), some (.int ((1 <<< ((Prod.fst (jv_si M a0 0 0) a0 6) &&& 31)) - 1)), none, none, none, none] [] M10 N10 cr sr Z
  refine jv_iconst (v := 0) d_M_which_25 (by decide) ?_
  refine jv_istore_n (L' := [some (.ref a0), some (.int ((1 <<< ((Prod.fst (jv_si M a0 0 0) a0 6) &&& 31)) - 1)), some (.int 0), none, none, none]) d_M_which_26 rfl (Nat.le_of_ble_eq_true rfl) rfl ?_
  exact h
theorem b_M_which_27 {g : jv_G} {d : Nat} {M : jv_Mem} {N cr sr : Nat} {Z : Option Value → jv_Mem → Nat → Prop} {a0 : Nat} {x1 : Int32} {x2 : Int32} (h : (10 ≤ x2 → Z (some (.int x1)) M N) ∧ (¬ (10 ≤ x2) → jv_J g (d + 1) mt_M_which 35 [some (.ref a0), some (.int x1), some (.int x2), some (.int 0), none, none] [] M N cr sr Z)) : jv_J g (d + 1) mt_M_which 27 [some (.ref a0), some (.int x1), some (.int x2), none, none, none] [] M N cr sr Z := by
  refine jv_iload_n d_M_which_27 rfl rfl ?_
  refine jv_bipush (v := 10) d_M_which_28 (by decide) ?_
  refine jv_icmp_ge (tgt := 160) d_M_which_30 (by decide) ⟨fun c => ?_, fun c => ?_⟩
  · replace h := h.1 c
    refine jv_iload_n d_M_which_160 rfl rfl ?_
    exact jv_iret d_M_which_161 rfl rfl h
  · replace h := h.2 c
    refine jv_iconst (v := 0) d_M_which_33 (by decide) ?_
    refine jv_istore_n (L' := [some (.ref a0), some (.int x1), some (.int x2), some (.int 0), none, none]) d_M_which_34 rfl (Nat.le_of_ble_eq_true rfl) rfl ?_
    exact h
theorem b_M_which_35 {g : jv_G} {d : Nat} {M : jv_Mem} {N cr sr : Nat} {Z : Option Value → jv_Mem → Nat → Prop} {a0 : Nat} {x1 : Int32} {x2 : Int32} {x3 : Int32} (h : jv_Tg 10 a0 N ∧ ((Prod.fst M a0 26) ≤ x3 → jv_Tg 10 a0 N ∧ ∃ b3, Prod.fst (Prod.snd M) a0 20 = some b3 ∧ jv_Tg 10 a0 N ∧ jv_Ct g d mt_M_tickOn [.ref a0, .ref b3] M N 0 0 (fun v M7 N7 => jv_rv v (jv_J g (d + 1) mt_M_which 27 [some (.ref a0), some (.int x1), some (.int (x2 + 1)), none, none, none] [] M7 N7 cr sr Z))) ∧ (¬ ((Prod.fst M a0 26) ≤ x3) → jv_J g (d + 1) mt_M_which 46 [some (.ref a0), some (.int x1), some (.int x2), some (.int x3), some (.int 0), none] [] M N cr sr Z)) : jv_J g (d + 1) mt_M_which 35 [some (.ref a0), some (.int x1), some (.int x2), some (.int x3), none, none] [] M N cr sr Z := by
  refine jv_iload_n d_M_which_35 rfl rfl ?_
  refine jv_aload_n d_M_which_36 rfl rfl ?_
  obtain ⟨q1, h⟩ := h
  refine jv_getI d_M_which_37 fl_M_269 rfl q1 ?_
  refine jv_icmp_ge (tgt := 146) d_M_which_40 (by decide) ⟨fun c => ?_, fun c => ?_⟩
  · replace h := h.1 c
    refine jv_aload_n d_M_which_146 rfl rfl ?_
    refine jv_aload_n d_M_which_147 rfl rfl ?_
    obtain ⟨q2, h⟩ := h
    obtain ⟨b3, e4, h⟩ := h
    refine jv_getR d_M_which_148 fl_M_43 rfl q2 e4 ?_
    obtain ⟨q5, h⟩ := h
    refine jv_invV [.ref b3] [] d_M_which_151 ml_M_199 q5 rfl (Nat.le_of_ble_eq_true rfl) (Nat.zero_add _) (Nat.zero_add _) (jv_Ct.mono h (fun v M7 N7 h => ?_))
    obtain ⟨rfl, h⟩ := h
    change jv_J g (d + 1) mt_M_which 154 [some (.ref a0), some (.int x1), some (.int x2), some (.int x3), none, none] [] M7 N7 cr sr Z
    refine jv_iinc (v := (x2 + 1)) (L' := [some (.ref a0), some (.int x1), some (.int (x2 + 1)), some (.int x3), none, none]) d_M_which_154 rfl rfl (Nat.le_of_ble_eq_true rfl) rfl ?_
    refine jv_goto (tgt := 27) d_M_which_157 (by decide) ?_
    refine jv_weak (L' := [some (.ref a0), some (.int x1), some (.int (x2 + 1)), none, none, none]) (by simp [jv_le]) ?_
    exact h
  · replace h := h.2 c
    refine jv_iconst (v := 0) d_M_which_43 (by decide) ?_
    refine jv_istore (L' := [some (.ref a0), some (.int x1), some (.int x2), some (.int x3), some (.int 0), none]) d_M_which_44 (Nat.le_of_ble_eq_true rfl) rfl ?_
    exact h
theorem b_M_which_46 {g : jv_G} {d : Nat} {M : jv_Mem} {N cr sr : Nat} {Z : Option Value → jv_Mem → Nat → Prop} {a0 : Nat} {x1 : Int32} {x2 : Int32} {x3 : Int32} {x4 : Int32} (h : jv_Tg 10 a0 N ∧ ((Prod.fst M a0 6) ≤ x4 → jv_J g (d + 1) mt_M_which 35 [some (.ref a0), some (.int x1), some (.int x2), some (.int (x3 + 1)), none, none] [] M N cr sr Z) ∧ (¬ ((Prod.fst M a0 6) ≤ x4) → jv_Tg 10 a0 N ∧ ∃ b3, Prod.fst (Prod.snd M) a0 27 = some b3 ∧ jv_Tg 11 b3 N ∧ vp_in x3 (jv_sh b3).2 ∧ ((Prod.fst M b3 (Int32.toNatClampNeg x3)) ≠ x2 → jv_J g (d + 1) mt_M_which 35 [some (.ref a0), some (.int x1), some (.int x2), some (.int (x3 + 1)), none, none] [] M N cr sr Z) ∧ ((Prod.fst M b3 (Int32.toNatClampNeg x3)) = x2 → jv_Tg 10 a0 N ∧ ∃ b8, Prod.fst (Prod.snd M) a0 28 = some b8 ∧ jv_Tg 11 b8 N ∧ vp_in x3 (jv_sh b8).2 ∧ ((Prod.fst M b8 (Int32.toNatClampNeg x3)) ≠ 2 → jv_Tg 10 a0 N ∧ ∃ b13, Prod.fst (Prod.snd M) a0 20 = some b13 ∧ jv_Tg 10 a0 N ∧ ∃ b16, Prod.fst (Prod.snd M) a0 28 = some b16 ∧ jv_Tg 11 b16 N ∧ vp_in x3 (jv_sh b16).2 ∧ jv_Tg 11 b13 N ∧ vp_in ((8 * x4) + (Prod.fst M b16 (Int32.toNatClampNeg x3))) (jv_sh b13).2 ∧ jv_Tg 10 a0 N ∧ ∃ b23, Prod.fst (Prod.snd M) a0 29 = some b23 ∧ jv_Tg 11 b23 N ∧ vp_in x3 (jv_sh b23).2 ∧ ((Prod.fst M b13 (Int32.toNatClampNeg ((8 * x4) + (Prod.fst M b16 (Int32.toNatClampNeg x3))))) ≠ (Prod.fst M b23 (Int32.toNatClampNeg x3)) → jv_J g (d + 1) mt_M_which 46 [some (.ref a0), some (.int (x1 &&& ((1 <<< (x4 &&& 31)) ^^^ (-1)))), some (.int x2), some (.int x3), some (.int (x4 + 1)), none] [] M N cr sr Z) ∧ ((Prod.fst M b13 (Int32.toNatClampNeg ((8 * x4) + (Prod.fst M b16 (Int32.toNatClampNeg x3))))) = (Prod.fst M b23 (Int32.toNatClampNeg x3)) → jv_J g (d + 1) mt_M_which 46 [some (.ref a0), some (.int (x1 &&& 15)), some (.int x2), some (.int x3), some (.int (x4 + 1)), none] [] M N cr sr Z)) ∧ ((Prod.fst M b8 (Int32.toNatClampNeg x3)) = 2 → jv_Tg 10 a0 N ∧ ∃ b28, Prod.fst (Prod.snd M) a0 20 = some b28 ∧ jv_Tg 11 b28 N ∧ vp_in ((8 * x4) + 4) (jv_sh b28).2 ∧ jv_Tg 10 a0 N ∧ ∃ b33, Prod.fst (Prod.snd M) a0 29 = some b33 ∧ jv_Tg 11 b33 N ∧ vp_in x3 (jv_sh b33).2 ∧ ((Prod.fst M b28 (Int32.toNatClampNeg ((8 * x4) + 4))) ≠ (Prod.fst M b33 (Int32.toNatClampNeg x3)) → jv_J g (d + 1) mt_M_which 46 [some (.ref a0), some (.int (x1 &&& ((1 <<< (x4 &&& 31)) ^^^ (-1)))), some (.int x2), some (.int x3), some (.int (x4 + 1)), none] [] M N cr sr Z) ∧ ((Prod.fst M b28 (Int32.toNatClampNeg ((8 * x4) + 4))) = (Prod.fst M b33 (Int32.toNatClampNeg x3)) → jv_J g (d + 1) mt_M_which 46 [some (.ref a0), some (.int (x1 &&& 15)), some (.int x2), some (.int x3), some (.int (x4 + 1)), none] [] M N cr sr Z))))) : jv_J g (d + 1) mt_M_which 46 [some (.ref a0), some (.int x1), some (.int x2), some (.int x3), some (.int x4), none] [] M N cr sr Z := by
  refine jv_iload d_M_which_46 rfl ?_
  refine jv_aload_n d_M_which_48 rfl rfl ?_
  obtain ⟨q1, h⟩ := h
  refine jv_getI d_M_which_49 fl_M_78 rfl q1 ?_
  refine jv_icmp_ge (tgt := 140) d_M_which_52 (by decide) ⟨fun c => ?_, fun c => ?_⟩
  · replace h := h.1 c
    refine jv_iinc (v := (x3 + 1)) (L' := [some (.ref a0), some (.int x1), some (.int x2), some (.int (x3 + 1)), some (.int x4), none]) d_M_which_140 rfl rfl (Nat.le_of_ble_eq_true rfl) rfl ?_
    refine jv_goto (tgt := 35) d_M_which_143 (by decide) ?_
    refine jv_weak (L' := [some (.ref a0), some (.int x1), some (.int x2), some (.int (x3 + 1)), none, none]) (by simp [jv_le]) ?_
    exact h
  · replace h := h.2 c
    refine jv_aload_n d_M_which_55 rfl rfl ?_
    obtain ⟨q2, h⟩ := h
    obtain ⟨b3, e4, h⟩ := h
    refine jv_getR d_M_which_56 fl_M_59 rfl q2 e4 ?_
    refine jv_iload_n d_M_which_59 rfl rfl ?_
    obtain ⟨q5, q6, h⟩ := h
    refine jv_iald d_M_which_60 q5 q6 ?_
    refine jv_iload_n d_M_which_61 rfl rfl ?_
    refine jv_icmp_ne (tgt := 140) d_M_which_62 (by decide) ⟨fun c => ?_, fun c => ?_⟩
    · replace h := h.1 c
      refine jv_iinc (v := (x3 + 1)) (L' := [some (.ref a0), some (.int x1), some (.int x2), some (.int (x3 + 1)), some (.int x4), none]) d_M_which_140 rfl rfl (Nat.le_of_ble_eq_true rfl) rfl ?_
      refine jv_goto (tgt := 35) d_M_which_143 (by decide) ?_
      refine jv_weak (L' := [some (.ref a0), some (.int x1), some (.int x2), some (.int (x3 + 1)), none, none]) (by simp [jv_le]) ?_
      exact h
    · replace h := h.2 c
      refine jv_aload_n d_M_which_65 rfl rfl ?_
      obtain ⟨q7, h⟩ := h
      obtain ⟨b8, e9, h⟩ := h
      refine jv_getR d_M_which_66 fl_M_62 rfl q7 e9 ?_
      refine jv_iload_n d_M_which_69 rfl rfl ?_
      obtain ⟨q10, q11, h⟩ := h
      refine jv_iald d_M_which_70 q10 q11 ?_
      refine jv_iconst (v := 2) d_M_which_71 (by decide) ?_
      refine jv_icmp_ne (tgt := 90) d_M_which_72 (by decide) ⟨fun c => ?_, fun c => ?_⟩
      · replace h := h.1 c
        refine jv_aload_n d_M_which_90 rfl rfl ?_
        obtain ⟨q12, h⟩ := h
        obtain ⟨b13, e14, h⟩ := h
        refine jv_getR d_M_which_91 fl_M_43 rfl q12 e14 ?_
        refine jv_bipush (v := 8) d_M_which_94 (by decide) ?_
        refine jv_iload d_M_which_96 rfl ?_
        refine jv_imul d_M_which_98 ?_
        refine jv_aload_n d_M_which_99 rfl rfl ?_
        obtain ⟨q15, h⟩ := h
        obtain ⟨b16, e17, h⟩ := h
        refine jv_getR d_M_which_100 fl_M_62 rfl q15 e17 ?_
        refine jv_iload_n d_M_which_103 rfl rfl ?_
        obtain ⟨q18, q19, h⟩ := h
        refine jv_iald d_M_which_104 q18 q19 ?_
        refine jv_iadd d_M_which_105 ?_
        obtain ⟨q20, q21, h⟩ := h
        refine jv_iald d_M_which_106 q20 q21 ?_
        refine jv_istore (L' := [some (.ref a0), some (.int x1), some (.int x2), some (.int x3), some (.int x4), some (.int (Prod.fst M b13 (Int32.toNatClampNeg ((8 * x4) + (Prod.fst M b16 (Int32.toNatClampNeg x3))))))]) d_M_which_107 (Nat.le_of_ble_eq_true rfl) rfl ?_
        refine jv_iload_n d_M_which_109 rfl rfl ?_
        refine jv_iload d_M_which_110 rfl ?_
        refine jv_aload_n d_M_which_112 rfl rfl ?_
        obtain ⟨q22, h⟩ := h
        obtain ⟨b23, e24, h⟩ := h
        refine jv_getR d_M_which_113 fl_M_65 rfl q22 e24 ?_
        refine jv_iload_n d_M_which_116 rfl rfl ?_
        obtain ⟨q25, q26, h⟩ := h
        refine jv_iald d_M_which_117 q25 q26 ?_
        refine jv_icmp_ne (tgt := 126) d_M_which_118 (by decide) ⟨fun c => ?_, fun c => ?_⟩
        · replace h := h.1 c
          refine jv_iconst (v := 1) d_M_which_126 (by decide) ?_
          refine jv_iload d_M_which_127 rfl ?_
          refine jv_ishl d_M_which_129 ?_
          refine jv_iconst (v := (-1)) d_M_which_130 (by decide) ?_
          refine jv_ixor d_M_which_131 ?_
          refine jv_iand d_M_which_132 ?_
          refine jv_istore_n (L' := [some (.ref a0), some (.int (x1 &&& ((1 <<< (x4 &&& 31)) ^^^ (-1)))), some (.int x2), some (.int x3), some (.int x4), some (.int (Prod.fst M b13 (Int32.toNatClampNeg ((8 * x4) + (Prod.fst M b16 (Int32.toNatClampNeg x3))))))]) d_M_which_133 rfl (Nat.le_of_ble_eq_true rfl) rfl ?_
          refine jv_iinc (v := (x4 + 1)) (L' := [some (.ref a0), some (.int (x1 &&& ((1 <<< (x4 &&& 31)) ^^^ (-1)))), some (.int x2), some (.int x3), some (.int (x4 + 1)), some (.int (Prod.fst M b13 (Int32.toNatClampNeg ((8 * x4) + (Prod.fst M b16 (Int32.toNatClampNeg x3))))))]) d_M_which_134 rfl rfl (Nat.le_of_ble_eq_true rfl) rfl ?_
          refine jv_goto (tgt := 46) d_M_which_137 (by decide) ?_
          refine jv_weak (L' := [some (.ref a0), some (.int (x1 &&& ((1 <<< (x4 &&& 31)) ^^^ (-1)))), some (.int x2), some (.int x3), some (.int (x4 + 1)), none]) (by simp [jv_le]) ?_
          exact h
        · replace h := h.2 c
          refine jv_bipush (v := 15) d_M_which_121 (by decide) ?_
          refine jv_goto (tgt := 132) d_M_which_123 (by decide) ?_
          refine jv_iand d_M_which_132 ?_
          refine jv_istore_n (L' := [some (.ref a0), some (.int (x1 &&& 15)), some (.int x2), some (.int x3), some (.int x4), some (.int (Prod.fst M b13 (Int32.toNatClampNeg ((8 * x4) + (Prod.fst M b16 (Int32.toNatClampNeg x3))))))]) d_M_which_133 rfl (Nat.le_of_ble_eq_true rfl) rfl ?_
          refine jv_iinc (v := (x4 + 1)) (L' := [some (.ref a0), some (.int (x1 &&& 15)), some (.int x2), some (.int x3), some (.int (x4 + 1)), some (.int (Prod.fst M b13 (Int32.toNatClampNeg ((8 * x4) + (Prod.fst M b16 (Int32.toNatClampNeg x3))))))]) d_M_which_134 rfl rfl (Nat.le_of_ble_eq_true rfl) rfl ?_
          refine jv_goto (tgt := 46) d_M_which_137 (by decide) ?_
          refine jv_weak (L' := [some (.ref a0), some (.int (x1 &&& 15)), some (.int x2), some (.int x3), some (.int (x4 + 1)), none]) (by simp [jv_le]) ?_
          exact h
      · replace h := h.2 c
        refine jv_aload_n d_M_which_75 rfl rfl ?_
        obtain ⟨q27, h⟩ := h
        obtain ⟨b28, e29, h⟩ := h
        refine jv_getR d_M_which_76 fl_M_43 rfl q27 e29 ?_
        refine jv_bipush (v := 8) d_M_which_79 (by decide) ?_
        refine jv_iload d_M_which_81 rfl ?_
        refine jv_imul d_M_which_83 ?_
        refine jv_iconst (v := 4) d_M_which_84 (by decide) ?_
        refine jv_iadd d_M_which_85 ?_
        obtain ⟨q30, q31, h⟩ := h
        refine jv_iald d_M_which_86 q30 q31 ?_
        refine jv_goto (tgt := 107) d_M_which_87 (by decide) ?_
        refine jv_istore (L' := [some (.ref a0), some (.int x1), some (.int x2), some (.int x3), some (.int x4), some (.int (Prod.fst M b28 (Int32.toNatClampNeg ((8 * x4) + 4))))]) d_M_which_107 (Nat.le_of_ble_eq_true rfl) rfl ?_
        refine jv_iload_n d_M_which_109 rfl rfl ?_
        refine jv_iload d_M_which_110 rfl ?_
        refine jv_aload_n d_M_which_112 rfl rfl ?_
        obtain ⟨q32, h⟩ := h
        obtain ⟨b33, e34, h⟩ := h
        refine jv_getR d_M_which_113 fl_M_65 rfl q32 e34 ?_
        refine jv_iload_n d_M_which_116 rfl rfl ?_
        obtain ⟨q35, q36, h⟩ := h
        refine jv_iald d_M_which_117 q35 q36 ?_
        refine jv_icmp_ne (tgt := 126) d_M_which_118 (by decide) ⟨fun c => ?_, fun c => ?_⟩
        · replace h := h.1 c
          refine jv_iconst (v := 1) d_M_which_126 (by decide) ?_
          refine jv_iload d_M_which_127 rfl ?_
          refine jv_ishl d_M_which_129 ?_
          refine jv_iconst (v := (-1)) d_M_which_130 (by decide) ?_
          refine jv_ixor d_M_which_131 ?_
          refine jv_iand d_M_which_132 ?_
          refine jv_istore_n (L' := [some (.ref a0), some (.int (x1 &&& ((1 <<< (x4 &&& 31)) ^^^ (-1)))), some (.int x2), some (.int x3), some (.int x4), some (.int (Prod.fst M b28 (Int32.toNatClampNeg ((8 * x4) + 4))))]) d_M_which_133 rfl (Nat.le_of_ble_eq_true rfl) rfl ?_
          refine jv_iinc (v := (x4 + 1)) (L' := [some (.ref a0), some (.int (x1 &&& ((1 <<< (x4 &&& 31)) ^^^ (-1)))), some (.int x2), some (.int x3), some (.int (x4 + 1)), some (.int (Prod.fst M b28 (Int32.toNatClampNeg ((8 * x4) + 4))))]) d_M_which_134 rfl rfl (Nat.le_of_ble_eq_true rfl) rfl ?_
          refine jv_goto (tgt := 46) d_M_which_137 (by decide) ?_
          refine jv_weak (L' := [some (.ref a0), some (.int (x1 &&& ((1 <<< (x4 &&& 31)) ^^^ (-1)))), some (.int x2), some (.int x3), some (.int (x4 + 1)), none]) (by simp [jv_le]) ?_
          exact h
        · replace h := h.2 c
          refine jv_bipush (v := 15) d_M_which_121 (by decide) ?_
          refine jv_goto (tgt := 132) d_M_which_123 (by decide) ?_
          refine jv_iand d_M_which_132 ?_
          refine jv_istore_n (L' := [some (.ref a0), some (.int (x1 &&& 15)), some (.int x2), some (.int x3), some (.int x4), some (.int (Prod.fst M b28 (Int32.toNatClampNeg ((8 * x4) + 4))))]) d_M_which_133 rfl (Nat.le_of_ble_eq_true rfl) rfl ?_
          refine jv_iinc (v := (x4 + 1)) (L' := [some (.ref a0), some (.int (x1 &&& 15)), some (.int x2), some (.int x3), some (.int (x4 + 1)), some (.int (Prod.fst M b28 (Int32.toNatClampNeg ((8 * x4) + 4))))]) d_M_which_134 rfl rfl (Nat.le_of_ble_eq_true rfl) rfl ?_
          refine jv_goto (tgt := 46) d_M_which_137 (by decide) ?_
          refine jv_weak (L' := [some (.ref a0), some (.int (x1 &&& 15)), some (.int x2), some (.int x3), some (.int (x4 + 1)), none]) (by simp [jv_le]) ?_
          exact h
theorem b_M_share_0 {g : jv_G} {d : Nat} {M : jv_Mem} {N cr sr : Nat} {Z : Option Value → jv_Mem → Nat → Prop} {a0 : Nat} {x1 : Int32} {x2 : Int32} (h : jv_Tg 10 a0 N ∧ jv_Tg 10 a0 N ∧ jv_Ct g d mt_M_in [.long (Int32.toInt64 x1), .long 0, .long (Int32.toInt64 ((Prod.fst (jv_si M a0 0 0) a0 9) - 1))] (jv_si M a0 0 0) N 0 0 (fun v M4 N4 => jv_ri v (fun r3 => (r3 ≠ 0 → jv_J g (d + 1) mt_M_share 25 [some (.ref a0), some (.int x1), some (.int x2), some (.int 0), none, none] [] M4 N4 cr sr Z) ∧ (r3 = 0 → Z (some (.int (-1))) M4 N4)))) : jv_J g (d + 1) mt_M_share 0 [some (.ref a0), some (.int x1), some (.int x2), none, none, none] [] M N cr sr Z := by
  refine jv_aload_n d_M_share_0 rfl rfl ?_
  refine jv_iconst (v := 0) d_M_share_1 (by decide) ?_
  obtain ⟨q1, h⟩ := h
  refine jv_putI d_M_share_2 fl_M_75 (fun r hr => by cases hr; rfl) rfl q1 ?_
  refine jv_iload_n d_M_share_5 rfl rfl ?_
  refine jv_i2l d_M_share_6 ?_
  refine jv_lconst (v := 0) d_M_share_7 (by decide) ?_
  refine jv_aload_n d_M_share_8 rfl rfl ?_
  obtain ⟨q2, h⟩ := h
  refine jv_getI d_M_share_9 fl_M_138 rfl q2 ?_
  refine jv_iconst (v := 1) d_M_share_12 (by decide) ?_
  refine jv_isub d_M_share_13 ?_
  refine jv_i2l d_M_share_14 ?_
  refine jv_invS [.long (Int32.toInt64 x1), .long 0, .long (Int32.toInt64 ((Prod.fst (jv_si M a0 0 0) a0 9) - 1))] [] d_M_share_15 ml_M_81 rfl (Nat.le_of_ble_eq_true rfl) (Nat.zero_add _) (Nat.zero_add _) (jv_Ct.mono h (fun v M4 N4 h => ?_))
  obtain ⟨r3, rfl, h⟩ := h
  change jv_J g (d + 1) mt_M_share 18 [some (.ref a0), some (.int x1), some (.int x2), none, none, none] [.int r3] M4 N4 cr sr Z
  refine jv_if_ne (tgt := 23) d_M_share_18 (by decide) ⟨fun c => ?_, fun c => ?_⟩
  · replace h := h.1 c
    refine jv_iconst (v := 0) d_M_share_23 (by decide) ?_
    refine jv_istore_n (L' := [some (.ref a0), some (.int x1), some (.int x2), some (.int 0), none, none]) d_M_share_24 rfl (Nat.le_of_ble_eq_true rfl) rfl ?_
    exact h
  · replace h := h.2 c
    refine jv_iconst (v := (-1)) d_M_share_21 (by decide) ?_
    exact jv_iret d_M_share_22 rfl rfl h
theorem b_M_share_25 {g : jv_G} {d : Nat} {M : jv_Mem} {N cr sr : Nat} {Z : Option Value → jv_Mem → Nat → Prop} {a0 : Nat} {x1 : Int32} {x2 : Int32} {x3 : Int32} (h : jv_Tg 10 a0 N ∧ ((1 <<< ((Prod.fst M a0 9) &&& 31)) ≤ x3 → jv_Tg 10 a0 N ∧ jv_J g (d + 1) mt_M_share 122 [some (.ref a0), some (.int x1), some (.int x2), some (.int 0), some (.int 0), none] [] (jv_si M a0 32 63) N cr sr Z) ∧ (¬ ((1 <<< ((Prod.fst M a0 9) &&& 31)) ≤ x3) → jv_Tg 10 a0 N ∧ jv_Tg 10 a0 N ∧ ∃ b5, Prod.fst (Prod.snd (jv_si M a0 32 x3)) a0 20 = some b5 ∧ jv_Tg 10 a0 N ∧ ∃ b8, Prod.fst (Prod.snd (jv_si M a0 32 x3)) a0 19 = some b8 ∧ jv_Ct g d mt_M_lay [.ref b5, .ref b8] (jv_si M a0 32 x3) N 0 0 (fun v M11 N11 => jv_rv v (jv_Tg 10 a0 N11 ∧ ∃ b13, Prod.fst (Prod.snd M11) a0 33 = some b13 ∧ jv_Tg 11 b13 N11 ∧ vp_in x3 (jv_sh b13).2 ∧ jv_J g (d + 1) mt_M_share 61 [some (.ref a0), some (.int x1), some (.int x2), some (.int x3), some (.int 0), none] [] (jv_si M11 b13 (Int32.toNatClampNeg x3) 0) N11 cr sr Z)))) : jv_J g (d + 1) mt_M_share 25 [some (.ref a0), some (.int x1), some (.int x2), some (.int x3), none, none] [] M N cr sr Z := by
  refine jv_iload_n d_M_share_25 rfl rfl ?_
  refine jv_iconst (v := 1) d_M_share_26 (by decide) ?_
  refine jv_aload_n d_M_share_27 rfl rfl ?_
  obtain ⟨q1, h⟩ := h
  refine jv_getI d_M_share_28 fl_M_138 rfl q1 ?_
  refine jv_ishl d_M_share_31 ?_
  refine jv_icmp_ge (tgt := 111) d_M_share_32 (by decide) ⟨fun c => ?_, fun c => ?_⟩
  · replace h := h.1 c
    refine jv_aload_n d_M_share_111 rfl rfl ?_
    refine jv_bipush (v := 63) d_M_share_112 (by decide) ?_
    obtain ⟨q2, h⟩ := h
    refine jv_putI d_M_share_114 fl_M_68 (fun r hr => by cases hr; rfl) rfl q2 ?_
    refine jv_iconst (v := 0) d_M_share_117 (by decide) ?_
    refine jv_istore_n (L' := [some (.ref a0), some (.int x1), some (.int x2), some (.int 0), none, none]) d_M_share_118 rfl (Nat.le_of_ble_eq_true rfl) rfl ?_
    refine jv_iconst (v := 0) d_M_share_119 (by decide) ?_
    refine jv_istore (L' := [some (.ref a0), some (.int x1), some (.int x2), some (.int 0), some (.int 0), none]) d_M_share_120 (Nat.le_of_ble_eq_true rfl) rfl ?_
    exact h
  · replace h := h.2 c
    refine jv_aload_n d_M_share_35 rfl rfl ?_
    refine jv_iload_n d_M_share_36 rfl rfl ?_
    obtain ⟨q3, h⟩ := h
    refine jv_putI d_M_share_37 fl_M_68 (fun r hr => by cases hr; rfl) rfl q3 ?_
    refine jv_aload_n d_M_share_40 rfl rfl ?_
    obtain ⟨q4, h⟩ := h
    obtain ⟨b5, e6, h⟩ := h
    refine jv_getR d_M_share_41 fl_M_43 rfl q4 e6 ?_
    refine jv_aload_n d_M_share_44 rfl rfl ?_
    obtain ⟨q7, h⟩ := h
    obtain ⟨b8, e9, h⟩ := h
    refine jv_getR d_M_share_45 fl_M_40 rfl q7 e9 ?_
    refine jv_invS [.ref b5, .ref b8] [] d_M_share_48 ml_M_131 rfl (Nat.le_of_ble_eq_true rfl) (Nat.zero_add _) (Nat.zero_add _) (jv_Ct.mono h (fun v M11 N11 h => ?_))
    obtain ⟨rfl, h⟩ := h
    change jv_J g (d + 1) mt_M_share 51 [some (.ref a0), some (.int x1), some (.int x2), some (.int x3), none, none] [] M11 N11 cr sr Z
    refine jv_aload_n d_M_share_51 rfl rfl ?_
    obtain ⟨q12, h⟩ := h
    obtain ⟨b13, e14, h⟩ := h
    refine jv_getR d_M_share_52 fl_M_72 rfl q12 e14 ?_
    refine jv_iload_n d_M_share_55 rfl rfl ?_
    refine jv_iconst (v := 0) d_M_share_56 (by decide) ?_
    obtain ⟨q15, q16, h⟩ := h
    refine jv_iast d_M_share_57 q15 q16 ?_
    refine jv_iconst (v := 0) d_M_share_58 (by decide) ?_
    refine jv_istore (L' := [some (.ref a0), some (.int x1), some (.int x2), some (.int x3), some (.int 0), none]) d_M_share_59 (Nat.le_of_ble_eq_true rfl) rfl ?_
    exact h
theorem b_M_share_61 {g : jv_G} {d : Nat} {M : jv_Mem} {N cr sr : Nat} {Z : Option Value → jv_Mem → Nat → Prop} {a0 : Nat} {x1 : Int32} {x2 : Int32} {x3 : Int32} {x4 : Int32} (h : (20 ≤ x4 → jv_J g (d + 1) mt_M_share 25 [some (.ref a0), some (.int x1), some (.int x2), some (.int (x3 + 1)), none, none] [] M N cr sr Z) ∧ (¬ (20 ≤ x4) → jv_Tg 10 a0 N ∧ ∃ b2, Prod.fst (Prod.snd M) a0 20 = some b2 ∧ jv_Tg 10 a0 N ∧ jv_Ct g d mt_M_tickOn [.ref a0, .ref b2] M N 0 0 (fun v M6 N6 => jv_rv v (jv_Tg 10 a0 N6 ∧ ∃ b8, Prod.fst (Prod.snd M6) a0 33 = some b8 ∧ jv_Tg 11 b8 N6 ∧ vp_in x3 (jv_sh b8).2 ∧ jv_Tg 10 a0 N6 ∧ ∃ b13, Prod.fst (Prod.snd M6) a0 20 = some b13 ∧ jv_Tg 10 a0 N6 ∧ jv_Ct g d mt_M_haltedOf [.ref b13, .int (Prod.fst M6 a0 6)] M6 N6 0 0 (fun v M17 N17 => jv_ri v (fun r16 => jv_Ct g d mt_M_ones [.int r16] M17 N17 0 0 (fun v M19 N19 => jv_ri v (fun r18 => jv_Tg 11 b8 N19 ∧ vp_in x3 (jv_sh b8).2 ∧ jv_J g (d + 1) mt_M_share 61 [some (.ref a0), some (.int x1), some (.int x2), some (.int x3), some (.int (x4 + 1)), none] [] (jv_si M19 b8 (Int32.toNatClampNeg x3) ((Prod.fst M6 b8 (Int32.toNatClampNeg x3)) + r18)) N19 cr sr Z)))))))) : jv_J g (d + 1) mt_M_share 61 [some (.ref a0), some (.int x1), some (.int x2), some (.int x3), some (.int x4), none] [] M N cr sr Z := by
  refine jv_iload d_M_share_61 rfl ?_
  refine jv_bipush (v := 20) d_M_share_63 (by decide) ?_
  refine jv_icmp_ge (tgt := 105) d_M_share_65 (by decide) ⟨fun c => ?_, fun c => ?_⟩
  · replace h := h.1 c
    refine jv_iinc (v := (x3 + 1)) (L' := [some (.ref a0), some (.int x1), some (.int x2), some (.int (x3 + 1)), some (.int x4), none]) d_M_share_105 rfl rfl (Nat.le_of_ble_eq_true rfl) rfl ?_
    refine jv_goto (tgt := 25) d_M_share_108 (by decide) ?_
    refine jv_weak (L' := [some (.ref a0), some (.int x1), some (.int x2), some (.int (x3 + 1)), none, none]) (by simp [jv_le]) ?_
    exact h
  · replace h := h.2 c
    refine jv_aload_n d_M_share_68 rfl rfl ?_
    refine jv_aload_n d_M_share_69 rfl rfl ?_
    obtain ⟨q1, h⟩ := h
    obtain ⟨b2, e3, h⟩ := h
    refine jv_getR d_M_share_70 fl_M_43 rfl q1 e3 ?_
    obtain ⟨q4, h⟩ := h
    refine jv_invV [.ref b2] [] d_M_share_73 ml_M_199 q4 rfl (Nat.le_of_ble_eq_true rfl) (Nat.zero_add _) (Nat.zero_add _) (jv_Ct.mono h (fun v M6 N6 h => ?_))
    obtain ⟨rfl, h⟩ := h
    change jv_J g (d + 1) mt_M_share 76 [some (.ref a0), some (.int x1), some (.int x2), some (.int x3), some (.int x4), none] [] M6 N6 cr sr Z
    refine jv_aload_n d_M_share_76 rfl rfl ?_
    obtain ⟨q7, h⟩ := h
    obtain ⟨b8, e9, h⟩ := h
    refine jv_getR d_M_share_77 fl_M_72 rfl q7 e9 ?_
    refine jv_iload_n d_M_share_80 rfl rfl ?_
    refine jv_dup2 d_M_share_81 rfl rfl ?_
    obtain ⟨q10, q11, h⟩ := h
    refine jv_iald d_M_share_82 q10 q11 ?_
    refine jv_aload_n d_M_share_83 rfl rfl ?_
    obtain ⟨q12, h⟩ := h
    obtain ⟨b13, e14, h⟩ := h
    refine jv_getR d_M_share_84 fl_M_43 rfl q12 e14 ?_
    refine jv_aload_n d_M_share_87 rfl rfl ?_
    obtain ⟨q15, h⟩ := h
    refine jv_getI d_M_share_88 fl_M_78 rfl q15 ?_
    refine jv_invS [.ref b13, .int (Prod.fst M6 a0 6)] [.int (Prod.fst M6 b8 (Int32.toNatClampNeg x3)), .int x3, .ref b8] d_M_share_91 ml_M_189 rfl (Nat.le_of_ble_eq_true rfl) (Nat.zero_add _) (Nat.zero_add _) (jv_Ct.mono h (fun v M17 N17 h => ?_))
    obtain ⟨r16, rfl, h⟩ := h
    change jv_J g (d + 1) mt_M_share 94 [some (.ref a0), some (.int x1), some (.int x2), some (.int x3), some (.int x4), none] [.int r16, .int (Prod.fst M6 b8 (Int32.toNatClampNeg x3)), .int x3, .ref b8] M17 N17 cr sr Z
    refine jv_invS [.int r16] [.int (Prod.fst M6 b8 (Int32.toNatClampNeg x3)), .int x3, .ref b8] d_M_share_94 ml_M_229 rfl (Nat.le_of_ble_eq_true rfl) (Nat.zero_add _) (Nat.zero_add _) (jv_Ct.mono h (fun v M19 N19 h => ?_))
    obtain ⟨r18, rfl, h⟩ := h
    change jv_J g (d + 1) mt_M_share 97 [some (.ref a0), some (.int x1), some (.int x2), some (.int x3), some (.int x4), none] [.int r18, .int (Prod.fst M6 b8 (Int32.toNatClampNeg x3)), .int x3, .ref b8] M19 N19 cr sr Z
    refine jv_iadd d_M_share_97 ?_
    obtain ⟨q20, q21, h⟩ := h
    refine jv_iast d_M_share_98 q20 q21 ?_
    refine jv_iinc (v := (x4 + 1)) (L' := [some (.ref a0), some (.int x1), some (.int x2), some (.int x3), some (.int (x4 + 1)), none]) d_M_share_99 rfl rfl (Nat.le_of_ble_eq_true rfl) rfl ?_
    refine jv_goto (tgt := 61) d_M_share_102 (by decide) ?_
    exact h
theorem b_M_share_122 {g : jv_G} {d : Nat} {M : jv_Mem} {N cr sr : Nat} {Z : Option Value → jv_Mem → Nat → Prop} {a0 : Nat} {x1 : Int32} {x2 : Int32} {x3 : Int32} {x4 : Int32} (h : jv_Tg 10 a0 N ∧ ((1 <<< ((Prod.fst M a0 9) &&& 31)) ≤ x4 → jv_Tg 10 a0 N ∧ jv_Ct g d mt_M_factorial [.int (Prod.fst M a0 9)] M N 0 0 (fun v M4 N4 => jv_ri v (fun r3 => jv_Ct g d mt_M_fraction [.int x3, .int r3, .int x2] M4 N4 0 0 (fun v M6 N6 => jv_ri v (fun r5 => Z (some (.int r5)) M6 N6))))) ∧ (¬ ((1 <<< ((Prod.fst M a0 9) &&& 31)) ≤ x4) → jv_Ct g d mt_M_ones [.int x4] M N 0 0 (fun v M8 N8 => jv_ri v (fun r7 => jv_Ct g d mt_M_has [.int x4, .int x1] M8 N8 0 0 (fun v M10 N10 => jv_ri v (fun r9 => (r9 = 0 → jv_Ct g d mt_M_factorial [.int r7] M10 N10 0 0 (fun v M12 N12 => jv_ri v (fun r11 => jv_Tg 10 a0 N12 ∧ jv_Ct g d mt_M_factorial [.int (((Prod.fst M12 a0 9) - 1) - r7)] M12 N12 0 0 (fun v M15 N15 => jv_ri v (fun r14 => jv_Tg 10 a0 N15 ∧ ∃ b17, Prod.fst (Prod.snd M15) a0 33 = some b17 ∧ jv_Tg 11 b17 N15 ∧ vp_in (x4 ||| (1 <<< (x1 &&& 31))) (jv_sh b17).2 ∧ jv_Tg 10 a0 N15 ∧ ∃ b22, Prod.fst (Prod.snd M15) a0 33 = some b22 ∧ jv_Tg 11 b22 N15 ∧ vp_in x4 (jv_sh b22).2 ∧ jv_J g (d + 1) mt_M_share 122 [some (.ref a0), some (.int x1), some (.int x2), some (.int (x3 + ((r11 * r14) * ((Prod.fst M15 b17 (Int32.toNatClampNeg (x4 ||| (1 <<< (x1 &&& 31))))) - (Prod.fst M15 b22 (Int32.toNatClampNeg x4)))))), some (.int (x4 + 1)), none] [] M15 N15 cr sr Z))))) ∧ (¬ (r9 = 0) → jv_J g (d + 1) mt_M_share 122 [some (.ref a0), some (.int x1), some (.int x2), some (.int (x3 + 0)), some (.int (x4 + 1)), none] [] M10 N10 cr sr Z))))))) : jv_J g (d + 1) mt_M_share 122 [some (.ref a0), some (.int x1), some (.int x2), some (.int x3), some (.int x4), none] [] M N cr sr Z := by
  refine jv_iload d_M_share_122 rfl ?_
  refine jv_iconst (v := 1) d_M_share_124 (by decide) ?_
  refine jv_aload_n d_M_share_125 rfl rfl ?_
  obtain ⟨q1, h⟩ := h
  refine jv_getI d_M_share_126 fl_M_138 rfl q1 ?_
  refine jv_ishl d_M_share_129 ?_
  refine jv_icmp_ge (tgt := 200) d_M_share_130 (by decide) ⟨fun c => ?_, fun c => ?_⟩
  · replace h := h.1 c
    refine jv_iload_n d_M_share_200 rfl rfl ?_
    refine jv_aload_n d_M_share_201 rfl rfl ?_
    obtain ⟨q2, h⟩ := h
    refine jv_getI d_M_share_202 fl_M_138 rfl q2 ?_
    refine jv_invS [.int (Prod.fst M a0 9)] [.int x3] d_M_share_205 ml_M_276 rfl (Nat.le_of_ble_eq_true rfl) (Nat.zero_add _) (Nat.zero_add _) (jv_Ct.mono h (fun v M4 N4 h => ?_))
    obtain ⟨r3, rfl, h⟩ := h
    change jv_J g (d + 1) mt_M_share 208 [some (.ref a0), some (.int x1), some (.int x2), some (.int x3), some (.int x4), none] [.int r3, .int x3] M4 N4 cr sr Z
    refine jv_iload_n d_M_share_208 rfl rfl ?_
    refine jv_invS [.int x3, .int r3, .int x2] [] d_M_share_209 ml_M_279 rfl (Nat.le_of_ble_eq_true rfl) (Nat.zero_add _) (Nat.zero_add _) (jv_Ct.mono h (fun v M6 N6 h => ?_))
    obtain ⟨r5, rfl, h⟩ := h
    change jv_J g (d + 1) mt_M_share 212 [some (.ref a0), some (.int x1), some (.int x2), some (.int x3), some (.int x4), none] [.int r5] M6 N6 cr sr Z
    exact jv_iret d_M_share_212 rfl rfl h
  · replace h := h.2 c
    refine jv_iload d_M_share_133 rfl ?_
    refine jv_invS [.int x4] [] d_M_share_135 ml_M_229 rfl (Nat.le_of_ble_eq_true rfl) (Nat.zero_add _) (Nat.zero_add _) (jv_Ct.mono h (fun v M8 N8 h => ?_))
    obtain ⟨r7, rfl, h⟩ := h
    change jv_J g (d + 1) mt_M_share 138 [some (.ref a0), some (.int x1), some (.int x2), some (.int x3), some (.int x4), none] [.int r7] M8 N8 cr sr Z
    refine jv_istore (L' := [some (.ref a0), some (.int x1), some (.int x2), some (.int x3), some (.int x4), some (.int r7)]) d_M_share_138 (Nat.le_of_ble_eq_true rfl) rfl ?_
    refine jv_iload_n d_M_share_140 rfl rfl ?_
    refine jv_iload d_M_share_141 rfl ?_
    refine jv_iload_n d_M_share_143 rfl rfl ?_
    refine jv_invS [.int x4, .int x1] [.int x3] d_M_share_144 ml_M_175 rfl (Nat.le_of_ble_eq_true rfl) (Nat.zero_add _) (Nat.zero_add _) (jv_Ct.mono h (fun v M10 N10 h => ?_))
    obtain ⟨r9, rfl, h⟩ := h
    change jv_J g (d + 1) mt_M_share 147 [some (.ref a0), some (.int x1), some (.int x2), some (.int x3), some (.int x4), some (.int r7)] [.int r9, .int x3] M10 N10 cr sr Z
    refine jv_if_eq (tgt := 154) d_M_share_147 (by decide) ⟨fun c => ?_, fun c => ?_⟩
    · replace h := h.1 c
      refine jv_iload d_M_share_154 rfl ?_
      refine jv_invS [.int r7] [.int x3] d_M_share_156 ml_M_276 rfl (Nat.le_of_ble_eq_true rfl) (Nat.zero_add _) (Nat.zero_add _) (jv_Ct.mono h (fun v M12 N12 h => ?_))
      obtain ⟨r11, rfl, h⟩ := h
      change jv_J g (d + 1) mt_M_share 159 [some (.ref a0), some (.int x1), some (.int x2), some (.int x3), some (.int x4), some (.int r7)] [.int r11, .int x3] M12 N12 cr sr Z
      refine jv_aload_n d_M_share_159 rfl rfl ?_
      obtain ⟨q13, h⟩ := h
      refine jv_getI d_M_share_160 fl_M_138 rfl q13 ?_
      refine jv_iconst (v := 1) d_M_share_163 (by decide) ?_
      refine jv_isub d_M_share_164 ?_
      refine jv_iload d_M_share_165 rfl ?_
      refine jv_isub d_M_share_167 ?_
      refine jv_invS [.int (((Prod.fst M12 a0 9) - 1) - r7)] [.int r11, .int x3] d_M_share_168 ml_M_276 rfl (Nat.le_of_ble_eq_true rfl) (Nat.zero_add _) (Nat.zero_add _) (jv_Ct.mono h (fun v M15 N15 h => ?_))
      obtain ⟨r14, rfl, h⟩ := h
      change jv_J g (d + 1) mt_M_share 171 [some (.ref a0), some (.int x1), some (.int x2), some (.int x3), some (.int x4), some (.int r7)] [.int r14, .int r11, .int x3] M15 N15 cr sr Z
      refine jv_imul d_M_share_171 ?_
      refine jv_aload_n d_M_share_172 rfl rfl ?_
      obtain ⟨q16, h⟩ := h
      obtain ⟨b17, e18, h⟩ := h
      refine jv_getR d_M_share_173 fl_M_72 rfl q16 e18 ?_
      refine jv_iload d_M_share_176 rfl ?_
      refine jv_iconst (v := 1) d_M_share_178 (by decide) ?_
      refine jv_iload_n d_M_share_179 rfl rfl ?_
      refine jv_ishl d_M_share_180 ?_
      refine jv_ior d_M_share_181 ?_
      obtain ⟨q19, q20, h⟩ := h
      refine jv_iald d_M_share_182 q19 q20 ?_
      refine jv_aload_n d_M_share_183 rfl rfl ?_
      obtain ⟨q21, h⟩ := h
      obtain ⟨b22, e23, h⟩ := h
      refine jv_getR d_M_share_184 fl_M_72 rfl q21 e23 ?_
      refine jv_iload d_M_share_187 rfl ?_
      obtain ⟨q24, q25, h⟩ := h
      refine jv_iald d_M_share_189 q24 q25 ?_
      refine jv_isub d_M_share_190 ?_
      refine jv_imul d_M_share_191 ?_
      refine jv_iadd d_M_share_192 ?_
      refine jv_istore_n (L' := [some (.ref a0), some (.int x1), some (.int x2), some (.int (x3 + ((r11 * r14) * ((Prod.fst M15 b17 (Int32.toNatClampNeg (x4 ||| (1 <<< (x1 &&& 31))))) - (Prod.fst M15 b22 (Int32.toNatClampNeg x4)))))), some (.int x4), some (.int r7)]) d_M_share_193 rfl (Nat.le_of_ble_eq_true rfl) rfl ?_
      refine jv_iinc (v := (x4 + 1)) (L' := [some (.ref a0), some (.int x1), some (.int x2), some (.int (x3 + ((r11 * r14) * ((Prod.fst M15 b17 (Int32.toNatClampNeg (x4 ||| (1 <<< (x1 &&& 31))))) - (Prod.fst M15 b22 (Int32.toNatClampNeg x4)))))), some (.int (x4 + 1)), some (.int r7)]) d_M_share_194 rfl rfl (Nat.le_of_ble_eq_true rfl) rfl ?_
      refine jv_goto (tgt := 122) d_M_share_197 (by decide) ?_
      refine jv_weak (L' := [some (.ref a0), some (.int x1), some (.int x2), some (.int (x3 + ((r11 * r14) * ((Prod.fst M15 b17 (Int32.toNatClampNeg (x4 ||| (1 <<< (x1 &&& 31))))) - (Prod.fst M15 b22 (Int32.toNatClampNeg x4)))))), some (.int (x4 + 1)), none]) (by simp [jv_le]) ?_
      exact h
    · replace h := h.2 c
      refine jv_iconst (v := 0) d_M_share_150 (by decide) ?_
      refine jv_goto (tgt := 192) d_M_share_151 (by decide) ?_
      refine jv_iadd d_M_share_192 ?_
      refine jv_istore_n (L' := [some (.ref a0), some (.int x1), some (.int x2), some (.int (x3 + 0)), some (.int x4), some (.int r7)]) d_M_share_193 rfl (Nat.le_of_ble_eq_true rfl) rfl ?_
      refine jv_iinc (v := (x4 + 1)) (L' := [some (.ref a0), some (.int x1), some (.int x2), some (.int (x3 + 0)), some (.int (x4 + 1)), some (.int r7)]) d_M_share_194 rfl rfl (Nat.le_of_ble_eq_true rfl) rfl ?_
      refine jv_goto (tgt := 122) d_M_share_197 (by decide) ?_
      refine jv_weak (L' := [some (.ref a0), some (.int x1), some (.int x2), some (.int (x3 + 0)), some (.int (x4 + 1)), none]) (by simp [jv_le]) ?_
      exact h
theorem b_M_factorial_0 {g : jv_G} {d : Nat} {M : jv_Mem} {N cr sr : Nat} {Z : Option Value → jv_Mem → Nat → Prop} {x0 : Int32} (h : jv_J g d mt_M_factorial 4 [some (.int x0), some (.int 1), some (.int 2)] [] M N cr sr Z) : jv_J g d mt_M_factorial 0 [some (.int x0), none, none] [] M N cr sr Z := by
  refine jv_iconst (v := 1) d_M_factorial_0 (by decide) ?_
  refine jv_istore_n (L' := [some (.int x0), some (.int 1), none]) d_M_factorial_1 rfl (Nat.le_of_ble_eq_true rfl) rfl ?_
  refine jv_iconst (v := 2) d_M_factorial_2 (by decide) ?_
  refine jv_istore_n (L' := [some (.int x0), some (.int 1), some (.int 2)]) d_M_factorial_3 rfl (Nat.le_of_ble_eq_true rfl) rfl ?_
  exact h
theorem b_M_factorial_4 {g : jv_G} {d : Nat} {M : jv_Mem} {N cr sr : Nat} {Z : Option Value → jv_Mem → Nat → Prop} {x0 : Int32} {x1 : Int32} {x2 : Int32} (h : (x0 < x2 → Z (some (.int x1)) M N) ∧ (¬ (x0 < x2) → jv_J g d mt_M_factorial 4 [some (.int x0), some (.int (x1 * x2)), some (.int (x2 + 1))] [] M N cr sr Z)) : jv_J g d mt_M_factorial 4 [some (.int x0), some (.int x1), some (.int x2)] [] M N cr sr Z := by
  refine jv_iload_n d_M_factorial_4 rfl rfl ?_
  refine jv_iload_n d_M_factorial_5 rfl rfl ?_
  refine jv_icmp_gt (tgt := 19) d_M_factorial_6 (by decide) ⟨fun c => ?_, fun c => ?_⟩
  · replace h := h.1 c
    refine jv_iload_n d_M_factorial_19 rfl rfl ?_
    exact jv_iret d_M_factorial_20 rfl rfl h
  · replace h := h.2 c
    refine jv_iload_n d_M_factorial_9 rfl rfl ?_
    refine jv_iload_n d_M_factorial_10 rfl rfl ?_
    refine jv_imul d_M_factorial_11 ?_
    refine jv_istore_n (L' := [some (.int x0), some (.int (x1 * x2)), some (.int x2)]) d_M_factorial_12 rfl (Nat.le_of_ble_eq_true rfl) rfl ?_
    refine jv_iinc (v := (x2 + 1)) (L' := [some (.int x0), some (.int (x1 * x2)), some (.int (x2 + 1))]) d_M_factorial_13 rfl rfl (Nat.le_of_ble_eq_true rfl) rfl ?_
    refine jv_goto (tgt := 4) d_M_factorial_16 (by decide) ?_
    exact h
theorem b_M_fraction_0 {g : jv_G} {d : Nat} {M : jv_Mem} {N cr sr : Nat} {Z : Option Value → jv_Mem → Nat → Prop} {x0 : Int32} {x1 : Int32} {x2 : Int32} (h : jv_Ct g d mt_M_divisor [.int x0, .int x1] M N 0 0 (fun v M2 N2 => jv_ri v (fun r1 => (x2 = 0 → ¬ r1 = 0 ∧ Z (some (.int (x1 / r1))) M2 N2) ∧ (¬ (x2 = 0) → ¬ r1 = 0 ∧ Z (some (.int (x0 / r1))) M2 N2)))) : jv_J g (d + 1) mt_M_fraction 0 [some (.int x0), some (.int x1), some (.int x2), none] [] M N cr sr Z := by
  refine jv_iload_n d_M_fraction_0 rfl rfl ?_
  refine jv_iload_n d_M_fraction_1 rfl rfl ?_
  refine jv_invS [.int x0, .int x1] [] d_M_fraction_2 ml_M_272 rfl (Nat.le_of_ble_eq_true rfl) (Nat.zero_add _) (Nat.zero_add _) (jv_Ct.mono h (fun v M2 N2 h => ?_))
  obtain ⟨r1, rfl, h⟩ := h
  change jv_J g (d + 1) mt_M_fraction 5 [some (.int x0), some (.int x1), some (.int x2), none] [.int r1] M2 N2 cr sr Z
  refine jv_istore_n (L' := [some (.int x0), some (.int x1), some (.int x2), some (.int r1)]) d_M_fraction_5 rfl (Nat.le_of_ble_eq_true rfl) rfl ?_
  refine jv_iload_n d_M_fraction_6 rfl rfl ?_
  refine jv_if_eq (tgt := 16) d_M_fraction_7 (by decide) ⟨fun c => ?_, fun c => ?_⟩
  · replace h := h.1 c
    refine jv_iload_n d_M_fraction_16 rfl rfl ?_
    refine jv_iload_n d_M_fraction_17 rfl rfl ?_
    obtain ⟨q3, h⟩ := h
    refine jv_idiv d_M_fraction_18 q3 ?_
    exact jv_iret d_M_fraction_19 rfl rfl h
  · replace h := h.2 c
    refine jv_iload_n d_M_fraction_10 rfl rfl ?_
    refine jv_iload_n d_M_fraction_11 rfl rfl ?_
    obtain ⟨q4, h⟩ := h
    refine jv_idiv d_M_fraction_12 q4 ?_
    refine jv_goto (tgt := 19) d_M_fraction_13 (by decide) ?_
    exact jv_iret d_M_fraction_19 rfl rfl h
theorem b_M_divisor_0 {g : jv_G} {d : Nat} {M : jv_Mem} {N cr sr : Nat} {Z : Option Value → jv_Mem → Nat → Prop} {x0 : Int32} {x1 : Int32} (h : (0 ≤ x0 → jv_J g d mt_M_divisor 13 [none, none, some (.int x0), some (.int x1), none] [] M N cr sr Z) ∧ (¬ (0 ≤ x0) → jv_J g d mt_M_divisor 13 [none, none, some (.int (-x0)), some (.int x1), none] [] M N cr sr Z)) : jv_J g d mt_M_divisor 0 [some (.int x0), some (.int x1), none, none, none] [] M N cr sr Z := by
  refine jv_iload_n d_M_divisor_0 rfl rfl ?_
  refine jv_if_ge (tgt := 9) d_M_divisor_1 (by decide) ⟨fun c => ?_, fun c => ?_⟩
  · replace h := h.1 c
    refine jv_iload_n d_M_divisor_9 rfl rfl ?_
    refine jv_istore_n (L' := [some (.int x0), some (.int x1), some (.int x0), none, none]) d_M_divisor_10 rfl (Nat.le_of_ble_eq_true rfl) rfl ?_
    refine jv_iload_n d_M_divisor_11 rfl rfl ?_
    refine jv_istore_n (L' := [some (.int x0), some (.int x1), some (.int x0), some (.int x1), none]) d_M_divisor_12 rfl (Nat.le_of_ble_eq_true rfl) rfl ?_
    refine jv_weak (L' := [none, none, some (.int x0), some (.int x1), none]) (by simp [jv_le]) ?_
    exact h
  · replace h := h.2 c
    refine jv_iload_n d_M_divisor_4 rfl rfl ?_
    refine jv_ineg d_M_divisor_5 ?_
    refine jv_goto (tgt := 10) d_M_divisor_6 (by decide) ?_
    refine jv_istore_n (L' := [some (.int x0), some (.int x1), some (.int (-x0)), none, none]) d_M_divisor_10 rfl (Nat.le_of_ble_eq_true rfl) rfl ?_
    refine jv_iload_n d_M_divisor_11 rfl rfl ?_
    refine jv_istore_n (L' := [some (.int x0), some (.int x1), some (.int (-x0)), some (.int x1), none]) d_M_divisor_12 rfl (Nat.le_of_ble_eq_true rfl) rfl ?_
    refine jv_weak (L' := [none, none, some (.int (-x0)), some (.int x1), none]) (by simp [jv_le]) ?_
    exact h
theorem b_M_divisor_13 {g : jv_G} {d : Nat} {M : jv_Mem} {N cr sr : Nat} {Z : Option Value → jv_Mem → Nat → Prop} {x2 : Int32} {x3 : Int32} (h : (x3 = 0 → Z (some (.int x2)) M N) ∧ (¬ (x3 = 0) → ¬ x3 = 0 ∧ jv_J g d mt_M_divisor 13 [none, none, some (.int x3), some (.int (x2 - x2 / x3 * x3)), none] [] M N cr sr Z)) : jv_J g d mt_M_divisor 13 [none, none, some (.int x2), some (.int x3), none] [] M N cr sr Z := by
  refine jv_iload_n d_M_divisor_13 rfl rfl ?_
  refine jv_if_eq (tgt := 30) d_M_divisor_14 (by decide) ⟨fun c => ?_, fun c => ?_⟩
  · replace h := h.1 c
    refine jv_iload_n d_M_divisor_30 rfl rfl ?_
    exact jv_iret d_M_divisor_31 rfl rfl h
  · replace h := h.2 c
    refine jv_iload_n d_M_divisor_17 rfl rfl ?_
    refine jv_iload_n d_M_divisor_18 rfl rfl ?_
    obtain ⟨q1, h⟩ := h
    refine jv_irem d_M_divisor_19 q1 ?_
    refine jv_istore (L' := [none, none, some (.int x2), some (.int x3), some (.int (x2 - x2 / x3 * x3))]) d_M_divisor_20 (Nat.le_of_ble_eq_true rfl) rfl ?_
    refine jv_iload_n d_M_divisor_22 rfl rfl ?_
    refine jv_istore_n (L' := [none, none, some (.int x3), some (.int x3), some (.int (x2 - x2 / x3 * x3))]) d_M_divisor_23 rfl (Nat.le_of_ble_eq_true rfl) rfl ?_
    refine jv_iload d_M_divisor_24 rfl ?_
    refine jv_istore_n (L' := [none, none, some (.int x3), some (.int (x2 - x2 / x3 * x3)), some (.int (x2 - x2 / x3 * x3))]) d_M_divisor_26 rfl (Nat.le_of_ble_eq_true rfl) rfl ?_
    refine jv_goto (tgt := 13) d_M_divisor_27 (by decide) ?_
    refine jv_weak (L' := [none, none, some (.int x3), some (.int (x2 - x2 / x3 * x3)), none]) (by simp [jv_le]) ?_
    exact h
theorem b_M_lost_0 {g : jv_G} {d : Nat} {M : jv_Mem} {N cr sr : Nat} {Z : Option Value → jv_Mem → Nat → Prop} {a0 : Nat} {x1 : Int32} {x2 : Int32} (h : jv_Tg 10 a0 N ∧ jv_Ct g d mt_M_in [.long (Int32.toInt64 x1), .long 0, .long 10] (jv_si M a0 0 0) N 0 0 (fun v M3 N3 => jv_ri v (fun r2 => (r2 ≠ 0 → jv_Tg 10 a0 N3 ∧ ∃ b5, Prod.fst (Prod.snd M3) a0 19 = some b5 ∧ jv_Tg 11 b5 N3 ∧ vp_in 80 (jv_sh b5).2 ∧ jv_J g (d + 1) mt_M_lost 34 [some (.ref a0), some (.int x1), some (.int x2), some (.int (Prod.fst M3 b5 (Int32.toNatClampNeg 80))), some (.int 0), some (.int 0), none] [] M3 N3 cr sr Z) ∧ (r2 = 0 → Z (some (.int (-2))) M3 N3)))) : jv_J g (d + 1) mt_M_lost 0 [some (.ref a0), some (.int x1), some (.int x2), none, none, none, none] [] M N cr sr Z := by
  refine jv_aload_n d_M_lost_0 rfl rfl ?_
  refine jv_iconst (v := 0) d_M_lost_1 (by decide) ?_
  obtain ⟨q1, h⟩ := h
  refine jv_putI d_M_lost_2 fl_M_75 (fun r hr => by cases hr; rfl) rfl q1 ?_
  refine jv_iload_n d_M_lost_5 rfl rfl ?_
  refine jv_i2l d_M_lost_6 ?_
  refine jv_lconst (v := 0) d_M_lost_7 (by decide) ?_
  refine jv_ldc2 d_M_lost_8 co_M_283 ?_
  refine jv_invS [.long (Int32.toInt64 x1), .long 0, .long 10] [] d_M_lost_11 ml_M_81 rfl (Nat.le_of_ble_eq_true rfl) (Nat.zero_add _) (Nat.zero_add _) (jv_Ct.mono h (fun v M3 N3 h => ?_))
  obtain ⟨r2, rfl, h⟩ := h
  change jv_J g (d + 1) mt_M_lost 14 [some (.ref a0), some (.int x1), some (.int x2), none, none, none, none] [.int r2] M3 N3 cr sr Z
  refine jv_if_ne (tgt := 20) d_M_lost_14 (by decide) ⟨fun c => ?_, fun c => ?_⟩
  · replace h := h.1 c
    refine jv_aload_n d_M_lost_20 rfl rfl ?_
    obtain ⟨q4, h⟩ := h
    obtain ⟨b5, e6, h⟩ := h
    refine jv_getR d_M_lost_21 fl_M_40 rfl q4 e6 ?_
    refine jv_bipush (v := 80) d_M_lost_24 (by decide) ?_
    obtain ⟨q7, q8, h⟩ := h
    refine jv_iald d_M_lost_26 q7 q8 ?_
    refine jv_istore_n (L' := [some (.ref a0), some (.int x1), some (.int x2), some (.int (Prod.fst M3 b5 (Int32.toNatClampNeg 80))), none, none, none]) d_M_lost_27 rfl (Nat.le_of_ble_eq_true rfl) rfl ?_
    refine jv_iconst (v := 0) d_M_lost_28 (by decide) ?_
    refine jv_istore (L' := [some (.ref a0), some (.int x1), some (.int x2), some (.int (Prod.fst M3 b5 (Int32.toNatClampNeg 80))), some (.int 0), none, none]) d_M_lost_29 (Nat.le_of_ble_eq_true rfl) rfl ?_
    refine jv_iconst (v := 0) d_M_lost_31 (by decide) ?_
    refine jv_istore (L' := [some (.ref a0), some (.int x1), some (.int x2), some (.int (Prod.fst M3 b5 (Int32.toNatClampNeg 80))), some (.int 0), some (.int 0), none]) d_M_lost_32 (Nat.le_of_ble_eq_true rfl) rfl ?_
    exact h
  · replace h := h.2 c
    refine jv_bipush (v := (-2)) d_M_lost_17 (by decide) ?_
    exact jv_iret d_M_lost_19 rfl rfl h
theorem b_M_lost_34 {g : jv_G} {d : Nat} {M : jv_Mem} {N cr sr : Nat} {Z : Option Value → jv_Mem → Nat → Prop} {a0 : Nat} {x1 : Int32} {x2 : Int32} {x3 : Int32} {x4 : Int32} {x5 : Int32} (h : ((1 <<< (x3 &&& 31)) ≤ x5 → jv_Ct g d mt_M_power [.int 10, .int x3] M N 0 0 (fun v M2 N2 => jv_ri v (fun r1 => jv_Ct g d mt_M_fraction [.int x4, .int r1, .int x2] M2 N2 0 0 (fun v M4 N4 => jv_ri v (fun r3 => Z (some (.int r3)) M4 N4))))) ∧ (¬ ((1 <<< (x3 &&& 31)) ≤ x5) → jv_Tg 10 a0 N ∧ ∃ b6, Prod.fst (Prod.snd M) a0 20 = some b6 ∧ jv_Tg 10 a0 N ∧ ∃ b9, Prod.fst (Prod.snd M) a0 19 = some b9 ∧ jv_Ct g d mt_M_lay [.ref b6, .ref b9] M N 0 0 (fun v M12 N12 => jv_rv v (jv_J g (d + 1) mt_M_lost 58 [some (.ref a0), some (.int x1), some (.int x2), some (.int x3), some (.int x4), some (.int x5), some (.int (x3 - 1))] [] M12 N12 cr sr Z)))) : jv_J g (d + 1) mt_M_lost 34 [some (.ref a0), some (.int x1), some (.int x2), some (.int x3), some (.int x4), some (.int x5), none] [] M N cr sr Z := by
  refine jv_iload d_M_lost_34 rfl ?_
  refine jv_iconst (v := 1) d_M_lost_36 (by decide) ?_
  refine jv_iload_n d_M_lost_37 rfl rfl ?_
  refine jv_ishl d_M_lost_38 ?_
  refine jv_icmp_ge (tgt := 171) d_M_lost_39 (by decide) ⟨fun c => ?_, fun c => ?_⟩
  · replace h := h.1 c
    refine jv_iload d_M_lost_171 rfl ?_
    refine jv_bipush (v := 10) d_M_lost_173 (by decide) ?_
    refine jv_iload_n d_M_lost_175 rfl rfl ?_
    refine jv_invS [.int 10, .int x3] [.int x4] d_M_lost_176 ml_M_285 rfl (Nat.le_of_ble_eq_true rfl) (Nat.zero_add _) (Nat.zero_add _) (jv_Ct.mono h (fun v M2 N2 h => ?_))
    obtain ⟨r1, rfl, h⟩ := h
    change jv_J g (d + 1) mt_M_lost 179 [some (.ref a0), some (.int x1), some (.int x2), some (.int x3), some (.int x4), some (.int x5), none] [.int r1, .int x4] M2 N2 cr sr Z
    refine jv_iload_n d_M_lost_179 rfl rfl ?_
    refine jv_invS [.int x4, .int r1, .int x2] [] d_M_lost_180 ml_M_279 rfl (Nat.le_of_ble_eq_true rfl) (Nat.zero_add _) (Nat.zero_add _) (jv_Ct.mono h (fun v M4 N4 h => ?_))
    obtain ⟨r3, rfl, h⟩ := h
    change jv_J g (d + 1) mt_M_lost 183 [some (.ref a0), some (.int x1), some (.int x2), some (.int x3), some (.int x4), some (.int x5), none] [.int r3] M4 N4 cr sr Z
    exact jv_iret d_M_lost_183 rfl rfl h
  · replace h := h.2 c
    refine jv_aload_n d_M_lost_42 rfl rfl ?_
    obtain ⟨q5, h⟩ := h
    obtain ⟨b6, e7, h⟩ := h
    refine jv_getR d_M_lost_43 fl_M_43 rfl q5 e7 ?_
    refine jv_aload_n d_M_lost_46 rfl rfl ?_
    obtain ⟨q8, h⟩ := h
    obtain ⟨b9, e10, h⟩ := h
    refine jv_getR d_M_lost_47 fl_M_40 rfl q8 e10 ?_
    refine jv_invS [.ref b6, .ref b9] [] d_M_lost_50 ml_M_131 rfl (Nat.le_of_ble_eq_true rfl) (Nat.zero_add _) (Nat.zero_add _) (jv_Ct.mono h (fun v M12 N12 h => ?_))
    obtain ⟨rfl, h⟩ := h
    change jv_J g (d + 1) mt_M_lost 53 [some (.ref a0), some (.int x1), some (.int x2), some (.int x3), some (.int x4), some (.int x5), none] [] M12 N12 cr sr Z
    refine jv_iload_n d_M_lost_53 rfl rfl ?_
    refine jv_iconst (v := 1) d_M_lost_54 (by decide) ?_
    refine jv_isub d_M_lost_55 ?_
    refine jv_istore (L' := [some (.ref a0), some (.int x1), some (.int x2), some (.int x3), some (.int x4), some (.int x5), some (.int (x3 - 1))]) d_M_lost_56 (Nat.le_of_ble_eq_true rfl) rfl ?_
    exact h
theorem b_M_lost_58 {g : jv_G} {d : Nat} {M : jv_Mem} {N cr sr : Nat} {Z : Option Value → jv_Mem → Nat → Prop} {a0 : Nat} {x1 : Int32} {x2 : Int32} {x3 : Int32} {x4 : Int32} {x5 : Int32} {x6 : Int32} (h : (x6 < 0 → jv_Tg 10 a0 N ∧ ∃ b2, Prod.fst (Prod.snd M) a0 20 = some b2 ∧ jv_Tg 10 a0 N ∧ jv_Ct g d mt_M_tickMany [.ref a0, .ref b2, .int 10] M N 0 0 (fun v M6 N6 => jv_rv v (jv_Tg 10 a0 N6 ∧ ∃ b8, Prod.fst (Prod.snd M6) a0 20 = some b8 ∧ jv_Tg 10 a0 N6 ∧ jv_Ct g d mt_M_haltedOf [.ref b8, .int (Prod.fst M6 a0 6)] M6 N6 0 0 (fun v M12 N12 => jv_ri v (fun r11 => jv_Tg 10 a0 N12 ∧ (r11 ≠ ((1 <<< ((Prod.fst M12 a0 6) &&& 31)) - 1) → jv_J g (d + 1) mt_M_lost 34 [some (.ref a0), some (.int x1), some (.int x2), some (.int x3), some (.int (x4 + 0)), some (.int (x5 + 1)), none] [] M12 N12 cr sr Z) ∧ (r11 = ((1 <<< ((Prod.fst M12 a0 6) &&& 31)) - 1) → jv_Ct g d mt_M_ones [.int x5] M12 N12 0 0 (fun v M15 N15 => jv_ri v (fun r14 => jv_Ct g d mt_M_power [.int (10 - x1), .int r14] M15 N15 0 0 (fun v M17 N17 => jv_ri v (fun r16 => jv_Ct g d mt_M_ones [.int x5] M17 N17 0 0 (fun v M19 N19 => jv_ri v (fun r18 => jv_Ct g d mt_M_power [.int x1, .int (x3 - r18)] M19 N19 0 0 (fun v M21 N21 => jv_ri v (fun r20 => jv_J g (d + 1) mt_M_lost 34 [some (.ref a0), some (.int x1), some (.int x2), some (.int x3), some (.int (x4 + (r16 * r20))), some (.int (x5 + 1)), none] [] M21 N21 cr sr Z)))))))))))))) ∧ (¬ (x6 < 0) → jv_Ct g d mt_M_has [.int x5, .int x6] M N 0 0 (fun v M23 N23 => jv_ri v (fun r22 => (r22 ≠ 0 → jv_J g (d + 1) mt_M_lost 58 [some (.ref a0), some (.int x1), some (.int x2), some (.int x3), some (.int x4), some (.int x5), some (.int (x6 + (-1)))] [] M23 N23 cr sr Z) ∧ (r22 = 0 → jv_Tg 10 a0 N23 ∧ ∃ b25, Prod.fst (Prod.snd M23) a0 20 = some b25 ∧ jv_Ct g d mt_M_dropOrder [.ref b25, .int x6] M23 N23 0 0 (fun v M28 N28 => jv_rv v (jv_J g (d + 1) mt_M_lost 58 [some (.ref a0), some (.int x1), some (.int x2), some (.int x3), some (.int x4), some (.int x5), some (.int (x6 + (-1)))] [] M28 N28 cr sr Z))))))) : jv_J g (d + 1) mt_M_lost 58 [some (.ref a0), some (.int x1), some (.int x2), some (.int x3), some (.int x4), some (.int x5), some (.int x6)] [] M N cr sr Z := by
  refine jv_iload d_M_lost_58 rfl ?_
  refine jv_if_lt (tgt := 88) d_M_lost_60 (by decide) ⟨fun c => ?_, fun c => ?_⟩
  · replace h := h.1 c
    refine jv_aload_n d_M_lost_88 rfl rfl ?_
    refine jv_aload_n d_M_lost_89 rfl rfl ?_
    obtain ⟨q1, h⟩ := h
    obtain ⟨b2, e3, h⟩ := h
    refine jv_getR d_M_lost_90 fl_M_43 rfl q1 e3 ?_
    refine jv_bipush (v := 10) d_M_lost_93 (by decide) ?_
    obtain ⟨q4, h⟩ := h
    refine jv_invV [.ref b2, .int 10] [] d_M_lost_95 ml_M_226 q4 rfl (Nat.le_of_ble_eq_true rfl) (Nat.zero_add _) (Nat.zero_add _) (jv_Ct.mono h (fun v M6 N6 h => ?_))
    obtain ⟨rfl, h⟩ := h
    change jv_J g (d + 1) mt_M_lost 98 [some (.ref a0), some (.int x1), some (.int x2), some (.int x3), some (.int x4), some (.int x5), some (.int x6)] [] M6 N6 cr sr Z
    refine jv_aload_n d_M_lost_98 rfl rfl ?_
    obtain ⟨q7, h⟩ := h
    obtain ⟨b8, e9, h⟩ := h
    refine jv_getR d_M_lost_99 fl_M_43 rfl q7 e9 ?_
    refine jv_aload_n d_M_lost_102 rfl rfl ?_
    obtain ⟨q10, h⟩ := h
    refine jv_getI d_M_lost_103 fl_M_78 rfl q10 ?_
    refine jv_invS [.ref b8, .int (Prod.fst M6 a0 6)] [] d_M_lost_106 ml_M_189 rfl (Nat.le_of_ble_eq_true rfl) (Nat.zero_add _) (Nat.zero_add _) (jv_Ct.mono h (fun v M12 N12 h => ?_))
    obtain ⟨r11, rfl, h⟩ := h
    change jv_J g (d + 1) mt_M_lost 109 [some (.ref a0), some (.int x1), some (.int x2), some (.int x3), some (.int x4), some (.int x5), some (.int x6)] [.int r11] M12 N12 cr sr Z
    refine jv_iconst (v := 1) d_M_lost_109 (by decide) ?_
    refine jv_aload_n d_M_lost_110 rfl rfl ?_
    obtain ⟨q13, h⟩ := h
    refine jv_getI d_M_lost_111 fl_M_78 rfl q13 ?_
    refine jv_ishl d_M_lost_114 ?_
    refine jv_iconst (v := 1) d_M_lost_115 (by decide) ?_
    refine jv_isub d_M_lost_116 ?_
    refine jv_icmp_ne (tgt := 124) d_M_lost_117 (by decide) ⟨fun c => ?_, fun c => ?_⟩
    · replace h := h.1 c
      refine jv_iconst (v := 0) d_M_lost_124 (by decide) ?_
      refine jv_istore (L' := [some (.ref a0), some (.int x1), some (.int x2), some (.int x3), some (.int x4), some (.int x5), some (.int 0)]) d_M_lost_125 (Nat.le_of_ble_eq_true rfl) rfl ?_
      refine jv_iload d_M_lost_127 rfl ?_
      refine jv_iload d_M_lost_129 rfl ?_
      refine jv_if_eq (tgt := 161) d_M_lost_131 (by decide) ⟨fun c => ?_, fun c => absurd c (by decide)⟩
      refine jv_iconst (v := 0) d_M_lost_161 (by decide) ?_
      refine jv_iadd d_M_lost_162 ?_
      refine jv_istore (L' := [some (.ref a0), some (.int x1), some (.int x2), some (.int x3), some (.int (x4 + 0)), some (.int x5), some (.int 0)]) d_M_lost_163 (Nat.le_of_ble_eq_true rfl) rfl ?_
      refine jv_iinc (v := (x5 + 1)) (L' := [some (.ref a0), some (.int x1), some (.int x2), some (.int x3), some (.int (x4 + 0)), some (.int (x5 + 1)), some (.int 0)]) d_M_lost_165 rfl rfl (Nat.le_of_ble_eq_true rfl) rfl ?_
      refine jv_goto (tgt := 34) d_M_lost_168 (by decide) ?_
      refine jv_weak (L' := [some (.ref a0), some (.int x1), some (.int x2), some (.int x3), some (.int (x4 + 0)), some (.int (x5 + 1)), none]) (by simp [jv_le]) ?_
      exact h
    · replace h := h.2 c
      refine jv_iconst (v := 1) d_M_lost_120 (by decide) ?_
      refine jv_goto (tgt := 125) d_M_lost_121 (by decide) ?_
      refine jv_istore (L' := [some (.ref a0), some (.int x1), some (.int x2), some (.int x3), some (.int x4), some (.int x5), some (.int 1)]) d_M_lost_125 (Nat.le_of_ble_eq_true rfl) rfl ?_
      refine jv_iload d_M_lost_127 rfl ?_
      refine jv_iload d_M_lost_129 rfl ?_
      refine jv_if_eq (tgt := 161) d_M_lost_131 (by decide) ⟨fun c => absurd c (by decide), fun c => ?_⟩
      refine jv_bipush (v := 10) d_M_lost_134 (by decide) ?_
      refine jv_iload_n d_M_lost_136 rfl rfl ?_
      refine jv_isub d_M_lost_137 ?_
      refine jv_iload d_M_lost_138 rfl ?_
      refine jv_invS [.int x5] [.int (10 - x1), .int x4] d_M_lost_140 ml_M_229 rfl (Nat.le_of_ble_eq_true rfl) (Nat.zero_add _) (Nat.zero_add _) (jv_Ct.mono h (fun v M15 N15 h => ?_))
      obtain ⟨r14, rfl, h⟩ := h
      change jv_J g (d + 1) mt_M_lost 143 [some (.ref a0), some (.int x1), some (.int x2), some (.int x3), some (.int x4), some (.int x5), some (.int 1)] [.int r14, .int (10 - x1), .int x4] M15 N15 cr sr Z
      refine jv_invS [.int (10 - x1), .int r14] [.int x4] d_M_lost_143 ml_M_285 rfl (Nat.le_of_ble_eq_true rfl) (Nat.zero_add _) (Nat.zero_add _) (jv_Ct.mono h (fun v M17 N17 h => ?_))
      obtain ⟨r16, rfl, h⟩ := h
      change jv_J g (d + 1) mt_M_lost 146 [some (.ref a0), some (.int x1), some (.int x2), some (.int x3), some (.int x4), some (.int x5), some (.int 1)] [.int r16, .int x4] M17 N17 cr sr Z
      refine jv_iload_n d_M_lost_146 rfl rfl ?_
      refine jv_iload_n d_M_lost_147 rfl rfl ?_
      refine jv_iload d_M_lost_148 rfl ?_
      refine jv_invS [.int x5] [.int x3, .int x1, .int r16, .int x4] d_M_lost_150 ml_M_229 rfl (Nat.le_of_ble_eq_true rfl) (Nat.zero_add _) (Nat.zero_add _) (jv_Ct.mono h (fun v M19 N19 h => ?_))
      obtain ⟨r18, rfl, h⟩ := h
      change jv_J g (d + 1) mt_M_lost 153 [some (.ref a0), some (.int x1), some (.int x2), some (.int x3), some (.int x4), some (.int x5), some (.int 1)] [.int r18, .int x3, .int x1, .int r16, .int x4] M19 N19 cr sr Z
      refine jv_isub d_M_lost_153 ?_
      refine jv_invS [.int x1, .int (x3 - r18)] [.int r16, .int x4] d_M_lost_154 ml_M_285 rfl (Nat.le_of_ble_eq_true rfl) (Nat.zero_add _) (Nat.zero_add _) (jv_Ct.mono h (fun v M21 N21 h => ?_))
      obtain ⟨r20, rfl, h⟩ := h
      change jv_J g (d + 1) mt_M_lost 157 [some (.ref a0), some (.int x1), some (.int x2), some (.int x3), some (.int x4), some (.int x5), some (.int 1)] [.int r20, .int r16, .int x4] M21 N21 cr sr Z
      refine jv_imul d_M_lost_157 ?_
      refine jv_goto (tgt := 162) d_M_lost_158 (by decide) ?_
      refine jv_iadd d_M_lost_162 ?_
      refine jv_istore (L' := [some (.ref a0), some (.int x1), some (.int x2), some (.int x3), some (.int (x4 + (r16 * r20))), some (.int x5), some (.int 1)]) d_M_lost_163 (Nat.le_of_ble_eq_true rfl) rfl ?_
      refine jv_iinc (v := (x5 + 1)) (L' := [some (.ref a0), some (.int x1), some (.int x2), some (.int x3), some (.int (x4 + (r16 * r20))), some (.int (x5 + 1)), some (.int 1)]) d_M_lost_165 rfl rfl (Nat.le_of_ble_eq_true rfl) rfl ?_
      refine jv_goto (tgt := 34) d_M_lost_168 (by decide) ?_
      refine jv_weak (L' := [some (.ref a0), some (.int x1), some (.int x2), some (.int x3), some (.int (x4 + (r16 * r20))), some (.int (x5 + 1)), none]) (by simp [jv_le]) ?_
      exact h
  · replace h := h.2 c
    refine jv_iload d_M_lost_63 rfl ?_
    refine jv_iload d_M_lost_65 rfl ?_
    refine jv_invS [.int x5, .int x6] [] d_M_lost_67 ml_M_175 rfl (Nat.le_of_ble_eq_true rfl) (Nat.zero_add _) (Nat.zero_add _) (jv_Ct.mono h (fun v M23 N23 h => ?_))
    obtain ⟨r22, rfl, h⟩ := h
    change jv_J g (d + 1) mt_M_lost 70 [some (.ref a0), some (.int x1), some (.int x2), some (.int x3), some (.int x4), some (.int x5), some (.int x6)] [.int r22] M23 N23 cr sr Z
    refine jv_if_ne (tgt := 82) d_M_lost_70 (by decide) ⟨fun c => ?_, fun c => ?_⟩
    · replace h := h.1 c
      refine jv_iinc (v := (x6 + (-1))) (L' := [some (.ref a0), some (.int x1), some (.int x2), some (.int x3), some (.int x4), some (.int x5), some (.int (x6 + (-1)))]) d_M_lost_82 rfl rfl (Nat.le_of_ble_eq_true rfl) rfl ?_
      refine jv_goto (tgt := 58) d_M_lost_85 (by decide) ?_
      exact h
    · replace h := h.2 c
      refine jv_aload_n d_M_lost_73 rfl rfl ?_
      obtain ⟨q24, h⟩ := h
      obtain ⟨b25, e26, h⟩ := h
      refine jv_getR d_M_lost_74 fl_M_43 rfl q24 e26 ?_
      refine jv_iload d_M_lost_77 rfl ?_
      refine jv_invS [.ref b25, .int x6] [] d_M_lost_79 ml_M_172 rfl (Nat.le_of_ble_eq_true rfl) (Nat.zero_add _) (Nat.zero_add _) (jv_Ct.mono h (fun v M28 N28 h => ?_))
      obtain ⟨rfl, h⟩ := h
      change jv_J g (d + 1) mt_M_lost 82 [some (.ref a0), some (.int x1), some (.int x2), some (.int x3), some (.int x4), some (.int x5), some (.int x6)] [] M28 N28 cr sr Z
      refine jv_iinc (v := (x6 + (-1))) (L' := [some (.ref a0), some (.int x1), some (.int x2), some (.int x3), some (.int x4), some (.int x5), some (.int (x6 + (-1)))]) d_M_lost_82 rfl rfl (Nat.le_of_ble_eq_true rfl) rfl ?_
      refine jv_goto (tgt := 58) d_M_lost_85 (by decide) ?_
      exact h
theorem b_M_power_0 {g : jv_G} {d : Nat} {M : jv_Mem} {N cr sr : Nat} {Z : Option Value → jv_Mem → Nat → Prop} {x0 : Int32} {x1 : Int32} (h : jv_J g d mt_M_power 4 [some (.int x0), some (.int x1), some (.int 1), some (.int 0)] [] M N cr sr Z) : jv_J g d mt_M_power 0 [some (.int x0), some (.int x1), none, none] [] M N cr sr Z := by
  refine jv_iconst (v := 1) d_M_power_0 (by decide) ?_
  refine jv_istore_n (L' := [some (.int x0), some (.int x1), some (.int 1), none]) d_M_power_1 rfl (Nat.le_of_ble_eq_true rfl) rfl ?_
  refine jv_iconst (v := 0) d_M_power_2 (by decide) ?_
  refine jv_istore_n (L' := [some (.int x0), some (.int x1), some (.int 1), some (.int 0)]) d_M_power_3 rfl (Nat.le_of_ble_eq_true rfl) rfl ?_
  exact h
theorem b_M_power_4 {g : jv_G} {d : Nat} {M : jv_Mem} {N cr sr : Nat} {Z : Option Value → jv_Mem → Nat → Prop} {x0 : Int32} {x1 : Int32} {x2 : Int32} {x3 : Int32} (h : (x1 ≤ x3 → Z (some (.int x2)) M N) ∧ (¬ (x1 ≤ x3) → jv_J g d mt_M_power 4 [some (.int x0), some (.int x1), some (.int (x2 * x0)), some (.int (x3 + 1))] [] M N cr sr Z)) : jv_J g d mt_M_power 4 [some (.int x0), some (.int x1), some (.int x2), some (.int x3)] [] M N cr sr Z := by
  refine jv_iload_n d_M_power_4 rfl rfl ?_
  refine jv_iload_n d_M_power_5 rfl rfl ?_
  refine jv_icmp_ge (tgt := 19) d_M_power_6 (by decide) ⟨fun c => ?_, fun c => ?_⟩
  · replace h := h.1 c
    refine jv_iload_n d_M_power_19 rfl rfl ?_
    exact jv_iret d_M_power_20 rfl rfl h
  · replace h := h.2 c
    refine jv_iload_n d_M_power_9 rfl rfl ?_
    refine jv_iload_n d_M_power_10 rfl rfl ?_
    refine jv_imul d_M_power_11 ?_
    refine jv_istore_n (L' := [some (.int x0), some (.int x1), some (.int (x2 * x0)), some (.int x3)]) d_M_power_12 rfl (Nat.le_of_ble_eq_true rfl) rfl ?_
    refine jv_iinc (v := (x3 + 1)) (L' := [some (.int x0), some (.int x1), some (.int (x2 * x0)), some (.int (x3 + 1))]) d_M_power_13 rfl rfl (Nat.le_of_ble_eq_true rfl) rfl ?_
    refine jv_goto (tgt := 4) d_M_power_16 (by decide) ?_
    exact h
theorem b_M_seed_0 {g : jv_G} {d : Nat} {M : jv_Mem} {N cr sr : Nat} {Z : Option Value → jv_Mem → Nat → Prop} {a0 : Nat} {l1 : Int64} (h : jv_Tg 10 a0 N ∧ jv_Tg 10 a0 N ∧ jv_Tg 10 a0 N ∧ Z (some (.long (Prod.snd (Prod.snd (jv_si M a0 0 0)) a0))) (jv_sl (jv_si M a0 0 0) a0 l1) N) : jv_J g d mt_M_seed 0 [some (.ref a0), some (.long l1), none, none, none] [] M N cr sr Z := by
  refine jv_aload_n d_M_seed_0 rfl rfl ?_
  refine jv_iconst (v := 0) d_M_seed_1 (by decide) ?_
  obtain ⟨q1, h⟩ := h
  refine jv_putI d_M_seed_2 fl_M_75 (fun r hr => by cases hr; rfl) rfl q1 ?_
  refine jv_aload_n d_M_seed_5 rfl rfl ?_
  obtain ⟨q2, h⟩ := h
  refine jv_getL d_M_seed_6 fl_M_288 rfl q2 ?_
  refine jv_lstore_n (L' := [some (.ref a0), some (.long l1), none, some (.long (Prod.snd (Prod.snd (jv_si M a0 0 0)) a0)), none]) d_M_seed_9 rfl (Nat.le_of_ble_eq_true rfl) rfl ?_
  refine jv_aload_n d_M_seed_10 rfl rfl ?_
  refine jv_lload_n d_M_seed_11 rfl rfl ?_
  obtain ⟨q3, h⟩ := h
  refine jv_putL d_M_seed_12 fl_M_288 (fun r hr => by cases hr; rfl) rfl jv_one10 q3 ?_
  refine jv_lload_n d_M_seed_15 rfl rfl ?_
  exact jv_lret d_M_seed_16 rfl h
