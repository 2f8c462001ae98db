/-! ===== blocks ===== -/
theorem b_M_drawn_0 {g : jv_G} {d : Nat} {M : jv_Mem} {N cr sr : Nat} {Z : Option Value → jv_Mem → Nat → Prop} {a0 : Nat} {x1 : Int32} (h : jv_Tg 10 a0 N ∧ jv_Ct g d mt_M_in [.long (Int32.toInt64 x1), .long 1, .long 20] (jv_si M a0 0 0) N 0 0 (fun v M3 N3 => jv_ri v (fun r2 => (r2 ≠ 0 → jv_Tg 10 a0 N3 ∧ ∃ b5, Prod.fst (Prod.snd M3) a0 21 = some b5 ∧ jv_Tg 10 a0 N3 ∧ ∃ b8, Prod.fst (Prod.snd M3) a0 19 = some b8 ∧ jv_Ct g d mt_M_lay [.ref b5, .ref b8] M3 N3 0 0 (fun v M11 N11 => jv_rv v (jv_J g (d + 1) mt_M_drawn 35 [some (.ref a0), some (.int x1), some (.int 0), some (.int 0), none] [] M11 N11 cr sr Z))) ∧ (r2 = 0 → Z (some (.int (-2))) M3 N3)))) : jv_J g (d + 1) mt_M_drawn 0 [some (.ref a0), some (.int x1), none, none, none] [] M N cr sr Z := by
  refine jv_aload_n d_M_drawn_0 rfl rfl ?_
  refine jv_iconst (v := 0) d_M_drawn_1 (by decide) ?_
  obtain ⟨q1, h⟩ := h
  refine jv_putI d_M_drawn_2 fl_M_75 (fun r hr => by cases hr; rfl) rfl q1 ?_
  refine jv_iload_n d_M_drawn_5 rfl rfl ?_
  refine jv_i2l d_M_drawn_6 ?_
  refine jv_lconst (v := 1) d_M_drawn_7 (by decide) ?_
  refine jv_ldc2 d_M_drawn_8 co_M_292 ?_
  refine jv_invS [.long (Int32.toInt64 x1), .long 1, .long 20] [] d_M_drawn_11 ml_M_81 rfl (Nat.le_of_ble_eq_true rfl) (Nat.zero_add _) (Nat.zero_add _) (jv_Ct.mono h (fun v M3 N3 h => ?_))
  obtain ⟨r2, rfl, h⟩ := h
  change jv_J g (d + 1) mt_M_drawn 14 [some (.ref a0), some (.int x1), none, none, none] [.int r2] M3 N3 cr sr Z
  refine jv_if_ne (tgt := 20) d_M_drawn_14 (by decide) ⟨fun c => ?_, fun c => ?_⟩
  · replace h := h.1 c
    refine jv_aload_n d_M_drawn_20 rfl rfl ?_
    obtain ⟨q4, h⟩ := h
    obtain ⟨b5, e6, h⟩ := h
    refine jv_getR d_M_drawn_21 fl_M_46 rfl q4 e6 ?_
    refine jv_aload_n d_M_drawn_24 rfl rfl ?_
    obtain ⟨q7, h⟩ := h
    obtain ⟨b8, e9, h⟩ := h
    refine jv_getR d_M_drawn_25 fl_M_40 rfl q7 e9 ?_
    refine jv_invS [.ref b5, .ref b8] [] d_M_drawn_28 ml_M_131 rfl (Nat.le_of_ble_eq_true rfl) (Nat.zero_add _) (Nat.zero_add _) (jv_Ct.mono h (fun v M11 N11 h => ?_))
    obtain ⟨rfl, h⟩ := h
    change jv_J g (d + 1) mt_M_drawn 31 [some (.ref a0), some (.int x1), none, none, none] [] M11 N11 cr sr Z
    refine jv_iconst (v := 0) d_M_drawn_31 (by decide) ?_
    refine jv_istore_n (L' := [some (.ref a0), some (.int x1), some (.int 0), none, none]) d_M_drawn_32 rfl (Nat.le_of_ble_eq_true rfl) rfl ?_
    refine jv_iconst (v := 0) d_M_drawn_33 (by decide) ?_
    refine jv_istore_n (L' := [some (.ref a0), some (.int x1), some (.int 0), some (.int 0), none]) d_M_drawn_34 rfl (Nat.le_of_ble_eq_true rfl) rfl ?_
    exact h
  · replace h := h.2 c
    refine jv_bipush (v := (-2)) d_M_drawn_17 (by decide) ?_
    exact jv_iret d_M_drawn_19 rfl rfl h
theorem b_M_drawn_35 {g : jv_G} {d : Nat} {M : jv_Mem} {N cr sr : Nat} {Z : Option Value → jv_Mem → Nat → Prop} {a0 : Nat} {x1 : Int32} {x2 : Int32} {x3 : Int32} (h : (x1 ≤ x3 → Z (some (.int x2)) M N) ∧ (¬ (x1 ≤ x3) → jv_Tg 10 a0 N ∧ jv_Tg 10 a0 N ∧ jv_Tg 10 a0 N ∧ jv_Tg 10 a0 N ∧ ((Prod.fst (jv_sl M a0 (((Prod.snd (Prod.snd M) a0) * 6364136223846793005) + 1442695040888963407)) a0 6) ≤ 0 → jv_J g (d + 1) mt_M_drawn 35 [some (.ref a0), some (.int x1), some (.int x2), some (.int (x3 + 1)), none] [] (jv_sl M a0 (((Prod.snd (Prod.snd M) a0) * 6364136223846793005) + 1442695040888963407)) N cr sr Z) ∧ (¬ ((Prod.fst (jv_sl M a0 (((Prod.snd (Prod.snd M) a0) * 6364136223846793005) + 1442695040888963407)) a0 6) ≤ 0) → jv_Tg 10 a0 N ∧ ∃ b6, Prod.fst (Prod.snd (jv_sl M a0 (((Prod.snd (Prod.snd M) a0) * 6364136223846793005) + 1442695040888963407))) a0 21 = some b6 ∧ jv_Tg 11 b6 N ∧ vp_in 80 (jv_sh b6).2 ∧ (8 ≤ (Prod.fst (jv_sl M a0 (((Prod.snd (Prod.snd M) a0) * 6364136223846793005) + 1442695040888963407)) b6 (Int32.toNatClampNeg 80)) → jv_J g (d + 1) mt_M_drawn 107 [some (.ref a0), some (.int x1), some (.int x2), some (.int x3), none] [] (jv_sl M a0 (((Prod.snd (Prod.snd M) a0) * 6364136223846793005) + 1442695040888963407)) N cr sr Z) ∧ (¬ (8 ≤ (Prod.fst (jv_sl M a0 (((Prod.snd (Prod.snd M) a0) * 6364136223846793005) + 1442695040888963407)) b6 (Int32.toNatClampNeg 80))) → jv_Tg 10 a0 N ∧ ∃ b11, Prod.fst (Prod.snd (jv_sl M a0 (((Prod.snd (Prod.snd M) a0) * 6364136223846793005) + 1442695040888963407))) a0 21 = some b11 ∧ jv_Tg 10 a0 N ∧ ¬ (Prod.fst (jv_sl M a0 (((Prod.snd (Prod.snd M) a0) * 6364136223846793005) + 1442695040888963407)) a0 6) = 0 ∧ jv_Ct g d mt_M_sendOn [.ref b11, .int ((Int64.toInt32 ((((Prod.snd (Prod.snd (jv_sl M a0 (((Prod.snd (Prod.snd M) a0) * 6364136223846793005) + 1442695040888963407))) a0) : Int64).toUInt64 >>> ((33 : Int32).toInt64.toUInt64 &&& Int64.toUInt64 63)).toInt64)) - (Int64.toInt32 ((((Prod.snd (Prod.snd (jv_sl M a0 (((Prod.snd (Prod.snd M) a0) * 6364136223846793005) + 1442695040888963407))) a0) : Int64).toUInt64 >>> ((33 : Int32).toInt64.toUInt64 &&& Int64.toUInt64 63)).toInt64)) / 3 * 3), .int (((Int64.toInt32 ((((Prod.snd (Prod.snd (jv_sl M a0 (((Prod.snd (Prod.snd M) a0) * 6364136223846793005) + 1442695040888963407))) a0) : Int64).toUInt64 >>> ((33 : Int32).toInt64.toUInt64 &&& Int64.toUInt64 63)).toInt64)) / 4) - ((Int64.toInt32 ((((Prod.snd (Prod.snd (jv_sl M a0 (((Prod.snd (Prod.snd M) a0) * 6364136223846793005) + 1442695040888963407))) a0) : Int64).toUInt64 >>> ((33 : Int32).toInt64.toUInt64 &&& Int64.toUInt64 63)).toInt64)) / 4) / (Prod.fst (jv_sl M a0 (((Prod.snd (Prod.snd M) a0) * 6364136223846793005) + 1442695040888963407)) a0 6) * (Prod.fst (jv_sl M a0 (((Prod.snd (Prod.snd M) a0) * 6364136223846793005) + 1442695040888963407)) a0 6)), .int 0, .int 0] (jv_sl M a0 (((Prod.snd (Prod.snd M) a0) * 6364136223846793005) + 1442695040888963407)) N 0 0 (fun v M16 N16 => jv_rv v (jv_J g (d + 1) mt_M_drawn 107 [some (.ref a0), some (.int x1), some (.int x2), some (.int x3), none] [] M16 N16 cr sr Z)))))) : jv_J g (d + 1) mt_M_drawn 35 [some (.ref a0), some (.int x1), some (.int x2), some (.int x3), none] [] M N cr sr Z := by
  refine jv_iload_n d_M_drawn_35 rfl rfl ?_
  refine jv_iload_n d_M_drawn_36 rfl rfl ?_
  refine jv_icmp_ge (tgt := 138) d_M_drawn_37 (by decide) ⟨fun c => ?_, fun c => ?_⟩
  · replace h := h.1 c
    refine jv_iload_n d_M_drawn_138 rfl rfl ?_
    exact jv_iret d_M_drawn_139 rfl rfl h
  · replace h := h.2 c
    refine jv_aload_n d_M_drawn_40 rfl rfl ?_
    refine jv_aload_n d_M_drawn_41 rfl rfl ?_
    obtain ⟨q1, h⟩ := h
    refine jv_getL d_M_drawn_42 fl_M_288 rfl q1 ?_
    refine jv_ldc2 d_M_drawn_45 co_M_294 ?_
    refine jv_lmul d_M_drawn_48 ?_
    refine jv_ldc2 d_M_drawn_49 co_M_296 ?_
    refine jv_ladd d_M_drawn_52 ?_
    obtain ⟨q2, h⟩ := h
    refine jv_putL d_M_drawn_53 fl_M_288 (fun r hr => by cases hr; rfl) rfl jv_one10 q2 ?_
    refine jv_aload_n d_M_drawn_56 rfl rfl ?_
    obtain ⟨q3, h⟩ := h
    refine jv_getL d_M_drawn_57 fl_M_288 rfl q3 ?_
    refine jv_bipush (v := 33) d_M_drawn_60 (by decide) ?_
    refine jv_lushr d_M_drawn_62 ?_
    refine jv_l2i d_M_drawn_63 ?_
    refine jv_istore (L' := [some (.ref a0), some (.int x1), some (.int x2), some (.int x3), some (.int (Int64.toInt32 ((((Prod.snd (Prod.snd (jv_sl M a0 (((Prod.snd (Prod.snd M) a0) * 6364136223846793005) + 1442695040888963407))) a0) : Int64).toUInt64 >>> ((33 : Int32).toInt64.toUInt64 &&& Int64.toUInt64 63)).toInt64)))]) d_M_drawn_64 (Nat.le_of_ble_eq_true rfl) rfl ?_
    refine jv_aload_n d_M_drawn_66 rfl rfl ?_
    obtain ⟨q4, h⟩ := h
    refine jv_getI d_M_drawn_67 fl_M_78 rfl q4 ?_
    refine jv_if_le (tgt := 132) d_M_drawn_70 (by decide) ⟨fun c => ?_, fun c => ?_⟩
    · replace h := h.1 c
      refine jv_iinc (v := (x3 + 1)) (L' := [some (.ref a0), some (.int x1), some (.int x2), some (.int (x3 + 1)), some (.int (Int64.toInt32 ((((Prod.snd (Prod.snd (jv_sl M a0 (((Prod.snd (Prod.snd M) a0) * 6364136223846793005) + 1442695040888963407))) a0) : Int64).toUInt64 >>> ((33 : Int32).toInt64.toUInt64 &&& Int64.toUInt64 63)).toInt64)))]) d_M_drawn_132 rfl rfl (Nat.le_of_ble_eq_true rfl) rfl ?_
      refine jv_goto (tgt := 35) d_M_drawn_135 (by decide) ?_
      refine jv_weak (L' := [some (.ref a0), some (.int x1), some (.int x2), some (.int (x3 + 1)), none]) (by simp [jv_le]) ?_
      exact h
    · replace h := h.2 c
      refine jv_aload_n d_M_drawn_73 rfl rfl ?_
      obtain ⟨q5, h⟩ := h
      obtain ⟨b6, e7, h⟩ := h
      refine jv_getR d_M_drawn_74 fl_M_46 rfl q5 e7 ?_
      refine jv_bipush (v := 80) d_M_drawn_77 (by decide) ?_
      obtain ⟨q8, q9, h⟩ := h
      refine jv_iald d_M_drawn_79 q8 q9 ?_
      refine jv_bipush (v := 8) d_M_drawn_80 (by decide) ?_
      refine jv_icmp_ge (tgt := 107) d_M_drawn_82 (by decide) ⟨fun c => ?_, fun c => ?_⟩
      · replace h := h.1 c
        refine jv_weak (L' := [some (.ref a0), some (.int x1), some (.int x2), some (.int x3), none]) (by simp [jv_le]) ?_
        exact h
      · replace h := h.2 c
        refine jv_aload_n d_M_drawn_85 rfl rfl ?_
        obtain ⟨q10, h⟩ := h
        obtain ⟨b11, e12, h⟩ := h
        refine jv_getR d_M_drawn_86 fl_M_46 rfl q10 e12 ?_
        refine jv_iload d_M_drawn_89 rfl ?_
        refine jv_iconst (v := 3) d_M_drawn_91 (by decide) ?_
        refine jv_irem d_M_drawn_92 (by decide) ?_
        refine jv_iload d_M_drawn_93 rfl ?_
        refine jv_iconst (v := 4) d_M_drawn_95 (by decide) ?_
        refine jv_idiv d_M_drawn_96 (by decide) ?_
        refine jv_aload_n d_M_drawn_97 rfl rfl ?_
        obtain ⟨q13, h⟩ := h
        refine jv_getI d_M_drawn_98 fl_M_78 rfl q13 ?_
        obtain ⟨q14, h⟩ := h
        refine jv_irem d_M_drawn_101 q14 ?_
        refine jv_iconst (v := 0) d_M_drawn_102 (by decide) ?_
        refine jv_iconst (v := 0) d_M_drawn_103 (by decide) ?_
        refine jv_invS [.ref b11, .int ((Int64.toInt32 ((((Prod.snd (Prod.snd (jv_sl M a0 (((Prod.snd (Prod.snd M) a0) * 6364136223846793005) + 1442695040888963407))) a0) : Int64).toUInt64 >>> ((33 : Int32).toInt64.toUInt64 &&& Int64.toUInt64 63)).toInt64)) - (Int64.toInt32 ((((Prod.snd (Prod.snd (jv_sl M a0 (((Prod.snd (Prod.snd M) a0) * 6364136223846793005) + 1442695040888963407))) a0) : Int64).toUInt64 >>> ((33 : Int32).toInt64.toUInt64 &&& Int64.toUInt64 63)).toInt64)) / 3 * 3), .int (((Int64.toInt32 ((((Prod.snd (Prod.snd (jv_sl M a0 (((Prod.snd (Prod.snd M) a0) * 6364136223846793005) + 1442695040888963407))) a0) : Int64).toUInt64 >>> ((33 : Int32).toInt64.toUInt64 &&& Int64.toUInt64 63)).toInt64)) / 4) - ((Int64.toInt32 ((((Prod.snd (Prod.snd (jv_sl M a0 (((Prod.snd (Prod.snd M) a0) * 6364136223846793005) + 1442695040888963407))) a0) : Int64).toUInt64 >>> ((33 : Int32).toInt64.toUInt64 &&& Int64.toUInt64 63)).toInt64)) / 4) / (Prod.fst (jv_sl M a0 (((Prod.snd (Prod.snd M) a0) * 6364136223846793005) + 1442695040888963407)) a0 6) * (Prod.fst (jv_sl M a0 (((Prod.snd (Prod.snd M) a0) * 6364136223846793005) + 1442695040888963407)) a0 6)), .int 0, .int 0] [] d_M_drawn_104 ml_M_240 rfl (Nat.le_of_ble_eq_true rfl) (Nat.zero_add _) (Nat.zero_add _) (jv_Ct.mono h (fun v M16 N16 h => ?_))
        obtain ⟨rfl, h⟩ := h
        change jv_J g (d + 1) mt_M_drawn 107 [some (.ref a0), some (.int x1), some (.int x2), some (.int x3), some (.int (Int64.toInt32 ((((Prod.snd (Prod.snd (jv_sl M a0 (((Prod.snd (Prod.snd M) a0) * 6364136223846793005) + 1442695040888963407))) a0) : Int64).toUInt64 >>> ((33 : Int32).toInt64.toUInt64 &&& Int64.toUInt64 63)).toInt64)))] [] M16 N16 cr sr Z
        refine jv_weak (L' := [some (.ref a0), some (.int x1), some (.int x2), some (.int x3), none]) (by simp [jv_le]) ?_
        exact h
theorem b_M_drawn_107 {g : jv_G} {d : Nat} {M : jv_Mem} {N cr sr : Nat} {Z : Option Value → jv_Mem → Nat → Prop} {a0 : Nat} {x1 : Int32} {x2 : Int32} {x3 : Int32} (h : jv_Tg 10 a0 N ∧ ∃ b2, Prod.fst (Prod.snd M) a0 21 = some b2 ∧ jv_Tg 10 a0 N ∧ jv_Ct g d mt_M_tickOn [.ref a0, .ref b2] M N 0 0 (fun v M6 N6 => jv_rv v (jv_Tg 10 a0 N6 ∧ ∃ b8, Prod.fst (Prod.snd M6) a0 21 = some b8 ∧ jv_Tg 10 a0 N6 ∧ jv_Ct g d mt_M_haltedOf [.ref b8, .int (Prod.fst M6 a0 6)] M6 N6 0 0 (fun v M12 N12 => jv_ri v (fun r11 => jv_Ct g d mt_M_ones [.int r11] M12 N12 0 0 (fun v M14 N14 => jv_ri v (fun r13 => jv_J g (d + 1) mt_M_drawn 35 [some (.ref a0), some (.int x1), some (.int (x2 + r13)), some (.int (x3 + 1)), none] [] M14 N14 cr sr Z))))))) : jv_J g (d + 1) mt_M_drawn 107 [some (.ref a0), some (.int x1), some (.int x2), some (.int x3), none] [] M N cr sr Z := by
  refine jv_aload_n d_M_drawn_107 rfl rfl ?_
  refine jv_aload_n d_M_drawn_108 rfl rfl ?_
  obtain ⟨q1, h⟩ := h
  obtain ⟨b2, e3, h⟩ := h
  refine jv_getR d_M_drawn_109 fl_M_46 rfl q1 e3 ?_
  obtain ⟨q4, h⟩ := h
  refine jv_invV [.ref b2] [] d_M_drawn_112 ml_M_199 q4 rfl (Nat.le_of_ble_eq_true rfl) (Nat.zero_add _) (Nat.zero_add _) (jv_Ct.mono h (fun v M6 N6 h => ?_))
  obtain ⟨rfl, h⟩ := h
  change jv_J g (d + 1) mt_M_drawn 115 [some (.ref a0), some (.int x1), some (.int x2), some (.int x3), none] [] M6 N6 cr sr Z
  refine jv_iload_n d_M_drawn_115 rfl rfl ?_
  refine jv_aload_n d_M_drawn_116 rfl rfl ?_
  obtain ⟨q7, h⟩ := h
  obtain ⟨b8, e9, h⟩ := h
  refine jv_getR d_M_drawn_117 fl_M_46 rfl q7 e9 ?_
  refine jv_aload_n d_M_drawn_120 rfl rfl ?_
  obtain ⟨q10, h⟩ := h
  refine jv_getI d_M_drawn_121 fl_M_78 rfl q10 ?_
  refine jv_invS [.ref b8, .int (Prod.fst M6 a0 6)] [.int x2] d_M_drawn_124 ml_M_189 rfl (Nat.le_of_ble_eq_true rfl) (Nat.zero_add _) (Nat.zero_add _) (jv_Ct.mono h (fun v M12 N12 h => ?_))
  obtain ⟨r11, rfl, h⟩ := h
  change jv_J g (d + 1) mt_M_drawn 127 [some (.ref a0), some (.int x1), some (.int x2), some (.int x3), none] [.int r11, .int x2] M12 N12 cr sr Z
  refine jv_invS [.int r11] [.int x2] d_M_drawn_127 ml_M_229 rfl (Nat.le_of_ble_eq_true rfl) (Nat.zero_add _) (Nat.zero_add _) (jv_Ct.mono h (fun v M14 N14 h => ?_))
  obtain ⟨r13, rfl, h⟩ := h
  change jv_J g (d + 1) mt_M_drawn 130 [some (.ref a0), some (.int x1), some (.int x2), some (.int x3), none] [.int r13, .int x2] M14 N14 cr sr Z
  refine jv_iadd d_M_drawn_130 ?_
  refine jv_istore_n (L' := [some (.ref a0), some (.int x1), some (.int (x2 + r13)), some (.int x3), none]) d_M_drawn_131 rfl (Nat.le_of_ble_eq_true rfl) rfl ?_
  refine jv_iinc (v := (x3 + 1)) (L' := [some (.ref a0), some (.int x1), some (.int (x2 + r13)), some (.int (x3 + 1)), none]) d_M_drawn_132 rfl rfl (Nat.le_of_ble_eq_true rfl) rfl ?_
  refine jv_goto (tgt := 35) d_M_drawn_135 (by decide) ?_
  exact h
theorem b_M_keep_0 {g : jv_G} {d : Nat} {M : jv_Mem} {N cr sr : Nat} {Z : Option Value → jv_Mem → Nat → Prop} {a0 : Nat} {x1 : Int32} (h : jv_Tg 10 a0 N ∧ jv_Ct g d mt_M_in [.long (Int32.toInt64 x1), .long 0, .long 1] (jv_si M a0 0 0) N 0 0 (fun v M3 N3 => jv_ri v (fun r2 => (r2 ≠ 0 → jv_Tg 10 a0 N3 ∧ ∃ b5, Prod.fst (Prod.snd M3) a0 25 = some b5 ∧ jv_Tg 12 b5 N3 ∧ vp_in x1 (jv_sh b5).2 ∧ jv_J g (d + 1) mt_M_keep 26 [some (.ref a0), some (.int x1), some (.int 0)] [] (jv_si M3 b5 (Int32.toNatClampNeg x1) 1) N3 cr sr Z) ∧ (r2 = 0 → Z (some (.int (-1))) M3 N3)))) : jv_J g (d + 1) mt_M_keep 0 [some (.ref a0), some (.int x1), none] [] M N cr sr Z := by
  refine jv_aload_n d_M_keep_0 rfl rfl ?_
  refine jv_iconst (v := 0) d_M_keep_1 (by decide) ?_
  obtain ⟨q1, h⟩ := h
  refine jv_putI d_M_keep_2 fl_M_75 (fun r hr => by cases hr; rfl) rfl q1 ?_
  refine jv_iload_n d_M_keep_5 rfl rfl ?_
  refine jv_i2l d_M_keep_6 ?_
  refine jv_lconst (v := 0) d_M_keep_7 (by decide) ?_
  refine jv_lconst (v := 1) d_M_keep_8 (by decide) ?_
  refine jv_invS [.long (Int32.toInt64 x1), .long 0, .long 1] [] d_M_keep_9 ml_M_81 rfl (Nat.le_of_ble_eq_true rfl) (Nat.zero_add _) (Nat.zero_add _) (jv_Ct.mono h (fun v M3 N3 h => ?_))
  obtain ⟨r2, rfl, h⟩ := h
  change jv_J g (d + 1) mt_M_keep 12 [some (.ref a0), some (.int x1), none] [.int r2] M3 N3 cr sr Z
  refine jv_if_ne (tgt := 17) d_M_keep_12 (by decide) ⟨fun c => ?_, fun c => ?_⟩
  · replace h := h.1 c
    refine jv_aload_n d_M_keep_17 rfl rfl ?_
    obtain ⟨q4, h⟩ := h
    obtain ⟨b5, e6, h⟩ := h
    refine jv_getR d_M_keep_18 fl_M_55 rfl q4 e6 ?_
    refine jv_iload_n d_M_keep_21 rfl rfl ?_
    refine jv_iconst (v := 1) d_M_keep_22 (by decide) ?_
    obtain ⟨q7, q8, h⟩ := h
    refine jv_zast d_M_keep_23 q7 q8 (by decide) ?_
    refine jv_iconst (v := 0) d_M_keep_24 (by decide) ?_
    refine jv_istore_n (L' := [some (.ref a0), some (.int x1), some (.int 0)]) d_M_keep_25 rfl (Nat.le_of_ble_eq_true rfl) rfl ?_
    exact h
  · replace h := h.2 c
    refine jv_iconst (v := (-1)) d_M_keep_15 (by decide) ?_
    exact jv_iret d_M_keep_16 rfl rfl h
theorem b_M_keep_26 {g : jv_G} {d : Nat} {M : jv_Mem} {N cr sr : Nat} {Z : Option Value → jv_Mem → Nat → Prop} {a0 : Nat} {x1 : Int32} {x2 : Int32} (h : (165 ≤ x2 → jv_Tg 10 a0 N ∧ Z (some (.int (Prod.fst M a0 6))) M N) ∧ (¬ (165 ≤ x2) → jv_Tg 10 a0 N ∧ ∃ b3, Prod.fst (Prod.snd M) a0 24 = some b3 ∧ jv_Tg 10 a0 N ∧ ∃ b6, Prod.fst (Prod.snd M) a0 19 = some b6 ∧ jv_Tg 11 b6 N ∧ vp_in x2 (jv_sh b6).2 ∧ jv_Tg 11 b3 N ∧ vp_in ((165 * x1) + x2) (jv_sh b3).2 ∧ jv_J g (d + 1) mt_M_keep 26 [some (.ref a0), some (.int x1), some (.int (x2 + 1))] [] (jv_si M b3 (Int32.toNatClampNeg ((165 * x1) + x2)) (Prod.fst M b6 (Int32.toNatClampNeg x2))) N cr sr Z)) : jv_J g (d + 1) mt_M_keep 26 [some (.ref a0), some (.int x1), some (.int x2)] [] M N cr sr Z := by
  refine jv_iload_n d_M_keep_26 rfl rfl ?_
  refine jv_sipush (v := 165) d_M_keep_27 (by decide) ?_
  refine jv_icmp_ge (tgt := 57) d_M_keep_30 (by decide) ⟨fun c => ?_, fun c => ?_⟩
  · replace h := h.1 c
    refine jv_aload_n d_M_keep_57 rfl rfl ?_
    obtain ⟨q1, h⟩ := h
    refine jv_getI d_M_keep_58 fl_M_78 rfl q1 ?_
    exact jv_iret d_M_keep_61 rfl rfl h
  · replace h := h.2 c
    refine jv_aload_n d_M_keep_33 rfl rfl ?_
    obtain ⟨q2, h⟩ := h
    obtain ⟨b3, e4, h⟩ := h
    refine jv_getR d_M_keep_34 fl_M_52 rfl q2 e4 ?_
    refine jv_sipush (v := 165) d_M_keep_37 (by decide) ?_
    refine jv_iload_n d_M_keep_40 rfl rfl ?_
    refine jv_imul d_M_keep_41 ?_
    refine jv_iload_n d_M_keep_42 rfl rfl ?_
    refine jv_iadd d_M_keep_43 ?_
    refine jv_aload_n d_M_keep_44 rfl rfl ?_
    obtain ⟨q5, h⟩ := h
    obtain ⟨b6, e7, h⟩ := h
    refine jv_getR d_M_keep_45 fl_M_40 rfl q5 e7 ?_
    refine jv_iload_n d_M_keep_48 rfl rfl ?_
    obtain ⟨q8, q9, h⟩ := h
    refine jv_iald d_M_keep_49 q8 q9 ?_
    obtain ⟨q10, q11, h⟩ := h
    refine jv_iast d_M_keep_50 q10 q11 ?_
    refine jv_iinc (v := (x2 + 1)) (L' := [some (.ref a0), some (.int x1), some (.int (x2 + 1))]) d_M_keep_51 rfl rfl (Nat.le_of_ble_eq_true rfl) rfl ?_
    refine jv_goto (tgt := 26) d_M_keep_54 (by decide) ?_
    exact h
theorem b_M_again_0 {g : jv_G} {d : Nat} {M : jv_Mem} {N cr sr : Nat} {Z : Option Value → jv_Mem → Nat → Prop} {a0 : Nat} {x1 : Int32} (h : jv_Tg 10 a0 N ∧ jv_Ct g d mt_M_in [.long (Int32.toInt64 x1), .long 0, .long 1] (jv_si M a0 0 0) N 0 0 (fun v M3 N3 => jv_ri v (fun r2 => (r2 ≠ 0 → jv_Tg 10 a0 N3 ∧ ∃ b5, Prod.fst (Prod.snd M3) a0 25 = some b5 ∧ jv_Tg 12 b5 N3 ∧ vp_in x1 (jv_sh b5).2 ∧ ((Prod.fst M3 b5 (Int32.toNatClampNeg x1)) ≠ 0 → jv_J g (d + 1) mt_M_again 31 [some (.ref a0), some (.int x1), some (.int 0)] [] M3 N3 cr sr Z) ∧ ((Prod.fst M3 b5 (Int32.toNatClampNeg x1)) = 0 → Z (some (.int (-3))) M3 N3)) ∧ (r2 = 0 → Z (some (.int (-1))) M3 N3)))) : jv_J g (d + 1) mt_M_again 0 [some (.ref a0), some (.int x1), none] [] M N cr sr Z := by
  refine jv_aload_n d_M_again_0 rfl rfl ?_
  refine jv_iconst (v := 0) d_M_again_1 (by decide) ?_
  obtain ⟨q1, h⟩ := h
  refine jv_putI d_M_again_2 fl_M_75 (fun r hr => by cases hr; rfl) rfl q1 ?_
  refine jv_iload_n d_M_again_5 rfl rfl ?_
  refine jv_i2l d_M_again_6 ?_
  refine jv_lconst (v := 0) d_M_again_7 (by decide) ?_
  refine jv_lconst (v := 1) d_M_again_8 (by decide) ?_
  refine jv_invS [.long (Int32.toInt64 x1), .long 0, .long 1] [] d_M_again_9 ml_M_81 rfl (Nat.le_of_ble_eq_true rfl) (Nat.zero_add _) (Nat.zero_add _) (jv_Ct.mono h (fun v M3 N3 h => ?_))
  obtain ⟨r2, rfl, h⟩ := h
  change jv_J g (d + 1) mt_M_again 12 [some (.ref a0), some (.int x1), none] [.int r2] M3 N3 cr sr Z
  refine jv_if_ne (tgt := 17) d_M_again_12 (by decide) ⟨fun c => ?_, fun c => ?_⟩
  · replace h := h.1 c
    refine jv_aload_n d_M_again_17 rfl rfl ?_
    obtain ⟨q4, h⟩ := h
    obtain ⟨b5, e6, h⟩ := h
    refine jv_getR d_M_again_18 fl_M_55 rfl q4 e6 ?_
    refine jv_iload_n d_M_again_21 rfl rfl ?_
    obtain ⟨q7, q8, h⟩ := h
    refine jv_zald d_M_again_22 q7 q8 ?_
    refine jv_if_ne (tgt := 29) d_M_again_23 (by decide) ⟨fun c => ?_, fun c => ?_⟩
    · replace h := h.1 c
      refine jv_iconst (v := 0) d_M_again_29 (by decide) ?_
      refine jv_istore_n (L' := [some (.ref a0), some (.int x1), some (.int 0)]) d_M_again_30 rfl (Nat.le_of_ble_eq_true rfl) rfl ?_
      exact h
    · replace h := h.2 c
      refine jv_bipush (v := (-3)) d_M_again_26 (by decide) ?_
      exact jv_iret d_M_again_28 rfl rfl h
  · replace h := h.2 c
    refine jv_iconst (v := (-1)) d_M_again_15 (by decide) ?_
    exact jv_iret d_M_again_16 rfl rfl h
theorem b_M_again_31 {g : jv_G} {d : Nat} {M : jv_Mem} {N cr sr : Nat} {Z : Option Value → jv_Mem → Nat → Prop} {a0 : Nat} {x1 : Int32} {x2 : Int32} (h : (165 ≤ x2 → jv_Tg 10 a0 N ∧ jv_Tg 10 a0 N ∧ Z (some (.int (Prod.fst (jv_si M a0 23 0) a0 6))) (jv_si M a0 23 0) N) ∧ (¬ (165 ≤ x2) → jv_Tg 10 a0 N ∧ ∃ b4, Prod.fst (Prod.snd M) a0 19 = some b4 ∧ jv_Tg 10 a0 N ∧ ∃ b7, Prod.fst (Prod.snd M) a0 24 = some b7 ∧ jv_Tg 11 b7 N ∧ vp_in ((165 * x1) + x2) (jv_sh b7).2 ∧ jv_Tg 11 b4 N ∧ vp_in x2 (jv_sh b4).2 ∧ jv_J g (d + 1) mt_M_again 31 [some (.ref a0), some (.int x1), some (.int (x2 + 1))] [] (jv_si M b4 (Int32.toNatClampNeg x2) (Prod.fst M b7 (Int32.toNatClampNeg ((165 * x1) + x2)))) N cr sr Z)) : jv_J g (d + 1) mt_M_again 31 [some (.ref a0), some (.int x1), some (.int x2)] [] M N cr sr Z := by
  refine jv_iload_n d_M_again_31 rfl rfl ?_
  refine jv_sipush (v := 165) d_M_again_32 (by decide) ?_
  refine jv_icmp_ge (tgt := 62) d_M_again_35 (by decide) ⟨fun c => ?_, fun c => ?_⟩
  · replace h := h.1 c
    refine jv_aload_n d_M_again_62 rfl rfl ?_
    refine jv_iconst (v := 0) d_M_again_63 (by decide) ?_
    obtain ⟨q1, h⟩ := h
    refine jv_putI d_M_again_64 fl_M_141 (fun r hr => by cases hr; rfl) rfl q1 ?_
    refine jv_aload_n d_M_again_67 rfl rfl ?_
    obtain ⟨q2, h⟩ := h
    refine jv_getI d_M_again_68 fl_M_78 rfl q2 ?_
    exact jv_iret d_M_again_71 rfl rfl h
  · replace h := h.2 c
    refine jv_aload_n d_M_again_38 rfl rfl ?_
    obtain ⟨q3, h⟩ := h
    obtain ⟨b4, e5, h⟩ := h
    refine jv_getR d_M_again_39 fl_M_40 rfl q3 e5 ?_
    refine jv_iload_n d_M_again_42 rfl rfl ?_
    refine jv_aload_n d_M_again_43 rfl rfl ?_
    obtain ⟨q6, h⟩ := h
    obtain ⟨b7, e8, h⟩ := h
    refine jv_getR d_M_again_44 fl_M_52 rfl q6 e8 ?_
    refine jv_sipush (v := 165) d_M_again_47 (by decide) ?_
    refine jv_iload_n d_M_again_50 rfl rfl ?_
    refine jv_imul d_M_again_51 ?_
    refine jv_iload_n d_M_again_52 rfl rfl ?_
    refine jv_iadd d_M_again_53 ?_
    obtain ⟨q9, q10, h⟩ := h
    refine jv_iald d_M_again_54 q9 q10 ?_
    obtain ⟨q11, q12, h⟩ := h
    refine jv_iast d_M_again_55 q11 q12 ?_
    refine jv_iinc (v := (x2 + 1)) (L' := [some (.ref a0), some (.int x1), some (.int (x2 + 1))]) d_M_again_56 rfl rfl (Nat.le_of_ble_eq_true rfl) rfl ?_
    refine jv_goto (tgt := 31) d_M_again_59 (by decide) ?_
    exact h
theorem b_M_count_0 {g : jv_G} {d : Nat} {M : jv_Mem} {N cr sr : Nat} {Z : Option Value → jv_Mem → Nat → Prop} {a0 : Nat} {x1 : Int32} (h : jv_Tg 10 a0 N ∧ (x1 = 0 → jv_Tg 10 a0 N ∧ Z (some (.int (Prod.fst (jv_si M a0 0 0) a0 2))) (jv_si M a0 0 0) N) ∧ (x1 = 1 → jv_Tg 10 a0 N ∧ Z (some (.int (Prod.fst (jv_si M a0 0 0) a0 4))) (jv_si M a0 0 0) N) ∧ (x1 = 2 → jv_Tg 10 a0 N ∧ Z (some (.int (Prod.fst (jv_si M a0 0 0) a0 6))) (jv_si M a0 0 0) N) ∧ (x1 = 3 → jv_Tg 10 a0 N ∧ Z (some (.int (Prod.fst (jv_si M a0 0 0) a0 9))) (jv_si M a0 0 0) N) ∧ (x1 = 4 → jv_Tg 10 a0 N ∧ ∃ b8, Prod.fst (Prod.snd (jv_si M a0 0 0)) a0 19 = some b8 ∧ jv_Tg 10 a0 N ∧ jv_Ct g d mt_M_haltedOf [.ref b8, .int (Prod.fst (jv_si M a0 0 0) a0 6)] (jv_si M a0 0 0) N 0 0 (fun v M12 N12 => jv_ri v (fun r11 => Z (some (.int r11)) M12 N12))) ∧ (x1 = 5 → jv_Tg 10 a0 N ∧ ∃ b14, Prod.fst (Prod.snd (jv_si M a0 0 0)) a0 19 = some b14 ∧ jv_Tg 11 b14 N ∧ vp_in 80 (jv_sh b14).2 ∧ Z (some (.int (Prod.fst (jv_si M a0 0 0) b14 (Int32.toNatClampNeg 80)))) (jv_si M a0 0 0) N) ∧ (x1 = 6 → jv_Tg 10 a0 N ∧ ∃ b19, Prod.fst (Prod.snd (jv_si M a0 0 0)) a0 19 = some b19 ∧ jv_Tg 11 b19 N ∧ vp_in 76 (jv_sh b19).2 ∧ Z (some (.int (Prod.fst (jv_si M a0 0 0) b19 (Int32.toNatClampNeg 76)))) (jv_si M a0 0 0) N) ∧ (x1 = 7 → jv_Tg 10 a0 N ∧ ∃ b24, Prod.fst (Prod.snd (jv_si M a0 0 0)) a0 19 = some b24 ∧ jv_Tg 11 b24 N ∧ vp_in 77 (jv_sh b24).2 ∧ Z (some (.int (Prod.fst (jv_si M a0 0 0) b24 (Int32.toNatClampNeg 77)))) (jv_si M a0 0 0) N) ∧ (x1 = 8 → jv_Tg 10 a0 N ∧ ∃ b29, Prod.fst (Prod.snd (jv_si M a0 0 0)) a0 19 = some b29 ∧ jv_Tg 11 b29 N ∧ vp_in ((78 + x1) - 8) (jv_sh b29).2 ∧ Z (some (.int (Prod.fst (jv_si M a0 0 0) b29 (Int32.toNatClampNeg ((78 + x1) - 8))))) (jv_si M a0 0 0) N) ∧ (x1 = 9 → jv_Tg 10 a0 N ∧ ∃ b34, Prod.fst (Prod.snd (jv_si M a0 0 0)) a0 19 = some b34 ∧ jv_Tg 11 b34 N ∧ vp_in ((78 + x1) - 8) (jv_sh b34).2 ∧ Z (some (.int (Prod.fst (jv_si M a0 0 0) b34 (Int32.toNatClampNeg ((78 + x1) - 8))))) (jv_si M a0 0 0) N) ∧ (x1 = 10 → jv_Tg 10 a0 N ∧ Z (some (.int (Prod.fst (jv_si M a0 0 0) a0 23))) (jv_si M a0 0 0) N) ∧ (x1 = 11 → jv_Tg 10 a0 N ∧ Z (some (.int (Prod.fst (jv_si M a0 0 0) a0 26))) (jv_si M a0 0 0) N) ∧ ((x1 ≠ 0 ∧ x1 ≠ 1 ∧ x1 ≠ 2 ∧ x1 ≠ 3 ∧ x1 ≠ 4 ∧ x1 ≠ 5 ∧ x1 ≠ 6 ∧ x1 ≠ 7 ∧ x1 ≠ 8 ∧ x1 ≠ 9 ∧ x1 ≠ 10 ∧ x1 ≠ 11) → Z (some (.int (-2))) (jv_si M a0 0 0) N)) : jv_J g (d + 1) mt_M_count 0 [some (.ref a0), some (.int x1)] [] M N cr sr Z := by
  refine jv_aload_n d_M_count_0 rfl rfl ?_
  refine jv_iconst (v := 0) d_M_count_1 (by decide) ?_
  obtain ⟨q1, h⟩ := h
  refine jv_putI d_M_count_2 fl_M_75 (fun r hr => by cases hr; rfl) rfl q1 ?_
  refine jv_iload_n d_M_count_5 rfl rfl ?_
  have hD2 : (x1 ≠ 0 ∧ x1 ≠ 1 ∧ x1 ≠ 2 ∧ x1 ≠ 3 ∧ x1 ≠ 4 ∧ x1 ≠ 5 ∧ x1 ≠ 6 ∧ x1 ≠ 7 ∧ x1 ≠ 8 ∧ x1 ≠ 9 ∧ x1 ≠ 10 ∧ x1 ≠ 11) → jv_J g (d + 1) mt_M_count 147 [some (.ref a0), some (.int x1)] [] (jv_si M a0 0 0) N cr sr Z := by
    intro c
    replace h := h.2.2.2.2.2.2.2.2.2.2.2.2 c
    refine jv_bipush (v := (-2)) d_M_count_147 (by decide) ?_
    exact jv_iret d_M_count_149 rfl rfl h
  refine jv_tsw (dt := 147) [(0, 68), (1, 73), (2, 78), (3, 83), (4, 88), (5, 100), (6, 108), (7, 116), (8, 124), (9, 124), (10, 137), (11, 142)] d_M_count_6 (by decide) (by decide) (by decide) (fun q hq hx => ?_) (fun hq => ?_)
  · simp only [List.mem_cons, List.not_mem_nil, or_false] at hq
    rcases hq with rfl | rfl | rfl | rfl | rfl | rfl | rfl | rfl | rfl | rfl | rfl | rfl
    · replace h := h.1 hx
      refine jv_aload_n d_M_count_68 rfl rfl ?_
      obtain ⟨q3, h⟩ := h
      refine jv_getI d_M_count_69 fl_M_87 rfl q3 ?_
      exact jv_iret d_M_count_72 rfl rfl h
    · replace h := h.2.1 hx
      refine jv_aload_n d_M_count_73 rfl rfl ?_
      obtain ⟨q4, h⟩ := h
      refine jv_getI d_M_count_74 fl_M_135 rfl q4 ?_
      exact jv_iret d_M_count_77 rfl rfl h
    · replace h := h.2.2.1 hx
      refine jv_aload_n d_M_count_78 rfl rfl ?_
      obtain ⟨q5, h⟩ := h
      refine jv_getI d_M_count_79 fl_M_78 rfl q5 ?_
      exact jv_iret d_M_count_82 rfl rfl h
    · replace h := h.2.2.2.1 hx
      refine jv_aload_n d_M_count_83 rfl rfl ?_
      obtain ⟨q6, h⟩ := h
      refine jv_getI d_M_count_84 fl_M_138 rfl q6 ?_
      exact jv_iret d_M_count_87 rfl rfl h
    · replace h := h.2.2.2.2.1 hx
      refine jv_aload_n d_M_count_88 rfl rfl ?_
      obtain ⟨q7, h⟩ := h
      obtain ⟨b8, e9, h⟩ := h
      refine jv_getR d_M_count_89 fl_M_40 rfl q7 e9 ?_
      refine jv_aload_n d_M_count_92 rfl rfl ?_
      obtain ⟨q10, h⟩ := h
      refine jv_getI d_M_count_93 fl_M_78 rfl q10 ?_
      refine jv_invS [.ref b8, .int (Prod.fst (jv_si M a0 0 0) a0 6)] [] d_M_count_96 ml_M_189 rfl (Nat.le_of_ble_eq_true rfl) (Nat.zero_add _) (Nat.zero_add _) (jv_Ct.mono h (fun v M12 N12 h => ?_))
      obtain ⟨r11, rfl, h⟩ := h
      change jv_J g (d + 1) mt_M_count 99 [some (.ref a0), some (.int x1)] [.int r11] M12 N12 cr sr Z
      exact jv_iret d_M_count_99 rfl rfl h
    · replace h := h.2.2.2.2.2.1 hx
      refine jv_aload_n d_M_count_100 rfl rfl ?_
      obtain ⟨q13, h⟩ := h
      obtain ⟨b14, e15, h⟩ := h
      refine jv_getR d_M_count_101 fl_M_40 rfl q13 e15 ?_
      refine jv_bipush (v := 80) d_M_count_104 (by decide) ?_
      obtain ⟨q16, q17, h⟩ := h
      refine jv_iald d_M_count_106 q16 q17 ?_
      exact jv_iret d_M_count_107 rfl rfl h
    · replace h := h.2.2.2.2.2.2.1 hx
      refine jv_aload_n d_M_count_108 rfl rfl ?_
      obtain ⟨q18, h⟩ := h
      obtain ⟨b19, e20, h⟩ := h
      refine jv_getR d_M_count_109 fl_M_40 rfl q18 e20 ?_
      refine jv_bipush (v := 76) d_M_count_112 (by decide) ?_
      obtain ⟨q21, q22, h⟩ := h
      refine jv_iald d_M_count_114 q21 q22 ?_
      exact jv_iret d_M_count_115 rfl rfl h
    · replace h := h.2.2.2.2.2.2.2.1 hx
      refine jv_aload_n d_M_count_116 rfl rfl ?_
      obtain ⟨q23, h⟩ := h
      obtain ⟨b24, e25, h⟩ := h
      refine jv_getR d_M_count_117 fl_M_40 rfl q23 e25 ?_
      refine jv_bipush (v := 77) d_M_count_120 (by decide) ?_
      obtain ⟨q26, q27, h⟩ := h
      refine jv_iald d_M_count_122 q26 q27 ?_
      exact jv_iret d_M_count_123 rfl rfl h
    · replace h := h.2.2.2.2.2.2.2.2.1 hx
      refine jv_aload_n d_M_count_124 rfl rfl ?_
      obtain ⟨q28, h⟩ := h
      obtain ⟨b29, e30, h⟩ := h
      refine jv_getR d_M_count_125 fl_M_40 rfl q28 e30 ?_
      refine jv_bipush (v := 78) d_M_count_128 (by decide) ?_
      refine jv_iload_n d_M_count_130 rfl rfl ?_
      refine jv_iadd d_M_count_131 ?_
      refine jv_bipush (v := 8) d_M_count_132 (by decide) ?_
      refine jv_isub d_M_count_134 ?_
      obtain ⟨q31, q32, h⟩ := h
      refine jv_iald d_M_count_135 q31 q32 ?_
      exact jv_iret d_M_count_136 rfl rfl h
    · replace h := h.2.2.2.2.2.2.2.2.2.1 hx
      refine jv_aload_n d_M_count_124 rfl rfl ?_
      obtain ⟨q33, h⟩ := h
      obtain ⟨b34, e35, h⟩ := h
      refine jv_getR d_M_count_125 fl_M_40 rfl q33 e35 ?_
      refine jv_bipush (v := 78) d_M_count_128 (by decide) ?_
      refine jv_iload_n d_M_count_130 rfl rfl ?_
      refine jv_iadd d_M_count_131 ?_
      refine jv_bipush (v := 8) d_M_count_132 (by decide) ?_
      refine jv_isub d_M_count_134 ?_
      obtain ⟨q36, q37, h⟩ := h
      refine jv_iald d_M_count_135 q36 q37 ?_
      exact jv_iret d_M_count_136 rfl rfl h
    · replace h := h.2.2.2.2.2.2.2.2.2.2.1 hx
      refine jv_aload_n d_M_count_137 rfl rfl ?_
      obtain ⟨q38, h⟩ := h
      refine jv_getI d_M_count_138 fl_M_141 rfl q38 ?_
      exact jv_iret d_M_count_141 rfl rfl h
    · replace h := h.2.2.2.2.2.2.2.2.2.2.2.1 hx
      refine jv_aload_n d_M_count_142 rfl rfl ?_
      obtain ⟨q39, h⟩ := h
      refine jv_getI d_M_count_143 fl_M_269 rfl q39 ?_
      exact jv_iret d_M_count_146 rfl rfl h
  · exact hD2 ⟨hq _ (List.mem_of_getElem? (i := 0) rfl), hq _ (List.mem_of_getElem? (i := 1) rfl), hq _ (List.mem_of_getElem? (i := 2) rfl), hq _ (List.mem_of_getElem? (i := 3) rfl), hq _ (List.mem_of_getElem? (i := 4) rfl), hq _ (List.mem_of_getElem? (i := 5) rfl), hq _ (List.mem_of_getElem? (i := 6) rfl), hq _ (List.mem_of_getElem? (i := 7) rfl), hq _ (List.mem_of_getElem? (i := 8) rfl), hq _ (List.mem_of_getElem? (i := 9) rfl), hq _ (List.mem_of_getElem? (i := 10) rfl), hq _ (List.mem_of_getElem? (i := 11) rfl)⟩
