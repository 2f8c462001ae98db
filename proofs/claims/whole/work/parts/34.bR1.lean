/-! ===== blocks ===== -/
theorem b_R_drawn_0 {g : jv_G} {d : Nat} {M : jv_Mem} {N cr sr : Nat} {Z : Option Value → jv_Mem → Nat → Prop} {a0 : Nat} {x1 : Int32} (h : (x1 < 1 → Z (some (.int (-2))) M N) ∧ (¬ (x1 < 1) → (x1 ≤ 20 → jv_Tg 9 a0 N ∧ ∃ b2, Prod.fst (Prod.snd M) a0 3 = some b2 ∧ jv_Tg 9 a0 N ∧ ∃ b5, Prod.fst (Prod.snd M) a0 2 = some b5 ∧ jv_Tg 6 b2 N ∧ jv_Ct g d mt_S_copyFrom [.ref b2, .ref b5] M N 0 0 (fun v M9 N9 => jv_rv v (jv_J g (d + 1) mt_R_drawn 29 [some (.ref a0), some (.int x1), some (.int 0), some (.int 0), none] [] M9 N9 cr sr Z))) ∧ (¬ (x1 ≤ 20) → Z (some (.int (-2))) M N))) : jv_J g (d + 1) mt_R_drawn 0 [some (.ref a0), some (.int x1), none, none, none] [] M N cr sr Z := by
  refine jv_iload_n d_R_drawn_0 rfl rfl ?_
  refine jv_iconst (v := 1) d_R_drawn_1 (by decide) ?_
  refine jv_icmp_lt (tgt := 11) d_R_drawn_2 (by decide) ⟨fun c => ?_, fun c => ?_⟩
  · replace h := h.1 c
    refine jv_bipush (v := (-2)) d_R_drawn_11 (by decide) ?_
    exact jv_iret d_R_drawn_13 rfl rfl h
  · replace h := h.2 c
    refine jv_iload_n d_R_drawn_5 rfl rfl ?_
    refine jv_bipush (v := 20) d_R_drawn_6 (by decide) ?_
    refine jv_icmp_le (tgt := 14) d_R_drawn_8 (by decide) ⟨fun c => ?_, fun c => ?_⟩
    · replace h := h.1 c
      refine jv_iconst (v := 0) d_R_drawn_14 (by decide) ?_
      refine jv_istore_n (L' := [some (.ref a0), some (.int x1), some (.int 0), none, none]) d_R_drawn_15 rfl (Nat.le_of_ble_eq_true rfl) rfl ?_
      refine jv_aload_n d_R_drawn_16 rfl rfl ?_
      obtain ⟨q1, h⟩ := h
      obtain ⟨b2, e3, h⟩ := h
      refine jv_getR d_R_drawn_17 fl_R_30 rfl q1 e3 ?_
      refine jv_aload_n d_R_drawn_20 rfl rfl ?_
      obtain ⟨q4, h⟩ := h
      obtain ⟨b5, e6, h⟩ := h
      refine jv_getR d_R_drawn_21 fl_R_26 rfl q4 e6 ?_
      obtain ⟨q7, h⟩ := h
      refine jv_invV [.ref b5] [] d_R_drawn_24 ml_R_79 q7 rfl (Nat.le_of_ble_eq_true rfl) (Nat.zero_add _) (Nat.zero_add _) (jv_Ct.mono h (fun v M9 N9 h => ?_))
      obtain ⟨rfl, h⟩ := h
      change jv_J g (d + 1) mt_R_drawn 27 [some (.ref a0), some (.int x1), some (.int 0), none, none] [] M9 N9 cr sr Z
      refine jv_iconst (v := 0) d_R_drawn_27 (by decide) ?_
      refine jv_istore_n (L' := [some (.ref a0), some (.int x1), some (.int 0), some (.int 0), none]) d_R_drawn_28 rfl (Nat.le_of_ble_eq_true rfl) rfl ?_
      exact h
    · replace h := h.2 c
      refine jv_bipush (v := (-2)) d_R_drawn_11 (by decide) ?_
      exact jv_iret d_R_drawn_13 rfl rfl h
theorem b_R_drawn_29 {g : jv_G} {d : Nat} {M : jv_Mem} {N cr sr : Nat} {Z : Option Value → jv_Mem → Nat → Prop} {a0 : Nat} {x1 : Int32} {x2 : Int32} {x3 : Int32} (h : (x1 ≤ x3 → Z (some (.int x2)) M N) ∧ (¬ (x1 ≤ x3) → jv_Tg 9 a0 N ∧ jv_Tg 9 a0 N ∧ jv_Tg 9 a0 N ∧ ∃ b4, Prod.fst (Prod.snd (jv_sl M a0 (((Prod.snd (Prod.snd M) a0) * 6364136223846793005) + 1442695040888963407))) a0 3 = some b4 ∧ jv_Tg 6 b4 N ∧ ((Prod.fst (jv_sl M a0 (((Prod.snd (Prod.snd M) a0) * 6364136223846793005) + 1442695040888963407)) b4 4) ≤ 0 → jv_J g (d + 1) mt_R_drawn 29 [some (.ref a0), some (.int x1), some (.int x2), some (.int (x3 + 1)), none] [] (jv_sl M a0 (((Prod.snd (Prod.snd M) a0) * 6364136223846793005) + 1442695040888963407)) N cr sr Z) ∧ (¬ ((Prod.fst (jv_sl M a0 (((Prod.snd (Prod.snd M) a0) * 6364136223846793005) + 1442695040888963407)) b4 4) ≤ 0) → jv_Tg 9 a0 N ∧ jv_Tg 9 a0 N ∧ ∃ b9, Prod.fst (Prod.snd (jv_sl M a0 (((Prod.snd (Prod.snd M) a0) * 6364136223846793005) + 1442695040888963407))) a0 3 = some b9 ∧ jv_Tg 6 b9 N ∧ ∃ b12, Prod.fst (Prod.snd (jv_sl M a0 (((Prod.snd (Prod.snd M) a0) * 6364136223846793005) + 1442695040888963407))) b9 0 = some b12 ∧ jv_Tg 0 b12 N ∧ (8 ≤ (Prod.fst (jv_sl M a0 (((Prod.snd (Prod.snd M) a0) * 6364136223846793005) + 1442695040888963407)) b12 2) → jv_Tg 9 a0 N ∧ ∃ b16, Prod.fst (Prod.snd (jv_sl M a0 (((Prod.snd (Prod.snd M) a0) * 6364136223846793005) + 1442695040888963407))) a0 3 = some b16 ∧ jv_Tg 9 a0 N ∧ ∃ b19, Prod.fst (Prod.snd (jv_sl M a0 (((Prod.snd (Prod.snd M) a0) * 6364136223846793005) + 1442695040888963407))) a0 1 = some b19 ∧ jv_Tg 6 b16 N ∧ jv_Ct g d mt_S_pass [.ref b16, .ref b19, .int 1] (jv_sl M a0 (((Prod.snd (Prod.snd M) a0) * 6364136223846793005) + 1442695040888963407)) N 0 0 (fun v M23 N23 => jv_rv v (jv_Tg 9 a0 N23 ∧ ∃ b25, Prod.fst (Prod.snd M23) a0 3 = some b25 ∧ jv_Tg 6 b25 N23 ∧ jv_Ct g d mt_S_haltedCount [.ref b25] M23 N23 0 0 (fun v M29 N29 => jv_ri v (fun r28 => jv_J g (d + 1) mt_R_drawn 29 [some (.ref a0), some (.int x1), some (.int (x2 + r28)), some (.int (x3 + 1)), none] [] M29 N29 cr sr Z))))) ∧ (¬ (8 ≤ (Prod.fst (jv_sl M a0 (((Prod.snd (Prod.snd M) a0) * 6364136223846793005) + 1442695040888963407)) b12 2)) → jv_Tg 9 a0 N ∧ ∃ b31, Prod.fst (Prod.snd (jv_sl M a0 (((Prod.snd (Prod.snd M) a0) * 6364136223846793005) + 1442695040888963407))) a0 3 = some b31 ∧ jv_Tg 6 b31 N ∧ ∃ b34, Prod.fst (Prod.snd (jv_sl M a0 (((Prod.snd (Prod.snd M) a0) * 6364136223846793005) + 1442695040888963407))) b31 0 = some b34 ∧ jv_Tg 9 a0 N ∧ ∃ b37, Prod.fst (Prod.snd (jv_sl M a0 (((Prod.snd (Prod.snd M) a0) * 6364136223846793005) + 1442695040888963407))) a0 3 = some b37 ∧ jv_Tg 6 b37 N ∧ ¬ (Prod.fst (jv_sl M a0 (((Prod.snd (Prod.snd M) a0) * 6364136223846793005) + 1442695040888963407)) b37 4) = 0 ∧ jv_Tg 0 b34 N ∧ jv_Ct g d mt_D_accept [.ref b34, .int ((Int64.toInt32 ((((Prod.snd (Prod.snd (jv_sl M a0 (((Prod.snd (Prod.snd M) a0) * 6364136223846793005) + 1442695040888963407))) a0) : Int64).toUInt64 >>> ((33 : Int32).toInt64.toUInt64 &&& Int64.toUInt64 63)).toInt64)) - (Int64.toInt32 ((((Prod.snd (Prod.snd (jv_sl M a0 (((Prod.snd (Prod.snd M) a0) * 6364136223846793005) + 1442695040888963407))) a0) : Int64).toUInt64 >>> ((33 : Int32).toInt64.toUInt64 &&& Int64.toUInt64 63)).toInt64)) / 3 * 3), .int (((Int64.toInt32 ((((Prod.snd (Prod.snd (jv_sl M a0 (((Prod.snd (Prod.snd M) a0) * 6364136223846793005) + 1442695040888963407))) a0) : Int64).toUInt64 >>> ((33 : Int32).toInt64.toUInt64 &&& Int64.toUInt64 63)).toInt64)) / 4) - ((Int64.toInt32 ((((Prod.snd (Prod.snd (jv_sl M a0 (((Prod.snd (Prod.snd M) a0) * 6364136223846793005) + 1442695040888963407))) a0) : Int64).toUInt64 >>> ((33 : Int32).toInt64.toUInt64 &&& Int64.toUInt64 63)).toInt64)) / 4) / (Prod.fst (jv_sl M a0 (((Prod.snd (Prod.snd M) a0) * 6364136223846793005) + 1442695040888963407)) b37 4) * (Prod.fst (jv_sl M a0 (((Prod.snd (Prod.snd M) a0) * 6364136223846793005) + 1442695040888963407)) b37 4)), .int 0, .int 0] (jv_sl M a0 (((Prod.snd (Prod.snd M) a0) * 6364136223846793005) + 1442695040888963407)) N 0 0 (fun v M43 N43 => jv_rv v (jv_Tg 9 a0 N43 ∧ ∃ b45, Prod.fst (Prod.snd M43) a0 3 = some b45 ∧ jv_Tg 9 a0 N43 ∧ ∃ b48, Prod.fst (Prod.snd M43) a0 1 = some b48 ∧ jv_Tg 6 b45 N43 ∧ jv_Ct g d mt_S_pass [.ref b45, .ref b48, .int 1] M43 N43 0 0 (fun v M52 N52 => jv_rv v (jv_Tg 9 a0 N52 ∧ ∃ b54, Prod.fst (Prod.snd M52) a0 3 = some b54 ∧ jv_Tg 6 b54 N52 ∧ jv_Ct g d mt_S_haltedCount [.ref b54] M52 N52 0 0 (fun v M58 N58 => jv_ri v (fun r57 => jv_J g (d + 1) mt_R_drawn 29 [some (.ref a0), some (.int x1), some (.int (x2 + r57)), some (.int (x3 + 1)), none] [] M58 N58 cr sr Z)))))))))) : jv_J g (d + 1) mt_R_drawn 29 [some (.ref a0), some (.int x1), some (.int x2), some (.int x3), none] [] M N cr sr Z := by
  refine jv_iload_n d_R_drawn_29 rfl rfl ?_
  refine jv_iload_n d_R_drawn_30 rfl rfl ?_
  refine jv_icmp_ge (tgt := 141) d_R_drawn_31 (by decide) ⟨fun c => ?_, fun c => ?_⟩
  · replace h := h.1 c
    refine jv_iload_n d_R_drawn_141 rfl rfl ?_
    exact jv_iret d_R_drawn_142 rfl rfl h
  · replace h := h.2 c
    refine jv_aload_n d_R_drawn_34 rfl rfl ?_
    refine jv_aload_n d_R_drawn_35 rfl rfl ?_
    obtain ⟨q1, h⟩ := h
    refine jv_getL d_R_drawn_36 fl_R_226 rfl q1 ?_
    refine jv_ldc2 d_R_drawn_39 co_R_230 ?_
    refine jv_lmul d_R_drawn_42 ?_
    refine jv_ldc2 d_R_drawn_43 co_R_232 ?_
    refine jv_ladd d_R_drawn_46 ?_
    obtain ⟨q2, h⟩ := h
    refine jv_putL d_R_drawn_47 fl_R_226 (fun r hr => by cases hr; rfl) rfl jv_one9 q2 ?_
    refine jv_aload_n d_R_drawn_50 rfl rfl ?_
    obtain ⟨q3, h⟩ := h
    obtain ⟨b4, e5, h⟩ := h
    refine jv_getR d_R_drawn_51 fl_R_30 rfl q3 e5 ?_
    obtain ⟨q6, h⟩ := h
    refine jv_getI d_R_drawn_54 fl_R_85 rfl q6 ?_
    refine jv_if_le (tgt := 135) d_R_drawn_57 (by decide) ⟨fun c => ?_, fun c => ?_⟩
    · replace h := h.1 c
      refine jv_iinc (v := (x3 + 1)) (L' := [some (.ref a0), some (.int x1), some (.int x2), some (.int (x3 + 1)), none]) d_R_drawn_135 rfl rfl (Nat.le_of_ble_eq_true rfl) rfl ?_
      refine jv_goto (tgt := 29) d_R_drawn_138 (by decide) ?_
      exact h
    · replace h := h.2 c
      refine jv_aload_n d_R_drawn_60 rfl rfl ?_
      obtain ⟨q7, h⟩ := h
      refine jv_getL d_R_drawn_61 fl_R_226 rfl q7 ?_
      refine jv_bipush (v := 33) d_R_drawn_64 (by decide) ?_
      refine jv_lushr d_R_drawn_66 ?_
      refine jv_l2i d_R_drawn_67 ?_
      refine jv_istore (L' := [some (.ref a0), some (.int x1), some (.int x2), some (.int x3), some (.int (Int64.toInt32 ((((Prod.snd (Prod.snd (jv_sl M a0 (((Prod.snd (Prod.snd M) a0) * 6364136223846793005) + 1442695040888963407))) a0) : Int64).toUInt64 >>> ((33 : Int32).toInt64.toUInt64 &&& Int64.toUInt64 63)).toInt64)))]) d_R_drawn_68 (Nat.le_of_ble_eq_true rfl) rfl ?_
      refine jv_aload_n d_R_drawn_70 rfl rfl ?_
      obtain ⟨q8, h⟩ := h
      obtain ⟨b9, e10, h⟩ := h
      refine jv_getR d_R_drawn_71 fl_R_30 rfl q8 e10 ?_
      obtain ⟨q11, h⟩ := h
      obtain ⟨b12, e13, h⟩ := h
      refine jv_getR d_R_drawn_74 fl_R_118 rfl q11 e13 ?_
      obtain ⟨q14, h⟩ := h
      refine jv_getI d_R_drawn_77 fl_R_122 rfl q14 ?_
      refine jv_bipush (v := 8) d_R_drawn_80 (by decide) ?_
      refine jv_icmp_ge (tgt := 113) d_R_drawn_82 (by decide) ⟨fun c => ?_, fun c => ?_⟩
      · replace h := h.1 c
        refine jv_aload_n d_R_drawn_113 rfl rfl ?_
        obtain ⟨q15, h⟩ := h
        obtain ⟨b16, e17, h⟩ := h
        refine jv_getR d_R_drawn_114 fl_R_30 rfl q15 e17 ?_
        refine jv_aload_n d_R_drawn_117 rfl rfl ?_
        obtain ⟨q18, h⟩ := h
        obtain ⟨b19, e20, h⟩ := h
        refine jv_getR d_R_drawn_118 fl_R_19 rfl q18 e20 ?_
        refine jv_iconst (v := 1) d_R_drawn_121 (by decide) ?_
        obtain ⟨q21, h⟩ := h
        refine jv_invV [.ref b19, .int 1] [] d_R_drawn_122 ml_R_137 q21 rfl (Nat.le_of_ble_eq_true rfl) (Nat.zero_add _) (Nat.zero_add _) (jv_Ct.mono h (fun v M23 N23 h => ?_))
        obtain ⟨rfl, h⟩ := h
        change jv_J g (d + 1) mt_R_drawn 125 [some (.ref a0), some (.int x1), some (.int x2), some (.int x3), some (.int (Int64.toInt32 ((((Prod.snd (Prod.snd (jv_sl M a0 (((Prod.snd (Prod.snd M) a0) * 6364136223846793005) + 1442695040888963407))) a0) : Int64).toUInt64 >>> ((33 : Int32).toInt64.toUInt64 &&& Int64.toUInt64 63)).toInt64)))] [] M23 N23 cr sr Z
        refine jv_iload_n d_R_drawn_125 rfl rfl ?_
        refine jv_aload_n d_R_drawn_126 rfl rfl ?_
        obtain ⟨q24, h⟩ := h
        obtain ⟨b25, e26, h⟩ := h
        refine jv_getR d_R_drawn_127 fl_R_30 rfl q24 e26 ?_
        obtain ⟨q27, h⟩ := h
        refine jv_invV [] [.int x2] d_R_drawn_130 ml_R_141 q27 rfl (Nat.le_of_ble_eq_true rfl) (Nat.zero_add _) (Nat.zero_add _) (jv_Ct.mono h (fun v M29 N29 h => ?_))
        obtain ⟨r28, rfl, h⟩ := h
        change jv_J g (d + 1) mt_R_drawn 133 [some (.ref a0), some (.int x1), some (.int x2), some (.int x3), some (.int (Int64.toInt32 ((((Prod.snd (Prod.snd (jv_sl M a0 (((Prod.snd (Prod.snd M) a0) * 6364136223846793005) + 1442695040888963407))) a0) : Int64).toUInt64 >>> ((33 : Int32).toInt64.toUInt64 &&& Int64.toUInt64 63)).toInt64)))] [.int r28, .int x2] M29 N29 cr sr Z
        refine jv_iadd d_R_drawn_133 ?_
        refine jv_istore_n (L' := [some (.ref a0), some (.int x1), some (.int (x2 + r28)), some (.int x3), some (.int (Int64.toInt32 ((((Prod.snd (Prod.snd (jv_sl M a0 (((Prod.snd (Prod.snd M) a0) * 6364136223846793005) + 1442695040888963407))) a0) : Int64).toUInt64 >>> ((33 : Int32).toInt64.toUInt64 &&& Int64.toUInt64 63)).toInt64)))]) d_R_drawn_134 rfl (Nat.le_of_ble_eq_true rfl) rfl ?_
        refine jv_iinc (v := (x3 + 1)) (L' := [some (.ref a0), some (.int x1), some (.int (x2 + r28)), some (.int (x3 + 1)), some (.int (Int64.toInt32 ((((Prod.snd (Prod.snd (jv_sl M a0 (((Prod.snd (Prod.snd M) a0) * 6364136223846793005) + 1442695040888963407))) a0) : Int64).toUInt64 >>> ((33 : Int32).toInt64.toUInt64 &&& Int64.toUInt64 63)).toInt64)))]) d_R_drawn_135 rfl rfl (Nat.le_of_ble_eq_true rfl) rfl ?_
        refine jv_goto (tgt := 29) d_R_drawn_138 (by decide) ?_
        refine jv_weak (L' := [some (.ref a0), some (.int x1), some (.int (x2 + r28)), some (.int (x3 + 1)), none]) (by simp [jv_le]) ?_
        exact h
      · replace h := h.2 c
        refine jv_aload_n d_R_drawn_85 rfl rfl ?_
        obtain ⟨q30, h⟩ := h
        obtain ⟨b31, e32, h⟩ := h
        refine jv_getR d_R_drawn_86 fl_R_30 rfl q30 e32 ?_
        obtain ⟨q33, h⟩ := h
        obtain ⟨b34, e35, h⟩ := h
        refine jv_getR d_R_drawn_89 fl_R_118 rfl q33 e35 ?_
        refine jv_iload d_R_drawn_92 rfl ?_
        refine jv_iconst (v := 3) d_R_drawn_94 (by decide) ?_
        refine jv_irem d_R_drawn_95 (by decide) ?_
        refine jv_iload d_R_drawn_96 rfl ?_
        refine jv_iconst (v := 4) d_R_drawn_98 (by decide) ?_
        refine jv_idiv d_R_drawn_99 (by decide) ?_
        refine jv_aload_n d_R_drawn_100 rfl rfl ?_
        obtain ⟨q36, h⟩ := h
        obtain ⟨b37, e38, h⟩ := h
        refine jv_getR d_R_drawn_101 fl_R_30 rfl q36 e38 ?_
        obtain ⟨q39, h⟩ := h
        refine jv_getI d_R_drawn_104 fl_R_85 rfl q39 ?_
        obtain ⟨q40, h⟩ := h
        refine jv_irem d_R_drawn_107 q40 ?_
        refine jv_iconst (v := 0) d_R_drawn_108 (by decide) ?_
        refine jv_iconst (v := 0) d_R_drawn_109 (by decide) ?_
        obtain ⟨q41, h⟩ := h
        refine jv_invV [.int ((Int64.toInt32 ((((Prod.snd (Prod.snd (jv_sl M a0 (((Prod.snd (Prod.snd M) a0) * 6364136223846793005) + 1442695040888963407))) a0) : Int64).toUInt64 >>> ((33 : Int32).toInt64.toUInt64 &&& Int64.toUInt64 63)).toInt64)) - (Int64.toInt32 ((((Prod.snd (Prod.snd (jv_sl M a0 (((Prod.snd (Prod.snd M) a0) * 6364136223846793005) + 1442695040888963407))) a0) : Int64).toUInt64 >>> ((33 : Int32).toInt64.toUInt64 &&& Int64.toUInt64 63)).toInt64)) / 3 * 3), .int (((Int64.toInt32 ((((Prod.snd (Prod.snd (jv_sl M a0 (((Prod.snd (Prod.snd M) a0) * 6364136223846793005) + 1442695040888963407))) a0) : Int64).toUInt64 >>> ((33 : Int32).toInt64.toUInt64 &&& Int64.toUInt64 63)).toInt64)) / 4) - ((Int64.toInt32 ((((Prod.snd (Prod.snd (jv_sl M a0 (((Prod.snd (Prod.snd M) a0) * 6364136223846793005) + 1442695040888963407))) a0) : Int64).toUInt64 >>> ((33 : Int32).toInt64.toUInt64 &&& Int64.toUInt64 63)).toInt64)) / 4) / (Prod.fst (jv_sl M a0 (((Prod.snd (Prod.snd M) a0) * 6364136223846793005) + 1442695040888963407)) b37 4) * (Prod.fst (jv_sl M a0 (((Prod.snd (Prod.snd M) a0) * 6364136223846793005) + 1442695040888963407)) b37 4)), .int 0, .int 0] [] d_R_drawn_110 ml_R_144 q41 rfl (Nat.le_of_ble_eq_true rfl) (Nat.zero_add _) (Nat.zero_add _) (jv_Ct.mono h (fun v M43 N43 h => ?_))
        obtain ⟨rfl, h⟩ := h
        change jv_J g (d + 1) mt_R_drawn 113 [some (.ref a0), some (.int x1), some (.int x2), some (.int x3), some (.int (Int64.toInt32 ((((Prod.snd (Prod.snd (jv_sl M a0 (((Prod.snd (Prod.snd M) a0) * 6364136223846793005) + 1442695040888963407))) a0) : Int64).toUInt64 >>> ((33 : Int32).toInt64.toUInt64 &&& Int64.toUInt64 63)).toInt64)))] [] M43 N43 cr sr Z
        refine jv_aload_n d_R_drawn_113 rfl rfl ?_
        obtain ⟨q44, h⟩ := h
        obtain ⟨b45, e46, h⟩ := h
        refine jv_getR d_R_drawn_114 fl_R_30 rfl q44 e46 ?_
        refine jv_aload_n d_R_drawn_117 rfl rfl ?_
        obtain ⟨q47, h⟩ := h
        obtain ⟨b48, e49, h⟩ := h
        refine jv_getR d_R_drawn_118 fl_R_19 rfl q47 e49 ?_
        refine jv_iconst (v := 1) d_R_drawn_121 (by decide) ?_
        obtain ⟨q50, h⟩ := h
        refine jv_invV [.ref b48, .int 1] [] d_R_drawn_122 ml_R_137 q50 rfl (Nat.le_of_ble_eq_true rfl) (Nat.zero_add _) (Nat.zero_add _) (jv_Ct.mono h (fun v M52 N52 h => ?_))
        obtain ⟨rfl, h⟩ := h
        change jv_J g (d + 1) mt_R_drawn 125 [some (.ref a0), some (.int x1), some (.int x2), some (.int x3), some (.int (Int64.toInt32 ((((Prod.snd (Prod.snd (jv_sl M a0 (((Prod.snd (Prod.snd M) a0) * 6364136223846793005) + 1442695040888963407))) a0) : Int64).toUInt64 >>> ((33 : Int32).toInt64.toUInt64 &&& Int64.toUInt64 63)).toInt64)))] [] M52 N52 cr sr Z
        refine jv_iload_n d_R_drawn_125 rfl rfl ?_
        refine jv_aload_n d_R_drawn_126 rfl rfl ?_
        obtain ⟨q53, h⟩ := h
        obtain ⟨b54, e55, h⟩ := h
        refine jv_getR d_R_drawn_127 fl_R_30 rfl q53 e55 ?_
        obtain ⟨q56, h⟩ := h
        refine jv_invV [] [.int x2] d_R_drawn_130 ml_R_141 q56 rfl (Nat.le_of_ble_eq_true rfl) (Nat.zero_add _) (Nat.zero_add _) (jv_Ct.mono h (fun v M58 N58 h => ?_))
        obtain ⟨r57, rfl, h⟩ := h
        change jv_J g (d + 1) mt_R_drawn 133 [some (.ref a0), some (.int x1), some (.int x2), some (.int x3), some (.int (Int64.toInt32 ((((Prod.snd (Prod.snd (jv_sl M a0 (((Prod.snd (Prod.snd M) a0) * 6364136223846793005) + 1442695040888963407))) a0) : Int64).toUInt64 >>> ((33 : Int32).toInt64.toUInt64 &&& Int64.toUInt64 63)).toInt64)))] [.int r57, .int x2] M58 N58 cr sr Z
        refine jv_iadd d_R_drawn_133 ?_
        refine jv_istore_n (L' := [some (.ref a0), some (.int x1), some (.int (x2 + r57)), some (.int x3), some (.int (Int64.toInt32 ((((Prod.snd (Prod.snd (jv_sl M a0 (((Prod.snd (Prod.snd M) a0) * 6364136223846793005) + 1442695040888963407))) a0) : Int64).toUInt64 >>> ((33 : Int32).toInt64.toUInt64 &&& Int64.toUInt64 63)).toInt64)))]) d_R_drawn_134 rfl (Nat.le_of_ble_eq_true rfl) rfl ?_
        refine jv_iinc (v := (x3 + 1)) (L' := [some (.ref a0), some (.int x1), some (.int (x2 + r57)), some (.int (x3 + 1)), some (.int (Int64.toInt32 ((((Prod.snd (Prod.snd (jv_sl M a0 (((Prod.snd (Prod.snd M) a0) * 6364136223846793005) + 1442695040888963407))) a0) : Int64).toUInt64 >>> ((33 : Int32).toInt64.toUInt64 &&& Int64.toUInt64 63)).toInt64)))]) d_R_drawn_135 rfl rfl (Nat.le_of_ble_eq_true rfl) rfl ?_
        refine jv_goto (tgt := 29) d_R_drawn_138 (by decide) ?_
        refine jv_weak (L' := [some (.ref a0), some (.int x1), some (.int (x2 + r57)), some (.int (x3 + 1)), none]) (by simp [jv_le]) ?_
        exact h
theorem b_R_keep_0 {g : jv_G} {d : Nat} {M : jv_Mem} {N cr sr : Nat} {Z : Option Value → jv_Mem → Nat → Prop} {a0 : Nat} {x1 : Int32} (h : jv_Ct g d mt_R_isBelow [.int x1, .int 2] M N 0 0 (fun v M2 N2 => jv_ri v (fun r1 => (r1 ≠ 0 → jv_Tg 9 a0 N2 ∧ ∃ b4, Prod.fst (Prod.snd M2) a0 5 = some b4 ∧ jv_Tg 15 b4 N2 ∧ vp_in x1 (jv_sh b4).2 ∧ ∃ b8, Prod.fst (Prod.snd M2) b4 (Int32.toNatClampNeg x1) = some b8 ∧ jv_Tg 9 a0 N2 ∧ ∃ b11, Prod.fst (Prod.snd M2) a0 2 = some b11 ∧ jv_Tg 6 b8 N2 ∧ jv_Ct g d mt_S_copyFrom [.ref b8, .ref b11] M2 N2 0 0 (fun v M15 N15 => jv_rv v (jv_Tg 9 a0 N15 ∧ ∃ b17, Prod.fst (Prod.snd M15) a0 6 = some b17 ∧ jv_Tg 12 b17 N15 ∧ vp_in x1 (jv_sh b17).2 ∧ jv_Tg 9 a0 N15 ∧ ∃ b22, Prod.fst (Prod.snd (jv_si M15 b17 (Int32.toNatClampNeg x1) 1)) a0 2 = some b22 ∧ jv_Tg 6 b22 N15 ∧ Z (some (.int (Prod.fst (jv_si M15 b17 (Int32.toNatClampNeg x1) 1) b22 4))) (jv_si M15 b17 (Int32.toNatClampNeg x1) 1) N15))) ∧ (r1 = 0 → Z (some (.int (-1))) M2 N2)))) : jv_J g (d + 1) mt_R_keep 0 [some (.ref a0), some (.int x1)] [] M N cr sr Z := by
  refine jv_iload_n d_R_keep_0 rfl rfl ?_
  refine jv_iconst (v := 2) d_R_keep_1 (by decide) ?_
  refine jv_invS [.int x1, .int 2] [] d_R_keep_2 ml_R_111 rfl (Nat.le_of_ble_eq_true rfl) (Nat.zero_add _) (Nat.zero_add _) (jv_Ct.mono h (fun v M2 N2 h => ?_))
  obtain ⟨r1, rfl, h⟩ := h
  change jv_J g (d + 1) mt_R_keep 5 [some (.ref a0), some (.int x1)] [.int r1] M2 N2 cr sr Z
  refine jv_if_ne (tgt := 10) d_R_keep_5 (by decide) ⟨fun c => ?_, fun c => ?_⟩
  · replace h := h.1 c
    refine jv_aload_n d_R_keep_10 rfl rfl ?_
    obtain ⟨q3, h⟩ := h
    obtain ⟨b4, e5, h⟩ := h
    refine jv_getR d_R_keep_11 fl_R_40 rfl q3 e5 ?_
    refine jv_iload_n d_R_keep_14 rfl rfl ?_
    obtain ⟨q6, q7, b8, e9, h⟩ := h
    refine jv_aald (t := 15) d_R_keep_15 (by decide) q6 q7 e9 ?_
    refine jv_aload_n d_R_keep_16 rfl rfl ?_
    obtain ⟨q10, h⟩ := h
    obtain ⟨b11, e12, h⟩ := h
    refine jv_getR d_R_keep_17 fl_R_26 rfl q10 e12 ?_
    obtain ⟨q13, h⟩ := h
    refine jv_invV [.ref b11] [] d_R_keep_20 ml_R_79 q13 rfl (Nat.le_of_ble_eq_true rfl) (Nat.zero_add _) (Nat.zero_add _) (jv_Ct.mono h (fun v M15 N15 h => ?_))
    obtain ⟨rfl, h⟩ := h
    change jv_J g (d + 1) mt_R_keep 23 [some (.ref a0), some (.int x1)] [] M15 N15 cr sr Z
    refine jv_aload_n d_R_keep_23 rfl rfl ?_
    obtain ⟨q16, h⟩ := h
    obtain ⟨b17, e18, h⟩ := h
    refine jv_getR d_R_keep_24 fl_R_44 rfl q16 e18 ?_
    refine jv_iload_n d_R_keep_27 rfl rfl ?_
    refine jv_iconst (v := 1) d_R_keep_28 (by decide) ?_
    obtain ⟨q19, q20, h⟩ := h
    refine jv_zast d_R_keep_29 q19 q20 (by decide) ?_
    refine jv_aload_n d_R_keep_30 rfl rfl ?_
    obtain ⟨q21, h⟩ := h
    obtain ⟨b22, e23, h⟩ := h
    refine jv_getR d_R_keep_31 fl_R_26 rfl q21 e23 ?_
    obtain ⟨q24, h⟩ := h
    refine jv_getI d_R_keep_34 fl_R_85 rfl q24 ?_
    exact jv_iret d_R_keep_37 rfl rfl h
  · replace h := h.2 c
    refine jv_iconst (v := (-1)) d_R_keep_8 (by decide) ?_
    exact jv_iret d_R_keep_9 rfl rfl h
theorem b_R_again_0 {g : jv_G} {d : Nat} {M : jv_Mem} {N cr sr : Nat} {Z : Option Value → jv_Mem → Nat → Prop} {a0 : Nat} {x1 : Int32} (h : jv_Ct g d mt_R_isBelow [.int x1, .int 2] M N 0 0 (fun v M2 N2 => jv_ri v (fun r1 => (r1 ≠ 0 → jv_Tg 9 a0 N2 ∧ ∃ b4, Prod.fst (Prod.snd M2) a0 6 = some b4 ∧ jv_Tg 12 b4 N2 ∧ vp_in x1 (jv_sh b4).2 ∧ ((Prod.fst M2 b4 (Int32.toNatClampNeg x1)) ≠ 0 → jv_Tg 9 a0 N2 ∧ ∃ b9, Prod.fst (Prod.snd M2) a0 2 = some b9 ∧ jv_Tg 9 a0 N2 ∧ ∃ b12, Prod.fst (Prod.snd M2) a0 5 = some b12 ∧ jv_Tg 15 b12 N2 ∧ vp_in x1 (jv_sh b12).2 ∧ ∃ b16, Prod.fst (Prod.snd M2) b12 (Int32.toNatClampNeg x1) = some b16 ∧ jv_Tg 6 b9 N2 ∧ jv_Ct g d mt_S_copyFrom [.ref b9, .ref b16] M2 N2 0 0 (fun v M20 N20 => jv_rv v (jv_Tg 9 a0 N20 ∧ ∃ b22, Prod.fst (Prod.snd M20) a0 4 = some b22 ∧ jv_Tg 3 b22 N20 ∧ jv_Ct g d mt_A_forget [.ref b22] M20 N20 0 0 (fun v M26 N26 => jv_rv v (jv_Tg 9 a0 N26 ∧ ∃ b28, Prod.fst (Prod.snd M26) a0 2 = some b28 ∧ jv_Tg 6 b28 N26 ∧ Z (some (.int (Prod.fst M26 b28 4))) M26 N26))))) ∧ ((Prod.fst M2 b4 (Int32.toNatClampNeg x1)) = 0 → Z (some (.int (-3))) M2 N2)) ∧ (r1 = 0 → Z (some (.int (-1))) M2 N2)))) : jv_J g (d + 1) mt_R_again 0 [some (.ref a0), some (.int x1)] [] M N cr sr Z := by
  refine jv_iload_n d_R_again_0 rfl rfl ?_
  refine jv_iconst (v := 2) d_R_again_1 (by decide) ?_
  refine jv_invS [.int x1, .int 2] [] d_R_again_2 ml_R_111 rfl (Nat.le_of_ble_eq_true rfl) (Nat.zero_add _) (Nat.zero_add _) (jv_Ct.mono h (fun v M2 N2 h => ?_))
  obtain ⟨r1, rfl, h⟩ := h
  change jv_J g (d + 1) mt_R_again 5 [some (.ref a0), some (.int x1)] [.int r1] M2 N2 cr sr Z
  refine jv_if_ne (tgt := 10) d_R_again_5 (by decide) ⟨fun c => ?_, fun c => ?_⟩
  · replace h := h.1 c
    refine jv_aload_n d_R_again_10 rfl rfl ?_
    obtain ⟨q3, h⟩ := h
    obtain ⟨b4, e5, h⟩ := h
    refine jv_getR d_R_again_11 fl_R_44 rfl q3 e5 ?_
    refine jv_iload_n d_R_again_14 rfl rfl ?_
    obtain ⟨q6, q7, h⟩ := h
    refine jv_zald d_R_again_15 q6 q7 ?_
    refine jv_if_ne (tgt := 22) d_R_again_16 (by decide) ⟨fun c => ?_, fun c => ?_⟩
    · replace h := h.1 c
      refine jv_aload_n d_R_again_22 rfl rfl ?_
      obtain ⟨q8, h⟩ := h
      obtain ⟨b9, e10, h⟩ := h
      refine jv_getR d_R_again_23 fl_R_26 rfl q8 e10 ?_
      refine jv_aload_n d_R_again_26 rfl rfl ?_
      obtain ⟨q11, h⟩ := h
      obtain ⟨b12, e13, h⟩ := h
      refine jv_getR d_R_again_27 fl_R_40 rfl q11 e13 ?_
      refine jv_iload_n d_R_again_30 rfl rfl ?_
      obtain ⟨q14, q15, b16, e17, h⟩ := h
      refine jv_aald (t := 15) d_R_again_31 (by decide) q14 q15 e17 ?_
      obtain ⟨q18, h⟩ := h
      refine jv_invV [.ref b16] [] d_R_again_32 ml_R_79 q18 rfl (Nat.le_of_ble_eq_true rfl) (Nat.zero_add _) (Nat.zero_add _) (jv_Ct.mono h (fun v M20 N20 h => ?_))
      obtain ⟨rfl, h⟩ := h
      change jv_J g (d + 1) mt_R_again 35 [some (.ref a0), some (.int x1)] [] M20 N20 cr sr Z
      refine jv_aload_n d_R_again_35 rfl rfl ?_
      obtain ⟨q21, h⟩ := h
      obtain ⟨b22, e23, h⟩ := h
      refine jv_getR d_R_again_36 fl_R_36 rfl q21 e23 ?_
      obtain ⟨q24, h⟩ := h
      refine jv_invV [] [] d_R_again_39 ml_R_82 q24 rfl (Nat.le_of_ble_eq_true rfl) (Nat.zero_add _) (Nat.zero_add _) (jv_Ct.mono h (fun v M26 N26 h => ?_))
      obtain ⟨rfl, h⟩ := h
      change jv_J g (d + 1) mt_R_again 42 [some (.ref a0), some (.int x1)] [] M26 N26 cr sr Z
      refine jv_aload_n d_R_again_42 rfl rfl ?_
      obtain ⟨q27, h⟩ := h
      obtain ⟨b28, e29, h⟩ := h
      refine jv_getR d_R_again_43 fl_R_26 rfl q27 e29 ?_
      obtain ⟨q30, h⟩ := h
      refine jv_getI d_R_again_46 fl_R_85 rfl q30 ?_
      exact jv_iret d_R_again_49 rfl rfl h
    · replace h := h.2 c
      refine jv_bipush (v := (-3)) d_R_again_19 (by decide) ?_
      exact jv_iret d_R_again_21 rfl rfl h
  · replace h := h.2 c
    refine jv_iconst (v := (-1)) d_R_again_8 (by decide) ?_
    exact jv_iret d_R_again_9 rfl rfl h
theorem b_R_count_0 {g : jv_G} {d : Nat} {M : jv_Mem} {N cr sr : Nat} {Z : Option Value → jv_Mem → Nat → Prop} {a0 : Nat} {x1 : Int32} (h : (x1 = 0 → jv_Tg 9 a0 N ∧ ∃ b3, Prod.fst (Prod.snd M) a0 0 = some b3 ∧ jv_Tg 7 b3 N ∧ Z (some (.int (Prod.fst M b3 1))) M N) ∧ (x1 = 1 → jv_Tg 9 a0 N ∧ ∃ b7, Prod.fst (Prod.snd M) a0 1 = some b7 ∧ jv_Tg 4 b7 N ∧ Z (some (.int (Prod.fst M b7 3))) M N) ∧ (x1 = 2 → jv_Tg 9 a0 N ∧ ∃ b11, Prod.fst (Prod.snd M) a0 2 = some b11 ∧ jv_Tg 6 b11 N ∧ Z (some (.int (Prod.fst M b11 4))) M N) ∧ (x1 = 3 → jv_Tg 9 a0 N ∧ ∃ b15, Prod.fst (Prod.snd M) a0 2 = some b15 ∧ jv_Tg 6 b15 N ∧ Z (some (.int (Prod.fst M b15 5))) M N) ∧ (x1 = 4 → jv_Tg 9 a0 N ∧ ∃ b19, Prod.fst (Prod.snd M) a0 2 = some b19 ∧ jv_Tg 6 b19 N ∧ jv_Ct g d mt_S_haltedSet [.ref b19] M N 0 0 (fun v M23 N23 => jv_ri v (fun r22 => Z (some (.int r22)) M23 N23))) ∧ (x1 = 5 → jv_Tg 9 a0 N ∧ ∃ b25, Prod.fst (Prod.snd M) a0 2 = some b25 ∧ jv_Tg 6 b25 N ∧ ∃ b28, Prod.fst (Prod.snd M) b25 0 = some b28 ∧ jv_Tg 0 b28 N ∧ Z (some (.int (Prod.fst M b28 2))) M N) ∧ (x1 = 6 → jv_Tg 9 a0 N ∧ ∃ b32, Prod.fst (Prod.snd M) a0 2 = some b32 ∧ jv_Tg 6 b32 N ∧ ∃ b35, Prod.fst (Prod.snd M) b32 0 = some b35 ∧ jv_Tg 0 b35 N ∧ Z (some (.int (Prod.fst M b35 3))) M N) ∧ (x1 = 7 → jv_Tg 9 a0 N ∧ ∃ b39, Prod.fst (Prod.snd M) a0 2 = some b39 ∧ jv_Tg 6 b39 N ∧ ∃ b42, Prod.fst (Prod.snd M) b39 0 = some b42 ∧ jv_Tg 0 b42 N ∧ Z (some (.int (Prod.fst M b42 4))) M N) ∧ (x1 = 8 → jv_Tg 9 a0 N ∧ ∃ b46, Prod.fst (Prod.snd M) a0 2 = some b46 ∧ jv_Tg 6 b46 N ∧ ∃ b49, Prod.fst (Prod.snd M) b46 0 = some b49 ∧ jv_Tg 0 b49 N ∧ ∃ b52, Prod.fst (Prod.snd M) b49 1 = some b52 ∧ jv_Tg 11 b52 N ∧ vp_in 0 (jv_sh b52).2 ∧ Z (some (.int (Prod.fst M b52 (Int32.toNatClampNeg 0)))) M N) ∧ (x1 = 9 → jv_Tg 9 a0 N ∧ ∃ b57, Prod.fst (Prod.snd M) a0 2 = some b57 ∧ jv_Tg 6 b57 N ∧ ∃ b60, Prod.fst (Prod.snd M) b57 0 = some b60 ∧ jv_Tg 0 b60 N ∧ ∃ b63, Prod.fst (Prod.snd M) b60 1 = some b63 ∧ jv_Tg 11 b63 N ∧ vp_in 1 (jv_sh b63).2 ∧ Z (some (.int (Prod.fst M b63 (Int32.toNatClampNeg 1)))) M N) ∧ (x1 = 10 → jv_Tg 9 a0 N ∧ ∃ b68, Prod.fst (Prod.snd M) a0 4 = some b68 ∧ jv_Tg 3 b68 N ∧ Z (some (.int (Prod.fst M b68 2))) M N) ∧ (x1 = 11 → jv_Tg 9 a0 N ∧ ∃ b72, Prod.fst (Prod.snd M) a0 7 = some b72 ∧ jv_Tg 5 b72 N ∧ Z (some (.int (Prod.fst M b72 3))) M N) ∧ ((x1 ≠ 0 ∧ x1 ≠ 1 ∧ x1 ≠ 2 ∧ x1 ≠ 3 ∧ x1 ≠ 4 ∧ x1 ≠ 5 ∧ x1 ≠ 6 ∧ x1 ≠ 7 ∧ x1 ≠ 8 ∧ x1 ≠ 9 ∧ x1 ≠ 10 ∧ x1 ≠ 11) → Z (some (.int (-2))) M N)) : jv_J g (d + 1) mt_R_count 0 [some (.ref a0), some (.int x1)] [] M N cr sr Z := by
  refine jv_iload_n d_R_count_0 rfl rfl ?_
  have hD1 : (x1 ≠ 0 ∧ x1 ≠ 1 ∧ x1 ≠ 2 ∧ x1 ≠ 3 ∧ x1 ≠ 4 ∧ x1 ≠ 5 ∧ x1 ≠ 6 ∧ x1 ≠ 7 ∧ x1 ≠ 8 ∧ x1 ≠ 9 ∧ x1 ≠ 10 ∧ x1 ≠ 11) → jv_J g (d + 1) mt_R_count 179 [some (.ref a0), some (.int x1)] [] M N cr sr Z := by
    intro c
    replace h := h.2.2.2.2.2.2.2.2.2.2.2.2 c
    refine jv_bipush (v := (-2)) d_R_count_179 (by decide) ?_
    exact jv_iret d_R_count_181 rfl rfl h
  refine jv_tsw (dt := 179) [(0, 64), (1, 72), (2, 80), (3, 88), (4, 96), (5, 104), (6, 115), (7, 126), (8, 137), (9, 150), (10, 163), (11, 171)] d_R_count_1 (by decide) (by decide) (by decide) (fun q hq hx => ?_) (fun hq => ?_)
  · simp only [List.mem_cons, List.not_mem_nil, or_false] at hq
    rcases hq with rfl | rfl | rfl | rfl | rfl | rfl | rfl | rfl | rfl | rfl | rfl | rfl
    · replace h := h.1 hx
      refine jv_aload_n d_R_count_64 rfl rfl ?_
      obtain ⟨q2, h⟩ := h
      obtain ⟨b3, e4, h⟩ := h
      refine jv_getR d_R_count_65 fl_R_10 rfl q2 e4 ?_
      obtain ⟨q5, h⟩ := h
      refine jv_getI d_R_count_68 fl_R_63 rfl q5 ?_
      exact jv_iret d_R_count_71 rfl rfl h
    · replace h := h.2.1 hx
      refine jv_aload_n d_R_count_72 rfl rfl ?_
      obtain ⟨q6, h⟩ := h
      obtain ⟨b7, e8, h⟩ := h
      refine jv_getR d_R_count_73 fl_R_19 rfl q6 e8 ?_
      obtain ⟨q9, h⟩ := h
      refine jv_getI d_R_count_76 fl_R_234 rfl q9 ?_
      exact jv_iret d_R_count_79 rfl rfl h
    · replace h := h.2.2.1 hx
      refine jv_aload_n d_R_count_80 rfl rfl ?_
      obtain ⟨q10, h⟩ := h
      obtain ⟨b11, e12, h⟩ := h
      refine jv_getR d_R_count_81 fl_R_26 rfl q10 e12 ?_
      obtain ⟨q13, h⟩ := h
      refine jv_getI d_R_count_84 fl_R_85 rfl q13 ?_
      exact jv_iret d_R_count_87 rfl rfl h
    · replace h := h.2.2.2.1 hx
      refine jv_aload_n d_R_count_88 rfl rfl ?_
      obtain ⟨q14, h⟩ := h
      obtain ⟨b15, e16, h⟩ := h
      refine jv_getR d_R_count_89 fl_R_26 rfl q14 e16 ?_
      obtain ⟨q17, h⟩ := h
      refine jv_getI d_R_count_92 fl_R_210 rfl q17 ?_
      exact jv_iret d_R_count_95 rfl rfl h
    · replace h := h.2.2.2.2.1 hx
      refine jv_aload_n d_R_count_96 rfl rfl ?_
      obtain ⟨q18, h⟩ := h
      obtain ⟨b19, e20, h⟩ := h
      refine jv_getR d_R_count_97 fl_R_26 rfl q18 e20 ?_
      obtain ⟨q21, h⟩ := h
      refine jv_invV [] [] d_R_count_100 ml_R_235 q21 rfl (Nat.le_of_ble_eq_true rfl) (Nat.zero_add _) (Nat.zero_add _) (jv_Ct.mono h (fun v M23 N23 h => ?_))
      obtain ⟨r22, rfl, h⟩ := h
      change jv_J g (d + 1) mt_R_count 103 [some (.ref a0), some (.int x1)] [.int r22] M23 N23 cr sr Z
      exact jv_iret d_R_count_103 rfl rfl h
    · replace h := h.2.2.2.2.2.1 hx
      refine jv_aload_n d_R_count_104 rfl rfl ?_
      obtain ⟨q24, h⟩ := h
      obtain ⟨b25, e26, h⟩ := h
      refine jv_getR d_R_count_105 fl_R_26 rfl q24 e26 ?_
      obtain ⟨q27, h⟩ := h
      obtain ⟨b28, e29, h⟩ := h
      refine jv_getR d_R_count_108 fl_R_118 rfl q27 e29 ?_
      obtain ⟨q30, h⟩ := h
      refine jv_getI d_R_count_111 fl_R_122 rfl q30 ?_
      exact jv_iret d_R_count_114 rfl rfl h
    · replace h := h.2.2.2.2.2.2.1 hx
      refine jv_aload_n d_R_count_115 rfl rfl ?_
      obtain ⟨q31, h⟩ := h
      obtain ⟨b32, e33, h⟩ := h
      refine jv_getR d_R_count_116 fl_R_26 rfl q31 e33 ?_
      obtain ⟨q34, h⟩ := h
      obtain ⟨b35, e36, h⟩ := h
      refine jv_getR d_R_count_119 fl_R_118 rfl q34 e36 ?_
      obtain ⟨q37, h⟩ := h
      refine jv_getI d_R_count_122 fl_R_148 rfl q37 ?_
      exact jv_iret d_R_count_125 rfl rfl h
    · replace h := h.2.2.2.2.2.2.2.1 hx
      refine jv_aload_n d_R_count_126 rfl rfl ?_
      obtain ⟨q38, h⟩ := h
      obtain ⟨b39, e40, h⟩ := h
      refine jv_getR d_R_count_127 fl_R_26 rfl q38 e40 ?_
      obtain ⟨q41, h⟩ := h
      obtain ⟨b42, e43, h⟩ := h
      refine jv_getR d_R_count_130 fl_R_118 rfl q41 e43 ?_
      obtain ⟨q44, h⟩ := h
      refine jv_getI d_R_count_133 fl_R_238 rfl q44 ?_
      exact jv_iret d_R_count_136 rfl rfl h
    · replace h := h.2.2.2.2.2.2.2.2.1 hx
      refine jv_aload_n d_R_count_137 rfl rfl ?_
      obtain ⟨q45, h⟩ := h
      obtain ⟨b46, e47, h⟩ := h
      refine jv_getR d_R_count_138 fl_R_26 rfl q45 e47 ?_
      obtain ⟨q48, h⟩ := h
      obtain ⟨b49, e50, h⟩ := h
      refine jv_getR d_R_count_141 fl_R_118 rfl q48 e50 ?_
      obtain ⟨q51, h⟩ := h
      obtain ⟨b52, e53, h⟩ := h
      refine jv_getR d_R_count_144 fl_R_161 rfl q51 e53 ?_
      refine jv_iconst (v := 0) d_R_count_147 (by decide) ?_
      obtain ⟨q54, q55, h⟩ := h
      refine jv_iald d_R_count_148 q54 q55 ?_
      exact jv_iret d_R_count_149 rfl rfl h
    · replace h := h.2.2.2.2.2.2.2.2.2.1 hx
      refine jv_aload_n d_R_count_150 rfl rfl ?_
      obtain ⟨q56, h⟩ := h
      obtain ⟨b57, e58, h⟩ := h
      refine jv_getR d_R_count_151 fl_R_26 rfl q56 e58 ?_
      obtain ⟨q59, h⟩ := h
      obtain ⟨b60, e61, h⟩ := h
      refine jv_getR d_R_count_154 fl_R_118 rfl q59 e61 ?_
      obtain ⟨q62, h⟩ := h
      obtain ⟨b63, e64, h⟩ := h
      refine jv_getR d_R_count_157 fl_R_161 rfl q62 e64 ?_
      refine jv_iconst (v := 1) d_R_count_160 (by decide) ?_
      obtain ⟨q65, q66, h⟩ := h
      refine jv_iald d_R_count_161 q65 q66 ?_
      exact jv_iret d_R_count_162 rfl rfl h
    · replace h := h.2.2.2.2.2.2.2.2.2.2.1 hx
      refine jv_aload_n d_R_count_163 rfl rfl ?_
      obtain ⟨q67, h⟩ := h
      obtain ⟨b68, e69, h⟩ := h
      refine jv_getR d_R_count_164 fl_R_36 rfl q67 e69 ?_
      obtain ⟨q70, h⟩ := h
      refine jv_getI d_R_count_167 fl_R_168 rfl q70 ?_
      exact jv_iret d_R_count_170 rfl rfl h
    · replace h := h.2.2.2.2.2.2.2.2.2.2.2.1 hx
      refine jv_aload_n d_R_count_171 rfl rfl ?_
      obtain ⟨q71, h⟩ := h
      obtain ⟨b72, e73, h⟩ := h
      refine jv_getR d_R_count_172 fl_R_51 rfl q71 e73 ?_
      obtain ⟨q74, h⟩ := h
      refine jv_getI d_R_count_175 fl_R_205 rfl q74 ?_
      exact jv_iret d_R_count_178 rfl rfl h
  · exact hD1 ⟨hq _ (List.mem_of_getElem? (i := 0) rfl), hq _ (List.mem_of_getElem? (i := 1) rfl), hq _ (List.mem_of_getElem? (i := 2) rfl), hq _ (List.mem_of_getElem? (i := 3) rfl), hq _ (List.mem_of_getElem? (i := 4) rfl), hq _ (List.mem_of_getElem? (i := 5) rfl), hq _ (List.mem_of_getElem? (i := 6) rfl), hq _ (List.mem_of_getElem? (i := 7) rfl), hq _ (List.mem_of_getElem? (i := 8) rfl), hq _ (List.mem_of_getElem? (i := 9) rfl), hq _ (List.mem_of_getElem? (i := 10) rfl), hq _ (List.mem_of_getElem? (i := 11) rfl)⟩
