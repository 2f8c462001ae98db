/-! ===== the class reads a text: its parts ===== -/
theorem sec_second : ∀ k, k < 9 → jv_second k = nI (sec k) := by decide +kernel
section TX
variable {g : jv_G} {d : Nat} {M M' M1 : jv_Mem} {Z : Option Value → jv_Mem → Nat → Prop} {N : Nat} {T : Tt} {B B' : Bd} {p p' q : Pg} {U : Ut} {K : Kt} {S : St} {e : Int64}
theorem c_hasReg {k : Nat} (hk : k ≤ 8) (hz : Z (some (.int (if 1 ≤ k ∧ k < 7 then nI 1 else nI 0))) M N) : jv_Ct g d mt_P_hasRegister [.int (nI k)] M N 0 0 Z := by
  refine jv_ct rfl (Nat.le_of_ble_eq_true rfl) (b_P_hasRegister_0 ⟨fun c => ?_, fun c => ⟨fun c2 => ?_, fun c2 => ?_⟩⟩)
  · have c := (nn_lt (a := k) (n := 1) (by omega) (by omega)).mp c
    rw [if_neg (by omega)] at hz; exact hz
  · have c2 := (nn_lt (a := 6) (n := k) (by omega) (by omega)).mp c2
    rw [if_neg (by omega)] at hz; exact hz
  · have c : ¬ k < 1 := fun z => c ((nn_lt (a := k) (n := 1) (by omega) (by omega)).mpr z)
    have c2 : ¬ 6 < k := fun z => c2 ((nn_lt (a := 6) (n := k) (by omega) (by omega)).mpr z)
    rw [if_pos (by omega)] at hz; exact hz
theorem c_P_append (h : RC M T B p U K S e) {n : Nat} (h3 : M.1 3 3 = nI n) (hn : n < 16) {x1 x2 x3 : Int32} (hz : Z none (jv_si (jv_si (jv_si (jv_si M 4 n x1) 5 n x2) 6 n x3) 3 3 (nI (n + 1))) 668) : jv_Ct g d mt_P_append [.ref 3, .int x1, .int x2, .int x3] M 668 0 0 Z := by
  obtain ⟨r0, r1, r2⟩ := h.1.2.2.1
  refine jv_ct rfl (Nat.le_of_ble_eq_true rfl) (b_P_append_0 ⟨tgx_3, ?_⟩)
  rw [h3]
  refine ⟨fun c => absurd ((nn_le (a := 16) (n := n) (by omega) (by omega)).mp c) (by omega), fun _ => ⟨tgx_3, 4, r0, tgx_3, tgx_4, by rw [slx_4]; exact vp_in_nI (by omega) (by omega), tgx_3, 5, r1, tgx_3, tgx_5, ?_, tgx_3, 6, r2, tgx_3, tgx_6, ?_, tgx_3, tgx_3, ?_⟩⟩
  · rw [si_b _ _ (by omega), h3, slx_5]; exact vp_in_nI (by omega) (by omega)
  · rw [si_b _ _ (by omega), si_b _ _ (by omega), h3, slx_6]; exact vp_in_nI (by omega) (by omega)
  · simp (disch := omega) only [si_b, h3, nI_clamp, li, nI_add]
    exact hz
theorem TB.instr (h : TB M B p) {k f v : Nat} (hk : k ≤ 8) (hf : f < 10) (hv : v < 100) : TB (jv_si (jv_si (jv_si (jv_si M 4 (bd_nc B) (nI k)) 5 (bd_nc B) (nI f)) 6 (bd_nc B) (nI v)) 3 3 (nI (bd_nc B + 1))) (B_i B (1000 * k + 100 * f + v)) p := by
  obtain ⟨⟨a1, a2⟩, a3⟩ := h
  refine ⟨⟨si_at _ _ _ _, fun j hj => ?_⟩, ?_⟩
  · have hj : j < bd_nc B + 1 := hj
    show _ = nI (nu (bd_code B) (bd_nc B) _ j / 1000) ∧ _ = nI (nu (bd_code B) (bd_nc B) _ j / 100 % 10) ∧ _ = nI (nu (bd_code B) (bd_nc B) _ j % 100)
    unfold nu
    by_cases hjn : j = bd_nc B
    · subst hjn
      rw [if_pos rfl, si_b _ _ (by omega), si_b _ _ (by omega), si_b _ _ (by omega), si_at, si_b _ _ (by omega), si_b _ _ (by omega), si_at, si_b _ _ (by omega), si_at]
      exact ⟨congrArg nI (by omega), congrArg nI (by omega), congrArg nI (by omega)⟩
    · rw [if_neg hjn, si_b _ _ (by omega), si_b _ _ (by omega), si_b _ _ (by omega), si_k _ _ hjn, si_b _ _ (by omega), si_b _ _ (by omega), si_k _ _ hjn, si_b _ _ (by omega), si_b _ _ (by omega), si_k _ _ hjn, si_b _ _ (by omega), si_b _ _ (by omega)]
      exact a2 j (by omega)
  · have ev : V7 (jv_si (jv_si (jv_si (jv_si M 4 (bd_nc B) (nI k)) 5 (bd_nc B) (nI f)) 6 (bd_nc B) (nI v)) 3 3 (nI (bd_nc B + 1))) = V7 M := by
      funext k j
      show (jv_si _ 3 3 _).1 (7 + k) j = M.1 (7 + k) j
      rw [si_b _ _ (by omega), si_b _ _ (by omega), si_b _ _ (by omega), si_b _ _ (by omega)]
    rw [ev]
    exact a3
/-- what a part comes to: a fault at a place, or more that is read -/
def PO (Z : Option Value → jv_Mem → Nat → Prop) (M : jv_Mem) (T : Tt) (a : Nat) (r : Nat × Option (Bd × Pg)) : Prop :=
  (∀ M' a', r = (a', none) → TXF M M' → TA M' a' 1 → Z none M' 668) ∧ ∀ M' a' B' p', r = (a', some (B', p')) → TXF M M' → TA M' a' 0 → TB M' B' p' → RI B' p' → a < a' → a' ≤ T.1 → Z none M' 668
theorem c_readI (h : RC M T B p U K S e) (hT : TOK T) {a : Nat} (ha : a < T.1) (ta : TA M a 0) (tb : TB M B' p') (ri : RI B' p') (hz : PO Z M T a (rd_i T a B' p')) : jv_Ct g (d + 6) mt_T_readInstruction [.ref 1] M 668 0 0 Z := by
  have hT1 := hT.1
  have n16 := ri.1.1.1
  have f12 := h.1.2.1.2.1
  refine jv_ct rfl (Nat.le_of_ble_eq_true rfl) (b_T_readInstruction_0 ⟨tg_1, 3, f12, tgx_3, ?_⟩)
  rw [tb.1.1]
  -- with a fault nothing more happens
  have l86f : ∀ M2 a2 (x1 x2 y : Int32), TA M2 a2 1 → Z none M2 668 → jv_J g (d + 6) mt_T_readInstruction 86 [some (.ref 1), some (.int x1), some (.int x2), none] [.int y] M2 668 0 0 Z := by
    intro M2 a2 x1 x2 y t2 z2
    refine b_T_readInstruction_86 ⟨tg_1, ?_⟩
    rw [t2.2]
    exact rn1 z2
  have l51f : ∀ M2 a2 k (y : Int32), k ≤ 8 → TA M2 a2 1 → Z none M2 668 → jv_J g (d + 6) mt_T_readInstruction 51 [some (.ref 1), some (.int (nI k)), none, none] [.int y] M2 668 0 0 Z := by
    intro M2 a2 k y hk t2 z2
    have hs := sec_le k (by omega)
    have j74 : ∀ w : Int32, jv_J g (d + 6) mt_T_readInstruction 74 [some (.ref 1), some (.int (nI k)), some (.int y), none] [.int w, .ref 1] M2 668 0 0 Z := by
      intro w
      refine b_T_readInstruction_74 ⟨vp_in_nI (by omega) (by omega), tg_1, ?_⟩
      rw [nI_clamp (by omega), sec_second k (by omega)]
      exact c_takeF t2 (by omega) (jv_ri_i (l86f M2 a2 _ _ _ t2 z2))
    exact b_T_readInstruction_51 ⟨vp_in_nI (by omega) (by omega), fun _ => l86f M2 a2 _ _ _ t2 z2, fun _ => ⟨fun _ => j74 _, fun _ => j74 _⟩⟩
  refine ⟨fun c => ?_, fun c => ⟨tg_1, ?_⟩⟩
  · have c : bd_nc B' < 16 := (nn_lt (a := bd_nc B') (n := 16) (by omega) (by omega)).mp c
    refine ⟨tg_1, tg_1, tg_1, ?_⟩
    rw [ta.1, show (nI a + 1 : Int32) = nI (a + 1) from nI_add a 1]
    have F1 : TXF M (jv_si M 1 4 (nI (a + 1))) := TXF.a4
    have ta1 : TA (jv_si M 1 4 (nI (a + 1))) (a + 1) 0 := ta.a4
    have tb1 : TB (jv_si M 1 4 (nI (a + 1))) B' p' := tb.s1
    generalize jv_si M 1 4 (nI (a + 1)) = M1 at F1 ta1 tb1 ⊢
    have h1 := h.txf F1
    have er : ∀ r, (kbind (tkd T (a + 1)) fun a k => kbind (if k < 7 then tk T 48 4 a else (a, some 0)) fun a f => kbind (if 0 < sec k then tk T (if k = 6 then 97 else 48) (sec k) a else (a, some 0)) fun a v => (a, some (B_i B' (1000 * k + 100 * f + v), p'))) = r → rd_i T a B' p' = r := by
      intro r hr
      unfold rd_i
      rw [if_neg (by omega)]
      exact hr
    refine c_takeCode h1 hT ta1 (by omega) (fun k hk1 hk8 hlt e1 => jv_ri_i ?_) (fun e1 => jv_ri_i ?_)
    · rw [e1, kb_s] at er
      have F2 : TXF M1 (jv_si M1 1 4 (nI (a + 1 + 1))) := TXF.a4
      have ta2 : TA (jv_si M1 1 4 (nI (a + 1 + 1))) (a + 1 + 1) 0 := ta1.a4
      have tb2 : TB (jv_si M1 1 4 (nI (a + 1 + 1))) B' p' := tb1.s1
      generalize jv_si M1 1 4 (nI (a + 1 + 1)) = M2 at F2 ta2 tb2 ⊢
      have h2 := h1.txf F2
      have hs := sec_le k (by omega)
      -- the second number, and the end
      have l51 : ∀ M3 a3 f, TXF M M3 → TA M3 a3 0 → TB M3 B' p' → a < a3 → a3 ≤ T.1 → f < (if k < 7 then 4 else 1) → (∀ r, (kbind (if 0 < sec k then tk T (if k = 6 then 97 else 48) (sec k) a3 else (a3, some 0)) fun a v => (a, some (B_i B' (1000 * k + 100 * f + v), p'))) = r → rd_i T a B' p' = r) → jv_J g (d + 6) mt_T_readInstruction 51 [some (.ref 1), some (.int (nI k)), none, none] [.int (nI f)] M3 668 0 0 Z := by
        intro M3 a3 f F3 ta3 tb3 l3 u3 hf er3
        have h3 := h.txf F3
        have hf10 : f < 10 := by split at hf <;> omega
        have fin : ∀ M4 a4 v, TXF M3 M4 → TA M4 a4 0 → TB M4 B' p' → a < a4 → a4 ≤ T.1 → v < (if 0 < sec k then sec k else 1) → rd_i T a B' p' = (a4, some (B_i B' (1000 * k + 100 * f + v), p')) → jv_J g (d + 6) mt_T_readInstruction 86 [some (.ref 1), some (.int (nI k)), some (.int (nI f)), none] [.int (nI v)] M4 668 0 0 Z := by
          intro M4 a4 v F4 ta4 tb4 l4 u4 hv er4
          have h4 := h3.txf F4
          refine b_T_readInstruction_86 ⟨tg_1, ?_⟩
          rw [ta4.2]
          refine rn0 ⟨tg_1, 3, h4.1.2.1.2.1, tgx_3, c_P_append h4 tb4.1.1 c (jv_rv_i ?_)⟩
          have hv100 : v < 100 := by split at hv <;> omega
          refine hz.2 _ a4 _ _ er4 ((F3.trans F4).trans ((((TXF.si (by unfold tfx; omega)).trans (TXF.si (by unfold tfx; omega))).trans (TXF.si (by unfold tfx; omega))).trans (TXF.si (by unfold tfx; omega)))) ⟨?_, ?_⟩ (tb4.instr hk8 hf10 hv100) (RI_i ri (by omega) hk1 hk8 hf hv) l4 u4
          · rw [si_b _ _ (by omega), si_b _ _ (by omega), si_b _ _ (by omega), si_b _ _ (by omega)]; exact ta4.1
          · rw [si_b _ _ (by omega), si_b _ _ (by omega), si_b _ _ (by omega), si_b _ _ (by omega)]; exact ta4.2
        refine b_T_readInstruction_51 ⟨vp_in_nI (by omega) (by omega), ?_⟩
        rw [nI_clamp (by omega), sec_second k (by omega)]
        refine ⟨fun c2 => ?_, fun c2 => ?_⟩
        · have c2 : sec k = 0 := Nat.le_zero.mp ((nn_le (a := sec k) (n := 0) (by omega) (by omega)).mp c2)
          exact fin M3 a3 0 TXF.rf ta3 tb3 l3 u3 (by rw [if_neg (by omega)]; omega) (er3 _ (by rw [if_neg (by omega), kb_s]))
        · have c2 : 0 < sec k := Nat.pos_of_ne_zero (fun z => c2 (by rw [z]; decide))
          have j74 : ∀ w, w < 1000 → (if k = 6 then 97 else 48) = w → jv_J g (d + 6) mt_T_readInstruction 74 [some (.ref 1), some (.int (nI k)), some (.int (nI f)), none] [.int (nI w), .ref 1] M3 668 0 0 Z := by
            intro w hw ew
            rw [ew, if_pos c2] at er3
            refine b_T_readInstruction_74 ⟨vp_in_nI (by omega) (by omega), tg_1, ?_⟩
            rw [nI_clamp (by omega), sec_second k (by omega)]
            refine c_take h3 hT ta3 (by omega) hw (by omega) (fun v hv hlt e4 => jv_ri_i ?_) (fun e4 => jv_ri_i ?_)
            · rw [e4, kb_s] at er3
              exact fin _ (a3 + 1) v TXF.a4 ta3.a4 tb3.s1 (by omega) (by omega) (by rw [if_pos c2]; exact hv) (er3 _ rfl)
            · rw [e4, kb_n] at er3
              exact l86f _ a3 _ _ _ ta3.a5 (hz.1 _ a3 (er3 _ rfl) (F3.trans TXF.a5) ta3.a5)
          refine ⟨fun c3 => ?_, fun c3 => ?_⟩
          · have c3 : k ≠ 6 := fun z => c3 (by rw [z]; rfl)
            exact j74 48 (by omega) (if_neg c3)
          · have c3 : k = 6 := (nn_eq (a := k) (n := 6) (by omega) (by omega)).mp c3
            exact j74 97 (by omega) (if_pos c3)
      refine c_hasReg hk8 (jv_ri_i ?_)
      by_cases hk7 : k < 7
      · rw [if_pos hk7] at er
        rw [if_pos ⟨hk1, hk7⟩]
        refine re1 ⟨tg_1, c_take h2 hT ta2 (lo := 48) (n := 4) (by omega) (by omega) (by omega) (fun f hf hlt2 e2 => jv_ri_i ?_) (fun e2 => jv_ri_i ?_)⟩
        · rw [e2, kb_s] at er
          exact l51 _ (a + 1 + 1 + 1) f ((F1.trans F2).trans TXF.a4) ta2.a4 tb2.s1 (by omega) (by omega) (by rw [if_pos hk7]; exact hf) er
        · rw [e2, kb_n] at er
          exact l51f _ (a + 1 + 1) k _ hk8 ta2.a5 (hz.1 _ _ (er _ rfl) ((F1.trans F2).trans TXF.a5) ta2.a5)
      · rw [if_neg hk7, kb_s] at er
        rw [if_neg (fun z => hk7 z.2)]
        exact re0 (l51 M2 (a + 1 + 1) 0 (F1.trans F2) ta2 tb2 (by omega) (by omega) (by rw [if_neg hk7]; omega) er)
    · rw [e1, kb_n] at er
      refine c_hasReg (k := 0) (by omega) (jv_ri_i ?_)
      rw [if_neg (by omega)]
      exact re0 (l51f _ (a + 1) 0 _ (by omega) ta1.a5 (hz.1 _ _ (er _ rfl) (F1.trans TXF.a5) ta1.a5))
  · have c : bd_nc B' = 16 := by
      have : ¬ bd_nc B' < 16 := fun z => c ((nn_lt (a := bd_nc B') (n := 16) (by omega) (by omega)).mpr z)
      omega
    refine hz.1 _ a ?_ TXF.a5 ta.a5
    unfold rd_i
    rw [if_pos c]
end TX
