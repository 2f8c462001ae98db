section TX
variable {g : jv_G} {d : Nat} {M M' M1 : jv_Mem} {Z : Option Value → jv_Mem → Nat → Prop} {N : Nat} {T : Tt} {B B' : Bd} {p p' q : Pg} {U : Ut} {K : Kt} {S : St} {e : Int64}
theorem TS.trigger {V : SV} (h : TS V B p) (ri : RI B p) (h6 : bd_nt B < 6) {o k x v c ch : Int32} {o' : Nat} (eo : o = nI o') : TS (vu (vu (vu (vu (vu (vu (vu (vu V (27 + bd_nt B) 0 o) 0 5 (nI (bd_nt B + 1))) (27 + bd_nt B) 1 k) (27 + bd_nt B) 2 x) (27 + bd_nt B) 3 v) (27 + bd_nt B) 4 c) (27 + bd_nt B) 5 c) (27 + bd_nt B) 6 ch) (B_t B o') (P_set p (bd_nt B) k x v c ch) := by
  obtain ⟨⟨a1, a2⟩, a3, a4⟩ := h
  have b4 := ri.1.1.2.1
  subst eo
  have lo : ∀ j, (j < 40 + 6 * bd_nt B ∨ 40 + 6 * bd_nt B + 6 ≤ j) → P_set p (bd_nt B) k x v c ch j = p j := fun j hj => by
    rw [P_set_at, if_neg (by omega), if_neg (by omega), if_neg (by omega), if_neg (by omega), if_neg (by omega), if_neg (by omega)]
  have ho : ∀ i j, i ≠ 0 → i ≠ 27 + bd_nt B → (vu (vu (vu (vu (vu (vu (vu (vu V (27 + bd_nt B) 0 (nI o')) 0 5 (nI (bd_nt B + 1))) (27 + bd_nt B) 1 k) (27 + bd_nt B) 2 x) (27 + bd_nt B) 3 v) (27 + bd_nt B) 4 c) (27 + bd_nt B) 5 c) (27 + bd_nt B) 6 ch) i j = V i j := by
    intro i j h0 h1
    rw [vu_k _ _ h1, vu_k _ _ h1, vu_k _ _ h1, vu_k _ _ h1, vu_k _ _ h1, vu_k _ _ h1, vu_k _ _ h0, vu_k _ _ h1]
  refine ⟨⟨?_, ?_⟩, fun i hi => ?_, fun t ht => ?_⟩
  · rw [vu_k _ _ (by omega), vu_k _ _ (by omega), vu_k _ _ (by omega), vu_k _ _ (by omega), vu_k _ _ (by omega), vu_k _ _ (by omega), vu_j _ _ (by omega), vu_k _ _ (by omega)]
    exact a1
  · rw [vu_k _ _ (by omega), vu_k _ _ (by omega), vu_k _ _ (by omega), vu_k _ _ (by omega), vu_k _ _ (by omega), vu_k _ _ (by omega), vu_s]
    rfl
  · have hi : i < bd_nh B := hi
    exact (a3 i hi).same (fun j => ho _ j (by omega) (by omega)) (fun j => ho _ j (by omega) (by omega)) (fun j h1 h2 => lo j (by omega))
  · have ht : t < bd_nt B + 1 := ht
    by_cases htn : t = bd_nt B
    · subst htn
      refine ⟨?_, fun i hi => ?_⟩
      · rw [vu_j _ _ (by omega), vu_j _ _ (by omega), vu_j _ _ (by omega), vu_j _ _ (by omega), vu_j _ _ (by omega), vu_j _ _ (by omega), vu_k _ _ (by omega), vu_s]
        show _ = nI (nu (bd_whose B) (bd_nt B) o' (bd_nt B))
        unfold nu
        rw [if_pos rfl]
      · rw [P_set_at]
        rcases (by omega : i = 0 ∨ i = 1 ∨ i = 2 ∨ i = 3 ∨ i = 4 ∨ i = 5) with rfl | rfl | rfl | rfl | rfl | rfl
        · rw [vu_j _ _ (by omega), vu_j _ _ (by omega), vu_j _ _ (by omega), vu_j _ _ (by omega), vu_j _ _ (by omega), vu_s, if_pos (by omega)]
        · rw [vu_j _ _ (by omega), vu_j _ _ (by omega), vu_j _ _ (by omega), vu_j _ _ (by omega), vu_s, if_neg (by omega), if_pos (by omega)]
        · rw [vu_j _ _ (by omega), vu_j _ _ (by omega), vu_j _ _ (by omega), vu_s, if_neg (by omega), if_neg (by omega), if_pos (by omega)]
        · rw [vu_j _ _ (by omega), vu_j _ _ (by omega), vu_s, if_neg (by omega), if_neg (by omega), if_neg (by omega), if_pos (by omega)]
        · rw [vu_j _ _ (by omega), vu_s, if_neg (by omega), if_neg (by omega), if_neg (by omega), if_neg (by omega), if_pos (by omega)]
        · rw [vu_s, if_neg (by omega), if_neg (by omega), if_neg (by omega), if_neg (by omega), if_neg (by omega), if_pos (by omega)]
    · have hh := (a4 t (by omega)).same (V' := vu (vu (vu (vu (vu (vu (vu (vu V (27 + bd_nt B) 0 (nI o')) 0 5 (nI (bd_nt B + 1))) (27 + bd_nt B) 1 k) (27 + bd_nt B) 2 x) (27 + bd_nt B) 3 v) (27 + bd_nt B) 4 c) (27 + bd_nt B) 5 c) (27 + bd_nt B) 6 ch) (p' := P_set p (bd_nt B) k x v c ch) (fun j => ho _ j (by omega) (by omega)) (fun j h1 h2 => lo j (by omega))
      refine ⟨?_, hh.2⟩
      rw [hh.1]
      show _ = nI (nu (bd_whose B) (bd_nt B) o' t)
      unfold nu
      rw [if_neg htn]
theorem c_addTrigger (h : RC M T B p U K S e) (tb : TB M B' p') (ri : RI B' p') (h6 : bd_nt B' < 6) {o' : Nat} {k x v c ch : Int32} (hch : ch = 0 ∨ ch = 1) (hz : ∀ M', TXF M M' → (∀ j, M'.1 1 j = M.1 1 j) → TB M' (B_t B' o') (P_set p' (bd_nt B') k x v c ch) → Z none M' 668) : jv_Ct g (d + 1) mt_S_addTrigger [.ref 7, .int (nI o')] M 668 0 0 (fun v' M10 N10 => jv_ra v' (fun r9 => jv_Tg 8 r9 N10 ∧ jv_Ct g (d + 1) mt_U_become [.ref r9, .int k, .int x, .int v, .int c, .int ch] M10 N10 0 0 (fun v' M13 N13 => jv_rv v' (Z none M13 N13)))) := by
  obtain ⟨X, π, I, eM, hq⟩ := h.own
  have x2 := X.2.2.2.1
  have x8 := X.2.2.2.2.2.2.2.2.1 (bd_nt B') h6
  have ts := tb.2
  have b4 := ri.1.1.2.1
  have e5 : M.1 7 5 = nI (bd_nt B') := ts.1.2
  have em : (if (5 : Int32) < nI (bd_nt B') then (5 : Int32) else nI (bd_nt B')) = nI (bd_nt B') :=
    if_neg (fun z => absurd ((nn_lt (a := 5) (n := bd_nt B') (by omega) (by omega)).mp z) (by omega))
  refine jv_ct rfl (Nat.le_of_ble_eq_true rfl) (b_S_addTrigger_0 ⟨t_S0 h7s, ?_⟩)
  rw [e5, em]
  refine ⟨t_S0 h7s, 7 + 17, x2, t_S17 h7s, by rw [l_S17 h7s]; exact vp_in_nI h6 (by omega), 7 + 27 + bd_nt B', by rw [nI_clamp (by omega)]; exact x8, t_ST h7s h6, t_S0 h7s, t_S0 h7s, 7 + 17, x2, t_S17 h7s, by rw [l_S17 h7s]; exact vp_in_nI h6 (by omega), 7 + 27 + bd_nt B', by rw [nI_clamp (by omega)]; exact x8, jv_ra_i ⟨t_ST h7s h6, ?_⟩⟩
  rw [show (nI (bd_nt B') + 1 : Int32) = nI (bd_nt B' + 1) from nI_add _ 1]
  have t8 := t_ST h7s h6
  refine jv_ct rfl (Nat.le_of_ble_eq_true rfl) (b_U_become_0 ⟨t8, t8, t8, t8, t8, t8, hch, jv_rv_i ?_⟩)
  have e1 := wi_t (M := M) (σ := 7) (V := V7 M) (π := π) h6 0 (nI o')
  rw [eM] at e1
  rw [e1, wi_0, wi_t h6, wi_t h6, wi_t h6, wi_t h6, wi_t h6, wi_t h6]
  refine hz _ (TXF.pic eM (fun i j hk hf => ?_)) (fun j => sw_out (by omega) j) (TB.pic b4 (by show bd_nt B' + 1 ≤ 6; omega) tb.1 (ts.trigger ri h6 rfl))
  have n1 : i ≠ 27 + bd_nt B' := fun z => hf (by unfold tfx; omega)
  by_cases hk0 : i = 0
  · subst hk0
    have n3 : j ≠ 5 := fun z => hf (by unfold tfx; omega)
    rw [vu_k _ _ n1, vu_k _ _ n1, vu_k _ _ n1, vu_k _ _ n1, vu_k _ _ n1, vu_k _ _ n1, vu_j _ _ n3, vu_k _ _ n1]
  · rw [vu_k _ _ n1, vu_k _ _ n1, vu_k _ _ n1, vu_k _ _ n1, vu_k _ _ n1, vu_k _ _ n1, vu_k _ _ hk0, vu_k _ _ n1]
theorem c_readT (h : RC M T B p U K S e) (hT : TOK T) {a ch : Nat} (hch : ch = 0 ∨ ch = 1) (ha : a < T.1) (ta : TA M a 0) (tb : TB M B' p') (ri : RI B' p') (hz : PO Z M T a (rd_t T ch a B' p')) : jv_Ct g (d + 6) mt_T_readTrigger [.ref 1, .int (nI ch)] M 668 0 0 Z := by
  have hT1 := hT.1
  have n4 := ri.1.1.2.1
  have n6 := ri.1.1.2.2.1
  have f13 := h.1.2.1.2.2
  have e4 : M.1 7 4 = nI (bd_nh B') := tb.2.1.1
  have e5 : M.1 7 5 = nI (bd_nt B') := tb.2.1.2
  have full : (bd_nt B' = 6 ∨ bd_nh B' = 0) → jv_J g (d + 6) mt_T_readTrigger 22 [some (.ref 1), none, none, none, none, none, none] [] M 668 0 0 Z := by
    intro c
    refine b_T_readTrigger_22 ⟨tg_1, hz.1 _ a ?_ TXF.a5 ta.a5⟩
    unfold rd_t
    rw [if_pos c]
  -- with a fault nothing more happens
  have l124f : ∀ M2 a2 (x2 x3 x4 y : Int32), TA M2 a2 1 → Z none M2 668 → jv_J g (d + 6) mt_T_readTrigger 124 [some (.ref 1), some (.int (nI ch)), some (.int x2), some (.int x3), some (.int x4), none, none] [.int y] M2 668 0 0 Z := by
    intro M2 a2 x2 x3 x4 y t2 z2
    refine b_T_readTrigger_124 ⟨tg_1, c_takeF (n := 9) t2 (by omega) (jv_ri_i ⟨tg_1, ?_⟩)⟩
    rw [t2.2]
    exact rn1 z2
  have l82f : ∀ M2 a2 (x2 x3 y : Int32), TA M2 a2 1 → Z none M2 668 → jv_J g (d + 6) mt_T_readTrigger 82 [some (.ref 1), some (.int (nI ch)), some (.int x2), some (.int x3), none, none, none] [.int y] M2 668 0 0 Z := by
    intro M2 a2 x2 x3 y t2 z2
    refine b_T_readTrigger_82 ⟨fun _ => ⟨tg_1, c_takeF (n := 10) t2 (by omega) (jv_ri_i ⟨tg_1, c_takeF (n := 10) t2 (by omega) (jv_ri_i ⟨tg_1, c_takeF (n := 10) t2 (by omega) (jv_ri_i ?_)⟩)⟩)⟩, fun _ => l124f M2 a2 _ _ _ _ t2 z2⟩
    exact l124f M2 a2 _ _ _ _ t2 z2
  refine jv_ct rfl (Nat.le_of_ble_eq_true rfl) (b_T_readTrigger_0 ⟨tg_1, 7, f13, t_S0 h7s, ?_⟩)
  rw [e4]
  refine ⟨fun c => full (Or.inr ((nn_eq (a := bd_nh B') (n := 0) (by omega) (by omega)).mp c)), fun c => ⟨tg_1, 7, f13, t_S0 h7s, ?_⟩⟩
  have c0 : bd_nh B' ≠ 0 := fun z => c (by rw [z]; rfl)
  rw [e5]
  refine ⟨fun c => ?_, fun c => full (Or.inl ?_)⟩
  · have c6 : bd_nt B' < 6 := (nn_lt (a := bd_nt B') (n := 6) (by omega) (by omega)).mp c
    refine ⟨tg_1, tg_1, tg_1, 7, f13, t_S0 h7s, tg_1, ?_⟩
    rw [ta.1, show (nI a + 1 : Int32) = nI (a + 1) from nI_add a 1, si_b _ _ (by omega), e4]
    have F1 : TXF M (jv_si M 1 4 (nI (a + 1))) := TXF.a4
    have ta1 : TA (jv_si M 1 4 (nI (a + 1))) (a + 1) 0 := ta.a4
    have tb1 : TB (jv_si M 1 4 (nI (a + 1))) B' p' := tb.s1
    generalize jv_si M 1 4 (nI (a + 1)) = M1 at F1 ta1 tb1 ⊢
    have h1 := h.txf F1
    have er : ∀ r, (kbind (tk T 48 (bd_nh B') (a + 1)) fun a o => kbind (tk T 112 2 a) fun a k => kbind (if k = 0 then tk T 97 16 a else tk T 48 4 a) fun a x => kbind (if k = 0 then (a, some 0) else rd_v T a) fun a v => kbind (tk T 49 9 a) fun a c => (a, some (B_t B' o, P_set p' (bd_nt B') (nI k) (nI x) (nI v) (nI (1 + c)) (nI ch)))) = r → rd_t T ch a B' p' = r := by
      intro r hr
      unfold rd_t
      rw [if_neg (by omega)]
      exact hr
    refine c_take h1 hT ta1 (lo := 48) (n := bd_nh B') (by omega) (by omega) (by omega) (fun o ho hlt e1 => jv_ri_i ⟨tg_1, ?_⟩) (fun e1 => jv_ri_i ⟨tg_1, ?_⟩)
    · rw [e1, kb_s] at er
      have F2 : TXF M1 (jv_si M1 1 4 (nI (a + 1 + 1))) := TXF.a4
      have ta2 : TA (jv_si M1 1 4 (nI (a + 1 + 1))) (a + 1 + 1) 0 := ta1.a4
      have tb2 : TB (jv_si M1 1 4 (nI (a + 1 + 1))) B' p' := tb1.s1
      generalize jv_si M1 1 4 (nI (a + 1 + 1)) = M2 at F2 ta2 tb2 ⊢
      have h2 := h1.txf F2
      refine c_take h2 hT ta2 (lo := 112) (n := 2) (by omega) (by omega) (by omega) (fun k hk hlt2 e2 => jv_ri_i ?_) (fun e2 => jv_ri_i ?_)
      · rw [e2, kb_s] at er
        have F3 : TXF M2 (jv_si M2 1 4 (nI (a + 1 + 1 + 1))) := TXF.a4
        have ta3 : TA (jv_si M2 1 4 (nI (a + 1 + 1 + 1))) (a + 1 + 1 + 1) 0 := ta2.a4
        have tb3 : TB (jv_si M2 1 4 (nI (a + 1 + 1 + 1))) B' p' := tb2.s1
        generalize jv_si M2 1 4 (nI (a + 1 + 1 + 1)) = M3 at F3 ta3 tb3 ⊢
        have h3 := h2.txf F3
        have F123 := (F1.trans F2).trans F3
        -- the count, and the end
        have l124 : ∀ M4 a4 x v, TXF M M4 → TA M4 a4 0 → TB M4 B' p' → a < a4 → a4 ≤ T.1 → x < (if k = 0 then 16 else 4) → v < 1000 → (∀ r, (kbind (tk T 49 9 a4) fun a c => (a, some (B_t B' o, P_set p' (bd_nt B') (nI k) (nI x) (nI v) (nI (1 + c)) (nI ch)))) = r → rd_t T ch a B' p' = r) → jv_J g (d + 6) mt_T_readTrigger 124 [some (.ref 1), some (.int (nI ch)), some (.int (nI o)), some (.int (nI k)), some (.int (nI x)), none, none] [.int (nI v)] M4 668 0 0 Z := by
          intro M4 a4 x v F4 ta4 tb4 l4 u4 hx hv er4
          have h4 := h.txf F4
          refine b_T_readTrigger_124 ⟨tg_1, c_take h4 hT ta4 (lo := 49) (n := 9) (by omega) (by omega) (by omega) (fun c hc hlt4 e4 => jv_ri_i ⟨tg_1, ?_⟩) (fun e4 => jv_ri_i ⟨tg_1, ?_⟩)⟩
          · rw [e4, kb_s] at er4
            have F5 : TXF M4 (jv_si M4 1 4 (nI (a4 + 1))) := TXF.a4
            have ta5 : TA (jv_si M4 1 4 (nI (a4 + 1))) (a4 + 1) 0 := ta4.a4
            have tb5 : TB (jv_si M4 1 4 (nI (a4 + 1))) B' p' := tb4.s1
            generalize jv_si M4 1 4 (nI (a4 + 1)) = M5 at F5 ta5 tb5 ⊢
            have h5 := h4.txf F5
            rw [ta5.2]
            refine rn0 ⟨tg_1, 7, h5.1.2.1.2.2, t_S0 h7s, ?_⟩
            rw [show (1 + nI c : Int32) = nI (1 + c) from nI_add 1 c]
            refine c_addTrigger h5 tb5 ri c6 (by rcases hch with rfl | rfl; exact Or.inl rfl; exact Or.inr rfl) (fun M6 F6 s6 tb6 => ?_)
            exact hz.2 M6 (a4 + 1) _ _ (er4 _ rfl) ((F4.trans F5).trans F6) ⟨(s6 4).trans ta5.1, (s6 5).trans ta5.2⟩ tb6 (RI_t ri (by omega) ho hk hx hv hc (by omega)) (by omega) (by omega)
          · rw [e4, kb_n] at er4
            rw [ta4.a5.2]
            exact rn1 (hz.1 _ _ (er4 _ rfl) (F4.trans TXF.a5) ta4.a5)
        refine ⟨fun ck => ⟨tg_1, ?_⟩, fun ck => ⟨tg_1, ?_⟩⟩
        · have ck : k = 1 := by
            have : k ≠ 0 := fun z => ck (by rw [z]; rfl)
            omega
          subst ck
          rw [if_neg (by omega)] at er
          refine c_take h3 hT ta3 (lo := 48) (n := 4) (by omega) (by omega) (by omega) (fun x hx hlt3 e3 => jv_ri_i ?_) (fun e3 => jv_ri_i ?_)
          · rw [e3, kb_s, if_neg (by omega)] at er
            have F4 : TXF M3 (jv_si M3 1 4 (nI (a + 1 + 1 + 1 + 1))) := TXF.a4
            have ta4 : TA (jv_si M3 1 4 (nI (a + 1 + 1 + 1 + 1))) (a + 1 + 1 + 1 + 1) 0 := ta3.a4
            have tb4 : TB (jv_si M3 1 4 (nI (a + 1 + 1 + 1 + 1))) B' p' := tb3.s1
            generalize jv_si M3 1 4 (nI (a + 1 + 1 + 1 + 1)) = M4 at F4 ta4 tb4 ⊢
            have h4 := h3.txf F4
            unfold rd_v at er
            refine b_T_readTrigger_82 ⟨fun _ => ⟨tg_1, c_take h4 hT ta4 (lo := 48) (n := 10) (by omega) (by omega) (by omega) (fun v1 hv1 hlt4 e4 => jv_ri_i ⟨tg_1, ?_⟩) (fun e4 => jv_ri_i ⟨tg_1, ?_⟩)⟩, fun z => absurd z (by decide)⟩
            · rw [e4, kb_s] at er
              have F5 : TXF M4 (jv_si M4 1 4 (nI (a + 1 + 1 + 1 + 1 + 1))) := TXF.a4
              have ta5 : TA (jv_si M4 1 4 (nI (a + 1 + 1 + 1 + 1 + 1))) (a + 1 + 1 + 1 + 1 + 1) 0 := ta4.a4
              have tb5 : TB (jv_si M4 1 4 (nI (a + 1 + 1 + 1 + 1 + 1))) B' p' := tb4.s1
              generalize jv_si M4 1 4 (nI (a + 1 + 1 + 1 + 1 + 1)) = M5 at F5 ta5 tb5 ⊢
              have h5 := h4.txf F5
              refine c_take h5 hT ta5 (lo := 48) (n := 10) (by omega) (by omega) (by omega) (fun v2 hv2 hlt5 e5 => jv_ri_i ⟨tg_1, ?_⟩) (fun e5 => jv_ri_i ⟨tg_1, ?_⟩)
              · rw [e5, kb_s] at er
                have F6 : TXF M5 (jv_si M5 1 4 (nI (a + 1 + 1 + 1 + 1 + 1 + 1))) := TXF.a4
                have ta6 : TA (jv_si M5 1 4 (nI (a + 1 + 1 + 1 + 1 + 1 + 1))) (a + 1 + 1 + 1 + 1 + 1 + 1) 0 := ta5.a4
                have tb6 : TB (jv_si M5 1 4 (nI (a + 1 + 1 + 1 + 1 + 1 + 1))) B' p' := tb5.s1
                generalize jv_si M5 1 4 (nI (a + 1 + 1 + 1 + 1 + 1 + 1)) = M6 at F6 ta6 tb6 ⊢
                have h6 := h5.txf F6
                refine c_take h6 hT ta6 (lo := 48) (n := 10) (by omega) (by omega) (by omega) (fun v3 hv3 hlt6 e6 => jv_ri_i ?_) (fun e6 => jv_ri_i ?_)
                · rw [e6, kb_s, kb_s] at er
                  rw [show (nI v1 * 100 + nI v2 * 10 + nI v3 : Int32) = nI (v1 * 100 + v2 * 10 + v3) by
                    rw [show (nI v1 * 100 : Int32) = nI (v1 * 100) from pk_mul v1 100, show (nI v2 * 10 : Int32) = nI (v2 * 10) from pk_mul v2 10, nI_add, nI_add]]
                  exact l124 _ _ x (v1 * 100 + v2 * 10 + v3) ((((F123.trans F4).trans F5).trans F6).trans TXF.a4) ta6.a4 tb6.s1 (by omega) (by omega) (by rw [if_neg (by omega)]; exact hx) (by omega) er
                · rw [e6, kb_n, kb_n] at er
                  exact l124f _ _ _ _ _ _ ta6.a5 (hz.1 _ _ (er _ rfl) ((((F123.trans F4).trans F5).trans F6).trans TXF.a5) ta6.a5)
              · rw [e5, kb_n, kb_n] at er
                refine c_takeF (n := 10) ta5.a5 (by omega) (jv_ri_i ?_)
                exact l124f _ _ _ _ _ _ ta5.a5 (hz.1 _ _ (er _ rfl) (((F123.trans F4).trans F5).trans TXF.a5) ta5.a5)
            · rw [e4, kb_n, kb_n] at er
              refine c_takeF (n := 10) ta4.a5 (by omega) (jv_ri_i ⟨tg_1, c_takeF (n := 10) ta4.a5 (by omega) (jv_ri_i ?_)⟩)
              exact l124f _ _ _ _ _ _ ta4.a5 (hz.1 _ _ (er _ rfl) ((F123.trans F4).trans TXF.a5) ta4.a5)
          · rw [e3, kb_n] at er
            exact l82f _ _ _ _ _ ta3.a5 (hz.1 _ _ (er _ rfl) (F123.trans TXF.a5) ta3.a5)
        · have ck : k = 0 := (nn_eq (a := k) (n := 0) (by omega) (by omega)).mp ck
          subst ck
          rw [if_pos rfl] at er
          refine c_take h3 hT ta3 (lo := 97) (n := 16) (by omega) (by omega) (by omega) (fun x hx hlt3 e3 => jv_ri_i ?_) (fun e3 => jv_ri_i ?_)
          · rw [e3, kb_s, if_pos rfl, kb_s] at er
            exact b_T_readTrigger_82 ⟨fun z => absurd rfl z, fun _ => l124 _ _ x 0 (F123.trans TXF.a4) ta3.a4 tb3.s1 (by omega) (by omega) (by rw [if_pos rfl]; exact hx) (by omega) er⟩
          · rw [e3, kb_n] at er
            exact l82f _ _ _ _ _ ta3.a5 (hz.1 _ _ (er _ rfl) (F123.trans TXF.a5) ta3.a5)
      · rw [e2, kb_n] at er
        have zf := hz.1 _ _ (er _ rfl) ((F1.trans F2).trans TXF.a5) ta2.a5
        refine rn0 ⟨tg_1, c_takeF (n := 16) ta2.a5 (by omega) (jv_ri_i ?_)⟩
        exact l82f _ _ _ _ _ ta2.a5 zf
    · rw [e1, kb_n] at er
      have zf := hz.1 _ _ (er _ rfl) (F1.trans TXF.a5) ta1.a5
      refine c_takeF (n := 2) ta1.a5 (by omega) (jv_ri_i (rn0 ⟨tg_1, c_takeF (n := 16) ta1.a5 (by omega) (jv_ri_i ?_)⟩))
      exact l82f _ _ _ _ _ ta1.a5 zf
  · have : ¬ bd_nt B' < 6 := fun z => c ((nn_lt (a := bd_nt B') (n := 6) (by omega) (by omega)).mpr z)
    omega
end TX
