section TX
variable {g : jv_G} {d : Nat} {M M' M1 : jv_Mem} {Z : Option Value → jv_Mem → Nat → Prop} {N : Nat} {T : Tt} {B B' : Bd} {p p' q : Pg} {U : Ut} {K : Kt} {S : St} {e : Int64}
theorem sw_at7 {V : SV} {π : Nat → Nat} {k j : Nat} (hk : k < 33) : (sw M 7 V π).1 (7 + k) j = V k j := by
  show (if 7 ≤ 7 + k ∧ 7 + k < 7 + 33 then V (7 + k - 7) j else _) = _
  rw [if_pos (by omega), show 7 + k - 7 = k by omega]
/-- the text's own State, seen as a picture -/
theorem RC.own (h : RC M T B p U K S e) : SX M 7 ∧ ∃ π, PI π ∧ sw M 7 (V7 M) π = M ∧ ∀ j, M.2.1 (7 + 2) j = some (7 + 4 + π j) := by
  obtain ⟨sx, π, I, hq⟩ := h.1.2.2.2.2.2.2 7 h7s
  exact ⟨sx, π, I, sw_self (fun _ _ _ => rfl) hq, hq⟩
theorem TXF.pic {V' : SV} {π : Nat → Nat} (e : sw M 7 (V7 M) π = M) (hV : ∀ k j, k < 33 → ¬ tfx (7 + k) j → V' k j = V7 M k j) : TXF M (sw M 7 V' π) := by
  refine ⟨?_, fun b j hb => ?_⟩
  · have := congrArg Prod.snd e
    exact this
  · by_cases hb2 : 7 ≤ b ∧ b < 40
    · obtain ⟨k, hk, rfl⟩ : ∃ k, k < 33 ∧ b = 7 + k := ⟨b - 7, by omega, by omega⟩
      rw [sw_at7 hk, hV k j hk hb]
      rfl
    · exact sw_out (by omega) j
theorem TB.pic {V' : SV} {π : Nat → Nat} (h4 : bd_nh B ≤ 4) (h6 : bd_nt B ≤ 6) (tp : TP M B) (ts : TS V' B p) : TB (sw M 7 V' π) B p := by
  have n : ∀ b, b < 7 → ∀ j, (sw M 7 V' π).1 b j = M.1 b j := fun b hb j => sw_out (by omega) j
  exact ⟨⟨(n 3 (by omega) 3).trans tp.1, fun k hk => ⟨(n 4 (by omega) k).trans (tp.2 k hk).1, (n 5 (by omega) k).trans (tp.2 k hk).2.1, (n 6 (by omega) k).trans (tp.2 k hk).2.2⟩⟩, ts.congr h4 h6 (fun k j hk => sw_at7 hk)⟩
theorem TS.hart {V : SV} (h : TS V B p) (ri : RI B p) (h4 : bd_nh B < 4) {f gr : Nat} : TS (vu (vu (vu (vu (vu (itN (fun r V => vu V (20 + 2 * bd_nh B) r (nI 0)) 4 (vu (vu V (19 + 2 * bd_nh B) 1 (nI f)) (19 + 2 * bd_nh B) 2 (nI gr))) (19 + 2 * bd_nh B) 3 (nI f)) (19 + 2 * bd_nh B) 4 (nI 0)) (19 + 2 * bd_nh B) 5 (nI 0)) (19 + 2 * bd_nh B) 6 (nI 0)) 0 4 (nI (bd_nh B + 1))) (B_h B f gr) (pu p (8 * bd_nh B) (nI f)) := by
  obtain ⟨⟨a1, a2⟩, a3, a4⟩ := h
  have b6 := ri.1.1.2.2.1
  have z := ri.2.2.1
  have ho : ∀ k j, k ≠ 0 → k ≠ 19 + 2 * bd_nh B → k ≠ 20 + 2 * bd_nh B → (vu (vu (vu (vu (vu (itN (fun r V => vu V (20 + 2 * bd_nh B) r (nI 0)) 4 (vu (vu V (19 + 2 * bd_nh B) 1 (nI f)) (19 + 2 * bd_nh B) 2 (nI gr))) (19 + 2 * bd_nh B) 3 (nI f)) (19 + 2 * bd_nh B) 4 (nI 0)) (19 + 2 * bd_nh B) 5 (nI 0)) (19 + 2 * bd_nh B) 6 (nI 0)) 0 4 (nI (bd_nh B + 1))) k j = V k j := by
    intro k j h0 h1 h2
    simp only [itN]
    rw [vu_k _ _ h0, vu_k _ _ h1, vu_k _ _ h1, vu_k _ _ h1, vu_k _ _ h1, vu_k _ _ h2, vu_k _ _ h2, vu_k _ _ h2, vu_k _ _ h2, vu_k _ _ h1, vu_k _ _ h1]
  refine ⟨⟨vu_s _ _ _ _, ?_⟩, fun i hi => ?_, fun t ht => ?_⟩
  · simp only [itN]
    rw [vu_j _ _ (by omega), vu_k _ _ (by omega), vu_k _ _ (by omega), vu_k _ _ (by omega), vu_k _ _ (by omega), vu_k _ _ (by omega), vu_k _ _ (by omega), vu_k _ _ (by omega), vu_k _ _ (by omega), vu_k _ _ (by omega), vu_k _ _ (by omega)]
    exact a2
  · have hi : i < bd_nh B + 1 := hi
    by_cases hin : i = bd_nh B
    · subst hin
      have e1 : pu p (8 * bd_nh B) (nI f) (8 * bd_nh B + 1) = nI 0 := by rw [pu_n _ _ (by omega)]; exact z _ (by omega)
      have e2 : pu p (8 * bd_nh B) (nI f) (8 * bd_nh B + 2) = nI 0 := by rw [pu_n _ _ (by omega)]; exact z _ (by omega)
      have e3 : pu p (8 * bd_nh B) (nI f) (8 * bd_nh B + 3) = nI 0 := by rw [pu_n _ _ (by omega)]; exact z _ (by omega)
      unfold RHh
      rw [e1, e2, e3, pu_s, if_neg (by decide)]
      simp only [itN]
      refine ⟨?_, ?_, ?_, ?_, ?_, ?_, fun r hr => ?_⟩
      · rw [vu_k _ _ (by omega), vu_j _ _ (by omega), vu_j _ _ (by omega), vu_j _ _ (by omega), vu_j _ _ (by omega), vu_k _ _ (by omega), vu_k _ _ (by omega), vu_k _ _ (by omega), vu_k _ _ (by omega), vu_j _ _ (by omega), vu_s]
        show _ = pu (bd_first B) (bd_nh B) (nI f) (bd_nh B)
        rw [pu_s]
      · rw [vu_k _ _ (by omega), vu_j _ _ (by omega), vu_j _ _ (by omega), vu_j _ _ (by omega), vu_j _ _ (by omega), vu_k _ _ (by omega), vu_k _ _ (by omega), vu_k _ _ (by omega), vu_k _ _ (by omega), vu_s]
        show _ = pu (bd_group B) (bd_nh B) (nI gr) (bd_nh B)
        rw [pu_s]
      · rw [vu_k _ _ (by omega), vu_j _ _ (by omega), vu_j _ _ (by omega), vu_j _ _ (by omega), vu_s]
      · rw [vu_k _ _ (by omega), vu_j _ _ (by omega), vu_j _ _ (by omega), vu_s]
      · rw [vu_k _ _ (by omega), vu_j _ _ (by omega), vu_s]
      · rw [vu_k _ _ (by omega), vu_s]
      · rw [vu_k _ _ (by omega), vu_k _ _ (by omega), vu_k _ _ (by omega), vu_k _ _ (by omega), vu_k _ _ (by omega), pu_n _ _ (by omega), z (8 * bd_nh B + 4 + r) (by omega)]
        rcases (by omega : r = 0 ∨ r = 1 ∨ r = 2 ∨ r = 3) with rfl | rfl | rfl | rfl
        · rw [vu_j _ _ (by omega), vu_j _ _ (by omega), vu_j _ _ (by omega), vu_s]
        · rw [vu_j _ _ (by omega), vu_j _ _ (by omega), vu_s]
        · rw [vu_j _ _ (by omega), vu_s]
        · rw [vu_s]
    · have hh := (a3 i (by omega)).same (V' := vu (vu (vu (vu (vu (itN (fun r V => vu V (20 + 2 * bd_nh B) r (nI 0)) 4 (vu (vu V (19 + 2 * bd_nh B) 1 (nI f)) (19 + 2 * bd_nh B) 2 (nI gr))) (19 + 2 * bd_nh B) 3 (nI f)) (19 + 2 * bd_nh B) 4 (nI 0)) (19 + 2 * bd_nh B) 5 (nI 0)) (19 + 2 * bd_nh B) 6 (nI 0)) 0 4 (nI (bd_nh B + 1))) (p' := pu p (8 * bd_nh B) (nI f)) (fun j => ho _ j (by omega) (by omega) (by omega)) (fun j => ho _ j (by omega) (by omega) (by omega)) (fun j h1 h2 => pu_n _ _ (by omega))
      obtain ⟨c1, c2, c3⟩ := hh
      exact ⟨by show _ = pu (bd_first B) (bd_nh B) (nI f) i; rw [pu_n _ _ hin]; exact c1, by show _ = pu (bd_group B) (bd_nh B) (nI gr) i; rw [pu_n _ _ hin]; exact c2, c3⟩
  · have ht : t < bd_nt B := ht
    exact (a4 t ht).same (fun j => ho _ j (by omega) (by omega) (by omega)) (fun j h1 h2 => pu_n _ _ (by omega))
theorem c_addHart (h : RC M T B p U K S e) (tb : TB M B' p') (ri : RI B' p') (h4 : bd_nh B' < 4) {f gr : Nat} (hz : ∀ M', TXF M M' → (∀ j, M'.1 1 j = M.1 1 j) → TB M' (B_h B' f gr) (pu p' (8 * bd_nh B') (nI f)) → Z none M' 668) : jv_Ct g (d + 1) mt_S_addHart [.ref 7, .int (nI f), .int (nI gr)] M 668 0 0 Z := by
  obtain ⟨X, π, I, eM, hq⟩ := h.own
  have x1 := X.2.2.1
  have x7 := X.2.2.2.2.2.2.2.1 (bd_nh B') h4
  have ts := tb.2
  have b6 := ri.1.1.2.2.1
  refine jv_ct rfl (Nat.le_of_ble_eq_true rfl) (b_S_addHart_0 ⟨t_S0 h7s, ?_⟩)
  rw [show M.1 7 4 = nI (bd_nh B') from ts.1.1]
  refine ⟨fun c => absurd ((nn_le (a := 4) (n := bd_nh B') (by omega) (by omega)).mp c) (by omega), fun _ => ⟨t_S0 h7s, 7 + 16, x1, t_S0 h7s, t_S16 h7s, by rw [l_S16 h7s]; exact vp_in_nI h4 (by omega), 7 + 19 + 2 * bd_nh B', by rw [nI_clamp (by omega)]; exact x7, t_SH h7s h4, t_SH h7s h4, t_SH h7s h4, ?_⟩⟩
  have hc := c_S_hrestart (g := g) (d := d) (M := M) (σ := 7) (V := vu (vu (V7 M) (19 + 2 * bd_nh B') 1 (nI f)) (19 + 2 * bd_nh B') 2 (nI gr)) (π := π) (Z := fun v M14 N14 => jv_rv v (jv_Tg 6 7 N14 ∧ jv_Tg 6 7 N14 ∧ Z none (jv_si M14 7 4 (M14.1 7 4 + 1)) N14)) X h4 (jv_rv_i ⟨t_S0 h7s, t_S0 h7s, ?_⟩)
  · rw [← wi_h h4, ← wi_h h4, eM] at hc
    exact hc
  · rw [sw_0 (M := M) (σ := 7), wi_0]
    have e04 : (vu (vu (vu (vu (itN (fun r V => vu V (20 + 2 * bd_nh B') r (nI 0)) 4 (vu (vu (V7 M) (19 + 2 * bd_nh B') 1 (nI f)) (19 + 2 * bd_nh B') 2 (nI gr))) (19 + 2 * bd_nh B') 3 (vu (vu (V7 M) (19 + 2 * bd_nh B') 1 (nI f)) (19 + 2 * bd_nh B') 2 (nI gr) (19 + 2 * bd_nh B') 1)) (19 + 2 * bd_nh B') 4 (nI 0)) (19 + 2 * bd_nh B') 5 (nI 0)) (19 + 2 * bd_nh B') 6 (nI 0)) 0 4 = nI (bd_nh B') := by
      simp only [itN]
      rw [vu_k _ _ (by omega), vu_k _ _ (by omega), vu_k _ _ (by omega), vu_k _ _ (by omega), vu_k _ _ (by omega), vu_k _ _ (by omega), vu_k _ _ (by omega), vu_k _ _ (by omega), vu_k _ _ (by omega), vu_k _ _ (by omega)]
      exact ts.1.1
    rw [e04, show (nI (bd_nh B') + 1 : Int32) = nI (bd_nh B' + 1) from nI_add _ 1, show vu (vu (V7 M) (19 + 2 * bd_nh B') 1 (nI f)) (19 + 2 * bd_nh B') 2 (nI gr) (19 + 2 * bd_nh B') 1 = nI f by rw [vu_j _ _ (by omega), vu_s]]
    refine hz _ (TXF.pic eM (fun k j hk hf => ?_)) (fun j => sw_out (by omega) j) (TB.pic (by show bd_nh B' + 1 ≤ 4; omega) b6 tb.1 (ts.hart ri h4))
    simp only [itN]
    have n1 : k ≠ 19 + 2 * bd_nh B' := fun z => hf (by unfold tfx; omega)
    have n2 : k ≠ 20 + 2 * bd_nh B' := fun z => hf (by unfold tfx; omega)
    by_cases hk0 : k = 0
    · subst hk0
      have n3 : j ≠ 4 := fun z => hf (by unfold tfx; omega)
      rw [vu_j _ _ n3, vu_k _ _ n1, vu_k _ _ n1, vu_k _ _ n1, vu_k _ _ n1, vu_k _ _ n2, vu_k _ _ n2, vu_k _ _ n2, vu_k _ _ n2, vu_k _ _ n1, vu_k _ _ n1]
    · rw [vu_k _ _ hk0, vu_k _ _ n1, vu_k _ _ n1, vu_k _ _ n1, vu_k _ _ n1, vu_k _ _ n2, vu_k _ _ n2, vu_k _ _ n2, vu_k _ _ n2, vu_k _ _ n1, vu_k _ _ n1]
theorem c_readH (h : RC M T B p U K S e) (hT : TOK T) {a : Nat} (ha : a < T.1) (ta : TA M a 0) (tb : TB M B' p') (ri : RI B' p') (hz : PO Z M T a (rd_h T a B' p')) : jv_Ct g (d + 6) mt_T_readHart [.ref 1] M 668 0 0 Z := by
  have hT1 := hT.1
  have n4 := ri.1.1.2.1
  have f13 := h.1.2.1.2.2
  refine jv_ct rfl (Nat.le_of_ble_eq_true rfl) (b_T_readHart_0 ⟨tg_1, 7, f13, t_S0 h7s, ?_⟩)
  rw [show M.1 7 4 = nI (bd_nh B') from tb.2.1.1]
  refine ⟨fun c => ?_, fun c => ⟨tg_1, ?_⟩⟩
  · have c : bd_nh B' < 4 := (nn_lt (a := bd_nh B') (n := 4) (by omega) (by omega)).mp c
    refine ⟨tg_1, tg_1, tg_1, ?_⟩
    rw [ta.1, show (nI a + 1 : Int32) = nI (a + 1) from nI_add a 1]
    have F1 : TXF M (jv_si M 1 4 (nI (a + 1))) := TXF.a4
    have ta1 : TA (jv_si M 1 4 (nI (a + 1))) (a + 1) 0 := ta.a4
    have tb1 : TB (jv_si M 1 4 (nI (a + 1))) B' p' := tb.s1
    generalize jv_si M 1 4 (nI (a + 1)) = M1 at F1 ta1 tb1 ⊢
    have h1 := h.txf F1
    have er : ∀ r, (kbind (tk T 97 16 (a + 1)) fun a f => kbind (tk T 48 3 a) fun a gr => (a, some (B_h B' f gr, pu p' (8 * bd_nh B') (nI f)))) = r → rd_h T a B' p' = r := by
      intro r hr
      unfold rd_h
      rw [if_neg (by omega)]
      exact hr
    refine c_take h1 hT ta1 (lo := 97) (n := 16) (by omega) (by omega) (by omega) (fun f hf hlt e1 => jv_ri_i ⟨tg_1, ?_⟩) (fun e1 => jv_ri_i ⟨tg_1, ?_⟩)
    · rw [e1, kb_s] at er
      have F2 : TXF M1 (jv_si M1 1 4 (nI (a + 1 + 1))) := TXF.a4
      have ta2 : TA (jv_si M1 1 4 (nI (a + 1 + 1))) (a + 1 + 1) 0 := ta1.a4
      have tb2 : TB (jv_si M1 1 4 (nI (a + 1 + 1))) B' p' := tb1.s1
      generalize jv_si M1 1 4 (nI (a + 1 + 1)) = M2 at F2 ta2 tb2 ⊢
      have h2 := h1.txf F2
      refine c_take h2 hT ta2 (lo := 48) (n := 3) (by omega) (by omega) (by omega) (fun gr hg hlt2 e2 => jv_ri_i ⟨tg_1, ?_⟩) (fun e2 => jv_ri_i ⟨tg_1, ?_⟩)
      · rw [e2, kb_s] at er
        have F3 : TXF M2 (jv_si M2 1 4 (nI (a + 1 + 1 + 1))) := TXF.a4
        have ta3 : TA (jv_si M2 1 4 (nI (a + 1 + 1 + 1))) (a + 1 + 1 + 1) 0 := ta2.a4
        have tb3 : TB (jv_si M2 1 4 (nI (a + 1 + 1 + 1))) B' p' := tb2.s1
        generalize jv_si M2 1 4 (nI (a + 1 + 1 + 1)) = M3 at F3 ta3 tb3 ⊢
        have h3 := h2.txf F3
        rw [ta3.2]
        refine rn0 ⟨tg_1, 7, h3.1.2.1.2.2, t_S0 h7s, c_addHart h3 tb3 ri c (fun M4 F4 s4 tb4 => jv_rv_i ?_)⟩
        exact hz.2 M4 (a + 1 + 1 + 1) _ _ (er _ rfl) (((F1.trans F2).trans F3).trans F4) ⟨(s4 4).trans ta3.1, (s4 5).trans ta3.2⟩ tb4 (RI_h ri (by omega) hf hg) (by omega) (by omega)
      · rw [e2, kb_n] at er
        rw [ta2.a5.2]
        exact rn1 (hz.1 _ _ (er _ rfl) ((F1.trans F2).trans TXF.a5) ta2.a5)
    · rw [e1, kb_n] at er
      refine c_takeF (n := 3) ta1.a5 (by omega) (jv_ri_i ⟨tg_1, ?_⟩)
      rw [ta1.a5.2]
      exact rn1 (hz.1 _ _ (er _ rfl) (F1.trans TXF.a5) ta1.a5)
  · have c : bd_nh B' = 4 := by
      have : ¬ bd_nh B' < 4 := fun z => c ((nn_lt (a := bd_nh B') (n := 4) (by omega) (by omega)).mpr z)
      omega
    refine hz.1 _ a ?_ TXF.a5 ta.a5
    unfold rd_h
    rw [if_pos c]
end TX
