/-! ===== the class's board ===== -/
def mrg (B B' : Bd) : Bd := (bd_nc B', fun k => if k < 16 then bd_code B' k else bd_code B k, bd_nh B', fun h => if h < 4 then bd_first B' h else bd_first B h, fun h => if h < 4 then bd_group B' h else bd_group B h, bd_nt B', fun t => if t < 6 then bd_whose B' t else bd_whose B t)
def s_board (T : Tt) (D : Dt) (B : Bd) (p : Pg) (U : Ut) (K : Kt) : Int32 × Bd × Pg × Ut × Kt := match (rd T D).2 with
  | none => (-3, B, p, U, K)
  | some q => (nI (bd_nh q.1), mrg B q.1, q.2, (0, U.2), (fun _ => false, K.2))
theorem BV2.mrg {B B' : Bd} (h : BV2 B) (h' : BV2 B') : BV2 (mrg B B') := by
  obtain ⟨⟨a1, a2, a3, a4, a5⟩, a6, a7, a8, a9⟩ := h
  obtain ⟨⟨b1, b2, b3, b4, b5⟩, b6, b7, b8, b9⟩ := h'
  refine ⟨⟨b1, b2, b3, fun t => ?_, fun k => ?_⟩, fun k hk => ?_, fun i => ?_, fun i => ?_, fun t ht => ?_⟩
  · show (if t < 6 then bd_whose B' t else bd_whose B t) < 4
    split
    · exact b4 t
    · exact a4 t
  · show (if k < 16 then bd_code B' k else bd_code B k) < 10000
    split
    · exact b5 k
    · exact a5 k
  · have hk : k < bd_nc B' := hk
    show CV (if k < 16 then bd_code B' k else bd_code B k)
    rw [if_pos (by omega)]
    exact b6 k hk
  · show ∃ n, n < 16 ∧ (if i < 4 then bd_first B' i else bd_first B i) = nI n
    split
    · exact b7 i
    · exact a7 i
  · show ∃ n, n ≤ 2 ∧ (if i < 4 then bd_group B' i else bd_group B i) = nI n
    split
    · exact b8 i
    · exact a8 i
  · have ht : t < bd_nt B' := ht
    show (if t < 6 then bd_whose B' t else bd_whose B t) < bd_nh B'
    rw [if_pos (by omega)]
    exact b9 t ht
theorem ab_63 : ∀ t, t < 6 → (((nI 0) >>> (nI t &&& nI 31)) &&& nI 1 = nI 0 ↔ P_bit (nI 63) t = true) := by decide +kernel
section TX
variable {g : jv_G} {d : Nat} {M M' M1 : jv_Mem} {Z : Option Value → jv_Mem → Nat → Prop} {N : Nat} {T : Tt} {B B' : Bd} {p p' q : Pg} {U : Ut} {K : Kt} {S : St} {e : Int64} {D : Dt}
theorem RC.sq7 (h : RC M T B p U K S e) (ts : TS (V7 M) B' p') (ri : RI B' p') : SQ M 7 (mrg B B') (nI 63) (nI 0) p' := by
  obtain ⟨X, π, I, eM, hq⟩ := h.own
  obtain ⟨z1, z2, z3, z4, z5, z6⟩ := h.2.2.2.2.2
  obtain ⟨⟨a1, a2⟩, a3, a4⟩ := ts
  have b4 := ri.1.1.2.1
  have b6 := ri.1.1.2.2.1
  have z := ri.2.2.1
  refine ⟨V7 M, π, fun _ _ _ => rfl, hq, ⟨0, ri.2.1, fun i hi => absurd hi (Nat.not_lt_zero i), ⟨⟨a1, a2⟩, fun i hi => ?_, fun c hc => ?_, fun t ht => ?_, ⟨?_, ?_⟩, fun i hi => ?_⟩, fun i hi => absurd hi (Nat.not_lt_zero i), z3, I, ?_⟩, z6⟩
  · have hi : i < bd_nh B' := hi
    obtain ⟨c1, c2, c3⟩ := a3 i hi
    refine ⟨?_, ?_, c3⟩
    · show _ = (if i < 4 then bd_first B' i else bd_first B i)
      rw [if_pos (by omega)]; exact c1
    · show _ = (if i < 4 then bd_group B' i else bd_group B i)
      rw [if_pos (by omega)]; exact c2
  · rw [z (32 + c) (by omega)]
    exact z1 c hc
  · have ht : t < bd_nt B' := ht
    obtain ⟨c1, c2⟩ := a4 t ht
    refine ⟨?_, c2⟩
    show _ = nI (if t < 6 then bd_whose B' t else bd_whose B t)
    rw [if_pos (by omega)]; exact c1
  · rw [z 76 (by omega)]; exact z4
  · rw [z 77 (by omega)]; exact z5
  · rw [z (78 + i) (by omega)]; exact z2 i hi
  · intro t ht
    have ht : t < bd_nt B' := ht
    rw [show V7 M 0 6 = nI 0 from z6]
    exact ab_63 t (by omega)
theorem R_board (h : RC M T B p U K S e) (hB : BV2 B) (hT : TOK T) (hD : DOK D) (hz : ∀ M', RC M' T (s_board T D B p U K).2.1 (s_board T D B p U K).2.2.1 (s_board T D B p U K).2.2.2.1 (s_board T D B p U K).2.2.2.2 S e → FRm M M' → Z (some (.int (s_board T D B p U K).1)) M' 668) : jv_Ct g (d + 9) mt_R_board [.ref 0] M 668 0 0 Z := by
  unfold s_board at hz
  have h44 : 44 ∈ st_bases := by decide
  refine jv_ct rfl (Nat.le_of_ble_eq_true rfl) (b_R_board_0 ⟨tg_0, 1, h.1.1.1, tg_1, c_findFault h hT hD (fun M1 a1 e1 F1 => jv_ri_i ⟨fun c => ?_, fun _ => ?_⟩) (fun M1 a1 B1 p1 e1 F1 tb1 ri1 => jv_ri_i ⟨fun _ => ?_, fun c => absurd rfl c⟩)⟩)
  · have := rd_le T D
    rw [e1] at this
    have hT1 := hT.1
    have : a1 ≤ 150 := by
      have : a1 ≤ T.1 := this
      omega
    exact absurd c ((by decide : ∀ n, n < 151 → nI n ≠ -9) a1 (by omega))
  · rw [e1] at hz
    exact hz M1 (h.txf F1) F1.frm
  · rw [e1] at hz
    have hz : ∀ M', RC M' T (mrg B B1) p1 (0, U.2) (fun _ => false, K.2) S e → FRm M M' → Z (some (.int (nI (bd_nh B1)))) M' 668 := hz
    have h1 := h.txf F1
    have hB2 := hB.mrg ri1.1
    have n16 := ri1.1.1.1
    obtain ⟨r3, r4, r5⟩ := h1.1.2.2.1
    obtain ⟨r40, r41, r42⟩ := h1.1.2.2.2.1
    obtain ⟨q3, q4⟩ := tb1.1
    refine ⟨tg_0, 40, h1.1.1.2.1, tg_0, 1, h1.1.1.1, tg_1, 3, h1.1.2.1.2.1, tg_40, ?_⟩
    -- the program is copied
    refine jv_ct rfl (Nat.le_of_ble_eq_true rfl) (b_P_copyFrom_0 ⟨tgx_3, 4, r3, tg_40, 41, r40, tgx_4, tg_41, by rw [slx_4]; exact Nat.le_refl _, by rw [sl_41]; exact Nat.le_refl _, tgx_3, 5, r4, tg_40, 42, r41, tgx_5, tg_42, by rw [slx_5]; exact Nat.le_refl _, by rw [sl_42]; exact Nat.le_refl _, tgx_3, 6, r5, tg_40, 43, r42, tgx_6, tg_43, by rw [slx_6]; exact Nat.le_refl _, by rw [sl_43]; exact Nat.le_refl _, tgx_3, tg_40, jv_rv_i ?_⟩)
    obtain ⟨M2, eM2⟩ : ∃ M2, M2 = jv_si (jv_cp (jv_cp (jv_cp M1 4 41 0 0 16) 5 42 0 0 16) 6 43 0 0 16) 40 3 ((jv_cp (jv_cp (jv_cp M1 4 41 0 0 16) 5 42 0 0 16) 6 43 0 0 16).1 3 3) := ⟨_, rfl⟩
    rw [← eM2]
    have cpn : ∀ (X : jv_Mem) (a0 a n b j : Nat), b ≠ a → (jv_cp X a0 a 0 0 n).1 b j = X.1 b j := fun X a0 a n b j hb => by
      show (if b = a then _ else _) = _
      rw [if_neg hb]
    have cpa : ∀ (X : jv_Mem) (a0 a n j : Nat), j < n → (jv_cp X a0 a 0 0 n).1 a j = X.1 a0 j := fun X a0 a n j hj => by
      show (if a = a then va_cpy (X.1 a0) (X.1 a) 0 0 n j else _) = _
      rw [if_pos rfl, pk_cpy_in (by omega) (by omega), Nat.zero_add, Nat.sub_zero]
    have m2 : ∀ b, b < 40 ∨ 44 ≤ b → ∀ j, M2.1 b j = M1.1 b j := fun b hb j => by
      rw [eM2, si_b _ _ (by omega), cpn _ _ _ _ _ _ (by omega), cpn _ _ _ _ _ _ (by omega), cpn _ _ _ _ _ _ (by omega)]
    have m2r : M2.2 = M1.2 := by rw [eM2]; rfl
    have m403 : M2.1 40 3 = nI (bd_nc B1) := by
      rw [eM2, si_at, cpn _ _ _ _ _ _ (by omega), cpn _ _ _ _ _ _ (by omega), cpn _ _ _ _ _ _ (by omega)]; exact q3
    have m41 : ∀ k, k < 16 → M2.1 41 k = M1.1 4 k ∧ M2.1 42 k = M1.1 5 k ∧ M2.1 43 k = M1.1 6 k := fun k hk => by
      refine ⟨?_, ?_, ?_⟩
      · rw [eM2, si_b _ _ (by omega), cpn _ _ _ _ _ _ (by omega), cpn _ _ _ _ _ _ (by omega), cpa _ _ _ _ _ hk]
      · rw [eM2, si_b _ _ (by omega), cpn _ _ _ _ _ _ (by omega), cpa _ _ _ _ _ hk, cpn _ _ _ _ _ _ (by omega)]
      · rw [eM2, si_b _ _ (by omega), cpa _ _ _ _ _ hk, cpn _ _ _ _ _ _ (by omega), cpn _ _ _ _ _ _ (by omega)]
    have H2 : SHP M2 := h1.1.refs (fun b _ j => by rw [m2r])
    have Q7 : SQ M2 7 (mrg B B1) (nI 63) (nI 0) p1 := (h1.sq7 tb1.2 ri1).congr (fun k j hk => m2 _ (by omega) j) (fun j => by rw [m2r])
    refine ⟨tg_0, 44, H2.1.2.2.1, tg_0, 1, H2.1.1, tg_1, 7, H2.2.1.2.2, t_S0 h44, q_copy H2 hB2 h7s h44 (by decide) Q7 (fun M3 E3 Q3 => jv_rv_i ?_)⟩
    have H3 := H2.exc E3 h44
    refine ⟨tg_0, 110, H3.1.2.2.2.2.1, tg_110, ?_⟩
    refine jv_ct rfl (Nat.le_of_ble_eq_true rfl) (b_A_forget_0 ⟨tg_110, jv_rv_i ?_⟩)
    have H4 : SHP (jv_si M3 110 2 0) := H3.ns (NS.si (by decide))
    have f06 : (jv_si M3 110 2 0).2.1 0 6 = some 575 := H4.1.2.2.2.2.2.2.1
    refine b_R_board_52 ⟨fun c => absurd ((nn_le (a := 2) (n := 0) (by omega) (by omega)).mp c) (by omega), fun _ => ⟨tg_0, 575, f06, tg_575, by rw [sl_575]; exact vp_in_nI (n := 0) (by omega) (by omega), ?_⟩⟩
    refine b_R_board_52 ⟨fun c => absurd ((nn_le (a := 2) (n := 1) (by omega) (by omega)).mp c) (by omega), fun _ => ⟨tg_0, 575, f06, tg_575, by rw [sl_575]; exact vp_in_nI (n := 1) (by omega) (by omega), ?_⟩⟩
    refine b_R_board_52 ⟨fun _ => ⟨tg_0, 44, H4.1.2.2.1, t_S0 h44, ?_⟩, fun c => absurd (show (2 : Int32) ≤ 0 + 1 + 1 by decide) c⟩
    obtain ⟨M5, eM5⟩ : ∃ M5, M5 = jv_si (jv_si (jv_si M3 110 2 0) 575 (Int32.toNatClampNeg 0) 0) 575 (Int32.toNatClampNeg (0 + 1)) 0 := ⟨_, rfl⟩
    rw [← eM5]
    have c0 : Int32.toNatClampNeg 0 = 0 := rfl
    have c1 : Int32.toNatClampNeg (0 + 1) = 1 := rfl
    rw [c0, c1] at eM5
    have n5 : NS M3 M5 := by rw [eM5]; exact ((NS.si (by decide)).trans (NS.si (by decide))).trans (NS.si (by decide))
    have m5 : ∀ b, b ≠ 110 → b ≠ 575 → ∀ j, M5.1 b j = M3.1 b j := fun b hb hc j => by rw [eM5, si_b _ _ hc, si_b _ _ hc, si_b _ _ hb]
    have mf : ∀ b, (40 ≤ b ∧ b < 44) ∨ b = 1 ∨ b = 2 ∨ (576 ≤ b ∧ b < 580) → ∀ j, M5.1 b j = M2.1 b j := fun b hb j => (m5 b (by omega) (by omega) j).trans (E3.1 b (by omega) j)
    have mo : ∀ b, b = 1 ∨ b = 2 ∨ (576 ≤ b ∧ b < 580) → ∀ j, M5.1 b j = M1.1 b j := fun b hb j => (mf b (by omega) j).trans (m2 b (by omega) j)
    obtain ⟨⟨o1, o2⟩, ⟨o3, o4⟩, o5, o6, ⟨o7, o8⟩, o9⟩ := h1.2.1
    obtain ⟨k, hk, p2, p3⟩ := h1.2.2.2.1
    have em : M5.2 = M3.2 := by rw [eM5]; rfl
    have hP : SP M5 44 (mrg B B1) p1 := (SP_SQ.mpr Q3).ns n5 h44
    have hres : M5.1 44 4 = nI (bd_nh B1) := by
      obtain ⟨V, π, v1, v2, ⟨m, P, A, R, -⟩, a6⟩ := hP
      exact (v1 0 4 (by omega)).trans R.1.1
    rw [hres]
    refine hz M5 ⟨H3.ns n5, ⟨⟨(mo 1 (by omega) 1).trans o1, fun i hi => (mo 2 (by omega) i).trans (o2 i hi)⟩, ⟨(mf 40 (by omega) 3).trans m403, fun i hi => ?_⟩, ?_, fun i hi => ?_, ⟨(mo 576 (by omega) 3).trans o7, fun i hi => ⟨(mo 577 (by omega) i).trans (o8 i hi).1, (mo 578 (by omega) i).trans (o8 i hi).2.1, (mo 579 (by omega) i).trans (o8 i hi).2.2⟩⟩, ?_⟩, hP, ⟨k, hk, ?_, fun i hi => absurd hi (Nat.not_lt_zero i)⟩, fun i hi hq => absurd hq Bool.false_ne_true, ?_⟩ ?_
    · have hi : i < bd_nc B1 := hi
      obtain ⟨w1, w2, w3⟩ := m41 i (by omega)
      obtain ⟨w4, w5, w6⟩ := q4 i hi
      rw [mf 41 (by omega), mf 42 (by omega), mf 43 (by omega), w1, w2, w3]
      show _ = nI ((if i < 16 then bd_code B1 i else bd_code B i) / 1000) ∧ _ = nI ((if i < 16 then bd_code B1 i else bd_code B i) / 100 % 10) ∧ _ = nI ((if i < 16 then bd_code B1 i else bd_code B i) % 100)
      rw [if_pos (by omega)]
      exact ⟨w4, w5, w6⟩
    · rw [eM5, si_b _ _ (by omega), si_b _ _ (by omega), si_at]; rfl
    · show _ = (if false = true then nI 1 else nI 0)
      rw [if_neg (by decide)]
      rcases (by omega : i = 0 ∨ i = 1) with rfl | rfl
      · rw [eM5, si_k _ _ (by omega), si_at]; rfl
      · rw [eM5, si_at]; rfl
    · rw [em, E3.2.2.2, m2r]; exact o9
    · rw [eM5, si_b _ _ (by omega), si_b _ _ (by omega), si_k _ _ (by omega), E3.1 110 (by omega), m2 110 (by omega)]; exact p2
    · exact h1.2.2.2.2.2.congr (fun b hb1 hb2 j => by rw [m5 b (by omega) (by omega), E3.1 b (by omega), m2 b (by omega)])
    · refine F1.frm.trans ((?_ : FRm M1 M2).trans ((E3.frm h44).trans n5.frm))
      exact fun b hb => ⟨fun j => m2 b (by omega) j, fun j => by rw [m2r], by rw [m2r]⟩
end TX
