section MR
variable {g : jv_G} {d : Nat} {M M' : jv_Mem} {Z : Option Value → jv_Mem → Nat → Prop} {N : Nat} {T T' : Tt} {B B' : Bd} {p p' q : Pg} {U U' : Ut} {K K' : Kt} {S S' : St} {e e' : Int64} {D D' : Dt}
theorem c_M_readH (h : RM M T B p U K S e (DB B')) (hT : TOK T) {a : Nat} (ha : a < T.1) (x : RX M a B' p') (ri : RI B' p') (hz : MO Z M T B p U K S e a (rd_h T a B' p')) : jv_Ct g (d + 6) mt_M_readHart [.ref 647] M 668 0 0 Z := by
  have hT1 := hT.1
  have n4 := ri.1.1.2.1
  refine jv_ct rfl (Nat.le_of_ble_eq_true rfl) (b_M_readHart_0 ⟨tg_m, ?_⟩)
  rw [x.2.2.1]
  refine ⟨fun c => ⟨tg_m, tg_m, tg_m, ?_⟩, fun c => ?_⟩
  · have c : bd_nh B' ≠ 4 := fun z => c (by rw [z]; rfl)
    rw [x.1, show (nI a + 1 : Int32) = nI (a + 1) from nI_add a 1]
    have F1 : FRc M (jv_si M 647 3 (nI (a + 1))) := FRc.si (by omega)
    have x1 : RX (jv_si M 647 3 (nI (a + 1))) (a + 1) B' p' := x.s3
    have h1 : RM (jv_si M 647 3 (nI (a + 1))) T B p U K S e (DB B') := h.s3 _
    generalize jv_si M 647 3 (nI (a + 1)) = M1 at F1 x1 h1 ⊢
    have er : ∀ r, (kbind (tk T 97 16 (a + 1)) fun a f => kbind (tk T 48 3 a) fun a gr => (a, some (B_h B' f gr, pu p' (8 * bd_nh B') (nI f)))) = r → rd_h T a B' p' = r := by
      intro r hr
      unfold rd_h
      rw [if_neg (by omega)]
      exact hr
    have v4 : ∀ b, (jv_sh b).2 = 4 → vp_in (nI (bd_nh B')) (jv_sh b).2 := fun b hb => by rw [hb]; exact vp_in_nI (by omega) (by omega)
    refine c_isNext (base := 97) (least := 0) (most := 15) h1 hT x1.1 (by omega) (by omega) (by omega) (by omega) rfl rfl (fun f hf hlt ev e1 => jv_ri_i (rn1 ?_)) (fun e1 => jv_ri_i (rn0 ?_))
    · rw [e1, kb_s] at er
      have F2 : FRc M1 (jv_si M1 647 3 (nI (a + 1 + 1))) := FRc.si (by omega)
      have x2 : RX (jv_si M1 647 3 (nI (a + 1 + 1))) (a + 1 + 1) B' p' := x1.s3
      have h2 : RM (jv_si M1 647 3 (nI (a + 1 + 1))) T B p U K S e (DB B') := h1.s3 _
      generalize jv_si M1 647 3 (nI (a + 1 + 1)) = M2 at F2 x2 h2 ⊢
      refine ⟨tg_m, 654, (h2.1.1 14).trans mr_14, tg_m, tg_m, c_taken (base := 97) h2 hT x2.1 hlt ev (jv_ri_i ⟨tg_654, ?_⟩)⟩
      rw [x2.2.2.1]
      refine ⟨v4 654 sl_654, tg_m, ?_⟩
      rw [nI_clamp (by omega)]
      have F3 : FRc M2 (jv_si M2 654 (bd_nh B') (nI f)) := FRc.si (by omega)
      have h3 := h2.d654 (bd_nh B') (nI f)
      have y3 : (jv_si M2 654 (bd_nh B') (nI f)).1 647 3 = nI (a + 1 + 1) := (si_b _ _ (by omega)).trans x2.1
      have y11 : (jv_si M2 654 (bd_nh B') (nI f)).1 647 11 = nI (bd_nc B') := (si_b _ _ (by omega)).trans x2.2.1
      have y13 : (jv_si M2 654 (bd_nh B') (nI f)).1 647 13 = nI (bd_nh B') := (si_b _ _ (by omega)).trans x2.2.2.1
      have y16 : (jv_si M2 654 (bd_nh B') (nI f)).1 647 16 = nI (bd_nt B') := (si_b _ _ (by omega)).trans x2.2.2.2.1
      have y57 : (jv_si M2 654 (bd_nh B') (nI f)).1 657 = p' := (funext fun j => si_b _ _ (by omega)).trans x2.2.2.2.2
      have y54 : (jv_si M2 654 (bd_nh B') (nI f)).1 654 (bd_nh B') = nI f := si_at _ _ _ _
      generalize jv_si M2 654 (bd_nh B') (nI f) = M3 at F3 h3 y3 y11 y13 y16 y57 y54 ⊢
      have dk3 : DOK ((DB B').1, pu (DB B').2.1 (bd_nh B') (nI f), (DB B').2.2) := by
        obtain ⟨d1, d2, d3, d4⟩ := ri.dok
        refine ⟨d1, fun i => ?_, d3, d4⟩
        show ∃ n, n < 16 ∧ pu (bd_first B') (bd_nh B') (nI f) i = nI n
        unfold pu
        split
        · exact ⟨f, hf, rfl⟩
        · exact d2 i
      refine c_isNext (base := 48) (least := 0) (most := 2) h3 hT y3 (by omega) (by omega) (by omega) (by omega) rfl rfl (fun gr hg hlt2 ev2 e2 => jv_ri_i (rn1 ?_)) (fun e2 => jv_ri_i (rn0 ?_))
      · rw [e2, kb_s] at er
        have F4 : FRc M3 (jv_si M3 647 3 (nI (a + 1 + 1 + 1))) := FRc.si (by omega)
        have h4 := h3.s3 (nI (a + 1 + 1 + 1))
        have z3 : (jv_si M3 647 3 (nI (a + 1 + 1 + 1))).1 647 3 = nI (a + 1 + 1 + 1) := si_at _ _ _ _
        have z11 : (jv_si M3 647 3 (nI (a + 1 + 1 + 1))).1 647 11 = nI (bd_nc B') := (si_k _ _ (by omega)).trans y11
        have z13 : (jv_si M3 647 3 (nI (a + 1 + 1 + 1))).1 647 13 = nI (bd_nh B') := (si_k _ _ (by omega)).trans y13
        have z16 : (jv_si M3 647 3 (nI (a + 1 + 1 + 1))).1 647 16 = nI (bd_nt B') := (si_k _ _ (by omega)).trans y16
        have z57 : (jv_si M3 647 3 (nI (a + 1 + 1 + 1))).1 657 = p' := (funext fun j => si_b _ _ (by omega)).trans y57
        have z54 : (jv_si M3 647 3 (nI (a + 1 + 1 + 1))).1 654 (bd_nh B') = nI f := (si_b _ _ (by omega)).trans y54
        generalize jv_si M3 647 3 (nI (a + 1 + 1 + 1)) = M4 at F4 h4 z3 z11 z13 z16 z57 z54 ⊢
        refine ⟨tg_m, 655, (h4.1.1 15).trans mr_15, tg_m, tg_m, c_taken (base := 48) h4 hT z3 hlt2 ev2 (jv_ri_i ⟨tg_655, ?_⟩)⟩
        rw [z13]
        refine ⟨v4 655 sl_655, tg_m, 657, (h4.1.1 18).trans mr_18, tg_m, tg_m, 654, (h4.1.1 14).trans mr_14, tg_m, tg_654, ?_⟩
        rw [nI_clamp (by omega), si_b _ _ (by omega), z13, show (8 * nI (bd_nh B') : Int32) = nI (8 * bd_nh B') from pk_mul 8 _, nI_clamp (by omega), nI_clamp (by omega), si_b _ _ (by omega), z54]
        refine ⟨v4 654 sl_654, tg_657, by rw [sl_657]; exact vp_in_nI (by omega) (by omega), tg_m, tg_m, ?_⟩
        rw [si_b _ _ (by omega), si_b _ _ (by omega), z13, show (nI (bd_nh B') + 1 : Int32) = nI (bd_nh B' + 1) from nI_add _ 1]
        have h5 := h4.d655 (bd_nh B') (nI gr)
        have h6 : RM (jv_si (jv_si M4 655 (bd_nh B') (nI gr)) 657 (8 * bd_nh B') (nI f)) T B p U K S e (DB (B_h B' f gr)) := h5.scr (SCR.s7 (by omega))
        have h7 : RM (jv_si (jv_si (jv_si M4 655 (bd_nh B') (nI gr)) 657 (8 * bd_nh B') (nI f)) 647 13 (nI (bd_nh B' + 1))) T B p U K S e (DB (B_h B' f gr)) := h6.scr (SCR.si (by omega))
        refine hz.2 _ (a + 1 + 1 + 1) _ _ (er _ rfl) h7 ⟨?_, ?_, si_at _ _ _ _, ?_, ?_⟩ ((((((F1.trans F2).trans F3).trans F4).trans (FRc.si (by omega))).trans (FRc.si (by omega))).trans (FRc.si (by omega))) (RI_h ri (by omega) hf hg) (by omega) (by omega)
        · rw [si_k _ _ (by omega), si_b _ _ (by omega), si_b _ _ (by omega)]; exact z3
        · rw [si_k _ _ (by omega), si_b _ _ (by omega), si_b _ _ (by omega)]; exact z11
        · rw [si_k _ _ (by omega), si_b _ _ (by omega), si_b _ _ (by omega)]; exact z16
        · funext j
          rw [si_b _ _ (by omega), congrFun (s7_at _ _ _) j]
          have : (jv_si M4 655 (bd_nh B') (nI gr)).1 657 = p' := (funext fun i => si_b _ _ (by omega)).trans z57
          rw [this]
      · rw [e2, kb_n] at er
        exact hz.1 M3 _ _ (er _ rfl) h3 dk3 ((F1.trans F2).trans F3) y3
    · rw [e1, kb_n] at er
      exact hz.1 M1 _ _ (er _ rfl) h1 ri.dok F1 x1.1
  · have c : bd_nh B' = 4 := (nn_eq (a := bd_nh B') (n := 4) (by omega) (by omega)).mp c
    refine hz.1 M a _ ?_ h ri.dok FRc.rf x.1
    unfold rd_h
    rw [if_pos c]
/-- a trigger half read: its page -/
def HT (M : jv_Mem) (a : Nat) (B : Bd) (p q : Pg) (k x v : Nat) : Prop := (M.1 647 3 = nI a ∧ M.1 647 11 = nI (bd_nc B) ∧ M.1 647 13 = nI (bd_nh B) ∧ M.1 647 16 = nI (bd_nt B)) ∧ M.1 657 = q ∧ (∀ j, j ≠ 40 + 6 * bd_nt B → j ≠ 40 + 6 * bd_nt B + 1 → j ≠ 40 + 6 * bd_nt B + 2 → q j = p j) ∧ q (40 + 6 * bd_nt B) = nI k ∧ q (40 + 6 * bd_nt B + 1) = nI x ∧ q (40 + 6 * bd_nt B + 2) = nI v
theorem HT.s3 {a a' k x v : Nat} (h : HT M a B p q k x v) : HT (jv_si M 647 3 (nI a')) a' B p q k x v := by
  obtain ⟨⟨x3, x11, x13, x16⟩, x57, r⟩ := h
  exact ⟨⟨si_at _ _ _ _, (si_k _ _ (by omega)).trans x11, (si_k _ _ (by omega)).trans x13, (si_k _ _ (by omega)).trans x16⟩, (funext fun j => si_b _ _ (by omega)).trans x57, r⟩
theorem c_M_readT (h : RM M T B p U K S e (DB B')) (hT : TOK T) {a ch : Nat} (hch : ch = 0 ∨ ch = 1) (ha : a < T.1) (x : RX M a B' p') (ri : RI B' p') (hz : MO Z M T B p U K S e a (rd_t T ch a B' p')) : jv_Ct g (d + 6) mt_M_readTrigger [.ref 647, .int (nI ch)] M 668 0 0 Z := by
  have hT1 := hT.1
  have n4 := ri.1.1.2.1
  have n6 := ri.1.1.2.2.1
  have full : (bd_nt B' = 6 ∨ bd_nh B' = 0) → Z (some (.int (nI 0))) M 668 := by
    intro c
    refine hz.1 M a _ ?_ h ri.dok FRc.rf x.1
    unfold rd_t
    rw [if_pos c]
  refine jv_ct rfl (Nat.le_of_ble_eq_true rfl) (b_M_readTrigger_0 ⟨tg_m, ?_⟩)
  rw [x.2.2.2.1]
  refine ⟨fun c => full (Or.inl ((nn_eq (a := bd_nt B') (n := 6) (by omega) (by omega)).mp c)), fun c => ⟨tg_m, ?_⟩⟩
  have c6 : bd_nt B' < 6 := by
    have : bd_nt B' ≠ 6 := fun z => c (by rw [z]; rfl)
    omega
  rw [x.2.2.1]
  refine ⟨fun c => ⟨tg_m, tg_m, tg_m, tg_m, tg_m, ?_⟩, fun c => full (Or.inr ((nn_eq (a := bd_nh B') (n := 0) (by omega) (by omega)).mp c))⟩
  have c0 : bd_nh B' ≠ 0 := fun z => c (by rw [z]; rfl)
  rw [x.1, show (nI a + 1 : Int32) = nI (a + 1) from nI_add a 1]
  have F1 : FRc M (jv_si M 647 3 (nI (a + 1))) := FRc.si (by omega)
  have x1 : RX (jv_si M 647 3 (nI (a + 1))) (a + 1) B' p' := x.s3
  have h1 : RM (jv_si M 647 3 (nI (a + 1))) T B p U K S e (DB B') := h.s3 _
  generalize jv_si M 647 3 (nI (a + 1)) = M1 at F1 x1 h1 ⊢
  obtain ⟨at_, eat⟩ : ∃ at_, at_ = 40 + 6 * bd_nt B' := ⟨_, rfl⟩
  have eAt : (40 + 6 * nI (bd_nt B') : Int32) = nI at_ := by
    rw [eat, show (6 * nI (bd_nt B') : Int32) = nI (6 * bd_nt B') from pk_mul 6 _]; exact nI_add 40 _
  have eAk : ∀ i, i < 6 → (nI at_ + nI i : Int32) = nI (at_ + i) := fun i _ => nI_add _ _
  have v165 : ∀ i, i < 165 → vp_in (nI i) (jv_sh 657).2 := fun i hi => by rw [sl_657]; exact vp_in_nI hi (by omega)
  rw [x1.2.2.1, x1.2.2.2.1, eAt, show (nI (bd_nh B') - 1 : Int32) = nI (bd_nh B' - 1) from pk_sub (a := bd_nh B') (b := 1) (by omega)]
  have er : ∀ r, (kbind (tk T 48 (bd_nh B') (a + 1)) fun a o => kbind (tk T 112 2 a) fun a k => kbind (if k = 0 then tk T 97 16 a else tk T 48 4 a) fun a x => kbind (if k = 0 then (a, some 0) else rd_v T a) fun a v => kbind (tk T 49 9 a) fun a c => (a, some (B_t B' o, P_set p' (bd_nt B') (nI k) (nI x) (nI v) (nI (1 + c)) (nI ch)))) = r → rd_t T ch a B' p' = r := by
    intro r hr
    unfold rd_t
    rw [if_neg (by omega)]
    exact hr
  refine c_isNext (base := 48) (least := 0) (most := bd_nh B' - 1) (lo := 48) (n := bd_nh B') h1 hT x1.1 (by omega) (by omega) (by omega) (by omega) rfl (by omega) (fun o ho hlt ev e1 => jv_ri_i (rn1 ?_)) (fun e1 => jv_ri_i (rn0 ?_))
  · rw [e1, kb_s] at er
    have F2 : FRc M1 (jv_si M1 647 3 (nI (a + 1 + 1))) := FRc.si (by omega)
    have x2 : RX (jv_si M1 647 3 (nI (a + 1 + 1))) (a + 1 + 1) B' p' := x1.s3
    have h2 : RM (jv_si M1 647 3 (nI (a + 1 + 1))) T B p U K S e (DB B') := h1.s3 _
    generalize jv_si M1 647 3 (nI (a + 1 + 1)) = M2 at F2 x2 h2 ⊢
    refine ⟨tg_m, 656, (h2.1.1 17).trans mr_17, tg_m, tg_m, c_taken (base := 48) h2 hT x2.1 hlt ev (jv_ri_i ⟨tg_656, ?_⟩)⟩
    rw [x2.2.2.2.1]
    refine ⟨by rw [sl_656]; exact vp_in_nI c6 (by omega), tg_m, tg_m, ?_⟩
    rw [nI_clamp (by omega)]
    have F3 : FRc M2 (jv_si M2 656 (bd_nt B') (nI o)) := FRc.si (by omega)
    have h3 : RM (jv_si M2 656 (bd_nt B') (nI o)) T B p U K S e (DB (B_t B' o)) := h2.d656 (bd_nt B') o
    have y3 : (jv_si M2 656 (bd_nt B') (nI o)).1 647 3 = nI (a + 1 + 1) := (si_b _ _ (by omega)).trans x2.1
    have y11 : (jv_si M2 656 (bd_nt B') (nI o)).1 647 11 = nI (bd_nc B') := (si_b _ _ (by omega)).trans x2.2.1
    have y13 : (jv_si M2 656 (bd_nt B') (nI o)).1 647 13 = nI (bd_nh B') := (si_b _ _ (by omega)).trans x2.2.2.1
    have y16 : (jv_si M2 656 (bd_nt B') (nI o)).1 647 16 = nI (bd_nt B') := (si_b _ _ (by omega)).trans x2.2.2.2.1
    have y57 : (jv_si M2 656 (bd_nt B') (nI o)).1 657 = p' := (funext fun j => si_b _ _ (by omega)).trans x2.2.2.2.2
    generalize jv_si M2 656 (bd_nt B') (nI o) = M3 at F3 h3 y3 y11 y13 y16 y57 ⊢
    have dk3 : DOK (DB (B_t B' o)) := by
      obtain ⟨d1, d2, d3, d4⟩ := ri.dok
      refine ⟨d1, d2, d3, fun t => ?_⟩
      show nu (bd_whose B') (bd_nt B') o t < 4
      unfold nu
      split
      · omega
      · exact d4 t
    have F123 := (F1.trans F2).trans F3
    -- a fault in what follows
    have flt : ∀ M4 a4, RM M4 T B p U K S e (DB (B_t B' o)) → FRc M M4 → M4.1 647 3 = nI a4 → rd_t T ch a B' p' = (a4, none) → Z (some (.int (nI 0))) M4 668 := fun M4 a4 h4 F4 e4 er4 => hz.1 M4 a4 _ er4 h4 dk3 F4 e4
    -- the count, and the end
    have lc : ∀ k xx v M4 a4 q i, k < 2 → xx < (if k = 0 then 16 else 4) → v < 1000 → i = 3 * k → RM M4 T B p U K S e (DB (B_t B' o)) → FRc M M4 → HT M4 a4 B' p' q k xx v → a < a4 → a4 ≤ T.1 → (∀ r, (kbind (tk T 49 9 a4) fun a c => (a, some (B_t B' o, P_set p' (bd_nt B') (nI k) (nI xx) (nI v) (nI (1 + c)) (nI ch)))) = r → rd_t T ch a B' p' = r) → jv_J g (d + 6) mt_M_readTrigger 210 [some (.ref 647), some (.int (nI ch)), some (.int (nI at_)), some (.int (nI k)), some (.int (nI i))] [] M4 668 0 0 Z := by
      intro k xx v M4 a4 q i hk hx hv hi h4 F4 H4 l4 u4 er4
      subst hi
      refine b_M_readTrigger_210 ?_
      rw [show (3 * nI k : Int32) = nI (3 * k) from pk_mul 3 k]
      refine ⟨fun _ => ⟨tg_m, c_isNext (base := 48) (least := 1) (most := 9) h4 hT H4.1.1 (by omega) (by omega) (by omega) (by omega) rfl rfl (fun c hc hlt4 ev4 e4 => jv_ri_i (rn1 ?_)) (fun e4 => jv_ri_i (rn0 ?_))⟩, fun z => absurd (nI_le (Nat.le_refl (3 * k)) (by omega)) z⟩
      · rw [e4, kb_s] at er4
        have h5 := h4.s3 (nI (a4 + 1))
        have H5 : HT (jv_si M4 647 3 (nI (a4 + 1))) (a4 + 1) B' p' q k xx v := H4.s3
        have F5 : FRc M4 (jv_si M4 647 3 (nI (a4 + 1))) := FRc.si (by omega)
        generalize jv_si M4 647 3 (nI (a4 + 1)) = M5 at h5 H5 F5 ⊢
        refine ⟨tg_m, 657, (h5.1.1 18).trans mr_18, tg_m, c_taken (base := 48) (c := 1 + c) h5 hT H5.1.1 hlt4 (by omega) (jv_ri_i ⟨tg_657, ?_⟩)⟩
        rw [show (nI at_ + 3 : Int32) = nI (at_ + 3) from nI_add _ 3, nI_clamp (by omega)]
        have h6 := h5.scr (SCR.s7 (M := M5) (k := at_ + 3) (x := nI (1 + c)) (by omega))
        have F6 : FRc M5 (jv_si M5 657 (at_ + 3) (nI (1 + c))) := FRc.si (by omega)
        have y6 : ∀ k, (jv_si M5 657 (at_ + 3) (nI (1 + c))).1 647 k = M5.1 647 k := fun k => si_b _ _ (by omega)
        have z6 : (jv_si M5 657 (at_ + 3) (nI (1 + c))).1 657 = pu q (at_ + 3) (nI (1 + c)) := by rw [s7_at, H5.2.1]
        generalize jv_si M5 657 (at_ + 3) (nI (1 + c)) = M6 at h6 F6 y6 z6 ⊢
        refine ⟨v165 _ (by omega), tg_m, 657, (h6.1.1 18).trans mr_18, tg_m, c_taken (base := 48) (c := 1 + c) h6 hT ((y6 3).trans H5.1.1) hlt4 (by omega) (jv_ri_i ⟨tg_657, ?_⟩)⟩
        rw [show (nI at_ + 4 : Int32) = nI (at_ + 4) from nI_add _ 4, show (nI at_ + 5 : Int32) = nI (at_ + 5) from nI_add _ 5, nI_clamp (by omega), nI_clamp (by omega)]
        have fin : ∀ w : Int32, w = nI ch → Z (some (.int 1)) (jv_si (jv_si (jv_si M6 657 (at_ + 4) (nI (1 + c))) 657 (at_ + 5) w) 647 16 ((jv_si (jv_si M6 657 (at_ + 4) (nI (1 + c))) 657 (at_ + 5) w).1 647 16 + 1)) 668 := by
          intro w ew
          subst ew
          rw [si_b _ _ (by omega), si_b _ _ (by omega), y6 16, H5.1.2.2.2, show (nI (bd_nt B') + 1 : Int32) = nI (bd_nt B' + 1) from nI_add _ 1]
          refine hz.2 _ (a4 + 1) _ _ (er4 _ rfl) (((h6.scr (SCR.s7 (by omega))).scr (SCR.s7 (by omega))).scr (SCR.si (by omega))) ⟨?_, ?_, ?_, si_at _ _ _ _, ?_⟩ (((((F4.trans F5).trans F6).trans (FRc.si (by omega))).trans (FRc.si (by omega))).trans (FRc.si (by omega))) (RI_t ri (by omega) ho hk hx hv hc (by omega)) (by omega) (by omega)
          · rw [si_k _ _ (by omega), si_b _ _ (by omega), si_b _ _ (by omega), y6]; exact H5.1.1
          · rw [si_k _ _ (by omega), si_b _ _ (by omega), si_b _ _ (by omega), y6]; exact H5.1.2.1
          · rw [si_k _ _ (by omega), si_b _ _ (by omega), si_b _ _ (by omega), y6]; exact H5.1.2.2.1
          · obtain ⟨-, -, g1, g2, g3, g4⟩ := H5
            rw [← eat] at g1 g2 g3 g4
            funext j
            rw [si_b _ _ (by omega), congrFun (s7_at _ _ _) j, s7_at, z6, P_set_at, ← eat]
            unfold pu
            by_cases j5 : j = at_ + 5
            · rw [if_pos j5, if_neg (by omega), if_neg (by omega), if_neg (by omega), if_neg (by omega), if_neg (by omega), if_pos j5]
            · rw [if_neg j5]
              by_cases j4 : j = at_ + 4
              · rw [if_pos j4, if_neg (by omega), if_neg (by omega), if_neg (by omega), if_neg (by omega), if_pos j4]
              · rw [if_neg j4]
                by_cases j3 : j = at_ + 3
                · rw [if_pos j3, if_neg (by omega), if_neg (by omega), if_neg (by omega), if_pos j3]
                · rw [if_neg j3]
                  by_cases j0 : j = at_
                  · rw [if_pos j0, j0, g2]
                  · rw [if_neg j0]
                    by_cases j1 : j = at_ + 1
                    · rw [if_pos j1, j1, g3]
                    · rw [if_neg j1]
                      by_cases j2 : j = at_ + 2
                      · rw [if_pos j2, j2, g4]
                      · rw [if_neg j2, if_neg j3, if_neg j4, if_neg j5]
                        exact g1 j j0 j1 j2
        refine ⟨v165 _ (by omega), tg_m, 657, (h6.1.1 18).trans mr_18, fun c7 => ⟨tg_657, v165 _ (by omega), tg_m, tg_m, ?_⟩, fun c7 => ⟨tg_657, v165 _ (by omega), tg_m, tg_m, ?_⟩⟩
        · have c7 : ch = 0 := (nn_eq (a := ch) (n := 0) (by omega) (by omega)).mp c7
          exact fin 0 (by rw [c7]; rfl)
        · have c7 : ch = 1 := by
            have : ch ≠ 0 := fun z => c7 (by rw [z]; rfl)
            omega
          exact fin 1 (by rw [c7]; rfl)
      · rw [e4, kb_n] at er4
        exact flt M4 a4 h4 F4 H4.1.1 (er4 _ rfl)
    -- one figure of a value
    have lv : ∀ xx v i M4 a4 q, i < 3 → v < 100 → RM M4 T B p U K S e (DB (B_t B' o)) → FRc M M4 → HT M4 a4 B' p' q 1 xx v → a < a4 → a4 ≤ T.1 → (tk T 48 10 a4 = (a4, none) → rd_t T ch a B' p' = (a4, none)) → (∀ f M5 q5, f < 10 → tk T 48 10 a4 = (a4 + 1, some f) → a4 < T.1 → RM M5 T B p U K S e (DB (B_t B' o)) → FRc M M5 → HT M5 (a4 + 1) B' p' q5 1 xx (10 * v + f) → jv_J g (d + 6) mt_M_readTrigger 210 [some (.ref 647), some (.int (nI ch)), some (.int (nI at_)), some (.int (nI 1)), some (.int (nI (i + 1)))] [] M5 668 0 0 Z) → jv_J g (d + 6) mt_M_readTrigger 210 [some (.ref 647), some (.int (nI ch)), some (.int (nI at_)), some (.int (nI 1)), some (.int (nI i))] [] M4 668 0 0 Z := by
      intro xx v i M4 a4 q hi hv h4 F4 H4 l4 u4 ern nxt
      refine b_M_readTrigger_210 ⟨fun z => absurd ((nn_le (a := 3) (n := i) (by omega) (by omega)).mp z) (by omega), fun _ => ⟨tg_m, c_isNext (base := 48) (least := 0) (most := 9) h4 hT H4.1.1 (by omega) (by omega) (by omega) (by omega) rfl rfl (fun f hf hlt4 ev4 e4 => jv_ri_i (rn1 ?_)) (fun e4 => jv_ri_i (rn0 ?_))⟩⟩
      · have h5 := h4.s3 (nI (a4 + 1))
        have H5 : HT (jv_si M4 647 3 (nI (a4 + 1))) (a4 + 1) B' p' q 1 xx v := H4.s3
        have F5 : FRc M4 (jv_si M4 647 3 (nI (a4 + 1))) := FRc.si (by omega)
        generalize jv_si M4 647 3 (nI (a4 + 1)) = M5 at h5 H5 F5 ⊢
        have e2 : M5.1 657 (at_ + 2) = nI v := by rw [H5.2.1, eat]; exact H5.2.2.2.2.2
        rw [show (nI at_ + 2 : Int32) = nI (at_ + 2) from nI_add _ 2, nI_clamp (by omega), show (nI i + 1 : Int32) = nI (i + 1) from nI_add _ 1]
        refine ⟨tg_m, 657, (h5.1.1 18).trans mr_18, tg_m, 657, (h5.1.1 18).trans mr_18, tg_657, v165 _ (by omega), tg_m, c_taken (base := 48) h5 hT H5.1.1 hlt4 ev4 (jv_ri_i ⟨tg_657, v165 _ (by omega), ?_⟩)⟩
        rw [e2, show (10 * nI v : Int32) = nI (10 * v) from pk_mul 10 v, nI_add]
        obtain ⟨⟨w3, w11, w13, w16⟩, w57, g1, g2, g3, g4⟩ := H5
        refine nxt f _ (pu q (at_ + 2) (nI (10 * v + f))) hf e4 hlt4 (h5.scr (SCR.s7 (by omega))) ((F4.trans F5).trans (FRc.si (by omega))) ⟨⟨(si_b _ _ (by omega)).trans w3, (si_b _ _ (by omega)).trans w11, (si_b _ _ (by omega)).trans w13, (si_b _ _ (by omega)).trans w16⟩, by rw [s7_at, w57], fun j j0 j1 j2 => ?_, ?_, ?_, ?_⟩
        · rw [pu_n _ _ (by omega)]; exact g1 j j0 j1 j2
        · rw [pu_n _ _ (by omega)]; exact g2
        · rw [pu_n _ _ (by omega)]; exact g3
        · rw [eat, pu_s]
      · exact flt M4 a4 h4 F4 H4.1.1 (ern e4)
    -- behind what the trigger looks at
    have l210 : ∀ k xx M4 a4 q, k < 2 → xx < (if k = 0 then 16 else 4) → RM M4 T B p U K S e (DB (B_t B' o)) → FRc M M4 → HT M4 a4 B' p' q k xx 0 → a < a4 → a4 ≤ T.1 → (∀ r, (kbind (if k = 0 then (a4, some 0) else rd_v T a4) fun a v => kbind (tk T 49 9 a) fun a c => (a, some (B_t B' o, P_set p' (bd_nt B') (nI k) (nI xx) (nI v) (nI (1 + c)) (nI ch)))) = r → rd_t T ch a B' p' = r) → jv_J g (d + 6) mt_M_readTrigger 210 [some (.ref 647), some (.int (nI ch)), some (.int (nI at_)), some (.int (nI k)), some (.int (nI 0))] [] M4 668 0 0 Z := by
      intro k xx M4 a4 q hk hx h4 F4 H4 l4 u4 er4
      rcases (by omega : k = 0 ∨ k = 1) with rfl | rfl
      · rw [if_pos rfl, kb_s] at er4
        exact lc 0 xx 0 M4 a4 q 0 hk hx (by omega) rfl h4 F4 H4 l4 u4 er4
      · rw [if_neg (by omega)] at er4
        unfold rd_v at er4
        refine lv xx 0 0 M4 a4 q (by omega) (by omega) h4 F4 H4 l4 u4 (fun e5 => er4 _ (by rw [e5, kb_n, kb_n])) (fun v1 M5 q5 hv1 e5 lt5 h5 F5 H5 => ?_)
        rw [e5, kb_s] at er4
        refine lv xx (10 * 0 + v1) 1 M5 (a4 + 1) q5 (by omega) (by omega) h5 F5 H5 (by omega) (by omega) (fun e6 => er4 _ (by rw [e6, kb_n, kb_n])) (fun v2 M6 q6 hv2 e6 lt6 h6 F6 H6 => ?_)
        rw [e6, kb_s] at er4
        refine lv xx (10 * (10 * 0 + v1) + v2) 2 M6 (a4 + 1 + 1) q6 (by omega) (by omega) h6 F6 H6 (by omega) (by omega) (fun e7 => er4 _ (by rw [e7, kb_n, kb_n])) (fun v3 M7 q7 hv3 e7 lt7 h7 F7 H7 => ?_)
        rw [e7, kb_s, kb_s, show v1 * 100 + v2 * 10 + v3 = 10 * (10 * (10 * 0 + v1) + v2) + v3 by omega] at er4
        exact lc 1 xx _ M7 (a4 + 1 + 1 + 1) q7 3 hk hx (by omega) rfl h7 F7 H7 (by omega) (by omega) er4
    obtain ⟨t1, t2⟩ := h3.2.1
    rw [y3, t1]
    have none2 : ¬ (a + 1 + 1 < T.1 ∧ 112 ≤ nx (T.2 (a + 1 + 1)) ∧ nx (T.2 (a + 1 + 1)) < 112 + 2) → Z (some (.int (nI 0))) M3 668 := by
      intro c
      rw [tk_n c, kb_n] at er
      exact flt M3 _ h3 F123 y3 (er _ rfl)
    refine ⟨fun c2 => none2 ?_, fun c2 => ?_⟩
    · have c2 := (nn_eq (a := a + 1 + 1) (n := T.1) (by omega) (by omega)).mp c2
      omega
    · have c2 : a + 1 + 1 < T.1 := by
        have : a + 1 + 1 ≠ T.1 := fun z => c2 (by rw [z])
        omega
      obtain ⟨l, hl, el⟩ := hT.2 (a + 1 + 1) c2
      have nl : nx (T.2 (a + 1 + 1)) = l := by rw [el]; exact nx_n (by omega)
      have v150 : vp_in (nI (a + 1 + 1)) (jv_sh 648).2 := by rw [sl_648]; exact vp_in_nI (by omega) (by omega)
      have el2 : M3.1 648 (a + 1 + 1) = nI l := (t2 _ c2).trans el
      have w2 : (nI at_ + 2 : Int32) = nI (at_ + 2) := nI_add _ 2
      have w1 : (nI at_ + 1 : Int32) = nI (at_ + 1) := nI_add _ 1
      have cA : Int32.toNatClampNeg (nI (a + 1 + 1)) = a + 1 + 1 := nI_clamp (by omega)
      have cB : Int32.toNatClampNeg (nI at_) = at_ := nI_clamp (by omega)
      have cC : Int32.toNatClampNeg (nI (at_ + 2)) = at_ + 2 := nI_clamp (by omega)
      rw [w2, w1, cA, cB, cC, show (nI (a + 1 + 1) + 1 : Int32) = nI (a + 1 + 1 + 1) from nI_add _ 1]
      -- the memory behind the kind
      have sub : ∀ k, k < 2 → l = 112 + k → RM (jv_si (jv_si (jv_si M3 647 3 (nI (a + 1 + 1 + 1))) 657 at_ (nI k)) 657 (at_ + 2) 0) T B p U K S e (DB (B_t B' o)) ∧ FRc M (jv_si (jv_si (jv_si M3 647 3 (nI (a + 1 + 1 + 1))) 657 at_ (nI k)) 657 (at_ + 2) 0) ∧ (∀ j, (jv_si (jv_si (jv_si M3 647 3 (nI (a + 1 + 1 + 1))) 657 at_ (nI k)) 657 (at_ + 2) 0).1 647 j = (jv_si M3 647 3 (nI (a + 1 + 1 + 1))).1 647 j) ∧ (jv_si (jv_si (jv_si M3 647 3 (nI (a + 1 + 1 + 1))) 657 at_ (nI k)) 657 (at_ + 2) 0).1 657 = pu (pu p' at_ (nI k)) (at_ + 2) (nI 0) := by
        intro k hk hlk
        refine ⟨((h3.s3 _).scr (SCR.s7 (by omega))).scr (SCR.s7 (by omega)), ((F123.trans (FRc.si (by omega))).trans (FRc.si (by omega))).trans (FRc.si (by omega)), fun j => (si_b _ _ (by omega)).trans (si_b _ _ (by omega)), ?_⟩
        rw [s7_at, s7_at]
        have : (jv_si M3 647 3 (nI (a + 1 + 1 + 1))).1 657 = p' := (funext fun j => si_b _ _ (by omega)).trans y57
        rw [this]
        rfl
      -- what it looks at
      have l203 : ∀ k base xx M5, k < 2 → (if k = 0 then 97 else 48) = base → xx < (if k = 0 then 16 else 4) → a + 1 + 1 + 1 < T.1 → nx (T.2 (a + 1 + 1 + 1)) = base + xx → RM M5 T B p U K S e (DB (B_t B' o)) → FRc M M5 → (∀ j, M5.1 647 j = (jv_si M3 647 3 (nI (a + 1 + 1 + 1))).1 647 j) → M5.1 657 = pu (pu p' at_ (nI k)) (at_ + 2) (nI 0) → (∀ r, (kbind (if k = 0 then (a + 1 + 1 + 1 + 1, some 0) else rd_v T (a + 1 + 1 + 1 + 1)) fun a v => kbind (tk T 49 9 a) fun a c => (a, some (B_t B' o, P_set p' (bd_nt B') (nI k) (nI xx) (nI v) (nI (1 + c)) (nI ch)))) = r → rd_t T ch a B' p' = r) → jv_J g (d + 6) mt_M_readTrigger 203 [some (.ref 647), some (.int (nI ch)), some (.int (nI at_)), some (.int (nI k)), none] [.int (nI base), .ref 647, .int (nI (at_ + 1)), .ref 657] (jv_si M5 647 3 (nI (a + 1 + 1 + 1 + 1))) 668 0 0 Z := by
        intro k base xx M5 hk eb hx hlt5 ev5 h5 F5 w5 q5 er5
        refine b_M_readTrigger_203 ⟨tg_m, c_taken (h5.s3 _) hT (si_at _ _ _ _) hlt5 ev5 (jv_ri_i ⟨tg_657, v165 _ (by omega), ?_⟩)⟩
        rw [nI_clamp (by omega)]
        refine l210 k xx _ (a + 1 + 1 + 1 + 1) (pu (pu (pu p' at_ (nI k)) (at_ + 2) (nI 0)) (at_ + 1) (nI xx)) hk hx ((h5.s3 _).scr (SCR.s7 (by omega))) ((F5.trans (FRc.si (by omega))).trans (FRc.si (by omega))) ⟨⟨?_, ?_, ?_, ?_⟩, ?_, fun j j0 j1 j2 => ?_, ?_, ?_, ?_⟩ (by omega) (by omega) er5
        · rw [si_b _ _ (by omega), si_at]
        · rw [si_b _ _ (by omega), si_k _ _ (by omega), w5, si_k _ _ (by omega)]; exact y11
        · rw [si_b _ _ (by omega), si_k _ _ (by omega), w5, si_k _ _ (by omega)]; exact y13
        · rw [si_b _ _ (by omega), si_k _ _ (by omega), w5, si_k _ _ (by omega)]; exact y16
        · rw [s7_at]
          have : (jv_si M5 647 3 (nI (a + 1 + 1 + 1 + 1))).1 657 = pu (pu p' at_ (nI k)) (at_ + 2) (nI 0) := (funext fun j => si_b _ _ (by omega)).trans q5
          rw [this]
        · rw [pu_n _ _ (by omega), pu_n _ _ (by omega), pu_n _ _ (by omega)]
        · rw [← eat, pu_n _ _ (by omega), pu_n _ _ (by omega), pu_s]
        · rw [← eat, pu_s]
        · rw [← eat, pu_n _ _ (by omega), pu_s]
      refine ⟨tg_m, 648, (h3.1.1 1).trans mr_1, tg_m, tg_648, v150, fun cl => ?_, fun cl => ⟨tg_m, 648, (h3.1.1 1).trans mr_1, tg_m, tg_648, v150, fun cl2 => ?_, fun cl2 => none2 ?_⟩⟩
      · have lk : l = 112 := (nn_eq (a := l) (n := 112) (by omega) (by omega)).mp (el2.symm.trans cl)
        obtain ⟨S1, S2, S3, S4⟩ := sub 0 (by omega) lk
        have e2 : tk T 112 2 (a + 1 + 1) = (a + 1 + 1 + 1, some 0) := tk_y c2 (by omega) (by omega)
        rw [e2, kb_s] at er
        rw [if_pos rfl] at er
        refine ⟨tg_m, 648, (h3.1.1 1).trans mr_1, tg_m, tg_648, v150, tg_m, tg_m, tg_m, 657, (h3.1.1 18).trans mr_18, tg_657, v165 _ (by omega), tg_m, 657, (h3.1.1 18).trans mr_18, tg_657, v165 _ (by omega), ?_⟩
        rw [show M3.1 648 (a + 1 + 1) = nI 112 by rw [el2, lk], show (nI 112 - 112 : Int32) = nI 0 from pk_sub (a := 112) (b := 112) (by omega)]
        generalize jv_si (jv_si (jv_si M3 647 3 (nI (a + 1 + 1 + 1))) 657 at_ (nI 0)) 657 (at_ + 2) 0 = M5 at S1 S2 S3 S4 ⊢
        have z3 : M5.1 647 3 = nI (a + 1 + 1 + 1) := (S3 3).trans (si_at _ _ _ _)
        refine rn0 ⟨tg_m, c_isNext (base := 97) (least := 0) (most := 15) S1 hT z3 (by omega) (by omega) (by omega) (by omega) rfl rfl (fun xx hx hlt5 ev5 e5 => jv_ri_i (re1 ?_)) (fun e5 => jv_ri_i (re0 ?_))⟩
        · rw [e5, kb_s] at er
          exact ⟨tg_m, 657, (S1.1.1 18).trans mr_18, rn0 (l203 0 97 xx M5 (by omega) rfl hx hlt5 ev5 S1 S2 S3 S4 er)⟩
        · rw [e5, kb_n] at er
          exact flt M5 _ S1 S2 z3 (er _ rfl)
      · have lk : l = 113 := (nn_eq (a := l) (n := 113) (by omega) (by omega)).mp (el2.symm.trans cl2)
        obtain ⟨S1, S2, S3, S4⟩ := sub 1 (by omega) lk
        have e2 : tk T 112 2 (a + 1 + 1) = (a + 1 + 1 + 1, some 1) := tk_y c2 (by omega) (by omega)
        rw [e2, kb_s] at er
        rw [if_neg (by omega)] at er
        refine ⟨tg_m, 648, (h3.1.1 1).trans mr_1, tg_m, tg_648, v150, tg_m, tg_m, tg_m, 657, (h3.1.1 18).trans mr_18, tg_657, v165 _ (by omega), tg_m, 657, (h3.1.1 18).trans mr_18, tg_657, v165 _ (by omega), ?_⟩
        rw [show M3.1 648 (a + 1 + 1) = nI 113 by rw [el2, lk], show (nI 113 - 112 : Int32) = nI 1 from pk_sub (a := 113) (b := 112) (by omega)]
        generalize jv_si (jv_si (jv_si M3 647 3 (nI (a + 1 + 1 + 1))) 657 at_ (nI 1)) 657 (at_ + 2) 0 = M5 at S1 S2 S3 S4 ⊢
        have z3 : M5.1 647 3 = nI (a + 1 + 1 + 1) := (S3 3).trans (si_at _ _ _ _)
        refine rn1 ⟨tg_m, c_isNext (base := 48) (least := 0) (most := 3) S1 hT z3 (by omega) (by omega) (by omega) (by omega) rfl rfl (fun xx hx hlt5 ev5 e5 => jv_ri_i (rn1 ?_)) (fun e5 => jv_ri_i (rn0 ?_))⟩
        · rw [e5, kb_s] at er
          exact ⟨tg_m, 657, (S1.1.1 18).trans mr_18, rn1 (l203 1 48 xx M5 (by omega) rfl hx hlt5 ev5 S1 S2 S3 S4 er)⟩
        · rw [e5, kb_n] at er
          exact flt M5 _ S1 S2 z3 (er _ rfl)
      · have cl : l ≠ 112 := fun z => cl (by rw [el2, z]; rfl)
        have cl2 : l ≠ 113 := fun z => cl2 (by rw [el2, z]; rfl)
        omega
  · rw [e1, kb_n] at er
    exact hz.1 M1 _ _ (er _ rfl) h1 ri.dok F1 x1.1
end MR
