section MR
variable {g : jv_G} {d : Nat} {M M' : jv_Mem} {Z : Option Value → jv_Mem → Nat → Prop} {N : Nat} {T T' : Tt} {B B' : Bd} {p p' q : Pg} {U U' : Ut} {K K' : Kt} {S S' : St} {e e' : Int64} {D D' : Dt}
theorem c_M_readP (h : RM M T B p U K S e (DB B')) (hT : TOK T) {a : Nat} (ha : a < T.1) (x : RX M a B' p') (ri : RI B' p') (hz : MO Z M T B p U K S e a (rd_p T a B' p')) : jv_Ct g (d + 7) mt_M_readPart [.ref 647] M 668 0 0 Z := by
  have hT1 := hT.1
  obtain ⟨t1, t2⟩ := h.2.1
  obtain ⟨l, hl, el⟩ := hT.2 a ha
  have nl : nx (T.2 a) = l := by rw [el]; exact nx_n (by omega)
  unfold rd_p at hz
  rw [nl] at hz
  have w : ∀ {r}, MO Z M T B p U K S e a r → MO (fun v M10 N10 => jv_ri v (fun r9 => (r9 = 0 ∨ r9 = 1) ∧ Z (some (.int r9)) M10 N10)) M T B p U K S e a r := fun hz => ⟨fun M' a' D' e1 h1 k1 F1 s1 => jv_ri_i ⟨Or.inl rfl, hz.1 M' a' D' e1 h1 k1 F1 s1⟩, fun M' a' B' p' e1 h1 x1 F1 ri1 l1 u1 => jv_ri_i ⟨Or.inr rfl, hz.2 M' a' B' p' e1 h1 x1 F1 ri1 l1 u1⟩⟩
  refine jv_ct rfl (Nat.le_of_ble_eq_true rfl) (b_M_readPart_0 ⟨tg_m, 648, (h.1.1 1).trans mr_1, tg_m, tg_648, ?_⟩)
  rw [x.1, nI_clamp (by omega), t2 a ha, el]
  refine ⟨by rw [sl_648]; exact vp_in_nI (by omega) (by omega), ?_⟩
  simp (disch := omega) only [li, ne_eq, nn_eq]
  refine ⟨fun c => ⟨tg_m, ?_⟩, fun c => ⟨tg_m, ?_⟩, fun c => ⟨tg_m, ?_⟩, fun c => ⟨tg_m, ?_⟩, fun c => ?_⟩
  · rw [if_neg (by omega), if_neg (by omega), if_neg (by omega), if_pos c] at hz
    exact c_M_readT h hT (Or.inr rfl) ha x ri (w hz)
  · rw [if_neg (by omega), if_pos c] at hz
    exact c_M_readH h hT ha x ri (w hz)
  · rw [if_pos c] at hz
    exact c_M_readI h hT ha x ri (w hz)
  · rw [if_neg (by omega), if_neg (by omega), if_pos c] at hz
    exact c_M_readT h hT (Or.inl rfl) ha x ri (w hz)
  · rw [if_neg c.2.2.1, if_neg c.2.1, if_neg c.2.2.2, if_neg c.1] at hz
    exact hz.1 M a _ rfl h ri.dok FRc.rf x.1
theorem c_readBoard (h : RM M T B p U K S e D) (hT : TOK T) (hD : DOK D) (hz0 : ∀ M' a' D', rd T D = (a', none) → RM M' T B p U K S e D' → DOK D' → FRc M M' → Z (some (.int (nI a'))) M' 668) (hz1 : ∀ M' a' B' p', rd T D = (a', some (B', p')) → RM M' T B p U K S e (DB B') → RX M' a' B' p' → FRc M M' → RI B' p' → Z (some (.int (-9))) M' 668) : jv_Ct g (d + 8) mt_M_readBoard [.ref 647] M 668 0 0 Z := by
  have hT1 := hT.1
  have l62 : ∀ f a M1 B1 p1, T.1 ≤ a + f → a ≤ T.1 → RM M1 T B p U K S e (DB B1) → RX M1 a B1 p1 → RI B1 p1 → FRc M M1 → rd T D = rd_l T f a B1 p1 → jv_J g (d + 8) mt_M_readBoard 62 [some (.ref 647), none] [] M1 668 0 0 Z := by
    intro f
    induction f with
    | zero =>
      intro a M1 B1 p1 hf hal h1 x1 ri1 F1 er
      refine b_M_readBoard_62 ⟨tg_m, tg_m, ?_⟩
      rw [h1.2.1.1, x1.1]
      exact ⟨fun _ => hz1 M1 a B1 p1 er h1 x1 F1 ri1, fun c => absurd (nI_le (show T.1 ≤ a by omega) (by omega)) c⟩
    | succ f ih =>
      intro a M1 B1 p1 hf hal h1 x1 ri1 F1 er
      refine b_M_readBoard_62 ⟨tg_m, tg_m, ?_⟩
      rw [h1.2.1.1, x1.1]
      refine ⟨fun c => ?_, fun c => ⟨tg_m, ?_⟩⟩
      · have c := (nn_le (a := T.1) (n := a) (by omega) (by omega)).mp c
        refine hz1 M1 a B1 p1 ?_ h1 x1 F1 ri1
        rw [er]
        unfold rd_l
        rw [if_neg (by omega)]
      · have c : ¬ T.1 ≤ a := fun z => c ((nn_le (a := T.1) (n := a) (by omega) (by omega)).mpr z)
        have er2 : rd T D = kbind (rd_p T a B1 p1) (fun a q => rd_l T f a q.1 q.2) := by
          rw [er]
          show (if a < T.1 then _ else _) = _
          rw [if_pos (by omega)]
        refine c_M_readP h1 hT (by omega) x1 ri1 ⟨fun M2 a2 D2 e2 h2 k2 F2 s2 => jv_ri_i (rn0 ⟨tg_m, ?_⟩), fun M2 a2 B2 p2 e2 h2 x2 F2 ri2 l2 u2 => jv_ri_i (rn1 ?_)⟩
        · rw [e2, kb_n] at er2
          rw [s2]
          exact hz0 M2 a2 D2 er2 h2 k2 (F1.trans F2)
        · rw [e2, kb_s] at er2
          exact ih a2 M2 B2 p2 (by omega) u2 h2 x2 ri2 (F1.trans F2) er2
  have h3 : RM (jv_si (jv_si (jv_si M 647 11 0) 647 13 0) 647 16 0) T B p U K S e D := ((h.scr (SCR.si (by omega))).scr (SCR.si (by omega))).scr (SCR.si (by omega))
  have F3 : FRc M (jv_si (jv_si (jv_si M 647 11 0) 647 13 0) 647 16 0) := ((FRc.si (by omega)).trans (FRc.si (by omega))).trans (FRc.si (by omega))
  have y11 : (jv_si (jv_si (jv_si M 647 11 0) 647 13 0) 647 16 0).1 647 11 = nI 0 := by rw [si_k _ _ (by omega), si_k _ _ (by omega), si_at]; rfl
  have y13 : (jv_si (jv_si (jv_si M 647 11 0) 647 13 0) 647 16 0).1 647 13 = nI 0 := by rw [si_k _ _ (by omega), si_at]; rfl
  have y16 : (jv_si (jv_si (jv_si M 647 11 0) 647 13 0) 647 16 0).1 647 16 = nI 0 := by rw [si_at]; rfl
  refine jv_ct rfl (Nat.le_of_ble_eq_true rfl) (b_M_readBoard_0 ⟨tg_m, tg_m, tg_m, ?_⟩)
  generalize jv_si (jv_si (jv_si M 647 11 0) 647 13 0) 647 16 0 = M3 at h3 F3 y11 y13 y16 ⊢
  have l17 : ∀ f k M1, k + f = 165 → RM M1 T B p U K S e D → FRc M M1 → (∀ j, M1.1 647 j = M3.1 647 j) → (∀ j, j < k → M1.1 657 j = nI 0) → jv_J g (d + 8) mt_M_readBoard 17 [some (.ref 647), some (.int (nI k))] [] M1 668 0 0 Z := by
    intro f
    induction f with
    | zero =>
      intro k M1 hk h1 F1 w1 z1
      have hk : k = 165 := by omega
      subst hk
      obtain ⟨t1, t2⟩ := h1.2.1
      have q1 : M1.1 657 = p0 := by
        funext j
        by_cases hj : j < 165
        · exact z1 j hj
        · exact (h1.2.2.2.2.2.2.2.2.1 j (by omega)).1
      have er : rd T D = kbind (tk T 82 1 0) (fun a _ => rd_l T 150 a (B0 D) p0) := rfl
      have no : ¬ (0 < T.1 ∧ 82 ≤ nx (T.2 0) ∧ nx (T.2 0) < 82 + 1) → Z (some (.int (nI 0))) M1 668 := by
        intro c
        rw [tk_n c, kb_n] at er
        exact hz0 M1 0 D er h1 hD F1
      refine b_M_readBoard_17 ⟨fun _ => ⟨tg_m, ?_⟩, fun c => absurd (nI_le (Nat.le_refl 165) (by omega)) c⟩
      rw [t1]
      refine ⟨fun c => no ?_, fun c => ⟨tg_m, 648, (h1.1.1 1).trans mr_1, tg_648, by rw [sl_648]; exact vp_in_nI (n := 0) (by omega) (by omega), ?_⟩⟩
      · have c := (nn_eq (a := T.1) (n := 0) (by omega) (by omega)).mp c
        omega
      · have c : 0 < T.1 := Nat.pos_of_ne_zero (fun z => c (by rw [z]; rfl))
        obtain ⟨l, hl, el⟩ := hT.2 0 c
        have nl : nx (T.2 0) = l := by rw [el]; exact nx_n (by omega)
        rw [show M1.1 648 (Int32.toNatClampNeg 0) = nI l from (t2 0 c).trans el]
        refine ⟨fun cl => ⟨tg_m, ?_⟩, fun cl => no ?_⟩
        · have cl := (nn_eq (a := l) (n := 82) (by omega) (by omega)).mp cl
          have e1 : tk T 82 1 0 = (0 + 1, some 0) := tk_y c (by omega) (by omega)
          rw [e1, kb_s] at er
          refine l62 150 (0 + 1) _ (B0 D) p0 (by omega) (by omega) (h1.s3 _) ⟨si_at _ _ _ _, ?_, ?_, ?_, ?_⟩ (RI_0 hD) (F1.trans (FRc.si (by omega))) er
          · rw [si_k _ _ (by omega), w1]; exact y11
          · rw [si_k _ _ (by omega), w1]; exact y13
          · rw [si_k _ _ (by omega), w1]; exact y16
          · exact (funext fun j => si_b _ _ (by omega)).trans q1
        · have cl : l ≠ 82 := fun z => cl (by rw [z]; rfl)
          omega
    | succ f ih =>
      intro k M1 hk h1 F1 w1 z1
      refine b_M_readBoard_17 ⟨fun c => absurd ((nn_le (a := 165) (n := k) (by omega) (by omega)).mp c) (by omega), fun _ => ⟨tg_m, 657, (h1.1.1 18).trans mr_18, tg_657, by rw [sl_657]; exact vp_in_nI (by omega) (by omega), ?_⟩⟩
      rw [nI_clamp (by omega), show (nI k + 1 : Int32) = nI (k + 1) from nI_add k 1]
      refine ih (k + 1) _ (by omega) (h1.scr (SCR.s7 (by omega))) (F1.trans (FRc.si (by omega))) (fun j => (si_b _ _ (by omega)).trans (w1 j)) (fun j hj => ?_)
      by_cases hjk : j = k
      · subst hjk; rw [si_at]; rfl
      · rw [si_k _ _ hjk]; exact z1 j (by omega)
  exact l17 165 0 M3 rfl h3 F3 (fun _ => rfl) (fun j hj => absurd hj (Nat.not_lt_zero j))
theorem M_fault (h : RM M T B p U K S e D) (hT : TOK T) (hD : DOK D) (hz : ∀ M' D', RM M' T B p U K S e D' → DOK D' → FRc M M' → Z (some (.int (s_fault T D))) M' 668) : jv_Ct g (d + 9) mt_M_fault [.ref 647] M 668 0 0 Z := by
  unfold s_fault at hz
  have h3 := h.t0 0
  have F3 : FRc M (jv_si M 647 0 0) := FRc.si (by omega)
  refine jv_ct rfl (Nat.le_of_ble_eq_true rfl) (b_M_fault_0 ⟨tg_m, tg_m, ?_⟩)
  generalize jv_si M 647 0 0 = M3 at h3 F3 ⊢
  refine c_readBoard h3 hT hD (fun M1 a1 D1 e1 h1 k1 F1 => jv_ri_i ?_) (fun M1 a1 B1 p1 e1 h1 x1 F1 ri1 => jv_ri_i ?_)
  · rw [e1] at hz
    exact hz M1 D1 h1 k1 (F3.trans F1)
  · rw [e1] at hz
    exact hz M1 _ h1 ri1.dok (F3.trans F1)
/-- the rows that board copies -/
def CPI (M M' : jv_Mem) (i1 i2 i3 : Nat) : Prop := M'.2 = M.2 ∧ (∀ b, b ≠ 649 → b ≠ 650 → b ≠ 651 → b ≠ 652 → ∀ j, M'.1 b j = M.1 b j) ∧ (∀ k, M'.1 649 k = if k < i1 then M.1 653 k else M.1 649 k) ∧ (∀ k, M'.1 650 k = if k < i2 then M.1 654 k else M.1 650 k) ∧ (∀ k, M'.1 651 k = if k < i2 then M.1 655 k else M.1 651 k) ∧ ∀ k, M'.1 652 k = if k < i3 then M.1 656 k else M.1 652 k
theorem cpi_s {f h : Pg} {i : Nat} {x : Int32} {w w' : Pg} (e1 : ∀ k, w k = if k < i then f k else h k) (e2 : ∀ k, w' k = if k = i then x else w k) (ex : x = f i) : ∀ k, w' k = if k < i + 1 then f k else h k := by
  intro k
  rw [e2 k]
  by_cases hk : k = i
  · subst hk; rw [if_pos rfl, if_pos (by omega), ex]
  · rw [if_neg hk, e1 k]
    by_cases hl : k < i
    · rw [if_pos hl, if_pos (by omega)]
    · rw [if_neg hl, if_neg (by omega)]
theorem si_if (M : jv_Mem) (b k : Nat) (x : Int32) (j : Nat) : (jv_si M b k x).1 b j = if j = k then x else M.1 b j := by
  by_cases hj : j = k
  · subst hj; rw [si_at, if_pos rfl]
  · rw [si_k _ _ hj, if_neg hj]
theorem M_board (h : RM M T B p U K S e D) (hp : PZ p) (hT : TOK T) (hD : DOK D) (hz : ∀ M' D', RM M' T (s_board T D B p U K).2.1 (s_board T D B p U K).2.2.1 (s_board T D B p U K).2.2.2.1 (s_board T D B p U K).2.2.2.2 S e D' → DOK D' → FRc M M' → Z (some (.int (s_board T D B p U K).1)) M' 668) : jv_Ct g (d + 9) mt_M_board [.ref 647] M 668 0 0 Z := by
  unfold s_board at hz
  have h3 := h.t0 0
  have F3 : FRc M (jv_si M 647 0 0) := FRc.si (by omega)
  refine jv_ct rfl (Nat.le_of_ble_eq_true rfl) (b_M_board_0 ⟨tg_m, tg_m, ?_⟩)
  generalize jv_si M 647 0 0 = M3 at h3 F3 ⊢
  refine c_readBoard h3 hT hD (fun M1 a1 D1 e1 h1 k1 F1 => jv_ri_i ⟨fun c => ?_, fun _ => ?_⟩) (fun M1 a1 B1 p1 e1 h1 x1 F1 ri1 => jv_ri_i ⟨fun _ => ?_, fun c => absurd rfl c⟩)
  · have := rd_le T D
    rw [e1] at this
    have hT1 := hT.1
    have : a1 ≤ 150 := by
      have : a1 ≤ T.1 := this
      omega
    exact absurd c ((by decide : ∀ n, n < 151 → nI n ≠ -9) a1 (by omega))
  · rw [e1] at hz
    exact hz M1 D1 h1 k1 (F3.trans F1)
  · rw [e1] at hz
    have hz : ∀ M' D', RM M' T (mrg B B1) p1 (0, U.2) (fun _ => false, K.2) S e D' → DOK D' → FRc M M' → Z (some (.int (nI (bd_nh B1)))) M' 668 := hz
    refine ⟨tg_m, 658, (h1.1.1 19).trans mr_19, tg_m, 657, (h1.1.1 18).trans mr_18, c_lay0 tg_658 sl_658 tg_657 sl_657 (by omega) (jv_rv_i ?_)⟩
    have elay : (fun j => if j < 165 then M1.1 657 j else M1.1 658 j) = p1 := by
      funext j
      by_cases hj : j < 165
      · rw [if_pos hj, x1.2.2.2.2]
      · rw [if_neg hj, h1.2.2.1 j, hp j (by omega), ri1.2.2.1 j (by omega)]
    rw [elay]
    have h2 : RM (jv_pg M1 658 p1) T B p1 U K S e (DB B1) := h1.p658
    have F2 : FRc M1 (jv_pg M1 658 p1) := FRc.pg (by omega)
    have y : ∀ k, (jv_pg M1 658 p1).1 647 k = M1.1 647 k := fun k => pg_ne _ _ _ (by omega)
    have y11 := (y 11).trans x1.2.1
    have y13 := (y 13).trans x1.2.2.1
    have y16 := (y 16).trans x1.2.2.2.1
    generalize jv_pg M1 658 p1 = M2 at h2 F2 y y11 y13 y16 ⊢
    refine ⟨tg_m, tg_m, tg_m, tg_m, tg_m, tg_m, ?_⟩
    rw [y11, si_k _ _ (by omega), y13, si_k _ _ (by omega), si_k _ _ (by omega), y16]
    obtain ⟨M4, eM4⟩ : ∃ M4, M4 = jv_si (jv_si (jv_si M2 647 4 (nI (bd_nc B1))) 647 6 (nI (bd_nh B1))) 647 9 (nI (bd_nt B1)) := ⟨_, rfl⟩
    rw [← eM4]
    have r4 : ∀ k, M4.2.1 647 k = mref k := fun k => by rw [eM4]; exact h2.1.1 k
    have n4 : ∀ b, b ≠ 647 → ∀ j, M4.1 b j = M2.1 b j := fun b hb j => by rw [eM4, si_b _ _ hb, si_b _ _ hb, si_b _ _ hb]
    have v4 : M4.1 647 4 = nI (bd_nc B1) := by rw [eM4, si_k _ _ (by omega), si_k _ _ (by omega), si_at]
    have v6 : M4.1 647 6 = nI (bd_nh B1) := by rw [eM4, si_k _ _ (by omega), si_at]
    have v9 : M4.1 647 9 = nI (bd_nt B1) := by rw [eM4, si_at]
    have vo : ∀ k, k ≠ 4 → k ≠ 6 → k ≠ 9 → M4.1 647 k = M2.1 647 k := fun k k1 k2 k3 => by rw [eM4, si_k _ _ k3, si_k _ _ k2, si_k _ _ k1]
    have em4 : M4.2 = M2.2 := by rw [eM4]; rfl
    -- the end
    have fin : ∀ M5, CPI M4 M5 16 4 6 → jv_J g (d + 9) mt_M_board 117 [some (.ref 647), some (.int (nI 6))] [] M5 668 0 0 Z := by
      intro M5 C
      obtain ⟨cr, cn, c49, c50, c51, c52⟩ := C
      have r5 : ∀ k, M5.2.1 647 k = mref k := fun k => by rw [cr]; exact r4 k
      refine b_M_board_117 ⟨fun _ => ⟨tg_m, tg_m, 663, (r5 25).trans mr_25, tg_663, by rw [sl_663]; exact vp_in_nI (n := 0) (by omega) (by omega), tg_m, 663, (r5 25).trans mr_25, tg_663, by rw [sl_663]; exact vp_in_nI (n := 1) (by omega) (by omega), tg_m, ?_⟩, fun c => absurd (nI_le (Nat.le_refl 6) (by omega)) c⟩
      obtain ⟨M6, eM6⟩ : ∃ M6, M6 = jv_si (jv_si (jv_si M5 647 23 0) 663 (Int32.toNatClampNeg 0) 0) 663 (Int32.toNatClampNeg 1) 0 := ⟨_, rfl⟩
      rw [← eM6]
      rw [show Int32.toNatClampNeg 0 = 0 from rfl, show Int32.toNatClampNeg 1 = 1 from rfl] at eM6
      have n6 : ∀ b, b ≠ 647 → b ≠ 663 → ∀ j, M6.1 b j = M5.1 b j := fun b h1 h2 j => by rw [eM6, si_b _ _ h2, si_b _ _ h2, si_b _ _ h1]
      have m6 : ∀ k, k ≠ 23 → M6.1 647 k = M4.1 647 k := fun k hk => by rw [eM6, si_b _ _ (by omega), si_b _ _ (by omega), si_k _ _ hk, cn 647 (by omega) (by omega) (by omega) (by omega)]
      have m23 : M6.1 647 23 = nI 0 := by rw [eM6, si_b _ _ (by omega), si_b _ _ (by omega), si_at]; rfl
      have em6 : M6.2 = M2.2 := by rw [eM6]; exact cr.trans em4
      have k6 : ∀ i, i < 2 → M6.1 663 i = nI 0 := fun i hi => by
        rcases (by omega : i = 0 ∨ i = 1) with rfl | rfl
        · rw [eM6, si_k _ _ (by omega), si_at]; rfl
        · rw [eM6, si_at]; rfl
      have o6 : ∀ b, b ≠ 647 → b ≠ 649 → b ≠ 650 → b ≠ 651 → b ≠ 652 → b ≠ 663 → ∀ j, M6.1 b j = M2.1 b j := fun b h0 h1 h2 h3 h4 h5 j => by rw [n6 b h0 h5, cn b h1 h2 h3 h4, n4 b h0]
      obtain ⟨⟨a0, a1, a2, a3, a4, a5, a6, a7, a8⟩, ⟨t1, t2⟩, pg, ⟨u1, u2⟩, k1, k2, ⟨s1, s2⟩, ee1, z, d1, d2, d3, d4⟩ := h2
      have f6 : M6.1 647 6 = nI (bd_nh B1) := (m6 6 (by omega)).trans v6
      rw [f6]
      refine hz M6 (DB B1) ⟨⟨fun k => by rw [em6]; exact a0 k, (m6 4 (by omega)).trans v4, f6, (m6 9 (by omega)).trans v9, ((m6 32 (by omega)).trans (vo 32 (by omega) (by omega) (by omega))).trans a4, fun k => ?_, fun k => ?_, fun k => ?_, fun k => ?_⟩, ⟨((m6 2 (by omega)).trans (vo 2 (by omega) (by omega) (by omega))).trans t1, fun i hi => (o6 648 (by omega) (by omega) (by omega) (by omega) (by omega) (by omega) i).trans (t2 i hi)⟩, fun j => (o6 658 (by omega) (by omega) (by omega) (by omega) (by omega) (by omega) j).trans (pg j), ⟨m23, fun i k hi _ => absurd hi (Nat.not_lt_zero i)⟩, fun i hi => ?_, fun i k hi hq _ => absurd hq Bool.false_ne_true, ⟨((m6 26 (by omega)).trans (vo 26 (by omega) (by omega) (by omega))).trans s1, fun i hi => ⟨(o6 664 (by omega) (by omega) (by omega) (by omega) (by omega) (by omega) i).trans (s2 i hi).1, (o6 665 (by omega) (by omega) (by omega) (by omega) (by omega) (by omega) i).trans (s2 i hi).2.1, (o6 666 (by omega) (by omega) (by omega) (by omega) (by omega) (by omega) i).trans (s2 i hi).2.2⟩⟩, by rw [em6]; exact ee1, fun j hj => ⟨(o6 657 (by omega) (by omega) (by omega) (by omega) (by omega) (by omega) j).trans (z j hj).1, (o6 659 (by omega) (by omega) (by omega) (by omega) (by omega) (by omega) j).trans (z j hj).2.1, (o6 660 (by omega) (by omega) (by omega) (by omega) (by omega) (by omega) j).trans (z j hj).2.2⟩, fun k => (o6 653 (by omega) (by omega) (by omega) (by omega) (by omega) (by omega) k).trans (d1 k), fun k => (o6 654 (by omega) (by omega) (by omega) (by omega) (by omega) (by omega) k).trans (d2 k), fun k => (o6 655 (by omega) (by omega) (by omega) (by omega) (by omega) (by omega) k).trans (d3 k), fun k => (o6 656 (by omega) (by omega) (by omega) (by omega) (by omega) (by omega) k).trans (d4 k)⟩ ri1.dok ?_
      · rw [n6 649 (by omega) (by omega), c49, n4 653 (by omega), n4 649 (by omega), d1, a5]
        show _ = nI (if k < 16 then bd_code B1 k else bd_code B k)
        split <;> rfl
      · rw [n6 650 (by omega) (by omega), c50, n4 654 (by omega), n4 650 (by omega), d2, a6]
        rfl
      · rw [n6 651 (by omega) (by omega), c51, n4 655 (by omega), n4 651 (by omega), d3, a7]
        rfl
      · rw [n6 652 (by omega) (by omega), c52, n4 656 (by omega), n4 652 (by omega), d4, a8]
        show _ = nI (if k < 6 then bd_whose B1 k else bd_whose B k)
        split <;> rfl
      · rw [k6 i hi]
        rfl
      · refine ((F3.trans F1).trans F2).trans (fun b hb => ⟨fun j => o6 b (by omega) (by omega) (by omega) (by omega) (by omega) (by omega) j, fun j => by rw [em6], by rw [em6]⟩)
    have l117 : ∀ f i M5, i + f = 6 → CPI M4 M5 16 4 i → jv_J g (d + 9) mt_M_board 117 [some (.ref 647), some (.int (nI i))] [] M5 668 0 0 Z := by
      intro f
      induction f with
      | zero =>
        intro i M5 hi C
        have hi : i = 6 := by omega
        subst hi
        exact fin M5 C
      | succ f ih =>
        intro i M5 hi C
        obtain ⟨cr, cn, c49, c50, c51, c52⟩ := C
        have r5 : ∀ k, M5.2.1 647 k = mref k := fun k => by rw [cr]; exact r4 k
        refine b_M_board_117 ⟨fun c => absurd ((nn_le (a := 6) (n := i) (by omega) (by omega)).mp c) (by omega), fun _ => ⟨tg_m, 652, (r5 10).trans mr_10, tg_m, 656, (r5 17).trans mr_17, tg_656, by rw [sl_656]; exact vp_in_nI (by omega) (by omega), tg_652, by rw [sl_652]; exact vp_in_nI (by omega) (by omega), ?_⟩⟩
        rw [nI_clamp (by omega), show (nI i + 1 : Int32) = nI (i + 1) from nI_add i 1, cn 656 (by omega) (by omega) (by omega) (by omega)]
        exact ih (i + 1) _ (by omega) ⟨cr, fun b b1 b2 b3 b4 j => (si_b _ _ b4).trans (cn b b1 b2 b3 b4 j), fun k => (si_b _ _ (by omega)).trans (c49 k), fun k => (si_b _ _ (by omega)).trans (c50 k), fun k => (si_b _ _ (by omega)).trans (c51 k), cpi_s (f := M4.1 656) (h := M4.1 652) (w := M5.1 652) c52 (si_if _ _ _ _) rfl⟩
    have l80 : ∀ f i M5, i + f = 4 → CPI M4 M5 16 i 0 → jv_J g (d + 9) mt_M_board 80 [some (.ref 647), some (.int (nI i))] [] M5 668 0 0 Z := by
      intro f
      induction f with
      | zero =>
        intro i M5 hi C
        have hi : i = 4 := by omega
        subst hi
        exact b_M_board_80 ⟨fun _ => l117 6 0 M5 rfl C, fun c => absurd (nI_le (Nat.le_refl 4) (by omega)) c⟩
      | succ f ih =>
        intro i M5 hi C
        obtain ⟨cr, cn, c49, c50, c51, c52⟩ := C
        have r5 : ∀ k, M5.2.1 647 k = mref k := fun k => by rw [cr]; exact r4 k
        refine b_M_board_80 ⟨fun c => absurd ((nn_le (a := 4) (n := i) (by omega) (by omega)).mp c) (by omega), fun _ => ⟨tg_m, 650, (r5 7).trans mr_7, tg_m, 654, (r5 14).trans mr_14, tg_654, by rw [sl_654]; exact vp_in_nI (by omega) (by omega), tg_650, by rw [sl_650]; exact vp_in_nI (by omega) (by omega), tg_m, 651, (r5 8).trans mr_8, tg_m, 655, (r5 15).trans mr_15, tg_655, by rw [sl_655]; exact vp_in_nI (by omega) (by omega), tg_651, by rw [sl_651]; exact vp_in_nI (by omega) (by omega), ?_⟩⟩
        rw [nI_clamp (by omega), show (nI i + 1 : Int32) = nI (i + 1) from nI_add i 1, si_b _ _ (by omega), cn 654 (by omega) (by omega) (by omega) (by omega), cn 655 (by omega) (by omega) (by omega) (by omega)]
        refine ih (i + 1) _ (by omega) ⟨cr, fun b b1 b2 b3 b4 j => ((si_b _ _ b3).trans (si_b _ _ b2)).trans (cn b b1 b2 b3 b4 j), fun k => ((si_b _ _ (by omega)).trans (si_b _ _ (by omega))).trans (c49 k), fun k => ?_, fun k => ?_, fun k => ((si_b _ _ (by omega)).trans (si_b _ _ (by omega))).trans (c52 k)⟩
        · exact (si_b _ _ (by omega)).trans (cpi_s (f := M4.1 654) (h := M4.1 650) (w := M5.1 650) (w' := (jv_si M5 650 i (M4.1 654 i)).1 650) c50 (si_if _ _ _ _) rfl k)
        · exact cpi_s (f := M4.1 655) (h := M4.1 651) (w := (jv_si M5 650 i (M4.1 654 i)).1 651) (fun j => (si_b _ _ (by omega)).trans (c51 j)) (si_if _ _ _ _) rfl k
    have l54 : ∀ f i M5, i + f = 16 → CPI M4 M5 i 0 0 → jv_J g (d + 9) mt_M_board 54 [some (.ref 647), some (.int (nI i))] [] M5 668 0 0 Z := by
      intro f
      induction f with
      | zero =>
        intro i M5 hi C
        have hi : i = 16 := by omega
        subst hi
        exact b_M_board_54 ⟨fun _ => l80 4 0 M5 rfl C, fun c => absurd (nI_le (Nat.le_refl 16) (by omega)) c⟩
      | succ f ih =>
        intro i M5 hi C
        obtain ⟨cr, cn, c49, c50, c51, c52⟩ := C
        have r5 : ∀ k, M5.2.1 647 k = mref k := fun k => by rw [cr]; exact r4 k
        refine b_M_board_54 ⟨fun c => absurd ((nn_le (a := 16) (n := i) (by omega) (by omega)).mp c) (by omega), fun _ => ⟨tg_m, 649, (r5 5).trans mr_5, tg_m, 653, (r5 12).trans mr_12, tg_653, by rw [sl_653]; exact vp_in_nI (by omega) (by omega), tg_649, by rw [sl_649]; exact vp_in_nI (by omega) (by omega), ?_⟩⟩
        rw [nI_clamp (by omega), show (nI i + 1 : Int32) = nI (i + 1) from nI_add i 1, cn 653 (by omega) (by omega) (by omega) (by omega)]
        exact ih (i + 1) _ (by omega) ⟨cr, fun b b1 b2 b3 b4 j => (si_b _ _ b1).trans (cn b b1 b2 b3 b4 j), cpi_s (f := M4.1 653) (h := M4.1 649) (w := M5.1 649) c49 (si_if _ _ _ _) rfl, fun k => (si_b _ _ (by omega)).trans (c50 k), fun k => (si_b _ _ (by omega)).trans (c51 k), fun k => (si_b _ _ (by omega)).trans (c52 k)⟩
    exact l54 16 0 M4 rfl ⟨rfl, fun _ _ _ _ _ _ => rfl, fun k => by rw [if_neg (Nat.not_lt_zero k)], fun k => by rw [if_neg (Nat.not_lt_zero k)], fun k => by rw [if_neg (Nat.not_lt_zero k)], fun k => by rw [if_neg (Nat.not_lt_zero k)]⟩
end MR
