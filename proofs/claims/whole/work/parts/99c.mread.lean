/-! ===== the reference reads a text ===== -/
def DB (B : Bd) : Dt := (bd_code B, bd_first B, bd_group B, bd_whose B)
/-- what was read so far, as the reference has it -/
def RX (M : jv_Mem) (a : Nat) (B : Bd) (p : Pg) : Prop := M.1 647 3 = nI a ∧ M.1 647 11 = nI (bd_nc B) ∧ M.1 647 13 = nI (bd_nh B) ∧ M.1 647 16 = nI (bd_nt B) ∧ M.1 657 = p
theorem RI.dok {B : Bd} {p : Pg} (h : RI B p) : DOK (DB B) := ⟨h.1.1.2.2.2.2, h.1.2.2.1, h.1.2.2.2.1, h.1.1.2.2.2.1⟩
section MR
variable {g : jv_G} {d : Nat} {M M' : jv_Mem} {Z : Option Value → jv_Mem → Nat → Prop} {N : Nat} {T T' : Tt} {B B' : Bd} {p p' q : Pg} {U U' : Ut} {K K' : Kt} {S S' : St} {e e' : Int64} {D D' : Dt}
theorem RM.dd (h : RM M T B p U K S e D) (hr : M'.2 = M.2) (n : ∀ b, b ≠ 653 → b ≠ 654 → b ≠ 655 → b ≠ 656 → ∀ j, M'.1 b j = M.1 b j) (h1 : ∀ k, M'.1 653 k = nI (D'.1 k)) (h2 : ∀ k, M'.1 654 k = D'.2.1 k) (h3 : ∀ k, M'.1 655 k = D'.2.2.1 k) (h4 : ∀ k, M'.1 656 k = nI (D'.2.2.2 k)) : RM M' T B p U K S e D' := by
  obtain ⟨⟨a0, a1, a2, a3, a4, a5, a6, a7, a8⟩, ⟨t1, t2⟩, pg, ⟨u1, u2⟩, k1, k2, ⟨s1, s2⟩, e1, z, d1, d2, d3, d4⟩ := h
  have n47 := n 647 (by omega) (by omega) (by omega) (by omega)
  have n48 := n 648 (by omega) (by omega) (by omega) (by omega)
  have n49 := n 649 (by omega) (by omega) (by omega) (by omega)
  have n50 := n 650 (by omega) (by omega) (by omega) (by omega)
  have n51 := n 651 (by omega) (by omega) (by omega) (by omega)
  have n52 := n 652 (by omega) (by omega) (by omega) (by omega)
  have n57 := n 657 (by omega) (by omega) (by omega) (by omega)
  have n58 := n 658 (by omega) (by omega) (by omega) (by omega)
  have n59 := n 659 (by omega) (by omega) (by omega) (by omega)
  have n60 := n 660 (by omega) (by omega) (by omega) (by omega)
  have n61 := n 661 (by omega) (by omega) (by omega) (by omega)
  have n62 := n 662 (by omega) (by omega) (by omega) (by omega)
  have n63 := n 663 (by omega) (by omega) (by omega) (by omega)
  have n64 := n 664 (by omega) (by omega) (by omega) (by omega)
  have n65 := n 665 (by omega) (by omega) (by omega) (by omega)
  have n66 := n 666 (by omega) (by omega) (by omega) (by omega)
  exact ⟨⟨fun k => by rw [hr]; exact a0 k, (n47 4).trans a1, (n47 6).trans a2, (n47 9).trans a3, (n47 32).trans a4, fun k => (n49 k).trans (a5 k), fun k => (n50 k).trans (a6 k), fun k => (n51 k).trans (a7 k), fun k => (n52 k).trans (a8 k)⟩, ⟨(n47 2).trans t1, fun i hi => (n48 i).trans (t2 i hi)⟩, fun j => (n58 j).trans (pg j), ⟨(n47 23).trans u1, fun i k hi hk => (n61 _).trans (u2 i k hi hk)⟩, fun i hi => (n63 i).trans (k1 i hi), fun i k hi hq hk => (n62 _).trans (k2 i k hi hq hk), ⟨(n47 26).trans s1, fun i hi => ⟨(n64 i).trans (s2 i hi).1, (n65 i).trans (s2 i hi).2.1, (n66 i).trans (s2 i hi).2.2⟩⟩, by rw [hr]; exact e1, fun j hj => ⟨(n57 j).trans (z j hj).1, (n59 j).trans (z j hj).2.1, (n60 j).trans (z j hj).2.2⟩, h1, h2, h3, h4⟩
theorem RM.d653 (h : RM M T B p U K S e D) (k u : Nat) : RM (jv_si M 653 k (nI u)) T B p U K S e (nu D.1 k u, D.2) := by
  obtain ⟨d1, d2, d3, d4⟩ := h.2.2.2.2.2.2.2.2.2
  refine h.dd rfl (fun b hb _ _ _ j => si_b _ _ hb) (fun j => ?_) (fun j => (si_b _ _ (by omega)).trans (d2 j)) (fun j => (si_b _ _ (by omega)).trans (d3 j)) (fun j => (si_b _ _ (by omega)).trans (d4 j))
  show _ = nI (if j = k then u else D.1 j)
  by_cases hj : j = k
  · subst hj; rw [si_at, if_pos rfl]
  · rw [si_k _ _ hj, if_neg hj]; exact d1 j
theorem RM.d654 (h : RM M T B p U K S e D) (k : Nat) (x : Int32) : RM (jv_si M 654 k x) T B p U K S e (D.1, pu D.2.1 k x, D.2.2) := by
  obtain ⟨d1, d2, d3, d4⟩ := h.2.2.2.2.2.2.2.2.2
  refine h.dd rfl (fun b _ hb _ _ j => si_b _ _ hb) (fun j => (si_b _ _ (by omega)).trans (d1 j)) (fun j => ?_) (fun j => (si_b _ _ (by omega)).trans (d3 j)) (fun j => (si_b _ _ (by omega)).trans (d4 j))
  show _ = (if j = k then x else D.2.1 j)
  by_cases hj : j = k
  · subst hj; rw [si_at, if_pos rfl]
  · rw [si_k _ _ hj, if_neg hj]; exact d2 j
theorem RM.d655 (h : RM M T B p U K S e D) (k : Nat) (x : Int32) : RM (jv_si M 655 k x) T B p U K S e (D.1, D.2.1, pu D.2.2.1 k x, D.2.2.2) := by
  obtain ⟨d1, d2, d3, d4⟩ := h.2.2.2.2.2.2.2.2.2
  refine h.dd rfl (fun b _ _ hb _ j => si_b _ _ hb) (fun j => (si_b _ _ (by omega)).trans (d1 j)) (fun j => (si_b _ _ (by omega)).trans (d2 j)) (fun j => ?_) (fun j => (si_b _ _ (by omega)).trans (d4 j))
  show _ = (if j = k then x else D.2.2.1 j)
  by_cases hj : j = k
  · subst hj; rw [si_at, if_pos rfl]
  · rw [si_k _ _ hj, if_neg hj]; exact d3 j
theorem RM.d656 (h : RM M T B p U K S e D) (k u : Nat) : RM (jv_si M 656 k (nI u)) T B p U K S e (D.1, D.2.1, D.2.2.1, nu D.2.2.2 k u) := by
  obtain ⟨d1, d2, d3, d4⟩ := h.2.2.2.2.2.2.2.2.2
  refine h.dd rfl (fun b _ _ _ hb j => si_b _ _ hb) (fun j => (si_b _ _ (by omega)).trans (d1 j)) (fun j => (si_b _ _ (by omega)).trans (d2 j)) (fun j => (si_b _ _ (by omega)).trans (d3 j)) (fun j => ?_)
  show _ = nI (if j = k then u else D.2.2.2 j)
  by_cases hj : j = k
  · subst hj; rw [si_at, if_pos rfl]
  · rw [si_k _ _ hj, if_neg hj]; exact d4 j
theorem SCR.s7 {k : Nat} {x : Int32} (hk : k < 165) : SCR M (jv_si M 657 k x) := by
  rw [si_as]
  exact SCR.pg (by omega) (fun j hj => pu_n _ _ (by omega))
theorem s7_at (M : jv_Mem) (k : Nat) (x : Int32) : (jv_si M 657 k x).1 657 = pu (M.1 657) k x := by
  funext j
  rw [si_as, pg_at]
theorem c_isNext (h : RM M T B p U K S e D) (hT : TOK T) {a base least most lo n : Nat} (e3 : M.1 647 3 = nI a) (ha : a < 1000) (hb : base < 1000) (hlm : least ≤ most) (hm : most < 1000) (elo : base + least = lo) (en : most + 1 - least = n) (hy : ∀ v, v < n → a < T.1 → nx (T.2 a) = lo + v → tk T lo n a = (a + 1, some v) → Z (some (.int (nI 1))) (jv_si M 647 3 (nI (a + 1))) 668) (hno : tk T lo n a = (a, none) → Z (some (.int (nI 0))) M 668) : jv_Ct g (d + 1) mt_M_isNext [.ref 647, .int (nI base), .int (nI least), .int (nI most)] M 668 0 0 Z := by
  subst elo en
  obtain ⟨t1, t2⟩ := h.2.1
  have hT1 := hT.1
  have r := h.1.1
  have s0 : jv_si M 647 3 (nI a + 0) = M := si_self M (by rw [e3]; exact (Int32.add_zero _).symm)
  refine jv_ct rfl (Nat.le_of_ble_eq_true rfl) (b_M_isNext_0 ⟨tg_m, tg_m, ?_⟩)
  rw [t1, e3, s0]
  refine ⟨fun c => ⟨tg_m, tg_m, ?_⟩, fun c => ⟨tg_m, 648, (r 1).trans mr_1, tg_m, tg_648, ?_, ?_⟩⟩
  · have c := (nn_le (a := T.1) (n := a) (by omega) (by omega)).mp c
    exact hno (tk_n (by omega))
  · have c : ¬ T.1 ≤ a := fun z => c ((nn_le (a := T.1) (n := a) (by omega) (by omega)).mpr z)
    rw [sl_648]; exact vp_in_nI (by omega) (by omega)
  · have c : ¬ T.1 ≤ a := fun z => c ((nn_le (a := T.1) (n := a) (by omega) (by omega)).mpr z)
    obtain ⟨l, hl, el⟩ := hT.2 a (by omega)
    have nl : nx (T.2 a) = l := by rw [el]; exact nx_n (by omega)
    rw [nI_clamp (by omega), t2 a (by omega), el]
    have hs : (nI l - nI base).toInt = (l : Int) - base := pk_sub_toInt (by omega) (by omega)
    refine c_in0 (fun c2 => jv_ri_i (re1 ⟨tg_m, tg_m, ?_⟩)) (fun c2 => jv_ri_i (re0 ⟨tg_m, tg_m, ?_⟩))
    · rw [Int32.toInt_toInt64, Int32.toInt_toInt64, Int32.toInt_toInt64, hs, nI_toInt (by omega), nI_toInt (by omega)] at c2
      rw [e3, show (nI a + 1 : Int32) = nI (a + 1) from nI_add a 1]
      exact hy (l - (base + least)) (by omega) (by omega) (by omega) (tk_y (by omega) (by omega) (by omega))
    · rw [Int32.toInt_toInt64, Int32.toInt_toInt64, Int32.toInt_toInt64, hs, nI_toInt (by omega), nI_toInt (by omega)] at c2
      rw [e3, s0]
      exact hno (tk_n (by omega))
theorem c_taken (h : RM M T B p U K S e D) (hT : TOK T) {a base c : Nat} (e3 : M.1 647 3 = nI (a + 1)) (ha : a < T.1) (hc : nx (T.2 a) = base + c) (hz : Z (some (.int (nI c))) M 668) : jv_Ct g d mt_M_taken [.ref 647, .int (nI base)] M 668 0 0 Z := by
  obtain ⟨t1, t2⟩ := h.2.1
  have hT1 := hT.1
  have r := h.1.1
  obtain ⟨l, hl, el⟩ := hT.2 a ha
  have nl : nx (T.2 a) = l := by rw [el]; exact nx_n (by omega)
  refine jv_ct rfl (Nat.le_of_ble_eq_true rfl) (b_M_taken_0 ⟨tg_m, 648, (r 1).trans mr_1, tg_m, tg_648, ?_⟩)
  rw [e3, show (nI (a + 1) - 1 : Int32) = nI a from nI_pred a]
  refine ⟨by rw [sl_648]; exact vp_in_nI (by omega) (by omega), ?_⟩
  rw [nI_clamp (by omega), t2 a ha, el, pk_sub (by omega), show l - base = c by omega]
  exact hz
theorem c_kindOf {c : Nat} (hc : c < 256) (hz : Z (some (.int (nI (kd c)))) M N) : jv_Ct g d mt_M_kindOf [.int (nI c)] M N 0 0 Z := by
  refine jv_ct rfl (Nat.le_of_ble_eq_true rfl) (b_M_kindOf_0 ?_)
  simp (disch := omega) only [li, ne_eq, nn_eq]
  unfold kd at hz
  refine ⟨fun c1 => ?_, fun c1 => ?_, fun c1 => ?_, fun c1 => ?_, fun c1 => ?_, fun c1 => ?_, fun c1 => ?_, fun c1 => ?_, fun c1 => ?_⟩
  · rw [if_pos c1] at hz; exact hz
  · rw [if_neg (by omega), if_neg (by omega), if_neg (by omega), if_neg (by omega), if_neg (by omega), if_neg (by omega), if_neg (by omega), if_pos c1] at hz; exact hz
  · rw [if_neg (by omega), if_neg (by omega), if_pos c1] at hz; exact hz
  · rw [if_neg (by omega), if_pos c1] at hz; exact hz
  · rw [if_neg (by omega), if_neg (by omega), if_neg (by omega), if_neg (by omega), if_neg (by omega), if_pos c1] at hz; exact hz
  · rw [if_neg (by omega), if_neg (by omega), if_neg (by omega), if_pos c1] at hz; exact hz
  · rw [if_neg (by omega), if_neg (by omega), if_neg (by omega), if_neg (by omega), if_pos c1] at hz; exact hz
  · rw [if_neg (by omega), if_neg (by omega), if_neg (by omega), if_neg (by omega), if_neg (by omega), if_neg (by omega), if_pos c1] at hz; exact hz
  · rw [if_neg (by omega), if_neg (by omega), if_neg (by omega), if_neg (by omega), if_neg (by omega), if_neg (by omega), if_neg (by omega), if_neg (by omega)] at hz; exact hz
/-- what a part comes to -/
def MO (Z : Option Value → jv_Mem → Nat → Prop) (M : jv_Mem) (T : Tt) (B : Bd) (p : Pg) (U : Ut) (K : Kt) (S : St) (e : Int64) (a : Nat) (r : Nat × Option (Bd × Pg)) : Prop :=
  (∀ M' a' D', r = (a', none) → RM M' T B p U K S e D' → DOK D' → FRc M M' → M'.1 647 3 = nI a' → Z (some (.int (nI 0))) M' 668) ∧ ∀ M' a' B' p', r = (a', some (B', p')) → RM M' T B p U K S e (DB B') → RX M' a' B' p' → FRc M M' → RI B' p' → a < a' → a' ≤ T.1 → Z (some (.int (nI 1))) M' 668
theorem RX.s3 {a a' : Nat} (x : RX M a B' p') : RX (jv_si M 647 3 (nI a')) a' B' p' := by
  obtain ⟨x3, x11, x13, x16, x57⟩ := x
  exact ⟨si_at _ _ _ _, (si_k _ _ (by omega)).trans x11, (si_k _ _ (by omega)).trans x13, (si_k _ _ (by omega)).trans x16, (funext fun j => si_b _ _ (by omega)).trans x57⟩
theorem RM.s3 (h : RM M T B p U K S e D) (x : Int32) : RM (jv_si M 647 3 x) T B p U K S e D := h.scr (SCR.si (by omega))
theorem c_M_readI (h : RM M T B p U K S e (DB B')) (hT : TOK T) {a : Nat} (ha : a < T.1) (x : RX M a B' p') (ri : RI B' p') (hz : MO Z M T B p U K S e a (rd_i T a B' p')) : jv_Ct g (d + 6) mt_M_readInstruction [.ref 647] M 668 0 0 Z := by
  have hT1 := hT.1
  have n16 := ri.1.1.1
  refine jv_ct rfl (Nat.le_of_ble_eq_true rfl) (b_M_readInstruction_0 ⟨tg_m, ?_⟩)
  rw [x.2.1]
  refine ⟨fun c => ⟨tg_m, tg_m, tg_m, tg_m, ?_⟩, fun c => ?_⟩
  · have c : bd_nc B' ≠ 16 := fun z => c (by rw [z]; rfl)
    rw [x.1, show (nI a + 1 : Int32) = nI (a + 1) from nI_add a 1]
    have F1 : FRc M (jv_si M 647 3 (nI (a + 1))) := FRc.si (by omega)
    have x1 : RX (jv_si M 647 3 (nI (a + 1))) (a + 1) B' p' := x.s3
    have h1 : RM (jv_si M 647 3 (nI (a + 1))) T B p U K S e (DB B') := h.s3 _
    generalize jv_si M 647 3 (nI (a + 1)) = M1 at F1 x1 h1 ⊢
    obtain ⟨t1, t2⟩ := h1.2.1
    have r1 := h1.1.1
    have er : ∀ r, (kbind (tkd T (a + 1)) fun a k => kbind (if k < 7 then tk T 48 4 a else (a, some 0)) fun a f => kbind (if 0 < sec k then tk T (if k = 6 then 97 else 48) (sec k) a else (a, some 0)) fun a v => (a, some (B_i B' (1000 * k + 100 * f + v), p'))) = r → rd_i T a B' p' = r := by
      intro r hr
      unfold rd_i
      rw [if_neg (by omega)]
      exact hr
    have none0 : tkd T (a + 1) = (a + 1, none) → Z (some (.int (nI 0))) M1 668 := by
      intro e1
      rw [e1, kb_n] at er
      exact hz.1 M1 _ _ (er _ rfl) h1 ri.dok F1 x1.1
    rw [t1, x1.1]
    refine ⟨fun c1 => ?_, fun c1 => ⟨tg_m, 648, (r1 1).trans mr_1, tg_m, tg_648, ?_, ?_⟩⟩
    · have c1 := (nn_le (a := T.1) (n := a + 1) (by omega) (by omega)).mp c1
      refine b_M_readInstruction_48 ⟨fun z => absurd rfl z, fun _ => none0 ?_⟩
      unfold tkd
      rw [if_neg (by omega)]
    · have c1 : ¬ T.1 ≤ a + 1 := fun z => c1 ((nn_le (a := T.1) (n := a + 1) (by omega) (by omega)).mpr z)
      rw [sl_648]; exact vp_in_nI (by omega) (by omega)
    · have c1 : ¬ T.1 ≤ a + 1 := fun z => c1 ((nn_le (a := T.1) (n := a + 1) (by omega) (by omega)).mpr z)
      obtain ⟨l, hl, el⟩ := hT.2 (a + 1) (by omega)
      have nl : nx (T.2 (a + 1)) = l := by rw [el]; exact nx_n (by omega)
      have hk8 := kd_le l
      rw [nI_clamp (by omega), t2 (a + 1) (by omega), el]
      refine c_kindOf hl (jv_ri_i ?_)
      by_cases hk0 : kd l = 0
      · rw [hk0]
        refine b_M_readInstruction_48 ⟨fun z => absurd rfl z, fun _ => none0 ?_⟩
        unfold tkd
        rw [if_neg (fun z => z.2 (by rw [nl]; exact hk0))]
      · have e1 : tkd T (a + 1) = (a + 1 + 1, some (kd l)) := by
          unfold tkd
          rw [if_pos ⟨by omega, by rw [nl]; exact hk0⟩, nl]
        generalize kd l = k at hk8 hk0 e1 ⊢
        rw [e1, kb_s] at er
        have hs := sec_le k (by omega)
        -- the end
        have l187 : ∀ M4 a4 f v, RM M4 T B p U K S e (DB B') → RX M4 a4 B' p' → FRc M M4 → a < a4 → a4 ≤ T.1 → f < (if k < 7 then 4 else 1) → v < (if 0 < sec k then sec k else 1) → rd_i T a B' p' = (a4, some (B_i B' (1000 * k + 100 * f + v), p')) → jv_J g (d + 6) mt_M_readInstruction 187 [some (.ref 647), none, some (.int (nI (1000 * k + 100 * f + v)))] [] M4 668 0 0 Z := by
          intro M4 a4 f v h4 x4 F4 l4 u4 hf hv er4
          refine b_M_readInstruction_187 ⟨tg_m, 653, (h4.1.1 12).trans mr_12, tg_m, tg_653, ?_⟩
          rw [x4.2.1]
          refine ⟨by rw [sl_653]; exact vp_in_nI (by omega) (by omega), tg_m, tg_m, ?_⟩
          rw [nI_clamp (by omega), si_b _ _ (by omega), x4.2.1, show (nI (bd_nc B') + 1 : Int32) = nI (bd_nc B' + 1) from nI_add _ 1]
          have h5 := h4.d653 (bd_nc B') (1000 * k + 100 * f + v)
          refine hz.2 _ a4 _ _ er4 (h5.scr (SCR.si (by omega))) ⟨?_, si_at _ _ _ _, ?_, ?_, ?_⟩ ((F4.trans (FRc.si (by omega))).trans (FRc.si (by omega))) (RI_i ri (by omega) (by omega) hk8 hf hv) l4 u4
          · rw [si_k _ _ (by omega), si_b _ _ (by omega)]; exact x4.1
          · rw [si_k _ _ (by omega), si_b _ _ (by omega)]; exact x4.2.2.1
          · rw [si_k _ _ (by omega), si_b _ _ (by omega)]; exact x4.2.2.2.1
          · funext j; rw [si_b _ _ (by omega), si_b _ _ (by omega)]; exact congrFun x4.2.2.2.2 j
        -- the second number
        have l102 : ∀ M3 a3 f, RM M3 T B p U K S e (DB B') → RX M3 a3 B' p' → FRc M M3 → a < a3 → a3 ≤ T.1 → f < (if k < 7 then 4 else 1) → (∀ r, (kbind (if 0 < sec k then tk T (if k = 6 then 97 else 48) (sec k) a3 else (a3, some 0)) fun a v => (a, some (B_i B' (1000 * k + 100 * f + v), p'))) = r → rd_i T a B' p' = r) → jv_J g (d + 6) mt_M_readInstruction 102 [some (.ref 647), some (.int (nI k)), some (.int (nI (1000 * k + 100 * f)))] [] M3 668 0 0 Z := by
          intro M3 a3 f h3 x3 F3 l3 u3 hf er3
          have none2 : sec k = 0 → jv_J g (d + 6) mt_M_readInstruction 187 [some (.ref 647), none, some (.int (nI (1000 * k + 100 * f)))] [] M3 668 0 0 Z := by
            intro s0
            rw [if_neg (by omega), kb_s] at er3
            exact l187 M3 a3 f 0 h3 x3 F3 l3 u3 hf (by rw [if_neg (by omega)]; omega) (er3 _ rfl)
          have some2 : ∀ base most, base < 1000 → most < 1000 → 0 < sec k → (if k = 6 then 97 else 48) = base → most + 1 = sec k → jv_Tg 10 647 668 ∧ jv_Ct g (d + 5) mt_M_isNext [.ref 647, .int (nI base), .int (nI 0), .int (nI most)] M3 668 0 0 (fun v M21 N21 => jv_ri v (fun r20 => (r20 ≠ 0 → jv_Tg 10 647 N21 ∧ jv_Ct g (d + 5) mt_M_taken [.ref 647, .int (nI base)] M21 N21 0 0 (fun v M24 N24 => jv_ri v (fun r23 => jv_J g (d + 6) mt_M_readInstruction 187 [some (.ref 647), none, some (.int (nI (1000 * k + 100 * f) + r23))] [] M24 N24 0 0 Z))) ∧ (r20 = 0 → Z (some (.int 0)) M21 N21))) := by
            intro base most hb hm s0 eb em
            rw [eb, if_pos s0] at er3
            refine ⟨tg_m, c_isNext h3 hT x3.1 (by omega) hb (Nat.zero_le _) hm (Nat.add_zero base) (show most + 1 - 0 = sec k by omega) (fun v hv hlt ev e4 => jv_ri_i (rn1 ⟨tg_m, ?_⟩)) (fun e4 => jv_ri_i (rn0 ?_))⟩
            · rw [e4, kb_s] at er3
              refine c_taken (h3.s3 _) hT (si_at _ _ _ _) hlt ev (jv_ri_i ?_)
              rw [nI_add]
              exact l187 _ (a3 + 1) f v (h3.s3 _) x3.s3 (F3.trans (FRc.si (by omega))) (by omega) (by omega) hf (by rw [if_pos s0]; exact hv) (er3 _ rfl)
            · rw [e4, kb_n] at er3
              exact hz.1 M3 _ _ (er3 _ rfl) h3 ri.dok F3 x3.1
          refine b_M_readInstruction_102 ?_
          simp (disch := omega) only [li, ne_eq, nn_eq, nn_le]
          refine ⟨fun k6 => ⟨fun k7 => none2 ?_, fun k7 => ⟨fun k2 => none2 ?_, fun k2 => ⟨fun k1 => ⟨fun k3 => some2 48 7 (by omega) (by omega) ?_ (if_neg k6) ?_, fun k3 => some2 48 3 (by omega) (by omega) ?_ (if_neg k6) ?_⟩, fun k1 => some2 48 9 (by omega) (by omega) ?_ (if_neg k6) ?_⟩⟩⟩, fun k6 => some2 97 15 (by omega) (by omega) ?_ (if_pos k6) ?_⟩
          · rcases (by omega : k = 7 ∨ k = 8) with rfl | rfl <;> rfl
          · subst k2; rfl
          · rcases (by omega : k = 4 ∨ k = 5) with rfl | rfl <;> decide
          · rcases (by omega : k = 4 ∨ k = 5) with rfl | rfl <;> rfl
          · subst k3; decide
          · subst k3; rfl
          · subst k1; decide
          · subst k1; rfl
          · subst k6; decide
          · subst k6; rfl
        have F2 : FRc M1 (jv_si M1 647 3 (nI (a + 1 + 1))) := FRc.si (by omega)
        have x2 : RX (jv_si M1 647 3 (nI (a + 1 + 1))) (a + 1 + 1) B' p' := x1.s3
        have h2 : RM (jv_si M1 647 3 (nI (a + 1 + 1))) T B p U K S e (DB B') := h1.s3 _
        refine b_M_readInstruction_48 ⟨fun _ => ⟨tg_m, tg_m, ?_⟩, fun z => absurd ((nn_eq (a := k) (n := 0) (by omega) (by omega)).mp z) hk0⟩
        rw [x1.1, show (nI (a + 1) + 1 : Int32) = nI (a + 1 + 1) from nI_add _ 1, show (1000 * nI k : Int32) = nI (1000 * k) from pk_mul 1000 k]
        generalize jv_si M1 647 3 (nI (a + 1 + 1)) = M2 at F2 x2 h2 ⊢
        refine ⟨fun k7 => ?_, fun k7 => ⟨tg_m, ?_⟩⟩
        · have k7 := (nn_le (a := 7) (n := k) (by omega) (by omega)).mp k7
          rw [if_neg (by omega), kb_s] at er
          exact l102 M2 (a + 1 + 1) 0 h2 x2 (F1.trans F2) (by omega) (by omega) (by rw [if_neg (by omega)]; omega) er
        · have k7 : k < 7 := by
            have : ¬ 7 ≤ k := fun z => k7 ((nn_le (a := 7) (n := k) (by omega) (by omega)).mpr z)
            omega
          rw [if_pos k7] at er
          refine c_isNext (base := 48) (least := 0) (most := 3) h2 hT x2.1 (by omega) (by omega) (by omega) (by omega) rfl rfl (fun f hf hlt ev e2 => jv_ri_i (rn1 ⟨tg_m, ?_⟩)) (fun e2 => jv_ri_i (rn0 ?_))
          · rw [e2, kb_s] at er
            refine c_taken (base := 48) (h2.s3 _) hT (si_at _ _ _ _) hlt ev (jv_ri_i ?_)
            rw [show (100 * nI f : Int32) = nI (100 * f) from pk_mul 100 f, nI_add]
            exact l102 _ (a + 1 + 1 + 1) f (h2.s3 _) x2.s3 ((F1.trans F2).trans (FRc.si (by omega))) (by omega) (by omega) (by rw [if_pos k7]; exact hf) er
          · rw [e2, kb_n] at er
            exact hz.1 M2 _ _ (er _ rfl) h2 ri.dok (F1.trans F2) x2.1
  · have c : bd_nc B' = 16 := (nn_eq (a := bd_nc B') (n := 16) (by omega) (by omega)).mp c
    refine hz.1 M a _ ?_ h ri.dok FRc.rf x.1
    unfold rd_i
    rw [if_pos c]
end MR
