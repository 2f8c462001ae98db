/-! ===== what both sides tell goes on holding together ===== -/
def PGK (B : Bd) (p : Pg) : Prop := POA B 8 p ∧ PZ p
section IVL
variable {T : Tt} {B : Bd} {p p' : Pg} {U : Ut} {K : Kt} {S : St} {D D' : Dt}
theorem iv_act {a : Ac} (iv : IV T B p U K S D) (h : (a.2.1 = U ∧ a.2.2 = p) ∨ (a.2.1 = U_note U p ∧ PGK B a.2.2)) : IV T B a.2.2 a.2.1 K S D := by
  obtain ⟨hB, ⟨P8, hp⟩, hT, ⟨hU, hu⟩, hk, hS, hD⟩ := iv
  rcases h with ⟨e1, e2⟩ | ⟨e1, e2⟩
  · rw [e1, e2]; exact ⟨hB, ⟨P8, hp⟩, hT, ⟨hU, hu⟩, hk, hS, hD⟩
  · rw [e1]
    refine ⟨hB, e2, hT, ?_, hk, hS, hD⟩
    unfold U_note
    by_cases h14 : U.1 = 14
    · rw [if_pos h14]
      refine ⟨Nat.le_refl 14, fun i hi => ?_⟩
      show POA B 8 (if i < 13 then U.2 (i + 1) else p) ∧ PZ (if i < 13 then U.2 (i + 1) else p)
      by_cases hi13 : i < 13
      · rw [if_pos hi13]; exact hu (i + 1) (by omega)
      · rw [if_neg hi13]; exact ⟨P8, hp⟩
    · rw [if_neg h14]
      refine ⟨by show U.1 + 1 ≤ 14; omega, fun i hi => ?_⟩
      have hi : i < U.1 + 1 := hi
      show POA B 8 (if i = U.1 then p else U.2 i) ∧ PZ (if i = U.1 then p else U.2 i)
      by_cases hiu : i = U.1
      · rw [if_pos hiu]; exact ⟨P8, hp⟩
      · rw [if_neg hiu]; exact hu i (by omega)
theorem PGK.upd (hB : BV2 B) (h : PGK B p) {k : Nat} {x : Int32} (hk : 32 ≤ k ∧ k < 80) (hP : ∀ m, POK B m p → POK B m (pu p k x)) : PGK B (pu p k x) := by
  obtain ⟨⟨m, hm, P, A⟩, hp⟩ := h
  exact ⟨⟨m, hm, hP m P, fun i hi => by rw [pu_n _ _ (by omega)]; exact A i hi⟩, fun j hj => by rw [pu_n _ _ (by omega)]; exact hp j hj⟩
theorem iv_write (iv : IV T B p U K S D) (x : Int32) : IV (s_write T x).2 B p U K S D := by
  obtain ⟨hB, hP, ⟨hT1, hT2⟩, hr⟩ := iv
  refine ⟨hB, hP, ?_, hr⟩
  unfold s_write
  by_cases hb : bl x 256 = true
  · rw [if_pos hb]
    by_cases h150 : T.1 = 150
    · rw [if_pos h150]; exact ⟨hT1, hT2⟩
    · rw [if_neg h150]
      refine ⟨by show T.1 + 1 ≤ 150; omega, fun i hi => ?_⟩
      have hi : i < T.1 + 1 := hi
      show ∃ n, n < 256 ∧ pu T.2 T.1 x i = nI n
      by_cases hit : i = T.1
      · subst hit
        obtain ⟨j, hj, ex⟩ := bl_of hb (by omega)
        exact ⟨j, hj, by rw [pu_s]; exact ex⟩
      · rw [pu_n _ _ hit]; exact hT2 i (by omega)
  · rw [if_neg hb]; exact ⟨hT1, hT2⟩
theorem iv_wipe (iv : IV T B p U K S D) : IV (0, T.2) B p U K S D := by
  obtain ⟨hB, hP, hT, hr⟩ := iv
  exact ⟨hB, hP, ⟨Nat.zero_le _, fun i hi => absurd hi (Nat.not_lt_zero i)⟩, hr⟩
theorem iv_D (iv : IV T B p U K S D) (hD : DOK D') : IV T B p U K S D' := by
  obtain ⟨hB, hP, hT, hU, hk, hS, -⟩ := iv
  exact ⟨hB, hP, hT, hU, hk, hS, hD⟩
theorem rd_p_RI {a a' : Nat} {B1 : Bd} {p1 : Pg} {q : Bd × Pg} (ri : RI B1 p1) (h : rd_p T a B1 p1 = (a', some q)) : RI q.1 q.2 := by
  unfold rd_p at h
  split at h
  · unfold rd_i at h
    split at h
    · cases h
    · rename_i h16
      rcases tkd_cases T (a + 1) with ⟨k, k1, k8, -, -, ek⟩ | ⟨-, ek⟩
      · rw [ek, kb_s] at h
        have hs := sec_le k (by omega)
        have fin : ∀ a3 f, f < (if k < 7 then 4 else 1) → (kbind (if 0 < sec k then tk T (if k = 6 then 97 else 48) (sec k) a3 else (a3, some 0)) fun a v => (a, some (B_i B1 (1000 * k + 100 * f + v), p1))) = (a', some q) → RI q.1 q.2 := by
          intro a3 f hf h
          by_cases s0 : 0 < sec k
          · rw [if_pos s0] at h
            rcases tk_cases T (if k = 6 then 97 else 48) (sec k) a3 with ⟨v, hv, -, -, ev⟩ | ⟨-, ev⟩
            · rw [ev, kb_s] at h
              cases h
              exact RI_i ri h16 k1 k8 hf (by rw [if_pos s0]; exact hv)
            · rw [ev, kb_n] at h; cases h
          · rw [if_neg s0, kb_s] at h
            cases h
            exact RI_i ri h16 k1 k8 hf (by rw [if_neg s0]; omega)
        by_cases k7 : k < 7
        · rw [if_pos k7] at h
          rcases tk_cases T 48 4 (a + 1 + 1) with ⟨f, hf, -, -, ef⟩ | ⟨-, ef⟩
          · rw [ef, kb_s] at h
            exact fin _ f (by rw [if_pos k7]; exact hf) h
          · rw [ef, kb_n] at h; cases h
        · rw [if_neg k7, kb_s] at h
          exact fin _ 0 (by rw [if_neg k7]; omega) h
      · rw [ek, kb_n] at h; cases h
  · split at h
    · unfold rd_h at h
      split at h
      · cases h
      · rename_i h4
        rcases tk_cases T 97 16 (a + 1) with ⟨f, hf, -, -, ef⟩ | ⟨-, ef⟩
        · rw [ef, kb_s] at h
          rcases tk_cases T 48 3 (a + 1 + 1) with ⟨gr, hg, -, -, eg⟩ | ⟨-, eg⟩
          · rw [eg, kb_s] at h
            cases h
            exact RI_h ri h4 hf hg
          · rw [eg, kb_n] at h; cases h
        · rw [ef, kb_n] at h; cases h
    · have tr : ∀ ch, ch ≤ 1 → rd_t T ch a B1 p1 = (a', some q) → RI q.1 q.2 := by
        intro ch hch h
        unfold rd_t at h
        split at h
        · cases h
        · rename_i h6
          rcases tk_cases T 48 (bd_nh B1) (a + 1) with ⟨o, ho, -, -, eo⟩ | ⟨-, eo⟩
          · rw [eo, kb_s] at h
            rcases tk_cases T 112 2 (a + 1 + 1) with ⟨k, hk, -, -, ek⟩ | ⟨-, ek⟩
            · rw [ek, kb_s] at h
              have fin : ∀ a5 x v, x < (if k = 0 then 16 else 4) → v < 1000 → (kbind (tk T 49 9 a5) fun a c => (a, some (B_t B1 o, P_set p1 (bd_nt B1) (nI k) (nI x) (nI v) (nI (1 + c)) (nI ch)))) = (a', some q) → RI q.1 q.2 := by
                intro a5 x v hx hv h
                rcases tk_cases T 49 9 a5 with ⟨c, hc, -, -, ec⟩ | ⟨-, ec⟩
                · rw [ec, kb_s] at h
                  cases h
                  exact RI_t ri (by omega) ho hk hx hv hc hch
                · rw [ec, kb_n] at h; cases h
              rcases (by omega : k = 0 ∨ k = 1) with rfl | rfl
              · rw [if_pos rfl] at h
                rcases tk_cases T 97 16 (a + 1 + 1 + 1) with ⟨x, hx, -, -, ex⟩ | ⟨-, ex⟩
                · rw [ex, kb_s, if_pos rfl, kb_s] at h
                  exact fin _ x 0 (by rw [if_pos rfl]; exact hx) (by omega) h
                · rw [ex, kb_n] at h; cases h
              · rw [if_neg (by omega)] at h
                rcases tk_cases T 48 4 (a + 1 + 1 + 1) with ⟨x, hx, -, -, ex⟩ | ⟨-, ex⟩
                · rw [ex, kb_s, if_neg (by omega)] at h
                  unfold rd_v at h
                  rcases tk_cases T 48 10 (a + 1 + 1 + 1 + 1) with ⟨v1, hv1, -, -, e1⟩ | ⟨-, e1⟩
                  · rw [e1, kb_s] at h
                    rcases tk_cases T 48 10 (a + 1 + 1 + 1 + 1 + 1) with ⟨v2, hv2, -, -, e2⟩ | ⟨-, e2⟩
                    · rw [e2, kb_s] at h
                      rcases tk_cases T 48 10 (a + 1 + 1 + 1 + 1 + 1 + 1) with ⟨v3, hv3, -, -, e3⟩ | ⟨-, e3⟩
                      · rw [e3, kb_s, kb_s] at h
                        exact fin _ x _ (by rw [if_neg (by omega)]; exact hx) (by omega) h
                      · rw [e3, kb_n, kb_n] at h; cases h
                    · rw [e2, kb_n, kb_n] at h; cases h
                  · rw [e1, kb_n, kb_n] at h; cases h
                · rw [ex, kb_n] at h; cases h
            · rw [ek, kb_n] at h; cases h
          · rw [eo, kb_n] at h; cases h
      split at h
      · exact tr 0 (by omega) h
      · split at h
        · exact tr 1 (by omega) h
        · cases h
theorem rd_l_RI : ∀ (f a a' : Nat) (B1 : Bd) (p1 : Pg) (q : Bd × Pg), RI B1 p1 → rd_l T f a B1 p1 = (a', some q) → RI q.1 q.2
  | 0, _, _, _, _, _, ri, h => by cases h; exact ri
  | f + 1, a, a', B1, p1, q, ri, h => by
    unfold rd_l at h
    split at h
    · rcases hr : rd_p T a B1 p1 with ⟨a2, o⟩
      rw [hr] at h
      cases o with
      | none => rw [kb_n] at h; cases h
      | some q2 =>
        rw [kb_s] at h
        exact rd_l_RI f a2 a' q2.1 q2.2 q (rd_p_RI ri hr) h
    · cases h; exact ri
theorem rd_RI {a' : Nat} {q : Bd × Pg} (hD : DOK D) (h : rd T D = (a', some q)) : RI q.1 q.2 := by
  unfold rd at h
  rcases tk_cases T 82 1 0 with ⟨v, hv, -, -, e1⟩ | ⟨-, e1⟩
  · rw [e1, kb_s] at h
    exact rd_l_RI _ _ _ _ _ _ (RI_0 hD) h
  · rw [e1, kb_n] at h; cases h
theorem iv_board (iv : IV T B p U K S D) (hD' : DOK D') : IV T (s_board T D B p U K).2.1 (s_board T D B p U K).2.2.1 (s_board T D B p U K).2.2.2.1 (s_board T D B p U K).2.2.2.2 S D' := by
  obtain ⟨hB, hP, hT, hU, hk, hS, hD⟩ := iv
  unfold s_board
  rcases hr : rd T D with ⟨a1, o⟩
  cases o with
  | none => exact ⟨hB, hP, hT, hU, hk, hS, hD'⟩
  | some q =>
    have ri := rd_RI hD hr
    refine ⟨hB.mrg ri.1, ⟨⟨0, Nat.zero_le _, ri.2.1, fun i hi => absurd hi (Nat.not_lt_zero i)⟩, fun j hj => ri.2.2.1 j (by omega)⟩, hT, ⟨Nat.zero_le _, fun i hi => absurd hi (Nat.not_lt_zero i)⟩, fun i _ hq => absurd hq Bool.false_ne_true, hS, hD'⟩
theorem iv_tick (iv : IV T B p U K S D) (x : Int32) : IV T B (s_tick B U p x).2.2 (s_tick B U p x).2.1 K S D := by
  refine iv_act iv ?_
  unfold s_tick
  split
  · exact Or.inr ⟨rfl, PT_OK iv.1 _ _ _ iv.2.1.1, fun j hj => (PT_hi iv.1 _ hj _ _ iv.2.1.1).trans (iv.2.1.2 j hj)⟩
  · exact Or.inl ⟨rfl, rfl⟩
theorem iv_clear (iv : IV T B p U K S D) : IV T B (s_clear U p).2.2 (s_clear U p).2.1 K S D :=
  iv_act iv (Or.inr ⟨rfl, PGK.upd iv.1 iv.2.1 (by omega) (fun m P => P.err iv.1 (by omega))⟩)
theorem iv_poke (iv : IV T B p U K S D) (x1 x2 : Int32) : IV T B (s_poke U p x1 x2).2.2 (s_poke U p x1 x2).2.1 K S D := by
  refine iv_act iv ?_
  unfold s_poke
  split
  · rename_i h
    obtain ⟨a, ha, ea⟩ := bl_of h.1 (by omega)
    obtain ⟨v, hv, ev⟩ := bl_of h.2 (by omega)
    subst ea ev
    rw [nx_n (by omega)]
    exact Or.inr ⟨rfl, PGK.upd iv.1 iv.2.1 (by omega) (fun m P => P.cell iv.1.1 ha hv)⟩
  · exact Or.inl ⟨rfl, rfl⟩
theorem iv_buf (iv : IV T B p U K S D) (x1 x2 : Int32) : IV T B (s_buf U p x1 x2).2.2 (s_buf U p x1 x2).2.1 K S D := by
  refine iv_act iv ?_
  unfold s_buf
  split
  · rename_i h
    obtain ⟨a, ha, ea⟩ := bl_of h.1 (by omega)
    have h2 := h.2
    unfold tb at h2
    split at h2
    · rename_i h9
      obtain ⟨v, hv, ev⟩ := bl_of h9 (by omega)
      subst ea ev
      rw [nx_n (by omega)] at h2 ⊢
      have bv := BVb_iff.mp h2
      have b6 := iv.1.1.2.2.1
      refine Or.inr ⟨rfl, PGK.upd iv.1 iv.2.1 (by omega) (fun m P => ⟨P.1, P.2.1.upd ⟨v, rfl, ?_⟩, P.2.2.low (by omega) iv.1.1⟩)⟩
      refine ⟨by omega, fun hj => absurd hj (by omega), fun h1 h2 => absurd h2 (by omega), fun hj => absurd hj (by omega), fun _ => bv, fun hj => absurd hj (by omega), fun h1 _ => absurd h1 (by omega)⟩
    · cases h2
  · exact Or.inl ⟨rfl, rfl⟩
theorem iv_set (iv : IV T B p U K S D) (x1 x2 x3 x4 x5 x6 : Int32) (h6 : x6 = nI 0 ∨ x6 = nI 1) : IV T B (s_set B U p x1 x2 x3 x4 x5 x6).2.2 (s_set B U p x1 x2 x3 x4 x5 x6).2.1 K S D := by
  refine iv_act iv ?_
  have b6 := iv.1.1.2.2.1
  unfold s_set
  by_cases h1 : bl x1 (bd_nt B) = true
  · rw [if_pos h1]
    by_cases h : bl x2 2 = true ∧ bl x3 (if x2 = nI 0 then 16 else 4) = true ∧ bl x4 (if x2 = nI 0 then 1 else 1000) = true ∧ br x5 1 9 = true
    · rw [if_pos h]
      obtain ⟨t, ht, et⟩ := bl_of h1 (by omega)
      obtain ⟨a, ha, ea⟩ := bl_of h.1 (by omega)
      obtain ⟨n, n1, n9, en⟩ := br_of h.2.2.2 (by omega)
      obtain ⟨c6, hc6, e6⟩ : ∃ c, c ≤ 1 ∧ x6 = nI c := by
        rcases h6 with h | h
        · exact ⟨0, by omega, h⟩
        · exact ⟨1, by omega, h⟩
      have hb := h.2.1
      have hc := h.2.2.1
      subst et ea en e6
      have hbb : ∃ b, b < 16 ∧ (a = 1 → b < 4) ∧ x3 = nI b := by
        rcases (by omega : a = 0 ∨ a = 1) with rfl | rfl
        · rw [if_pos rfl] at hb
          obtain ⟨b, hb, eb⟩ := bl_of hb (by omega)
          exact ⟨b, hb, by omega, eb⟩
        · rw [if_neg (by decide)] at hb
          obtain ⟨b, hb, eb⟩ := bl_of hb (by omega)
          exact ⟨b, by omega, by omega, eb⟩
      have hcc : ∃ v, v < 1000 ∧ x4 = nI v := by
        rcases (by omega : a = 0 ∨ a = 1) with rfl | rfl
        · rw [if_pos rfl] at hc
          obtain ⟨b, hb, eb⟩ := bl_of hc (by omega)
          exact ⟨b, by omega, eb⟩
        · rw [if_neg (by decide)] at hc
          obtain ⟨b, hb, eb⟩ := bl_of hc (by omega)
          exact ⟨b, hb, eb⟩
      obtain ⟨b, hb16, hab, eb⟩ := hbb
      obtain ⟨v, hv, ev⟩ := hcc
      subst eb ev
      rw [nx_n (by omega)]
      obtain ⟨⟨m, hm, P, A⟩, hp⟩ := iv.2.1
      have lo : ∀ j, 76 ≤ j → P_set p t (nI a) (nI b) (nI v) (nI n) (nI c6) j = p j := fun j hj => by
        rw [P_set_at, if_neg (by omega), if_neg (by omega), if_neg (by omega), if_neg (by omega), if_neg (by omega), if_neg (by omega)]
      have key : PGK B (P_set p t (nI a) (nI b) (nI v) (nI n) (nI c6)) := ⟨⟨m, hm, P.become iv.1 ht (by omega) hb16 hab hv ⟨n1, n9⟩ hc6, fun i hi => by rw [lo _ (by omega)]; exact A i hi⟩, fun j hj => by rw [lo j (by omega)]; exact hp j hj⟩
      exact Or.inr ⟨rfl, key⟩
    · rw [if_neg h]; exact Or.inl ⟨rfl, rfl⟩
  · rw [if_neg h1]; exact Or.inl ⟨rfl, rfl⟩
theorem iv_send (iv : IV T B p U K S D) (x1 x2 x3 x4 : Int32) : IV T B (s_send B U p x1 x2 x3 x4).2.2 (s_send B U p x1 x2 x3 x4).2.1 K S D := by
  refine iv_act iv ?_
  have b4 := iv.1.1.2.1
  unfold s_send
  by_cases h1 : bl x1 6 = true
  · rw [if_pos h1]
    by_cases h2 : bl x2 (bd_nh B) = true
    · rw [if_pos h2]
      by_cases h3 : bl x3 (if x1 = nI 3 ∨ x1 = nI 4 then 4 else 1) = true ∧ bl x4 (if x1 = nI 4 then 1000 else 1) = true
      · rw [if_pos h3]
        by_cases h8 : nx (p 80) = 8
        · rw [if_pos h8]; exact Or.inl ⟨rfl, rfl⟩
        · rw [if_neg h8]
          obtain ⟨o, ho, eo⟩ := bl_of h1 (by omega)
          obtain ⟨i, hi, ei⟩ := bl_of h2 (by omega)
          have hr : ∃ r, r < 4 ∧ x3 = nI r := by
            have h := h3.1
            split at h
            · obtain ⟨r, hr, er⟩ := bl_of h (by omega); exact ⟨r, hr, er⟩
            · obtain ⟨r, hr, er⟩ := bl_of h (by omega); exact ⟨r, by omega, er⟩
          have hv : ∃ r, r < 1000 ∧ x4 = nI r := by
            have h := h3.2
            split at h
            · obtain ⟨r, hr, er⟩ := bl_of h (by omega); exact ⟨r, hr, er⟩
            · obtain ⟨r, hr, er⟩ := bl_of h (by omega); exact ⟨r, by omega, er⟩
          obtain ⟨r, hr, er⟩ := hr
          obtain ⟨v, hv, ev⟩ := hv
          subst eo ei er ev
          obtain ⟨P8, hp⟩ := iv.2.1
          have e8 : nx (p 80) < 8 := by
            obtain ⟨m, hm, P, A⟩ := P8
            rw [P.p80, nx_n (by omega)] at h8 ⊢
            omega
          obtain ⟨q1, q2⟩ := P_send_OK P8 iv.1 e8 (show o ≤ 5 by omega) hi hr hv
          exact Or.inr ⟨rfl, q1, fun j hj => (q2 j hj).trans (hp j hj)⟩
      · rw [if_neg h3]; exact Or.inl ⟨rfl, rfl⟩
    · rw [if_neg h2]; exact Or.inl ⟨rfl, rfl⟩
  · rw [if_neg h1]; exact Or.inl ⟨rfl, rfl⟩
theorem iv_undo (iv : IV T B p U K S D) : IV T B (s_undo U p).2.2 (s_undo U p).2.1 K S D := by
  unfold s_undo
  split
  · exact iv
  · rename_i h0
    obtain ⟨hB, hP, hT, ⟨hU, hu⟩, hr⟩ := iv
    refine ⟨hB, hu _ (by omega), hT, ⟨by show U.1 - 1 ≤ 14; omega, fun i hi => ?_⟩, hr⟩
    have hi : i < U.1 - 1 := hi
    exact hu i (by omega)
theorem iv_see (iv : IV T B p U K S D) (x1 x2 x3 : Int32) : IV T B p U K (s_see S x1 x2 x3).2 D := by
  obtain ⟨hB, hP, hT, hU, hk, ⟨hS, hs⟩, hD⟩ := iv
  refine ⟨hB, hP, hT, hU, hk, ?_, hD⟩
  unfold s_see
  by_cases h : bl x1 10 = true ∧ bl x2 3 = true ∧ bl x3 (if x2 = nI 0 then 16 else if x2 = nI 1 then 3 else 1000) = true
  · rw [if_pos h]
    by_cases h6 : S.1 = 6
    · rw [if_pos h6]; exact ⟨hS, hs⟩
    · rw [if_neg h6]
      refine ⟨by show S.1 + 1 ≤ 6; omega, fun i hi => ?_⟩
      have hi : i < S.1 + 1 := hi
      show (∃ n, n ≤ 9 ∧ pu S.2.1 S.1 x1 i = nI n) ∧ ∃ n, n ≤ 2 ∧ pu S.2.2.1 S.1 x2 i = nI n
      by_cases his : i = S.1
      · subst his
        obtain ⟨a, ha, ea⟩ := bl_of h.1 (by omega)
        obtain ⟨b, hb, eb⟩ := bl_of h.2.1 (by omega)
        exact ⟨⟨a, by omega, by rw [pu_s]; exact ea⟩, ⟨b, by omega, by rw [pu_s]; exact eb⟩⟩
      · rw [pu_n _ _ his, pu_n _ _ his]; exact hs i (by omega)
  · rw [if_neg h]; exact ⟨hS, hs⟩
theorem iv_unsee (iv : IV T B p U K S D) : IV T B p U K (0, S.2) D := by
  obtain ⟨hB, hP, hT, hU, hk, hS, hD⟩ := iv
  exact ⟨hB, hP, hT, hU, hk, ⟨Nat.zero_le _, fun i hi => absurd hi (Nat.not_lt_zero i)⟩, hD⟩
theorem iv_keep (iv : IV T B p U K S D) (x : Int32) : IV T B p U (s_keep B p K x).2 S D := by
  obtain ⟨hB, hP, hT, hU, hk, hS, hD⟩ := iv
  refine ⟨hB, hP, hT, hU, ?_, hS, hD⟩
  unfold s_keep
  split
  · intro i hi hq
    show POA B 8 (if i = nx x then p else K.2 i) ∧ PZ (if i = nx x then p else K.2 i)
    have hq : (if i = nx x then true else K.1 i) = true := hq
    by_cases hix : i = nx x
    · rw [if_pos hix]; exact hP
    · rw [if_neg hix] at hq ⊢; exact hk i hi hq
  · exact hk
theorem iv_again (iv : IV T B p U K S D) (x : Int32) : IV T B (s_again B U p K x).2.2 (s_again B U p K x).2.1 K S D := by
  unfold s_again
  split
  · rename_i hb
    split
    · rename_i hq
      obtain ⟨a, ha, ea⟩ := bl_of hb (by omega)
      obtain ⟨hB, hP, hT, hU, hk, hS, hD⟩ := iv
      refine ⟨hB, hk (nx x) (by rw [ea, nx_n (by omega)]; exact ha) hq, hT, ⟨Nat.zero_le _, fun i hi => absurd hi (Nat.not_lt_zero i)⟩, hk, hS, hD⟩
    · exact iv
  · exact iv
end IVL
