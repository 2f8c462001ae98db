section RO
variable {g : jv_G} {d : Nat} {M M' : jv_Mem} {Z : Option Value → jv_Mem → Nat → Prop} {T T' : Tt} {B : Bd} {p p' q : Pg} {U : Ut} {K : Kt} {S S' : St} {e e' : Int64} {ab pr : Int32} {σ : Nat}
theorem kl0_s (left : Int32) (i : Nat) : kl left 0 (i + 1) = if P_bit left i = true then kl left 0 i ++ [i] else kl left 0 i := by
  unfold kl
  rw [← List.range_eq_range', ← List.range_eq_range', List.range_succ, List.filter_append, List.filter_cons]
  by_cases h : P_bit left i = true
  · rw [if_pos h, if_pos h]; rfl
  · rw [if_neg h, if_neg h]; exact List.append_nil _
theorem c_lose (H : SHP M) (hB : BV2 B) (hσ : σ ∈ st_bases) (Q : SQ M σ B pr ab p) {m : Nat} (em : p 80 = nI m) (hm : m < 9) {gone : Nat} (hg : gone < 256) {left : Int32} (hl : ∀ k, k < m → P_bit left k = !(P_bit (nI gone) k)) (hz : ∀ M', EXC M M' σ → SQ M' σ B pr ab (L_pg left m p m) → Z none M' 668) : jv_Ct g (d + 1) mt_D_lose [.ref (σ + 1), .int (nI gone)] M 668 0 0 Z := by
  obtain ⟨V, π, v1, v2, S1, a6⟩ := Q
  have e := sw_self v1 v2
  have X := (H.2.2.2.2.2.2 σ hσ).1
  obtain ⟨m', P, A, R, Qo, C, I, AB1⟩ := S1
  have hmm : m' = m := by
    have := P.p80.symm.trans em
    exact nI_inj (by have := P.1; omega) (by omega) this
  subst hmm
  have l : ∀ f i ρ, i + f = m' → PI ρ → (∀ t v, (kl left 0 i)[t]? = some v → ρ t = π v) → (∀ t, i ≤ t → ρ t = π t) → jv_J g (d + 1) mt_D_lose 4 [some (.ref (σ + 1)), some (.int (nI gone)), some (.int (nI (kl left 0 i).length)), some (.int (nI i))] [] (sw M σ V ρ) 668 0 0 Z := by
    intro f
    induction f with
    | zero =>
      intro i ρ hi Iρ k1 k2
      have hi : i = m' := by omega
      subst hi
      obtain ⟨P1, A1, r1, r2, r3⟩ := L_pg_OK hB P A left i (Nat.le_refl _)
      rw [Nat.sub_self, Nat.zero_add] at P1 A1
      rw [Nat.sub_self] at r1 r2
      refine b_D_lose_4 ⟨t_S1 hσ, ?_⟩
      rw [sw_1, C]
      refine ⟨fun _ => ⟨t_S1 hσ, ?_⟩, fun c => absurd (nI_le (Nat.le_refl _) (by omega)) c⟩
      rw [wi_1]
      refine hz _ (EXC.sw Iρ) (SQ.mk ⟨_, P1, A1, (R.free hB.1 _ (Or.inr (Or.inl ⟨rfl, Nat.le_refl 2⟩))).page hB.1 (fun j hj => r1 j (by omega) (by omega)), fun t ht => ?_, vu_s _ _ _ _, Iρ, by rw [vu_k _ _ (by omega)]; exact AB1⟩ (by rw [vu_k _ _ (by omega)]; exact a6))
      obtain ⟨v, hv⟩ : ∃ v, (kl left 0 i)[t]? = some v := ⟨_, List.getElem?_eq_getElem ht⟩
      have hvm : v < i := by
        have := List.mem_of_getElem? hv
        unfold kl at this
        rw [List.mem_filter, ← List.range_eq_range', List.mem_range] at this
        exact this.1
      have hq := Qo v hvm
      have r := fun k hk => r2 t v hv k hk
      simp only [Nat.zero_add] at r
      rw [k1 t v hv]
      obtain ⟨a0, a1, a2, a3, a4, a5, a6'⟩ := hq
      have hV : ∀ j, vu V 1 2 (nI (kl left 0 i).length) (4 + π v) j = V (4 + π v) j := fun j => vu_k _ _ (by omega)
      exact ⟨(hV 0).trans (a0.trans (r 0 (by omega)).symm), (hV 1).trans (a1.trans (r 1 (by omega)).symm), (hV 4).trans (a2.trans (r 2 (by omega)).symm), (hV 5).trans (a3.trans (r 3 (by omega)).symm), (hV 2).trans (a4.trans (r 4 (by omega)).symm), (hV 3).trans (a5.trans (r 5 (by omega)).symm), (hV 6).trans (a6'.trans (r 6 (by omega)).symm)⟩
    | succ f ih =>
      intro i ρ hi Iρ k1 k2
      have hlen := kl_len left 0 i
      refine b_D_lose_4 ⟨t_S1 hσ, ?_⟩
      rw [sw_1, C]
      refine ⟨fun c => absurd ((nn_le (a := m') (n := i) (by omega) (by omega)).mp c) (by omega), fun _ => ⟨fun c => ?_, fun c => ?_⟩⟩
      · have hbt : P_bit (nI gone) i = true := by
          cases hh : P_bit (nI gone) i with
          | true => rfl
          | false => exact absurd ((bit8 gone hg i (by omega)).mpr hh) c
        have hlb : ¬ P_bit left i = true := by rw [hl i (by omega), hbt]; decide
        rw [show (nI i + 1 : Int32) = nI (i + 1) from nI_add i 1]
        have es : kl left 0 (i + 1) = kl left 0 i := by rw [kl0_s, if_neg hlb]
        have := ih (i + 1) ρ (by omega) Iρ (by rw [es]; exact k1) (fun t ht => k2 t (by omega))
        rw [es] at this
        exact this
      · have hbt : P_bit (nI gone) i = false := (bit8 gone hg i (by omega)).mp c
        have hlb : P_bit left i = true := by rw [hl i (by omega), hbt]; rfl
        have es : kl left 0 (i + 1) = kl left 0 i ++ [i] := by rw [kl0_s, if_pos hlb]
        refine ⟨t_S1 hσ, c_S_moveForward X (i := i) (k := (kl left 0 i).length) (by omega) (by omega) Iρ.1 (jv_rv_i ?_)⟩
        rw [show (nI i + 1 : Int32) = nI (i + 1) from nI_add i 1, show (nI (kl left 0 i).length + 1 : Int32) = nI ((kl left 0 i).length + 1) from nI_add _ 1]
        have := ih (i + 1) _ (by omega) (Iρ.swap (i := i) (k := (kl left 0 i).length) (by omega) (by omega)) (fun t v hv => ?_) (fun t ht => ?_)
        · rw [es, List.length_append] at this
          exact this
        · rw [es, List.getElem?_append] at hv
          by_cases ht : t < (kl left 0 i).length
          · rw [if_pos ht] at hv
            show (if t = (kl left 0 i).length then _ else if t = i then _ else ρ t) = π v
            rw [if_neg (by omega), if_neg (by omega)]
            exact k1 t v hv
          · rw [if_neg ht] at hv
            have ht2 : t = (kl left 0 i).length := by
              have := (List.getElem?_eq_some_iff.mp hv).1
              simp at this
              omega
            subst ht2
            rw [Nat.sub_self, List.getElem?_cons_zero, Option.some.injEq] at hv
            subst hv
            show (if (kl left 0 i).length = (kl left 0 i).length then ρ i else _) = π i
            rw [if_pos rfl]
            exact k2 i (Nat.le_refl _)
        · show (if t = (kl left 0 i).length then _ else if t = i then _ else ρ t) = π t
          rw [if_neg (by omega), if_neg (by omega)]
          exact k2 t (by omega)
  have l0 := l m' 0 π (by omega) I (fun t v hv => by simp [kl] at hv) (fun _ _ => rfl)
  rw [e] at l0
  exact jv_ct rfl (Nat.le_of_ble_eq_true rfl) (b_D_lose_0 l0)
theorem c_ends (h : RC M T B p U K S e) (hB : BV2 B) {m : Nat} (em : p 80 = nI m) (hm : m < 9) {s : Nat} (hs : s < 2 ^ m) (hz : ∀ M', EXC M M' 77 → Z (some (.int (if L_end B p m (2 ^ m - 1 - s) = true then nI 1 else nI 0))) M' 668) : jv_Ct g (d + 6) mt_R_endsHaltedWithout [.ref 0, .int (nI s)] M 668 0 0 Z := by
  have h77 : 77 ∈ st_bases := by decide
  have t77 : jv_Tg 6 77 668 := t_S0 h77
  have f02 := h.1.1.2.2.1
  have f03 := h.1.1.2.2.2.1
  have hp := (pw64 m (by omega)).2.1
  refine jv_ct rfl (Nat.le_of_ble_eq_true rfl) (b_R_endsHaltedWithout_0 ⟨tg_0, 77, f03, tg_0, 44, f02, t77, c_trial h hB (fun M1 E1 Q1 => jv_rv_i ?_)⟩)
  have h1 := h.trial E1
  have X := (h1.1.2.2.2.2.2.2 77 h77).1
  refine ⟨tg_0, 77, h1.1.1.2.2.2.1, t77, 77 + 1, X.2.1, t_S1 h77, c_lose h1.1 hB h77 Q1 em hm (show s < 256 by omega) (left := nI (2 ^ m - 1 - s)) (comp hm hs).2.2 (fun M2 E2 Q2 => jv_rv_i ?_)⟩
  have h2 := h1.trial E2
  refine ⟨tg_0, 77, h2.1.1.2.2.2.1, tg_0, 40, h2.1.1.2.1, t77, q_pass h2.1 h2.prg hB h77 Q2 (n := 10) (by omega) (fun M3 E3 Q3 => jv_rv_i ?_)⟩
  have h3 := h2.trial E3
  refine ⟨tg_0, 77, h3.1.1.2.2.2.1, t77, q_hset h3.1 hB h77 Q3 (jv_ri_i ⟨tg_0, 77, h3.1.1.2.2.2.1, t77, c_everyHart Q3.view.1 hB h77 (jv_ri_i ?_)⟩)⟩
  have hz := hz M3 ((E1.trans E2).trans E3)
  unfold L_end at hz
  refine ⟨fun c => ?_, fun c => ?_⟩
  · rw [decide_eq_false c, if_neg (by decide)] at hz; exact hz
  · rw [decide_eq_true c, if_pos rfl] at hz; exact hz
theorem R_lost (h : RC M T B p U K S e) (hB : BV2 B) (P8 : POA B 8 p) {x y : Int32} (hz : ∀ M', RC M' T B p U K S e → FRm M M' → Z (some (.int (s_lost B p x y))) M' 668) : jv_Ct g (d + 9) mt_R_lost [.ref 0, .int x, .int y] M 668 0 0 Z := by
  have h44 : 44 ∈ st_bases := by decide
  have h77 : 77 ∈ st_bases := by decide
  obtain ⟨m, hm, Pm, Am⟩ := P8
  have e80 := Pm.p80
  unfold s_lost at hz
  rw [e80, nx_n (by omega)] at hz
  refine jv_ct rfl (Nat.le_of_ble_eq_true rfl) (b_R_lost_0 (c_isBelow (b := 11) (by omega) (jv_ri_i ?_)))
  by_cases hb : bl x 11 = true
  · rw [if_pos hb] at hz ⊢
    obtain ⟨a, ha, ex⟩ := bl_of hb (by omega)
    subst ex
    rw [nx_n (by omega)] at hz
    have X := (h.1.2.2.2.2.2.2 44 h44).1
    refine rn1 ⟨tg_0, 44, h.1.1.2.2.1, t_S0 h44, 44 + 1, X.2.1, t_S1 h44, ?_⟩
    have w1 : M.1 (44 + 1) 2 = nI m := (SP_SQ.mp h.2.2.1).view.2.1.trans e80
    rw [w1]
    obtain ⟨pw, pw2, -⟩ := pw64 m (by omega)
    have pw' : ((1 : Int32) <<< (nI m &&& 31)) = nI (2 ^ m) := pw
    obtain ⟨t1, t2⟩ := ten8 m (by omega)
    have l : ∀ f k M1, k + f = 2 ^ m → RC M1 T B p U K S e → EXC M M1 77 → jv_J g (d + 9) mt_R_lost 29 [some (.ref 0), some (.int (nI a)), some (.int y), some (.int (nI m)), some (.long (lN (sumN (fun i => L_t B p a m (2 ^ m - 1 - i)) k))), none, some (.int (nI k)), none, none, none] [] M1 668 0 0 Z := by
      intro f
      induction f with
      | zero =>
        intro k M1 hk h1 E1
        have hk : k = 2 ^ m := by omega
        subst hk
        refine b_R_lost_29 ?_
        rw [pw']
        refine ⟨fun _ => c_power (a := 10) (by omega) (by omega) (jv_rl_i ?_), fun c => absurd (nI_le (Nat.le_refl _) (by omega)) c⟩
        rw [sumN_rev]
        have hs := L_sum_le B p (x := a) (m := m) (n := 2 ^ m) ha (by omega) (Nat.le_refl _)
        rw [← oL_lN]
        exact c_part (by omega) (by omega) t1 (by omega) (jv_ri_i (hz M1 h1 (E1.frm h77)))
      | succ f ih =>
        intro k M1 hk h1 E1
        obtain ⟨c1, c2, c3⟩ := comp (m := m) (s := k) (by omega) (by omega)
        have hw := L_w_comp (x := a) (m := m) (s := k) (by omega) (by omega)
        have hwl := L_w_le (x := a) (m := m) (l := 2 ^ m - 1 - k) ha (by omega) (by omega)
        have es : sumN (fun i => L_t B p a m (2 ^ m - 1 - i)) (k + 1) = sumN (fun i => L_t B p a m (2 ^ m - 1 - i)) k + L_t B p a m (2 ^ m - 1 - k) := rfl
        have ek : (nI k + 1 : Int32) = nI (k + 1) := nI_add k 1
        refine b_R_lost_29 ?_
        rw [pw']
        refine ⟨fun c => absurd ((nn_le (a := 2 ^ m) (n := k) (by omega) (by omega)).mp c) (by omega), fun _ => c_bitCount (by omega) (jv_ri_i (c_power (by omega) (by omega) (jv_rl_i ?_)))⟩
        rw [show (10 - nI a : Int32) = nI (10 - a) from pk_sub (a := 10) (b := a) (by omega), pk_sub c2]
        refine c_power (by omega) (by omega) (jv_rl_i ?_)
        rw [lN_mul, ← hw, ek]
        unfold L_t at es
        refine ⟨fun c => ?_, fun c => ⟨tg_0, c_ends h1 hB e80 (by omega) (show k < 2 ^ m by omega) (fun M2 E2 => jv_ri_i ?_)⟩⟩
        · have c0 : L_w a m (2 ^ m - 1 - k) = 0 := (pk_lEQ (b := 0) (by omega) (by omega)).mp ((cmp_eq _ _).mp c)
          rw [c0, ite_self, Nat.add_zero] at es
          have := ih (k + 1) M1 (by omega) h1 E1
          unfold L_t at this
          rw [es] at this
          exact this
        · have J := ih (k + 1) M2 (by omega) (h1.trial E2) (E1.trans E2)
          unfold L_t at J
          rw [es] at J
          by_cases he : L_end B p m (2 ^ m - 1 - k) = true
          · rw [if_pos he] at J ⊢
            rw [lN_add]
            exact re1 J
          · rw [if_neg he, Nat.add_zero] at J
            rw [if_neg he]
            exact re0 J
    exact l (2 ^ m) 0 M (by omega) h (EXC.rf h.1 h77)
  · rw [if_neg hb] at hz ⊢
    exact rn0 (hz M h FRm.rf)
end RO
