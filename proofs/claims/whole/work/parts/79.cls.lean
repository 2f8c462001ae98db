def s_keep (B : Bd) (p : Pg) (K : Kt) (x : Int32) : Int32 × Kt := if bl x 2 = true then (nI (bd_nh B), (fun i => if i = nx x then true else K.1 i, fun i => if i = nx x then p else K.2 i)) else (-1, K)
def s_again (B : Bd) (U : Ut) (p : Pg) (K : Kt) (x : Int32) : Ac := if bl x 2 = true then (if K.1 (nx x) = true then (nI (bd_nh B), (0, U.2), K.2 (nx x)) else (-3, U, p)) else (-1, U, p)
section RO
variable {g : jv_G} {d : Nat} {M M' : jv_Mem} {Z : Option Value → jv_Mem → Nat → Prop} {T T' : Tt} {B : Bd} {p p' q : Pg} {U : Ut} {K : Kt} {S S' : St} {e e' : Int64} {ab : Int32}
theorem R_keep (h : RC M T B p U K S e) (hB : BV2 B) {x : Int32} (hz : ∀ M', RC M' T B p U (s_keep B p K x).2 S e → FRm M M' → Z (some (.int (s_keep B p K x).1)) M' 668) : jv_Ct g (d + 9) mt_R_keep [.ref 0, .int x] M 668 0 0 Z := by
  have f02 := h.1.1.2.2.1
  have f05 := h.1.1.2.2.2.2.2.1
  have f06 := h.1.1.2.2.2.2.2.2.1
  unfold s_keep at hz
  refine jv_ct rfl (Nat.le_of_ble_eq_true rfl) (b_R_keep_0 (c_isBelow (b := 2) (by omega) (jv_ri_i ?_)))
  by_cases hb : bl x 2 = true
  · rw [if_pos hb] at hz ⊢
    obtain ⟨j, hj, ex⟩ := bl_of hb (by omega)
    subst ex
    rw [nx_n (by omega)] at hz
    refine ⟨fun _ => ?_, fun c => absurd c (by decide)⟩
    have f74 := h.1.2.2.2.2.1.2.2 j hj
    have hτ0 := sl_in j hj
    obtain ⟨τ, eτ⟩ : ∃ τ, τ = 581 + 33 * j := ⟨_, rfl⟩
    rw [← eτ] at f74 hτ0
    have h44 : 44 ∈ st_bases := by decide
    simp (disch := omega) only [li, nI_clamp, vin, tg_0, f02, f05, f74, tg_574, sl_574, t_S0 hτ0, true_and, Option.some.injEq, exists_eq_left']
    refine q_copy h.1 hB h44 hτ0 (by omega) (SP_SQ.mp h.2.2.1) (fun M1 E1 Q1 => jv_rv_i ?_)
    have hτx := st_nsc τ hτ0
    have H1 := h.1.exc E1 hτ0
    have g06 := H1.1.2.2.2.2.2.2.1
    have g02 := H1.1.2.2.1
    have h4 : M1.1 44 4 = nI (bd_nh B) := by rw [E1.1 44 (by omega)]; exact h.nh.1
    simp (disch := omega) only [nI_clamp, vin, si_r, si_b, tg_0, g06, g02, tg_575, sl_575, t_S0 h44, h4, true_and, Option.some.injEq, exists_eq_left']
    obtain ⟨M2, eM2⟩ : ∃ M2, M2 = jv_si M1 575 j (nI 1) := ⟨_, rfl⟩
    rw [← eM2]
    have N2 : NS M1 M2 := by rw [eM2]; exact NS.si (by decide)
    obtain ⟨H, o, q1, ⟨n, hn, q2, q3⟩, kq, z⟩ := h
    have bo : ∀ b ∈ nsc, b ≠ 575 → ∀ k, M2.1 b k = M.1 b k := fun b hb hne k => by rw [eM2, si_b _ _ hne, E1.1 b (hτx b hb)]
    have tr : ∀ σ ∈ st_bases, σ ≠ τ → ∀ {q : Pg}, SP M σ B q → SP M2 σ B q := fun σ hσ hne q Q => (Q.exc E1 hτ0 hσ (Ne.symm hne)).ns N2 hσ
    refine hz M2 ⟨H1.ns N2, ?_, tr 44 h44 (by omega) q1, ⟨n, hn, by rw [bo 110 (by decide) (by omega), q2], fun i hi => tr _ (pst_in _ _ _) (by unfold pst; omega) (q3 i hi)⟩, fun i hi qk => ?_, TZ.ns (z.congr (fun b h1 h2 j => E1.1 b (by omega) j)) N2⟩ ((E1.frm hτ0).trans N2.frm)
    · obtain ⟨⟨o1, o2⟩, ⟨o3, o4⟩, o5, o6, ⟨o7, o8⟩, o9⟩ := o
      refine ⟨⟨by rw [bo 1 (by decide) (by omega), o1], fun i hi => by rw [bo 2 (by decide) (by omega), o2 i hi]⟩, ⟨by rw [bo 40 (by decide) (by omega), o3], fun k hk => by rw [bo 41 (by decide) (by omega), bo 42 (by decide) (by omega), bo 43 (by decide) (by omega)]; exact o4 k hk⟩, by rw [bo 110 (by decide) (by omega), o5], fun i hi => ?_, ⟨by rw [bo 576 (by decide) (by omega), o7], fun i hi => by rw [bo 577 (by decide) (by omega), bo 578 (by decide) (by omega), bo 579 (by decide) (by omega)]; exact o8 i hi⟩, ?_⟩
      · show M2.1 575 i = if (if i = j then true else K.1 i) = true then nI 1 else nI 0
        by_cases hij : i = j
        · subst hij; rw [if_pos rfl, if_pos rfl, eM2, si_at]
        · rw [if_neg hij, eM2, si_k _ _ hij, E1.1 575 (hτx 575 (by decide)), o6 i hi]
      · rw [eM2]
        show M1.2.2 0 = e
        rw [E1.2.2.2, o9]
    · show SP M2 (581 + 33 * i) B (if i = j then p else K.2 i)
      have qk : (if i = j then true else K.1 i) = true := qk
      by_cases hij : i = j
      · subst hij
        rw [if_pos rfl, ← eτ]
        exact SP.ns (SP_SQ.mpr Q1) N2 hτ0
      · rw [if_neg hij] at qk ⊢
        exact tr _ (sl_in i hi) (by omega) (kq i hi qk)
  · rw [if_neg hb] at hz ⊢
    exact ⟨fun c => absurd rfl c, fun _ => hz M h FRm.rf⟩
theorem R_again (h : RC M T B p U K S e) (hB : BV2 B) {x : Int32} (hz : ∀ M', RC M' T B (s_again B U p K x).2.2 (s_again B U p K x).2.1 K S e → FRm M M' → Z (some (.int (s_again B U p K x).1)) M' 668) : jv_Ct g (d + 9) mt_R_again [.ref 0, .int x] M 668 0 0 Z := by
  have f02 := h.1.1.2.2.1
  have f05 := h.1.1.2.2.2.2.2.1
  have f06 := h.1.1.2.2.2.2.2.2.1
  unfold s_again at hz
  refine jv_ct rfl (Nat.le_of_ble_eq_true rfl) (b_R_again_0 (c_isBelow (b := 2) (by omega) (jv_ri_i ?_)))
  by_cases hb : bl x 2 = true
  · rw [if_pos hb] at hz ⊢
    obtain ⟨j, hj, ex⟩ := bl_of hb (by omega)
    subst ex
    rw [nx_n (by omega)] at hz
    refine ⟨fun _ => ?_, fun c => absurd c (by decide)⟩
    have f74 := h.1.2.2.2.2.1.2.2 j hj
    have hσ0 := sl_in j hj
    have fk := h.2.1.2.2.2.1 j hj
    obtain ⟨σ, eσ⟩ : ∃ σ, σ = 581 + 33 * j := ⟨_, rfl⟩
    rw [← eσ] at f74 hσ0
    have h44 : 44 ∈ st_bases := by decide
    simp (disch := omega) only [li, nI_clamp, vin, ne_eq, tg_0, f02, f05, f06, f74, fk, tg_574, sl_574, tg_575, sl_575, t_S0 h44, true_and, Option.some.injEq, exists_eq_left']
    by_cases hk : K.1 j = true
    · rw [if_pos hk] at hz ⊢
      refine ⟨fun _ => ?_, fun c => absurd c (by decide)⟩
      have hQ := h.2.2.2.2.1 j hj hk
      rw [← eσ] at hQ
      refine q_copy h.1 hB hσ0 h44 (by omega) (SP_SQ.mp hQ) (fun M1 E1 Q1 => jv_rv_i ?_)
      have H1 := h.1.exc E1 h44
      have g04 := H1.1.2.2.2.2.1
      have g02 := H1.1.2.2.1
      simp (disch := omega) only [tg_0, tg_110, g04, g02, true_and, Option.some.injEq, exists_eq_left']
      refine jv_ct rfl (Nat.le_of_ble_eq_true rfl) (b_A_forget_0 ⟨tg_110, jv_rv_i ?_⟩)
      have h44x := st_nsc 44 h44
      have rc1 := h.present E1 (SP_SQ.mpr Q1)
      have h4 := rc1.nh.1
      simp (disch := omega) only [li, si_r, si_b, tg_0, g02, h4, t_S0 h44, true_and, Option.some.injEq, exists_eq_left']
      have N2 : NS M1 (jv_si M1 110 2 (nI 0)) := NS.si (by decide)
      obtain ⟨H, o, q1, ⟨n, hn, q2, q3⟩, kq, z⟩ := rc1
      obtain ⟨⟨o1, o2⟩, ⟨o3, o4⟩, o5, o6, ⟨o7, o8⟩, o9⟩ := o
      exact hz _ ⟨H.ns N2, ⟨⟨o1, o2⟩, ⟨o3, o4⟩, si_at _ _ _ _, o6, ⟨o7, o8⟩, o9⟩, q1.ns N2 h44, ⟨n, hn, by rw [si_k _ _ (by omega), q2], fun i hi => absurd (show i < 0 from hi) (by omega)⟩, fun i hi qk => (kq i hi qk).ns N2 (sl_in i hi), z.ns N2⟩ ((E1.frm h44).trans N2.frm)
    · rw [if_neg hk] at hz ⊢
      exact ⟨fun c => absurd rfl c, fun _ => hz M h FRm.rf⟩
  · rw [if_neg hb] at hz ⊢
    exact ⟨fun c => absurd rfl c, fun _ => hz M h FRm.rf⟩
theorem R_count (h : RC M T B p U K S e) (hB : BV2 B) {x : Int32} (hz : Z (some (.int (s_count T B p U S x))) M 668) : jv_Ct g (d + 9) mt_R_count [.ref 0, .int x] M 668 0 0 Z := by
  have f00 := h.1.1.1
  have f01 := h.1.1.2.1
  have f04 := h.1.1.2.2.2.2.1
  have f07 := h.1.1.2.2.2.2.2.2.2.1
  obtain ⟨⟨o1, o2⟩, ⟨o3, o4⟩, o5, o6, ⟨o7, o8⟩, o9⟩ := h.2.1
  have H := h.1
  have hQ := h.2.2.1
  obtain ⟨σ, eσ, hσ, f02, X, V, π, ee, SR1, ab6⟩ := h.pres
  have X0 := X
  obtain ⟨-, r0, r1, r2, r3, r4, r5, r6, r7, r8⟩ := X
  have tS0 := t_S0 hσ
  have tS1 := t_S1 hσ
  have tS2 := t_S2 hσ
  have lS2 := l_S2 hσ
  have tS3 := t_S3 hσ
  have lS3 := l_S3 hσ
  have tS16 := t_S16 hσ
  have lS16 := l_S16 hσ
  have tS17 := t_S17 hσ
  have lS17 := l_S17 hσ
  have tS18 := t_S18 hσ
  have lS18 := l_S18 hσ
  obtain ⟨m, P, A, R, Qo, C, I, AB1⟩ := id SR1
  have b4 := hB.1.2.1
  have b6 := hB.1.2.2.1
  have e80 := P.p80
  have k3 := R.2.2.2.2.1.1
  have k4 := R.2.2.2.2.1.2
  have k8 : V 3 0 = p 78 := R.2.2.2.2.2 0 (by omega)
  have k9 : V 3 1 = p 79 := R.2.2.2.2.2 1 (by omega)
  have k0 := R.1.1
  have k1 := R.1.2
  have s1 : σ ≤ 1 ∨ 1 < σ := by omega
  have m1 : (sw M σ V π).1 1 1 = nI T.1 := by rw [ee, o1]
  have m40 : (sw M σ V π).1 40 3 = nI (bd_nc B) := by rw [ee, o3]
  have m110 : (sw M σ V π).1 110 2 = nI U.1 := by rw [ee, o5]
  have m576 : (sw M σ V π).1 576 3 = nI S.1 := by rw [ee, o7]
  have cl0 : (nI 0).toNatClampNeg = 0 := nI_clamp (by omega)
  have cl1 : (nI 1).toNatClampNeg = 1 := nI_clamp (by omega)
  have hs := q_hset (g := g) (d := d + 8) (Z := fun v M23 N23 => jv_ri v (fun r22 => Z (some (.int r22)) M23 N23)) H hB (show 44 ∈ st_bases by decide) (SP_SQ.mp hQ)
  rw [← eσ] at hs
  unfold s_count at hz
  rw [← ee] at hz hs ⊢
  refine jv_ct rfl (Nat.le_of_ble_eq_true rfl) (b_R_count_0 ?_)
  simp (disch := omega) only [li, ne_eq, nI_add, pk_mul, nI_clamp, vin, true_and, nn_eq, nn_le, nn_lt, pk_div, rm2, or0, sw_0, sw_1, sw_3, sw_18, sw_o, sw_h, sw_r, sw_t, wi_0, wi_1, wi_3, wi_18, wi_o, wi_h, wi_r, wi_t, sw_q, sw_ref, wr_q, tS0, tS1, tS2, lS2, tS3, lS3, tS16, lS16, tS17, lS17, tS18, lS18, r0, r1, r2, r3, r4, r5, Option.some.injEq, exists_eq_left', f02, tg_0, f00, f01, f04, f07, tg_1, tg_40, tg_110, tg_576, m1, m40, m110, m576, k0, k1, C, k3, k4, k8, k9, cl0, cl1]
  have nn : ∀ a b, a < 12 → b < 12 → a ≠ b → ¬ nI a = nI b := fun a b h1 h2 h3 z => h3 (nI_inj (by omega) (by omega) z)
  refine ⟨fun c => ?_, fun c => ?_, fun c => ?_, fun c => ?_, fun c => hs (jv_ri_i ?_), fun c => ?_, fun c => ?_, fun c => ?_, fun c => ?_, fun c => ?_, fun c => ?_, fun c => ?_, fun c => ?_⟩
  · rw [if_pos c] at hz; exact hz
  · rw [if_neg (by rw [c]; exact nn 1 0 (by omega) (by omega) (by omega)), if_pos c] at hz; exact hz
  · rw [if_neg (by rw [c]; exact nn 2 0 (by omega) (by omega) (by omega)), if_neg (by rw [c]; exact nn 2 1 (by omega) (by omega) (by omega)), if_pos c] at hz; exact hz
  · rw [if_neg (by rw [c]; exact nn 3 0 (by omega) (by omega) (by omega)), if_neg (by rw [c]; exact nn 3 1 (by omega) (by omega) (by omega)), if_neg (by rw [c]; exact nn 3 2 (by omega) (by omega) (by omega)), if_pos c] at hz; exact hz
  · rw [if_neg (by rw [c]; exact nn 4 0 (by omega) (by omega) (by omega)), if_neg (by rw [c]; exact nn 4 1 (by omega) (by omega) (by omega)), if_neg (by rw [c]; exact nn 4 2 (by omega) (by omega) (by omega)), if_neg (by rw [c]; exact nn 4 3 (by omega) (by omega) (by omega)), if_pos c] at hz; exact hz
  · rw [if_neg (by rw [c]; exact nn 5 0 (by omega) (by omega) (by omega)), if_neg (by rw [c]; exact nn 5 1 (by omega) (by omega) (by omega)), if_neg (by rw [c]; exact nn 5 2 (by omega) (by omega) (by omega)), if_neg (by rw [c]; exact nn 5 3 (by omega) (by omega) (by omega)), if_neg (by rw [c]; exact nn 5 4 (by omega) (by omega) (by omega)), if_pos c, e80] at hz; exact hz
  · rw [if_neg (by rw [c]; exact nn 6 0 (by omega) (by omega) (by omega)), if_neg (by rw [c]; exact nn 6 1 (by omega) (by omega) (by omega)), if_neg (by rw [c]; exact nn 6 2 (by omega) (by omega) (by omega)), if_neg (by rw [c]; exact nn 6 3 (by omega) (by omega) (by omega)), if_neg (by rw [c]; exact nn 6 4 (by omega) (by omega) (by omega)), if_neg (by rw [c]; exact nn 6 5 (by omega) (by omega) (by omega)), if_pos c] at hz; exact hz
  · rw [if_neg (by rw [c]; exact nn 7 0 (by omega) (by omega) (by omega)), if_neg (by rw [c]; exact nn 7 1 (by omega) (by omega) (by omega)), if_neg (by rw [c]; exact nn 7 2 (by omega) (by omega) (by omega)), if_neg (by rw [c]; exact nn 7 3 (by omega) (by omega) (by omega)), if_neg (by rw [c]; exact nn 7 4 (by omega) (by omega) (by omega)), if_neg (by rw [c]; exact nn 7 5 (by omega) (by omega) (by omega)), if_neg (by rw [c]; exact nn 7 6 (by omega) (by omega) (by omega)), if_pos c] at hz; exact hz
  · rw [if_neg (by rw [c]; exact nn 8 0 (by omega) (by omega) (by omega)), if_neg (by rw [c]; exact nn 8 1 (by omega) (by omega) (by omega)), if_neg (by rw [c]; exact nn 8 2 (by omega) (by omega) (by omega)), if_neg (by rw [c]; exact nn 8 3 (by omega) (by omega) (by omega)), if_neg (by rw [c]; exact nn 8 4 (by omega) (by omega) (by omega)), if_neg (by rw [c]; exact nn 8 5 (by omega) (by omega) (by omega)), if_neg (by rw [c]; exact nn 8 6 (by omega) (by omega) (by omega)), if_neg (by rw [c]; exact nn 8 7 (by omega) (by omega) (by omega)), if_pos c] at hz; exact hz
  · rw [if_neg (by rw [c]; exact nn 9 0 (by omega) (by omega) (by omega)), if_neg (by rw [c]; exact nn 9 1 (by omega) (by omega) (by omega)), if_neg (by rw [c]; exact nn 9 2 (by omega) (by omega) (by omega)), if_neg (by rw [c]; exact nn 9 3 (by omega) (by omega) (by omega)), if_neg (by rw [c]; exact nn 9 4 (by omega) (by omega) (by omega)), if_neg (by rw [c]; exact nn 9 5 (by omega) (by omega) (by omega)), if_neg (by rw [c]; exact nn 9 6 (by omega) (by omega) (by omega)), if_neg (by rw [c]; exact nn 9 7 (by omega) (by omega) (by omega)), if_neg (by rw [c]; exact nn 9 8 (by omega) (by omega) (by omega)), if_pos c] at hz; exact hz
  · rw [if_neg (by rw [c]; exact nn 10 0 (by omega) (by omega) (by omega)), if_neg (by rw [c]; exact nn 10 1 (by omega) (by omega) (by omega)), if_neg (by rw [c]; exact nn 10 2 (by omega) (by omega) (by omega)), if_neg (by rw [c]; exact nn 10 3 (by omega) (by omega) (by omega)), if_neg (by rw [c]; exact nn 10 4 (by omega) (by omega) (by omega)), if_neg (by rw [c]; exact nn 10 5 (by omega) (by omega) (by omega)), if_neg (by rw [c]; exact nn 10 6 (by omega) (by omega) (by omega)), if_neg (by rw [c]; exact nn 10 7 (by omega) (by omega) (by omega)), if_neg (by rw [c]; exact nn 10 8 (by omega) (by omega) (by omega)), if_neg (by rw [c]; exact nn 10 9 (by omega) (by omega) (by omega)), if_pos c] at hz; exact hz
  · rw [if_neg (by rw [c]; exact nn 11 0 (by omega) (by omega) (by omega)), if_neg (by rw [c]; exact nn 11 1 (by omega) (by omega) (by omega)), if_neg (by rw [c]; exact nn 11 2 (by omega) (by omega) (by omega)), if_neg (by rw [c]; exact nn 11 3 (by omega) (by omega) (by omega)), if_neg (by rw [c]; exact nn 11 4 (by omega) (by omega) (by omega)), if_neg (by rw [c]; exact nn 11 5 (by omega) (by omega) (by omega)), if_neg (by rw [c]; exact nn 11 6 (by omega) (by omega) (by omega)), if_neg (by rw [c]; exact nn 11 7 (by omega) (by omega) (by omega)), if_neg (by rw [c]; exact nn 11 8 (by omega) (by omega) (by omega)), if_neg (by rw [c]; exact nn 11 9 (by omega) (by omega) (by omega)), if_neg (by rw [c]; exact nn 11 10 (by omega) (by omega) (by omega)), if_pos c] at hz; exact hz
  · rw [if_neg c.1, if_neg c.2.1, if_neg c.2.2.1, if_neg c.2.2.2.1, if_neg c.2.2.2.2.1, if_neg c.2.2.2.2.2.1, if_neg c.2.2.2.2.2.2.1, if_neg c.2.2.2.2.2.2.2.1, if_neg c.2.2.2.2.2.2.2.2.1, if_neg c.2.2.2.2.2.2.2.2.2.1, if_neg c.2.2.2.2.2.2.2.2.2.2.1, if_neg c.2.2.2.2.2.2.2.2.2.2.2] at hz; exact hz
end RO
