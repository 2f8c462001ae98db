/-! ===== the reference's calls: soonest, all, crew ===== -/
section MC
variable {g : jv_G} {d : Nat} {M M' : jv_Mem} {Z : Option Value → jv_Mem → Nat → Prop} {N : Nat} {T T' : Tt} {B : Bd} {p p' q : Pg} {U U' : Ut} {K K' : Kt} {S S' : St} {e e' : Int64} {D : Dt} {a : Nat} {f : Pg}
theorem SCR.s9 {k : Nat} {x : Int32} (hk : k < 165) : SCR M (jv_si M 659 k x) := by
  rw [si_as]
  exact SCR.pg (by omega) (fun j hj => pu_n _ _ (by omega))
theorem s9_at (M : jv_Mem) (k : Nat) (x : Int32) : (jv_si M 659 k x).1 659 = pu (M.1 659) k x := by
  funext j
  rw [si_as, pg_at]
theorem POA.become (P : POA B 8 p) (hB : BV2 B) {t k : Nat} (ht : t < bd_nt B) (hk : k < 16) : POA B 8 (P_set p t (nI 0) (nI k) (nI 0) (nI 1) (nI 0)) := by
  obtain ⟨m, hm, P1, A1⟩ := P
  have b6 := hB.1.2.2.1
  refine ⟨m, hm, P1.become hB ht (Nat.zero_le 1) hk (by omega) (by omega) ⟨Nat.le_refl 1, by omega⟩ (Nat.zero_le 1), fun i hi => ?_⟩
  rw [P_set_at, if_neg (by omega), if_neg (by omega), if_neg (by omega), if_neg (by omega), if_neg (by omega), if_neg (by omega)]
  exact A1 i hi
theorem M_soonest (h : RM M T B p U K S e D) (hB : BV2 B) (P8 : POA B 8 p) (hp : PZ p) {x : Int32} (hz : ∀ M', RM M' T B p U K S e D → FRc M M' → Z (some (.int (s_soon B p x))) M' 668) : jv_Ct g (d + 9) mt_M_soonest [.ref 647, .int x] M 668 0 0 Z := by
  unfold s_soon at hz
  have b4 := hB.1.2.1
  have b6 := hB.1.2.2.1
  have h3 := h.t0 0
  have F3 : FRc M (jv_si M 647 0 0) := FRc.si (by omega)
  refine jv_ct rfl (Nat.le_of_ble_eq_true rfl) (b_M_soonest_0 ⟨tg_m, tg_m, ?_⟩)
  generalize jv_si M 647 0 0 = M3 at h3 F3 ⊢
  rw [h3.1.2.2.2.1]
  refine c_inb1 rfl (by omega) (fun h1 => jv_ri_i (rn1 ?_)) (fun h1 => jv_ri_i (rn0 ?_))
  · rw [if_pos h1] at hz
    obtain ⟨t, ht, ex⟩ := bl_of h1 (by omega)
    subst ex
    rw [nx_n (by omega)] at hz
    have hw4 : bd_whose B t < 4 := hB.1.2.2.2.1 t
    obtain ⟨s1, s2⟩ := sh4 (bd_whose B t) hw4
    rw [s1] at hz
    obtain ⟨f, ef⟩ : ∃ f : Nat → Option Nat, f = fun k => FI B (nI (2 ^ bd_whose B t)) 60 (P_set p t (nI 0) (nI k) (nI 0) (nI 1) (nI 0)) := ⟨_, rfl⟩
    rw [← ef] at hz
    have hf : ∀ k n, f k = some n → n ≤ 60 := fun k n hk => by rw [ef] at hk; exact FI_le hk
    have l : ∀ n k M1 (x3 x4 : Int32), k + n = 16 → SCR M3 M1 → (soonR f k = none → x3 = -9) → (∀ r, soonR f k = some r → x3 = nI r.1 ∧ x4 = nI r.2) → jv_J g (d + 9) mt_M_soonest 31 [some (.ref 647), some (.int (nI t)), some (.int x3), some (.int x4), some (.int (nI k)), none, none] [] M1 668 0 0 Z := by
      intro n
      induction n with
      | zero =>
        intro k M1 x3 x4 hk E1 c1 c2
        have hk : k = 16 := by omega
        subst hk
        refine b_M_soonest_31 ⟨fun _ => ?_, fun c => absurd (nI_le (Nat.le_refl 16) (by omega)) c⟩
        have := hz M1 (h3.scr E1) (F3.trans E1.frc)
        cases hr : soonR f 16 with
        | none => rw [hr] at this; rw [c1 hr]; exact this
        | some r => rw [hr] at this; rw [(c2 r hr).1]; exact this
      | succ n ih =>
        intro k M1 x3 x4 hk E1 c1 c2
        have hm1 := h3.scr E1
        refine b_M_soonest_31 ⟨fun c => absurd ((nn_le (a := 16) (n := k) (by omega) (by omega)).mp c) (by omega), fun _ => ⟨tg_m, 659, (hm1.1.1 20).trans mr_20, tg_m, 658, (hm1.1.1 19).trans mr_19, q_lay hm1 hp (Or.inl rfl) (fun M4 E4 e4 => jv_rv_i ?_)⟩⟩
        have hm4 := hm1.scr E4
        have e40 : (40 + (6 * nI t) : Int32) = nI (40 + 6 * t) := by
          rw [show (6 * nI t : Int32) = nI (6 * t) from pk_mul 6 t]
          exact nI_add 40 (6 * t)
        rw [e40]
        have step : ∀ i v M2, i < 6 → M2.2 = M4.2 → v = (if i = 1 then nI k else if i = 3 ∨ i = 4 then nI 1 else nI 0) → jv_J g (d + 9) mt_M_soonest 61 [some (.ref 647), some (.int (nI t)), some (.int x3), some (.int x4), some (.int (nI k)), some (.int (nI (40 + 6 * t))), some (.int (nI (i + 1)))] [] (jv_si M2 659 (40 + 6 * t + i) v) 668 0 0 Z → jv_J g (d + 9) mt_M_soonest 61 [some (.ref 647), some (.int (nI t)), some (.int x3), some (.int x4), some (.int (nI k)), some (.int (nI (40 + 6 * t))), some (.int (nI i))] [] M2 668 0 0 Z := by
          intro i v M2 hi hM2 hv J
          have r2 : M2.2.1 647 20 = some 659 := by rw [hM2]; exact (hm4.1.1 20).trans mr_20
          refine b_M_soonest_61 ?_
          simp (disch := omega) only [li, ne_eq, nI_add, nI_clamp, vin, true_and, nn_le, nn_eq, r2, tg_m, tg_659, sl_659, Option.some.injEq, exists_eq_left']
          refine ⟨fun c => absurd c (by omega), fun _ => ⟨fun c1 => ⟨fun c3 => ?_, fun c3 => ⟨fun c4 => ?_, fun c4 => ?_⟩⟩, fun c1 => ?_⟩⟩
          · rw [if_neg c1, if_pos (Or.inl c3)] at hv; rw [← hv]; exact J
          · rw [if_neg c1, if_neg (by omega)] at hv; rw [← hv]; exact J
          · rw [if_neg c1, if_pos (Or.inr c4)] at hv; rw [← hv]; exact J
          · rw [if_pos c1] at hv; subst hv; exact J
        refine step 0 (nI 0) M4 (by omega) rfl rfl (step 1 (nI k) _ (by omega) rfl rfl (step 2 (nI 0) _ (by omega) rfl rfl (step 3 (nI 1) _ (by omega) rfl rfl (step 4 (nI 1) _ (by omega) rfl rfl (step 5 (nI 0) _ (by omega) rfl rfl ?_)))))
        have E5 : SCR M4 (jv_si (jv_si (jv_si (jv_si (jv_si (jv_si M4 659 (40 + 6 * t + 0) (nI 0)) 659 (40 + 6 * t + 1) (nI k)) 659 (40 + 6 * t + 2) (nI 0)) 659 (40 + 6 * t + 3) (nI 1)) 659 (40 + 6 * t + 4) (nI 1)) 659 (40 + 6 * t + 5) (nI 0)) := ((((((SCR.s9 (by omega)).trans (SCR.s9 (by omega))).trans (SCR.s9 (by omega))).trans (SCR.s9 (by omega))).trans (SCR.s9 (by omega))).trans (SCR.s9 (by omega)))
        have e5 : (jv_si (jv_si (jv_si (jv_si (jv_si (jv_si M4 659 (40 + 6 * t + 0) (nI 0)) 659 (40 + 6 * t + 1) (nI k)) 659 (40 + 6 * t + 2) (nI 0)) 659 (40 + 6 * t + 3) (nI 1)) 659 (40 + 6 * t + 4) (nI 1)) 659 (40 + 6 * t + 5) (nI 0)).1 659 = P_set p t (nI 0) (nI k) (nI 0) (nI 1) (nI 0) := by
          rw [s9_at, s9_at, s9_at, s9_at, s9_at, s9_at, e4]
          rfl
        generalize jv_si (jv_si (jv_si (jv_si (jv_si (jv_si M4 659 (40 + 6 * t + 0) (nI 0)) 659 (40 + 6 * t + 1) (nI k)) 659 (40 + 6 * t + 2) (nI 0)) 659 (40 + 6 * t + 3) (nI 1)) 659 (40 + 6 * t + 4) (nI 1)) 659 (40 + 6 * t + 5) (nI 0) = M5 at E5 e5 ⊢
        have hm5 := hm4.scr E5
        refine b_M_soonest_61 ⟨fun _ => ⟨tg_m, 659, (hm5.1.1 20).trans mr_20, tg_m, 652, (hm5.1.1 10).trans mr_10, tg_652, by rw [sl_652]; exact vp_in_nI (by omega) (by omega), tg_m, ?_⟩, fun c => absurd (nI_le (Nat.le_refl 6) (by omega)) c⟩
        rw [nI_clamp (by omega), hm5.1.2.2.2.2.2.2.2.2 t, show ((1 : Int32) <<< (nI (bd_whose B t) &&& 31)) = nI (2 ^ bd_whose B t) from s1]
        refine c_haltsOn hm5 hB (Or.inl rfl) (by rw [e5]; exact (P8.become hB ht (by omega)).le (by omega)) s2 (fun M6 E6 => jv_ri_i ?_)
        rw [e5, show FI B (nI (2 ^ bd_whose B t)) 60 (P_set p t (nI 0) (nI k) (nI 0) (nI 1) (nI 0)) = f k by rw [ef]]
        have E7 := ((E1.trans E4).trans E5).trans E6
        rw [show (nI k + 1 : Int32) = nI (k + 1) from nI_add k 1]
        cases hk2 : f k with
        | none =>
          refine ⟨fun _ => ?_, fun c => absurd rfl c⟩
          have e9 := soonR_none hk2
          exact ih (k + 1) M6 _ _ (by omega) E7 (fun z => c1 (e9.symm.trans z)) (fun r z => c2 r (e9.symm.trans z))
        | some n2 =>
          have hn2 := hf k n2 hk2
          refine ⟨fun c => absurd c (n9 n2 (by omega)), fun _ => ?_⟩
          cases hr : soonR f k with
          | none =>
            have e9 := soonR_new hk2 hr
            refine ⟨fun _ => ?_, fun c => absurd (c1 hr) c⟩
            refine ih (k + 1) M6 _ _ (by omega) E7 (fun z => ?_) (fun r z => ?_)
            · rw [e9] at z; cases z
            · rw [e9] at z; cases z; exact ⟨rfl, rfl⟩
          | some r =>
            obtain ⟨b, l⟩ := r
            obtain ⟨d1, d2⟩ := c2 (b, l) hr
            have hl := soonR_le hf k (b, l) hr
            have hl1 : b < k := hl.1
            have hl2 : l ≤ 60 := hl.2
            have e9 := soonR_some hk2 hr
            have d1 : x3 = nI b := d1
            have d2 : x4 = nI l := d2
            subst d1 d2
            refine ⟨fun c => absurd c (n9 b (by omega)), fun _ => ⟨fun c => ?_, fun c => ?_⟩⟩
            · have c : l ≤ n2 := (nn_le (a := l) (n := n2) (by omega) (by omega)).mp c
              rw [if_neg (by omega)] at e9
              refine ih (k + 1) M6 _ _ (by omega) E7 (fun z => ?_) (fun r z => ?_)
              · rw [e9] at z; cases z
              · rw [e9] at z; cases z; exact ⟨rfl, rfl⟩
            · have c : ¬ l ≤ n2 := fun z => c ((nn_le (a := l) (n := n2) (by omega) (by omega)).mpr z)
              rw [if_pos (by omega)] at e9
              refine ih (k + 1) M6 _ _ (by omega) E7 (fun z => ?_) (fun r z => ?_)
              · rw [e9] at z; cases z
              · rw [e9] at z; cases z; exact ⟨rfl, rfl⟩
    exact l 16 0 M3 _ _ (by omega) SCR.rf (fun _ => rfl) (fun r z => by cases z)
  · rw [if_neg h1] at hz
    exact hz _ h3 F3
theorem P_send0 (q : Pg) (h : Nat) : P_send q (nI 0) (nI h) (nI 0) (nI 0) = P_app q (nI 0) (nI h) (nI 0) (nI 0) := by
  unfold P_send
  rw [if_neg (fun z => absurd z.1 (by decide)), if_neg (fun z => absurd z.1 (by decide))]
theorem c_allBy (h : RM M T B p U K S e D) (hB : BV2 B) (P8 : POA B 8 p) (hp : PZ p) {s : Nat} (hs : s < 16) (hz : ∀ M', SCR M M' → Z (some (.int (oi (FI B (nI (2 ^ bd_nh B - 1)) 60 (P_alls B p (nI s) (bd_nh B)))))) M' 668) : jv_Ct g (d + 6) mt_M_allBy [.ref 647, .int (nI s)] M 668 0 0 Z := by
  have b4 := hB.1.2.1
  have ev := every (bd_nh B) b4
  have hg : 2 ^ bd_nh B - 1 < 16 := (by decide : ∀ n, n ≤ 4 → 2 ^ n - 1 < 16) _ b4
  have l : ∀ n i M1 m, i + n = bd_nh B → SCR M M1 → M1.1 659 = P_alls B p (nI s) i → m ≤ 8 + i → POK B m (M1.1 659) → AG B m (M1.1 659) → jv_J g (d + 6) mt_M_allBy 13 [some (.ref 647), some (.int (nI s)), some (.int (nI i))] [] M1 668 0 0 Z := by
    intro n
    induction n with
    | zero =>
      intro i M1 m hi E1 e1 hm P1 A1
      have hi : i = bd_nh B := by omega
      subst hi
      have h1 := h.scr E1
      have nh := h1.1.2.2.1
      refine b_M_allBy_13 ⟨tg_m, ?_⟩
      rw [nh]
      refine ⟨fun _ => ⟨tg_m, 659, (h1.1.1 20).trans mr_20, tg_m, tg_m, ?_⟩, fun c => absurd (nI_le (Nat.le_refl _) (by omega)) c⟩
      rw [show (((1 : Int32) <<< (nI (bd_nh B) &&& 31)) - 1) = nI (2 ^ bd_nh B - 1) from ev]
      refine c_haltsOn h1 hB (Or.inl rfl) ⟨m, by omega, P1, A1⟩ hg (fun M6 E6 => jv_ri_i ?_)
      rw [e1]
      exact hz _ (E1.trans E6)
    | succ n ih =>
      intro i M1 m hi E1 e1 hm P1 A1
      have h1 := h.scr E1
      have nh := h1.1.2.2.1
      refine b_M_allBy_13 ⟨tg_m, ?_⟩
      rw [nh]
      refine ⟨fun c => absurd ((nn_le (a := bd_nh B) (n := i) (by omega) (by omega)).mp c) (by omega), fun _ => c_M_has (jv_ri_i ?_)⟩
      rw [show (nI i + 1 : Int32) = nI (i + 1) from nI_add i 1]
      have es : P_alls B p (nI s) (i + 1) = (if P_bit (nI s) i = true then P_app (P_alls B p (nI s) i) (nI 0) (nI i) (nI 0) (nI 0) else P_alls B p (nI s) i) := rfl
      by_cases hb : P_bit (nI s) i = true
      · rw [if_pos hb] at es ⊢
        refine re1 ⟨tg_m, 659, (h1.1.1 20).trans mr_20, q_so (Or.inl rfl) (m := m) P1.p80 (by omega) (o := nI 0) (h := nI i) (r := nI 0) (v := nI 0) (fun M2 E2 e2 => jv_rv_i ?_)⟩
        rw [P_send0] at e2
        obtain ⟨q1, q2⟩ := P1.app A1 (by omega) hB (Nat.zero_le 5) (show i < bd_nh B by omega) (show 0 < 4 by omega) (show 0 < 1000 by omega)
        exact ih (i + 1) M2 (m + 1) (by omega) (E1.trans E2) (by rw [e2, es, e1]) (by omega) (by rw [e2]; exact q1) (by rw [e2]; exact q2)
      · rw [if_neg hb] at es ⊢
        exact re0 (ih (i + 1) M1 m (by omega) E1 (by rw [es, e1]) (by omega) P1 A1)
  obtain ⟨m, hm, Pm, Am⟩ := P8
  refine jv_ct rfl (Nat.le_of_ble_eq_true rfl) (b_M_allBy_0 ⟨tg_m, 659, (h.1.1 20).trans mr_20, tg_m, 658, (h.1.1 19).trans mr_19, q_lay h hp (Or.inl rfl) (fun M4 E4 e4 => jv_rv_i ?_)⟩)
  exact l (bd_nh B) 0 M4 m (by omega) E4 e4 (by omega) (by rw [e4]; exact Pm) (by rw [e4]; exact Am)
theorem M_all (h : RM M T B p U K S e D) (hB : BV2 B) (P8 : POA B 8 p) (hp : PZ p) {x : Int32} (hz : ∀ M', RM M' T B p U K S e D → FRc M M' → Z (some (.int (s_all B p x))) M' 668) : jv_Ct g (d + 9) mt_M_all [.ref 647, .int x] M 668 0 0 Z := by
  unfold s_all at hz
  have b4 := hB.1.2.1
  have h3 := h.t0 0
  have F3 : FRc M (jv_si M 647 0 0) := FRc.si (by omega)
  have ev := every (bd_nh B) b4
  have hg : 2 ^ bd_nh B ≤ 16 := (by decide : ∀ n, n ≤ 4 → 2 ^ n ≤ 16) _ b4
  have h1p := Nat.one_le_two_pow (n := bd_nh B)
  refine jv_ct rfl (Nat.le_of_ble_eq_true rfl) (b_M_all_0 ⟨tg_m, tg_m, ?_⟩)
  generalize jv_si M 647 0 0 = M3 at h3 F3 ⊢
  rw [h3.1.2.2.1, show (((1 : Int32) <<< (nI (bd_nh B) &&& 31)) - 1) = nI (2 ^ bd_nh B - 1) from ev]
  have e2 : 2 ^ bd_nh B - 1 + 1 = 2 ^ bd_nh B := by omega
  refine c_in1 (2 ^ bd_nh B - 1) rfl (nI_l (by omega)) (by omega) (fun h1 => jv_ri_i (re1 ?_)) (fun h1 => jv_ri_i (re0 ?_))
  · rw [e2] at h1
    rw [if_pos h1] at hz
    obtain ⟨s, hs, ex⟩ := bl_of h1 (by omega)
    subst ex
    exact ⟨tg_m, c_allBy h3 hB P8 hp (by omega) (fun M4 E4 => jv_ri_i (hz _ (h3.scr E4) (F3.trans E4.frc)))⟩
  · rw [e2] at h1
    rw [if_neg h1] at hz
    exact hz _ h3 F3
theorem M_crew (h : RM M T B p U K S e D) (hB : BV2 B) (P8 : POA B 8 p) (hp : PZ p) (hz : ∀ M', RM M' T B p U K S e D → FRc M M' → Z (some (.int (s_crew B p))) M' 668) : jv_Ct g (d + 9) mt_M_crew [.ref 647] M 668 0 0 Z := by
  unfold s_crew at hz
  have b4 := hB.1.2.1
  have h3 := h.t0 0
  have F3 : FRc M (jv_si M 647 0 0) := FRc.si (by omega)
  have hg : nI 1 <<< (nI (bd_nh B) &&& nI 31) = nI (2 ^ bd_nh B) ∧ 2 ^ bd_nh B ≤ 16 := (by decide +kernel : ∀ n, n ≤ 4 → nI 1 <<< (nI n &&& nI 31) = nI (2 ^ n) ∧ 2 ^ n ≤ 16) _ b4
  obtain ⟨hg, hg2⟩ := hg
  refine jv_ct rfl (Nat.le_of_ble_eq_true rfl) (b_M_crew_0 ⟨tg_m, ?_⟩)
  generalize jv_si M 647 0 0 = M3 at h3 F3 ⊢
  obtain ⟨f, ef⟩ : ∃ f : Nat → Option Nat, f = fun k => FI B (nI (2 ^ bd_nh B - 1)) 60 (P_alls B p (nI k) (bd_nh B)) := ⟨_, rfl⟩
  rw [← ef] at hz
  obtain ⟨G, eG⟩ : ∃ G, G = 2 ^ bd_nh B := ⟨_, rfl⟩
  rw [← eG] at hg hg2 hz
  have hf : ∀ k n, f k = some n → n ≤ 60 := fun k n hk => by rw [ef] at hk; exact FI_le hk
  have l : ∀ n k M1 (x1 x2 : Int32), k + n = G → SCR M3 M1 → (crewR f k = none → x1 = -9) → (∀ r, crewR f k = some r → x1 = nI r.1 ∧ x2 = nI r.2) → jv_J g (d + 9) mt_M_crew 12 [some (.ref 647), some (.int x1), some (.int x2), some (.int (nI k)), none, none] [] M1 668 0 0 Z := by
    intro n
    induction n with
    | zero =>
      intro k M1 x1 x2 hk E1 c1 c2
      have hk : k = G := by omega
      subst hk
      have h1 := h3.scr E1
      refine b_M_crew_12 ⟨tg_m, ?_⟩
      rw [h1.1.2.2.1, show ((1 : Int32) <<< (nI (bd_nh B) &&& 31)) = nI k from hg]
      refine ⟨fun _ => ?_, fun c => absurd (nI_le (Nat.le_refl _) (by omega)) c⟩
      have := hz M1 h1 (F3.trans E1.frc)
      cases hr : crewR f k with
      | none => rw [hr] at this; rw [c1 hr]; exact this
      | some r => rw [hr] at this; rw [(c2 r hr).1]; exact this
    | succ n ih =>
      intro k M1 x1 x2 hk E1 c1 c2
      have h1 := h3.scr E1
      refine b_M_crew_12 ⟨tg_m, ?_⟩
      rw [h1.1.2.2.1, show ((1 : Int32) <<< (nI (bd_nh B) &&& 31)) = nI G from hg]
      refine ⟨fun c => absurd ((nn_le (a := G) (n := k) (by omega) (by omega)).mp c) (by omega), fun _ => ⟨tg_m, c_allBy h1 hB P8 hp (by omega) (fun M4 E4 => jv_ri_i ?_)⟩⟩
      rw [show FI B (nI (2 ^ bd_nh B - 1)) 60 (P_alls B p (nI k) (bd_nh B)) = f k by rw [ef]]
      have E5 := E1.trans E4
      have ek : (nI k + 1 : Int32) = nI (k + 1) := nI_add k 1
      cases hk2 : f k with
      | none =>
        have e9 := crewR_none hk2
        have J : ∀ y, jv_J g (d + 9) mt_M_crew 63 [some (.ref 647), some (.int x1), some (.int x2), some (.int (nI k)), some (.int (oi none)), none] [.int y] M4 668 0 0 Z := by
          intro y
          refine b_M_crew_63 ⟨fun _ => ?_, fun c => absurd rfl c⟩
          rw [ek]
          exact ih (k + 1) M4 _ _ (by omega) E5 (fun z => c1 (e9.symm.trans z)) (fun r z => c2 r (e9.symm.trans z))
        refine ⟨fun _ => J 1, fun c => ⟨fun _ => J 1, fun _ => ⟨fun _ => J 0, fun ceq => ?_⟩⟩⟩
        exfalso
        cases hr : crewR f k with
        | none => exact c (c1 hr)
        | some r =>
          have hl := (crewR_le hf k r hr).2
          have d2 := (c2 r hr).2
          rw [d2] at ceq
          exact n9 r.2 (by omega) ceq.symm
      | some n2 =>
        have hn2 := hf k n2 hk2
        have J0 : crewR f (k + 1) = crewR f k → jv_J g (d + 9) mt_M_crew 63 [some (.ref 647), some (.int x1), some (.int x2), some (.int (nI k)), some (.int (oi (some n2))), none] [.int 0] M4 668 0 0 Z := by
          intro e9
          refine b_M_crew_63 ⟨fun c => absurd c (n9 n2 (by omega)), fun _ => ⟨fun _ => ?_, fun c => absurd rfl c⟩⟩
          rw [ek]
          exact ih (k + 1) M4 _ _ (by omega) E5 (fun z => c1 (e9.symm.trans z)) (fun r z => c2 r (e9.symm.trans z))
        have J1 : crewR f (k + 1) = some (k, n2) → jv_J g (d + 9) mt_M_crew 63 [some (.ref 647), some (.int x1), some (.int x2), some (.int (nI k)), some (.int (oi (some n2))), none] [.int 1] M4 668 0 0 Z := by
          intro e9
          refine b_M_crew_63 ⟨fun c => absurd c (n9 n2 (by omega)), fun _ => ⟨fun c => absurd c (by decide), fun _ => ?_⟩⟩
          rw [ek]
          refine ih (k + 1) M4 _ _ (by omega) E5 (fun z => ?_) (fun r z => ?_)
          · rw [e9] at z; cases z
          · rw [e9] at z; cases z; exact ⟨rfl, rfl⟩
        cases hr : crewR f k with
        | none => exact ⟨fun _ => J1 (crewR_new hk2 hr), fun c => absurd (c1 hr) c⟩
        | some r =>
          obtain ⟨b, l⟩ := r
          obtain ⟨d1, d2⟩ := c2 (b, l) hr
          have hl := crewR_le hf k (b, l) hr
          have hl1 : b < k := hl.1
          have hl2 : l ≤ 60 := hl.2
          have e9 := crewR_some hk2 hr
          have d1 : x1 = nI b := d1
          have d2 : x2 = nI l := d2
          subst d1 d2
          have eo : oi (some n2) = nI n2 := rfl
          refine ⟨fun c => absurd c (n9 b (by omega)), fun _ => ⟨fun c => ?_, fun c => ⟨fun c3 => ?_, fun c3 => ?_⟩⟩⟩
          · have c : n2 < l := (nn_lt (a := n2) (n := l) (by omega) (by omega)).mp c
            exact J1 (by rw [e9, if_pos (Or.inl c)])
          · have c : ¬ n2 < l := fun z => c ((nn_lt (a := n2) (n := l) (by omega) (by omega)).mpr z)
            have c3 : ¬ n2 = l := fun z => c3 (by rw [z]; rfl)
            exact J0 (by rw [e9, if_neg (by omega), hr])
          · have c3 : n2 = l := (nn_eq (a := n2) (n := l) (by omega) (by omega)).mp c3
            refine c_M_ones (a := k) (by omega) (jv_ri_i (c_M_ones (a := b) (by omega) (jv_ri_i ⟨fun c4 => ?_, fun c4 => ?_⟩)))
            · have p1 := pcn_le b 8
              have p2 := pcn_le k 8
              have c4 : pcn b 8 ≤ pcn k 8 := (nn_le (by omega) (by omega)).mp c4
              exact J0 (by rw [e9, if_neg (by omega), hr])
            · have p1 := pcn_le b 8
              have p2 := pcn_le k 8
              have c4 : ¬ pcn b 8 ≤ pcn k 8 := fun z => c4 ((nn_le (by omega) (by omega)).mpr z)
              exact J1 (by rw [e9, if_pos (Or.inr ⟨c3, by omega⟩)])
  exact l G 0 M3 _ _ (by omega) SCR.rf (fun _ => rfl) (fun r z => by cases z)
end MC
