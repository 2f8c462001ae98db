/-! ===== the reference's lost ===== -/
section MC
variable {g : jv_G} {d : Nat} {M M' : jv_Mem} {Z : Option Value → jv_Mem → Nat → Prop} {N : Nat} {T T' : Tt} {B : Bd} {p p' q : Pg} {U U' : Ut} {K K' : Kt} {S S' : St} {e e' : Int64} {D : Dt} {a : Nat} {f : Pg} {pr : Int32}
theorem c_M_power {a n : Nat} (hn : n < 20) (hz : Z (some (.int (nI (a ^ n)))) M N) : jv_Ct g d mt_M_power [.int (nI a), .int (nI n)] M N 0 0 Z := by
  have l : ∀ k i, i + k = n → jv_J g d mt_M_power 4 [some (.int (nI a)), some (.int (nI n)), some (.int (nI (a ^ i))), some (.int (nI i))] [] M N 0 0 Z := by
    intro k
    induction k with
    | zero =>
      intro i hi
      have hi : i = n := by omega
      subst hi
      refine b_M_power_4 ⟨fun _ => hz, fun c => absurd (nI_le (Nat.le_refl _) (by omega)) c⟩
    | succ k ih =>
      intro i hi
      refine b_M_power_4 ⟨fun c => absurd ((nn_le (a := n) (n := i) (by omega) (by omega)).mp c) (by omega), fun _ => ?_⟩
      rw [pk_mul, li, nI_add]
      exact ih (i + 1) (by omega)
  exact jv_ct rfl (Nat.le_of_ble_eq_true rfl) (b_M_power_0 (l n 0 (by omega)))
theorem q_drop (h : RM M T B p U K S e D) (hB : BV2 B) {k c : Nat} (hc : c < 12) (hk : k ≤ c) (e1 : M.1 659 80 = nI (c + 1)) (hz : ∀ M', SCR M M' → M'.1 659 = P_drop (M.1 659) k → Z none M' 668) : jv_Ct g d mt_M_dropOrder [.ref 659, .int (nI k)] M 668 0 0 Z := by
  have c1 := c_M_dropOrder (g := g) (d := d) (Z := Z) (p := M.1 659) (w := M.1 647 31) (h.mx hB (a := 659) (by omega) (by omega)) hc hk e1 (hz _ (SCR.pw (by omega) (fun j hj => by rw [P_drop_at e1 hc, if_neg (by omega), if_neg (by omega)])) (funext fun _ => pw_at _ _ _ _ _))
  rw [pw_self (by omega)] at c1
  exact c1
theorem M_lost (h : RM M T B p U K S e D) (hB : BV2 B) (P8 : POA B 8 p) (hp : PZ p) {x y : Int32} (hz : ∀ M', RM M' T B p U K S e D → FRc M M' → Z (some (.int (s_lost B p x y))) M' 668) : jv_Ct g (d + 9) mt_M_lost [.ref 647, .int x, .int y] M 668 0 0 Z := by
  have b4 := hB.1.2.1
  obtain ⟨m, hm, Pm, Am⟩ := P8
  have e80 := Pm.p80
  unfold s_lost at hz
  rw [e80, nx_n (by omega)] at hz
  have h3 := h.t0 0
  have F3 : FRc M (jv_si M 647 0 0) := FRc.si (by omega)
  refine jv_ct rfl (Nat.le_of_ble_eq_true rfl) (b_M_lost_0 ⟨tg_m, ?_⟩)
  generalize jv_si M 647 0 0 = M3 at h3 F3 ⊢
  refine c_in1 10 rfl rfl (by omega) (fun hb => jv_ri_i (rn1 ?_)) (fun hb => jv_ri_i (rn0 ?_))
  · have hb : bl x 11 = true := hb
    rw [if_pos hb] at hz
    obtain ⟨a, ha, ex⟩ := bl_of hb (by omega)
    subst ex
    rw [nx_n (by omega)] at hz
    refine ⟨tg_m, 658, (h3.1.1 19).trans mr_19, tg_658, by rw [sl_658]; exact vp_in_nI (n := 80) (by omega) (by omega), ?_⟩
    rw [show M3.1 658 (Int32.toNatClampNeg 80) = nI m from (h3.2.2.1 80).trans e80]
    obtain ⟨pw, pw2, -⟩ := pw64 m (by omega)
    have pw' : ((1 : Int32) <<< (nI m &&& 31)) = nI (2 ^ m) := pw
    obtain ⟨t1, t2⟩ := ten8 m (by omega)
    have ev : ((1 : Int32) <<< (nI (bd_nh B) &&& 31)) - 1 = nI (2 ^ bd_nh B - 1) := every (bd_nh B) b4
    -- the orders dropped, r left to look at, then ten ticks
    have l58 : ∀ l, l < 2 ^ m → (∀ M2, SCR M3 M2 → jv_J g (d + 9) mt_M_lost 34 [some (.ref 647), some (.int (nI a)), some (.int y), some (.int (nI m)), some (.int (nI (sumN (L_t B p a m) (l + 1)))), some (.int (nI (l + 1))), none] [] M2 668 0 0 Z) → ∀ r M1, r ≤ m → SCR M3 M1 → M1.1 659 = L_pg (nI l) m p (m - r) → jv_J g (d + 9) mt_M_lost 58 [some (.ref 647), some (.int (nI a)), some (.int y), some (.int (nI m)), some (.int (nI (sumN (L_t B p a m) l))), some (.int (nI l)), some (.int (nI r - 1))] [] M1 668 0 0 Z := by
      intro l hl nxt r
      induction r with
      | zero =>
        intro M1 hr E1 e1
        have h1 := h3.scr E1
        obtain ⟨P1, A1, r1, r2, r3⟩ := L_pg_OK hB Pm Am (nI l) m (Nat.le_refl _)
        have hlen := kl_len (nI l) (m - m) m
        rw [Nat.sub_zero] at e1
        refine b_M_lost_58 ⟨fun _ => ⟨tg_m, 659, (h1.1.1 20).trans mr_20, tg_m, q_tm h1 hB (Or.inl rfl) (by rw [e1]; exact ⟨_, by omega, P1, A1⟩) (n := 10) (by omega) (fun M6 E6 e6 => jv_rv_i ?_)⟩, fun c => absurd (by decide) c⟩
        have h6 := h1.scr E6
        refine ⟨tg_m, 659, (h6.1.1 20).trans mr_20, tg_m, ?_⟩
        rw [h6.1.2.2.1]
        refine q_hof (h6.mx hB (by omega) (by omega)) b4 (jv_ri_i ⟨tg_m, ?_⟩)
        rw [h6.1.2.2.1, ev, e6, e1, show (nI l + 1 : Int32) = nI (l + 1) from nI_add l 1]
        have J := nxt M6 (E1.trans E6)
        have es : sumN (L_t B p a m) (l + 1) = sumN (L_t B p a m) l + (if L_end B p m l = true then L_w a m l else 0) := rfl
        rw [es] at J
        unfold L_end at J
        refine ⟨fun c => ?_, fun c => ?_⟩
        · rw [decide_eq_false c, if_neg (by decide), Nat.add_zero] at J
          rw [show ∀ z : Int32, z + 0 = z from fun z => Int32.add_zero z]
          exact J
        · rw [decide_eq_true c, if_pos rfl] at J
          obtain ⟨c1, c2, c3⟩ := comp (m := m) (s := l) (by omega) hl
          refine c_M_ones (by omega) (jv_ri_i ?_)
          rw [show (10 - nI a : Int32) = nI (10 - a) from pk_sub (a := 10) (b := a) (by omega)]
          refine c_M_power (by omega) (jv_ri_i (c_M_ones (by omega) (jv_ri_i ?_)))
          rw [pk_sub c2]
          refine c_M_power (by omega) (jv_ri_i ?_)
          rw [pk_mul, nI_add]
          exact J
      | succ r ih =>
        intro M1 hr E1 e1
        have h1 := h3.scr E1
        obtain ⟨P1, A1, r1, r2, r3⟩ := L_pg_OK hB Pm Am (nI l) (m - (r + 1)) (by omega)
        have hlen := kl_len (nI l) (m - (m - (r + 1))) (m - (r + 1))
        rw [show m - (m - (r + 1)) = r + 1 by omega] at P1 hlen
        rw [show (nI (r + 1) - 1 : Int32) = nI r from nI_pred r]
        have en : (nI r + (-1) : Int32) = nI r - 1 := (Int32.sub_eq_add_neg _ _).symm
        have eL : L_pg (nI l) m p (m - r) = if P_bit (nI l) r = true then L_pg (nI l) m p (m - (r + 1)) else P_drop (L_pg (nI l) m p (m - (r + 1))) r := by
          rw [show m - r = m - (r + 1) + 1 by omega]
          show (if P_bit (nI l) (m - 1 - (m - (r + 1))) = true then _ else P_drop _ (m - 1 - (m - (r + 1)))) = _
          rw [show m - 1 - (m - (r + 1)) = r by omega]
        refine b_M_lost_58 ⟨fun c => absurd ((nn_lt (a := r) (n := 0) (by omega) (by omega)).mp c) (by omega), fun _ => c_M_has (jv_ri_i ?_)⟩
        rw [en]
        cases hb : P_bit (nI l) r with
        | true =>
          rw [hb, if_pos rfl] at eL
          exact rn1 (ih M1 (by omega) E1 (by rw [e1, eL]))
        | false =>
          rw [hb, if_neg (by decide)] at eL
          refine rn0 ⟨tg_m, 659, (h1.1.1 20).trans mr_20, q_drop h1 hB (k := r) (c := r + (kl (nI l) (r + 1) (m - (r + 1))).length) (by omega) (by omega) ?_ (fun M2 E2 e2 => jv_rv_i (ih M2 (by omega) (E1.trans E2) ?_))⟩
          · rw [e1, P1.p80, show r + 1 + (kl (nI l) (r + 1) (m - (r + 1))).length = r + (kl (nI l) (r + 1) (m - (r + 1))).length + 1 by omega]
          · rw [e2, e1, eL]
    have l34 : ∀ f k M1, k + f = 2 ^ m → SCR M3 M1 → jv_J g (d + 9) mt_M_lost 34 [some (.ref 647), some (.int (nI a)), some (.int y), some (.int (nI m)), some (.int (nI (sumN (L_t B p a m) k))), some (.int (nI k)), none] [] M1 668 0 0 Z := by
      intro f
      induction f with
      | zero =>
        intro k M1 hk E1
        have hk : k = 2 ^ m := by omega
        subst hk
        refine b_M_lost_34 ?_
        rw [pw']
        refine ⟨fun _ => c_M_power (a := 10) (by omega) (jv_ri_i ?_), fun c => absurd (nI_le (Nat.le_refl _) (by omega)) c⟩
        have hs := L_sum_le B p (x := a) (m := m) (n := 2 ^ m) ha (by omega) (Nat.le_refl _)
        rw [← oI_nI (sumN (L_t B p a m) (2 ^ m))]
        exact c_fraction (by omega) (by omega) t1 (by omega) (jv_ri_i (hz M1 (h3.scr E1) (F3.trans E1.frc)))
      | succ f ih =>
        intro k M1 hk E1
        have h1 := h3.scr E1
        refine b_M_lost_34 ?_
        rw [pw']
        refine ⟨fun c => absurd ((nn_le (a := 2 ^ m) (n := k) (by omega) (by omega)).mp c) (by omega), fun _ => ⟨tg_m, 659, (h1.1.1 20).trans mr_20, tg_m, 658, (h1.1.1 19).trans mr_19, q_lay h1 hp (Or.inl rfl) (fun M4 E4 e4 => jv_rv_i ?_)⟩⟩
        exact l58 k (by omega) (fun M2 E2 => ih (k + 1) M2 (by omega) E2) m M4 (Nat.le_refl _) (E1.trans E4) (by rw [e4, Nat.sub_self]; rfl)
    exact l34 (2 ^ m) 0 M3 (by omega) SCR.rf
  · have hb : ¬ bl x 11 = true := hb
    rw [if_neg hb] at hz
    exact hz _ h3 F3
end MC
