/-! ===== the reference's calls: orders sent, forecasts ===== -/
section MC
variable {g : jv_G} {d : Nat} {M M' : jv_Mem} {Z : Option Value → jv_Mem → Nat → Prop} {N : Nat} {T T' : Tt} {B : Bd} {p p' q : Pg} {U U' : Ut} {K K' : Kt} {S S' : St} {e e' : Int64} {D : Dt} {a : Nat} {f : Pg}
theorem c_isAbs (h1 : 657 ≤ a) (h2 : a ≤ 660) {m : Nat} (em : M.1 a 80 = nI m) (hm : m ≤ 12) (hz : Z (some (.int (if P_abs (M.1 a) m = true then nI 1 else nI 0))) M 668) : jv_Ct g d mt_M_isAbstractOn [.ref a] M 668 0 0 Z := by
  have hT := tg_pg h1 h2
  have hl := sl_pg h1 h2
  have l : ∀ n i, i + n = m → jv_J g d mt_M_isAbstractOn 4 [some (.ref a), some (.int (if P_abs (M.1 a) i = true then nI 1 else nI 0)), some (.int (nI i))] [] M 668 0 0 Z := by
    intro n
    induction n with
    | zero =>
      intro i hi
      have hi : i = m := by omega
      subst hi
      refine b_M_isAbstractOn_4 ?_
      simp (disch := omega) only [li, ne_eq, nI_clamp, vin, true_and, hT, hl, em, nn_le]
      refine ⟨fun _ => ⟨?_, hz⟩, fun c => absurd (Nat.le_refl _) c⟩
      split
      · exact Or.inr rfl
      · exact Or.inl rfl
    | succ n ih =>
      intro i hi
      have ih := ih (i + 1) (by omega)
      have es : P_abs (M.1 a) (i + 1) = (P_abs (M.1 a) i || decide (nI 2 < M.1 a (81 + 7 * i))) := rfl
      rw [es] at ih
      refine b_M_isAbstractOn_4 ?_
      simp (disch := omega) only [li, ne_eq, nI_clamp, nI_add, pk_mul, vin, true_and, hT, hl, em, nn_le]
      refine ⟨fun c => absurd c (by omega), fun _ => ?_⟩
      by_cases hb : P_abs (M.1 a) i = true
      · rw [hb, Bool.true_or, if_pos rfl] at ih
        rw [if_pos hb]
        exact ⟨fun _ => ih, fun c => absurd c (by decide)⟩
      · rw [Bool.not_eq_true] at hb
        rw [hb, Bool.false_or] at ih
        rw [hb, if_neg (by decide)]
        refine ⟨fun c => absurd rfl c, fun _ => ⟨fun c => ?_, fun c => ?_⟩⟩
        · rw [decide_eq_false (Int32.not_lt.mpr c), if_neg (by decide)] at ih
          exact ih
        · rw [decide_eq_true (Int32.not_le.mp c), if_pos rfl] at ih
          exact ih
  exact jv_ct rfl (Nat.le_of_ble_eq_true rfl) (b_M_isAbstractOn_0 (l m 0 (by omega)))
theorem c_sendOn (h1 : 657 ≤ a) (h2 : a ≤ 660) {m : Nat} (em : M.1 a 80 = nI m) (hm : m < 12) {o h r v : Int32} (hz : Z none (jv_pg M a (P_send (M.1 a) o h r v)) 668) : jv_Ct g (d + 1) mt_M_sendOn [.ref a, .int o, .int h, .int r, .int v] M 668 0 0 Z := by
  have hT := tg_pg h1 h2
  have hl := sl_pg h1 h2
  unfold P_send at hz
  have l31 : Z none (jv_pg M a (P_app (M.1 a) o h r v)) 668 → jv_J g (d + 1) mt_M_sendOn 31 [some (.ref a), some (.int o), some (.int h), some (.int r), some (.int v), none] [] M 668 0 0 Z := by
    intro hz
    refine b_M_sendOn_31 ?_
    have e7 : ∀ x1 x2 x3 x4 x5 x6 x7 : Int32, pu (pu (pu (pu (pu (pu (pu (M.1 a) (81 + 7 * m) x1) (81 + 7 * m + 1) x2) (81 + 7 * m + 2) x3) (81 + 7 * m + 3) x4) (81 + 7 * m + 4) x5) (81 + 7 * m + 5) x6) (81 + 7 * m + 6) x7 80 = nI m := by
      intro x1 x2 x3 x4 x5 x6 x7
      rw [pu_n _ _ (by omega), pu_n _ _ (by omega), pu_n _ _ (by omega), pu_n _ _ (by omega), pu_n _ _ (by omega), pu_n _ _ (by omega), pu_n _ _ (by omega), em]
    unfold P_app at hz
    rw [em, nx_n (by omega)] at hz
    have e0 : M = jv_pg M a (M.1 a) := (pg_self M a).symm
    simp (disch := omega) only [li, nI_clamp, nI_add, pk_mul, vin, true_and, hT, hl, em]
    rw [e0]
    simp (disch := omega) only [si_pg, pg_at, e7, nI_add]
    rw [nI_add] at hz
    exact hz
  have l13 : (¬ (nI 2 < o) → Z none (jv_pg M a (P_app (M.1 a) o h r v)) 668) → (nI 2 < o → Z none (jv_pg M a (if P_abs (M.1 a) m = true then pu (M.1 a) 76 (nI 1) else P_app (M.1 a) o h r v)) 668) → jv_J g (d + 1) mt_M_sendOn 13 [some (.ref a), some (.int o), some (.int h), some (.int r), some (.int v), none] [] M 668 0 0 Z := by
    intro k1 k2
    refine b_M_sendOn_13 ⟨fun c => l31 (k1 (Int32.not_lt.mpr c)), fun c => c_isAbs h1 h2 em (by omega) (jv_ri_i ?_)⟩
    have k2 := k2 (Int32.not_le.mp c)
    by_cases hb : P_abs (M.1 a) m = true
    · rw [if_pos hb] at k2 ⊢
      refine re1 ⟨hT, by rw [hl]; exact vp_in_nI (n := 76) (by omega) (by omega), ?_⟩
      rw [si_as]
      exact k2
    · rw [if_neg hb] at k2 ⊢
      exact re0 (l31 k2)
  rw [em, nx_n (by omega)] at hz
  refine jv_ct rfl (Nat.le_of_ble_eq_true rfl) (b_M_sendOn_0 ⟨fun c => ?_, fun c => ⟨hT, by rw [hl]; exact vp_in_nI (n := 76) (by omega) (by omega), fun c2 => ?_, fun c2 => ?_⟩⟩)
  · have c' : ¬ nI 2 < o := Int32.not_lt.mpr c
    rw [if_neg (fun z => c' z.1), if_neg (fun z => c' z.1)] at hz
    exact l13 (fun _ => hz) (fun z => absurd z c')
  · have c' : nI 2 < o := Int32.not_le.mp c
    have c2' : M.1 a 76 = nI 0 := c2
    rw [if_neg (fun z => z.2 c2')] at hz
    refine l13 (fun z => absurd c' z) (fun _ => ?_)
    by_cases hb : P_abs (M.1 a) m = true
    · rw [if_pos ⟨c', hb⟩] at hz
      rw [if_pos hb]; exact hz
    · rw [if_neg (fun z => hb z.2)] at hz
      rw [if_neg hb]; exact hz
  · have c' : nI 2 < o := Int32.not_le.mp c
    rw [if_pos ⟨c', c2⟩, pg_self] at hz
    exact hz
theorem P_send_hi {m : Nat} (em : q 80 = nI m) (hm : m < 12) (o h r v : Int32) {j : Nat} (hj : 165 ≤ j) : P_send q o h r v j = q j := by
  unfold P_send
  split
  · rfl
  · split
    · exact pu_n _ _ (by omega)
    · rw [P_app_at em hm, if_neg (by omega), if_neg (by omega), if_neg (by omega), if_neg (by omega), if_neg (by omega), if_neg (by omega), if_neg (by omega), if_neg (by omega)]
/-- an order sent on a page that is tried -/
theorem q_so (ha : a = 659 ∨ a = 660) {m : Nat} (em : M.1 a 80 = nI m) (hm : m < 12) {o h r v : Int32} (hz : ∀ M', SCR M M' → M'.1 a = P_send (M.1 a) o h r v → Z none M' 668) : jv_Ct g (d + 1) mt_M_sendOn [.ref a, .int o, .int h, .int r, .int v] M 668 0 0 Z :=
  c_sendOn (by omega) (by omega) em hm (hz _ (SCR.pg (by omega) (fun _ hj => P_send_hi em hm _ _ _ _ hj)) (funext fun _ => pg_at _ _ _ _))
theorem M_send (h : RM M T B p U K S e D) (hB : BV2 B) (P8 : POA B 8 p) (hU : U.1 ≤ 14) {x1 x2 x3 x4 : Int32} (hz : ∀ M', RM M' T B (s_send B U p x1 x2 x3 x4).2.2 (s_send B U p x1 x2 x3 x4).2.1 K S e D → FRc M M' → Z (some (.int (s_send B U p x1 x2 x3 x4).1)) M' 668) : jv_Ct g (d + 9) mt_M_send [.ref 647, .int x1, .int x2, .int x3, .int x4] M 668 0 0 Z := by
  unfold s_send at hz
  have b4 := hB.1.2.1
  obtain ⟨m, hm, Pm, Am⟩ := P8
  have e80 := Pm.p80
  rw [e80, nx_n (by omega)] at hz
  have h3 := h.t0 0
  have F3 : FRc M (jv_si M 647 0 0) := FRc.si (by omega)
  refine jv_ct rfl (Nat.le_of_ble_eq_true rfl) (b_M_send_0 ⟨tg_m, ?_⟩)
  generalize jv_si M 647 0 0 = M3 at h3 F3 ⊢
  refine c_in1 5 rfl rfl (by omega) (fun h1 => jv_ri_i (rn1 ?_)) (fun h1 => jv_ri_i (rn0 ?_))
  · rw [if_pos h1] at hz
    refine ⟨tg_m, c_noHart h3.1.2.2.1 b4 (fun h2 => jv_ri_i (re0 ?_)) (fun h2 => jv_ri_i (re1 ?_))⟩
    · rw [if_pos h2] at hz
      have no : ¬ (bl x3 (if x1 = nI 3 ∨ x1 = nI 4 then 4 else 1) = true ∧ bl x4 (if x1 = nI 4 then 1000 else 1) = true) → jv_J g (d + 9) mt_M_send 78 [none, none, none, none, none] [] M3 668 0 0 Z := fun c => by
        rw [if_neg c] at hz
        exact b_M_send_78 (hz _ h3 F3)
      have go72 : ∀ b, b < 2 ^ 30 → bl x3 (if x1 = nI 3 ∨ x1 = nI 4 then 4 else 1) = true → (if x1 = nI 4 then 1000 else 1) = b + 1 → jv_J g (d + 9) mt_M_send 72 [some (.ref 647), some (.int x1), some (.int x2), some (.int x3), some (.int x4)] [.long (lN b), .long 0, .long (Int32.toInt64 x4)] M3 668 0 0 Z := by
        intro b hb hx3 eb
        rw [eb] at hz no
        refine b_M_send_72 (c_in1 b rfl rfl (by omega) (fun h4 => jv_ri_i (rn1 ?_)) (fun h4 => jv_ri_i (rn0 (no (fun z => h4 z.2)))))
        rw [if_pos ⟨hx3, h4⟩] at hz
        have r := h3.1.1
        have pg := h3.2.2.1
        have e80' : M3.1 658 (Int32.toNatClampNeg 80) = nI m := (pg 80).trans e80
        refine ⟨tg_m, 658, (r 19).trans mr_19, tg_658, by rw [sl_658]; exact vp_in_nI (n := 80) (by omega) (by omega), ?_⟩
        rw [e80']
        refine ⟨fun c => ?_, fun c => ?_⟩
        · have c : ¬ m = 8 := fun z => c (by rw [z]; rfl)
          rw [if_neg c] at hz
          refine ⟨tg_m, c_note h3 hU (fun M4 h4 F4 => jv_rv_i ?_)⟩
          refine ⟨tg_m, 658, (h4.1.1 19).trans mr_19, c_sendOn (by omega) (by omega) (m := m) ((h4.2.2.1 80).trans e80) (by omega) (jv_rv_i ?_)⟩
          have h5 : RM (jv_pg M4 658 (P_send (M4.1 658) x1 x2 x3 x4)) T B (P_send p x1 x2 x3 x4) (U_note U p) K S e D := by
            rw [h4.p1]; exact h4.p658
          have F5 : FRc M4 (jv_pg M4 658 (P_send (M4.1 658) x1 x2 x3 x4)) := FRc.pg (by omega)
          generalize jv_pg M4 658 (P_send (M4.1 658) x1 x2 x3 x4) = M5 at h5 F5 ⊢
          refine ⟨tg_m, 658, (h5.1.1 19).trans mr_19, tg_658, by rw [sl_658]; exact vp_in_nI (n := 76) (by omega) (by omega), ?_⟩
          rw [show M5.1 658 (Int32.toNatClampNeg 76) = P_send p x1 x2 x3 x4 76 from h5.2.2.1 76]
          exact hz _ h5 ((F3.trans F4).trans F5)
        · have c : m = 8 := (nn_eq (a := m) (n := 8) (by omega) (by omega)).mp c
          rw [if_pos c] at hz
          exact hz _ h3 F3
      have w1 : ∀ {v w : Int64} , x1 ≠ 4 → True := fun _ => trivial
      have n4 : bl x3 (if x1 = nI 3 ∨ x1 = nI 4 then 4 else 1) = true → (x1 ≠ 4 → jv_J g (d + 9) mt_M_send 72 [some (.ref 647), some (.int x1), some (.int x2), some (.int x3), some (.int x4)] [.long 0, .long 0, .long (Int32.toInt64 x4)] M3 668 0 0 Z) ∧ (x1 = 4 → jv_J g (d + 9) mt_M_send 72 [some (.ref 647), some (.int x1), some (.int x2), some (.int x3), some (.int x4)] [.long 999, .long 0, .long (Int32.toInt64 x4)] M3 668 0 0 Z) := fun hx => ⟨fun c => go72 0 (by omega) hx (if_neg c), fun c => go72 999 (by omega) hx (if_pos c)⟩
      have go43 : (x1 = nI 3 ∨ x1 = nI 4) → jv_J g (d + 9) mt_M_send 43 [some (.ref 647), some (.int x1), some (.int x2), some (.int x3), some (.int x4)] [.long 0, .long (Int32.toInt64 x3)] M3 668 0 0 Z := by
        intro hx
        refine b_M_send_43 (c_in1 3 rfl rfl (by omega) (fun h4 => jv_ri_i (re1 (n4 ?_))) (fun h4 => jv_ri_i (re0 (no (fun z => h4 ?_)))))
        · rw [if_pos hx]; exact h4
        · have z1 := z.1
          rw [if_pos hx] at z1
          exact z1
      refine ⟨fun c => go43 (Or.inl c), fun c3 => ⟨fun c4 => ?_, fun c4 => go43 (Or.inr c4)⟩⟩
      have hx : ¬ (x1 = nI 3 ∨ x1 = nI 4) := fun z => z.elim c3 c4
      refine c_in1 0 rfl rfl (by omega) (fun h4 => jv_ri_i (re1 (n4 ?_))) (fun h4 => jv_ri_i (re0 (no (fun z => h4 ?_))))
      · rw [if_neg hx]; exact h4
      · have z1 := z.1
        rw [if_neg hx] at z1
        exact z1
    · rw [if_neg h2] at hz
      exact hz _ h3 F3
  · rw [if_neg h1] at hz
    exact hz _ h3 F3
theorem M_ahead (h : RM M T B p U K S e D) (hB : BV2 B) (P8 : POA B 8 p) (hp : PZ p) {x1 x2 x3 : Int32} (hz : ∀ M', RM M' T B p U K S e D → FRc M M' → Z (some (.int (s_ahead B p x1 x2 x3))) M' 668) : jv_Ct g (d + 9) mt_M_ahead [.ref 647, .int x1, .int x2, .int x3] M 668 0 0 Z := by
  unfold s_ahead at hz
  have b4 := hB.1.2.1
  have h3 := h.t0 0
  have F3 : FRc M (jv_si M 647 0 0) := FRc.si (by omega)
  refine jv_ct rfl (Nat.le_of_ble_eq_true rfl) (b_M_ahead_0 ⟨tg_m, tg_m, ?_⟩)
  generalize jv_si M 647 0 0 = M3 at h3 F3 ⊢
  refine c_noHart h3.1.2.2.1 b4 (fun h1 => jv_ri_i (re0 ?_)) (fun h1 => jv_ri_i (re1 ?_))
  · rw [if_pos h1] at hz
    refine c_in1 99 rfl rfl (by omega) (fun h2 => jv_ri_i (re1 ?_)) (fun h2 => jv_ri_i (re0 ?_))
    · rw [if_pos h2] at hz
      refine c_in1 9 rfl rfl (by omega) (fun h4 => jv_ri_i (rn1 ?_)) (fun h4 => jv_ri_i (rn0 ?_))
      · rw [if_pos h4] at hz
        obtain ⟨n, hn, en⟩ := bl_of h2 (by omega)
        obtain ⟨j, hj, ej⟩ := bl_of h1 (by omega)
        obtain ⟨w, hw, ew⟩ := bl_of h4 (by omega)
        subst en ej ew
        rw [nx_n (by omega), nx_n (by omega), nx_n (by omega)] at hz
        refine ⟨tg_m, 659, (h3.1.1 20).trans mr_20, tg_m, 658, (h3.1.1 19).trans mr_19, q_lay h3 hp (Or.inl rfl) (fun M4 E4 e4 => jv_rv_i ?_)⟩
        have h5 := h3.scr E4
        refine ⟨tg_m, 659, (h5.1.1 20).trans mr_20, tg_m, q_tm h5 hB (Or.inl rfl) (by rw [e4]; exact P8.le (by omega)) (by omega) (fun M6 E6 e6 => jv_rv_i ?_)⟩
        have h6 := h5.scr E6
        refine ⟨tg_m, 659, (h6.1.1 20).trans mr_20, tg_m, c_tellHart (h6.mx hB (by omega) (by omega)) (by omega) hw (jv_ri_i ?_)⟩
        rw [e6, e4]
        exact hz _ h6 ((F3.trans E4.frc).trans E6.frc)
      · rw [if_neg h4] at hz
        exact hz _ h3 F3
    · rw [if_neg h2] at hz
      exact hz _ h3 F3
  · rw [if_neg h1] at hz
    exact hz _ h3 F3
theorem and_not0 : ∀ a, a < 16 → ∀ s, s < 16 → ((nI s &&& (nI a ^^^ (-1))) = 0 ↔ nI a &&& nI s = nI s) := by decide +kernel
/-- behind how many ticks the harts of a set are halted, on a page that is tried -/
theorem c_haltsOn (h : RM M T B p U K S e D) (hB : BV2 B) (ha : a = 659 ∨ a = 660) (P : POA B 12 (M.1 a)) {s : Nat} (hs : s < 16) (hz : ∀ M', SCR M M' → Z (some (.int (oi (FI B (nI s) 60 (M.1 a))))) M' 668) : jv_Ct g (d + 5) mt_M_haltsOn [.ref 647, .ref a, .int (nI s)] M 668 0 0 Z := by
  have b4 := hB.1.2.1
  have l : ∀ k n M2, n + k = 60 → SCR M M2 → POA B 12 (M2.1 a) → (∀ M', SCR M M' → Z (some (.int (oi (P_first B (nI s) k n (M2.1 a))))) M' 668) → jv_J g (d + 5) mt_M_haltsOn 2 [some (.ref 647), some (.ref a), some (.int (nI s)), some (.int (nI n))] [] M2 668 0 0 Z := by
    intro k
    induction k with
    | zero =>
      intro n M2 hn E2 P2 hz
      have hn : n = 60 := by omega
      subst hn
      have h2 := h.scr E2
      refine b_M_haltsOn_2 ⟨fun c => absurd ((nn_lt (a := 60) (n := 60) (by omega) (by omega)).mp c) (by omega), fun _ => ⟨tg_m, ?_⟩⟩
      rw [h2.1.2.2.1]
      refine q_hof (h2.mx hB (by omega) (by omega)) b4 (jv_ri_i ?_)
      unfold P_first P_done at hz
      obtain ⟨x, hx, ex, -⟩ := ones_hset (M2.1 a) hB
      rw [ex] at hz ⊢
      refine ⟨fun c => ⟨tg_m, q_to h2 hB ha P2 (fun M6 E6 e6 => jv_rv_i ?_)⟩, fun c => ?_⟩
      · have c' : ¬ nI x &&& nI s = nI s := fun z => c ((and_not0 x hx s hs).mpr z)
        rw [decide_eq_false c', if_neg (by decide)] at hz
        refine b_M_haltsOn_2 ⟨fun _ => hz _ (E2.trans E6), fun c => absurd (nI_lt (show 60 < 61 by omega) (by omega)) c⟩
      · rw [decide_eq_true ((and_not0 x hx s hs).mp c), if_pos rfl] at hz
        exact hz _ E2
    | succ k ih =>
      intro n M2 hn E2 P2 hz
      have h2 := h.scr E2
      refine b_M_haltsOn_2 ⟨fun c => absurd ((nn_lt (a := 60) (n := n) (by omega) (by omega)).mp c) (by omega), fun _ => ⟨tg_m, ?_⟩⟩
      rw [h2.1.2.2.1]
      refine q_hof (h2.mx hB (by omega) (by omega)) b4 (jv_ri_i ?_)
      unfold P_first P_done at hz
      obtain ⟨x, hx, ex, -⟩ := ones_hset (M2.1 a) hB
      rw [ex] at hz ⊢
      refine ⟨fun c => ⟨tg_m, q_to h2 hB ha P2 (fun M6 E6 e6 => jv_rv_i ?_)⟩, fun c => ?_⟩
      · have c' : ¬ nI x &&& nI s = nI s := fun z => c ((and_not0 x hx s hs).mpr z)
        rw [decide_eq_false c', if_neg (by decide), ← e6] at hz
        rw [show (nI n + 1 : Int32) = nI (n + 1) from nI_add n 1]
        exact ih (n + 1) M6 (by omega) (E2.trans E6) (by rw [e6]; exact P_tick_OK P2 hB _) hz
      · rw [decide_eq_true ((and_not0 x hx s hs).mp c), if_pos rfl] at hz
        exact hz _ E2
  exact jv_ct rfl (Nat.le_of_ble_eq_true rfl) (b_M_haltsOn_0 (l 60 0 M rfl SCR.rf P hz))
theorem sh4 : ∀ h, h < 4 → nI 1 <<< (nI h &&& nI 31) = nI (2 ^ h) ∧ 2 ^ h < 16 := by decide +kernel
theorem M_halts (h : RM M T B p U K S e D) (hB : BV2 B) (P8 : POA B 8 p) (hp : PZ p) {x : Int32} (hz : ∀ M', RM M' T B p U K S e D → FRc M M' → Z (some (.int (s_halts B p x))) M' 668) : jv_Ct g (d + 9) mt_M_halts [.ref 647, .int x] M 668 0 0 Z := by
  unfold s_halts at hz
  have b4 := hB.1.2.1
  have h3 := h.t0 0
  have F3 : FRc M (jv_si M 647 0 0) := FRc.si (by omega)
  refine jv_ct rfl (Nat.le_of_ble_eq_true rfl) (b_M_halts_0 ⟨tg_m, tg_m, ?_⟩)
  generalize jv_si M 647 0 0 = M3 at h3 F3 ⊢
  refine c_noHart h3.1.2.2.1 b4 (fun h1 => jv_ri_i (re0 ?_)) (fun h1 => jv_ri_i (re1 ?_))
  · rw [if_pos h1] at hz
    obtain ⟨j, hj, ej⟩ := bl_of h1 (by omega)
    subst ej
    obtain ⟨s1, s2⟩ := sh4 j (by omega)
    refine ⟨tg_m, 659, (h3.1.1 20).trans mr_20, tg_m, 658, (h3.1.1 19).trans mr_19, q_lay h3 hp (Or.inl rfl) (fun M4 E4 e4 => jv_rv_i ?_)⟩
    have h5 := h3.scr E4
    have s1' : (1 : Int32) <<< (nI j &&& 31) = nI (2 ^ j) := s1
    rw [s1'] 
    rw [s1] at hz
    refine ⟨tg_m, 659, (h5.1.1 20).trans mr_20, tg_m, c_haltsOn h5 hB (Or.inl rfl) (by rw [e4]; exact P8.le (by omega)) s2 (fun M6 E6 => jv_ri_i ?_)⟩
    rw [e4]
    exact hz _ (h5.scr E6) ((F3.trans E4.frc).trans E6.frc)
  · rw [if_neg h1] at hz
    exact hz _ h3 F3
end MC
