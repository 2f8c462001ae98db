/-! ===== what holds of a page, over a tick ===== -/
/-- the orders' ages -/
def AG (B : Bd) (m : Nat) (p : Pg) : Prop := ∀ i, i < m → ∃ n, n ≤ bd_nh B ∧ p (81 + 7 * i + 2) = nI n
section INV2
variable {B : Bd} {m : Nat} {p : Pg}
theorem P_age_OK (P : POK B m p) (hB : BV2 B) (A : AG B m p) {k : Nat} (hk : k < m) (w : Int32) : POK B m (P_age B (p, w) k).1 ∧ (∀ j, 76 ≤ j → j ≠ 81 + 7 * k + 2 → j ≠ 81 + 7 * k + 3 → j ≠ 81 + 7 * k + 6 → (P_age B (p, w) k).1 j = p j) ∧ (P_age B (p, w) k).1 (81 + 7 * k + 2) = p (81 + 7 * k + 2) + nI 1 := by
  obtain ⟨n, hn, e⟩ := A k hk
  have h4 := hB.1.2.1
  have Q : POK B m (pu p (81 + 7 * k + 2) (p (81 + 7 * k + 2) + nI 1)) := by
    rw [e, nI_add]
    exact P.otherOrd hB.1 (by omega) (by omega) (by omega) (by omega)
  unfold P_age
  split
  · obtain ⟨q1, q2⟩ := P_reach_OK Q hB hk w
    exact ⟨q1, fun j hj h2 h3 h6 => (q2 j hj h3 h6).trans (pu_n _ _ h2), (q2 _ (by omega) (by omega) (by omega)).trans (pu_s _ _ _)⟩
  · exact ⟨Q, fun j hj h2 _ _ => pu_n _ _ h2, pu_s _ _ _⟩
theorem P_back_OK (P : POK B m p) (hB : BV2 B) {k : Nat} (hk : k < m) : POK B m (P_back p k) ∧ ∀ j, j ≠ 76 → j ≠ 77 → P_back p k j = p j := by
  obtain ⟨hm, ho, hr⟩ := P
  obtain ⟨-, -, -, ⟨c, hc, ec⟩, -⟩ := (show POK B m p from ⟨hm, ho, hr⟩).ord hk
  have h6 := hB.1.2.2.1
  refine ⟨⟨hm, ?_, ?_⟩, fun j h1 h2 => ?_⟩
  · unfold P_back
    refine (ho.upd ?_).upd ?_
    · have : ∃ n, (if p (81 + 7 * k) = nI 3 ∧ p (81 + 7 * k + 3) = nI 0 then p (81 + 7 * k + 6) else p 77) = nI n ∧ n < 1000 := by
        split
        · exact ho.at _
        · exact ho.at _
      obtain ⟨n, e, hn⟩ := this
      rw [e]
      exact ⟨n, rfl, hn, by omega, by omega, by omega, by omega, by omega, by omega⟩
    · have : ∃ n, (if nI 2 < p (81 + 7 * k) ∧ p 76 = nI 0 then p (81 + 7 * k + 3) else p 76) = nI n ∧ n ≤ 4 := by
        split
        · exact ⟨c, ec, hc⟩
        · obtain ⟨n, e, o⟩ := ho 76
          exact ⟨n, e, o.2.2.2.1 rfl⟩
      obtain ⟨n, e, hn⟩ := this
      rw [e]
      exact ⟨n, rfl, by omega, by omega, by omega, by omega, by omega, by omega, by omega⟩
  · unfold P_back
    exact (hr.low (by omega) hB.1).low (by omega) hB.1
  · unfold P_back
    rw [pu_n _ _ h1, pu_n _ _ h2]
theorem P_drop_OK {k : Nat} (P : POK B (m + 1) p) (hB : BV2 B) (hk : k < m + 1) (A : ∀ i, i < m + 1 → i ≠ k → ∃ n, n ≤ bd_nh B ∧ p (81 + 7 * i + 2) = nI n) : POK B m (P_drop p k) ∧ AG B m (P_drop p k) ∧ (∀ j, j < 80 → P_drop p k j = p j) := by
  obtain ⟨hm, ho, r1, r2, r3⟩ := P
  have h4 := hB.1.2.1
  have h6 := hB.1.2.2.1
  obtain ⟨n80, e80, o80⟩ := ho 80
  have o80 := o80.2.2.2.2.2.1 rfl
  subst o80
  have e1 : p 80 - nI 1 = nI m := by rw [e80]; exact nI_pred m
  have hq : ∀ j, P_drop p k j = if j = 80 then nI m else if 81 + 7 * k ≤ j ∧ j < 81 + 7 * m then p (j + 7) else p j := by
    intro j
    unfold P_drop
    rw [e1, nI_clamp (by omega)]
  have lo : ∀ j, j < 80 → P_drop p k j = p j := fun j hj => by rw [hq, if_neg (by omega), if_neg (by omega)]
  have ord : ∀ i f, i < m → f < 7 → ∃ i', i' < m + 1 ∧ i' ≠ k ∧ P_drop p k (81 + 7 * i + f) = p (81 + 7 * i' + f) := by
    intro i f hi hf
    rw [hq, if_neg (by omega)]
    by_cases hki : k ≤ i
    · rw [if_pos (by omega)]
      exact ⟨i + 1, by omega, by omega, by rw [show 81 + 7 * i + f + 7 = 81 + 7 * (i + 1) + f by omega]⟩
    · rw [if_neg (by omega)]
      exact ⟨i, by omega, by omega, rfl⟩
  refine ⟨⟨by omega, fun j => ?_, fun i hi => ?_, fun t ht => ?_, fun i hi => ?_⟩, fun i hi => ?_, lo⟩
  · rw [hq]
    by_cases h80 : j = 80
    · rw [if_pos h80, h80]
      exact ⟨m, rfl, by omega, by omega, by omega, by omega, by omega, fun _ => rfl, by omega⟩
    · rw [if_neg h80]
      by_cases hj : 81 + 7 * k ≤ j ∧ j < 81 + 7 * m
      · rw [if_pos hj]
        obtain ⟨n, e, o⟩ := ho (j + 7)
        refine ⟨n, e, o.1, by omega, by omega, by omega, by omega, by omega, fun _ _ => ?_⟩
        have o := o.2.2.2.2.2.2 (by omega) (by omega)
        have hmod : (j + 7 - 81) % 7 = (j - 81) % 7 := by omega
        rw [hmod] at o
        exact o
      · rw [if_neg hj]
        obtain ⟨n, e, o⟩ := ho j
        exact ⟨n, e, o.1, o.2.1, o.2.2.1, o.2.2.2.1, o.2.2.2.2.1, fun q => absurd q h80, fun q1 q2 => o.2.2.2.2.2.2 q1 (by omega)⟩
  · rw [lo _ (by omega), lo _ (by omega)]; exact r1 i hi
  · rw [lo _ (by omega), lo _ (by omega)]; exact r2 t ht
  · have h3 : P_drop p k (81 + 7 * i + 3) = p (81 + 7 * (if k ≤ i then i + 1 else i) + 3) := by
      rw [hq, if_neg (by omega)]
      by_cases hki : k ≤ i
      · rw [if_pos (by omega), if_pos hki, show 81 + 7 * i + 3 + 7 = 81 + 7 * (i + 1) + 3 by omega]
      · rw [if_neg (by omega), if_neg hki]
    have h0 : P_drop p k (81 + 7 * i) = p (81 + 7 * (if k ≤ i then i + 1 else i)) := by
      rw [hq, if_neg (by omega)]
      by_cases hki : k ≤ i
      · rw [if_pos (by omega), if_pos hki, show 81 + 7 * i + 7 = 81 + 7 * (i + 1) by omega]
      · rw [if_neg (by omega), if_neg hki]
    rw [h3, h0]
    exact r3 _ (by split <;> omega)
  · obtain ⟨i', h1, h2, h3⟩ := ord i 2 hi (by omega)
    rw [h3]
    exact A i' h1 h2
theorem P_round_OK (hB : BV2 B) : ∀ (f k m : Nat) (p : Pg) (w : Int32), k + f ≤ 100 → POK B m p → AG B m p → ∃ m', m' ≤ m ∧ POK B m' (P_round B f k (p, w)).1 ∧ AG B m' (P_round B f k (p, w)).1
  | 0, _, m, _, _, _, P, A => ⟨m, Nat.le_refl m, P, A⟩
  | f + 1, k, m, p, w, hkf, P, A => by
    have h4 := hB.1.2.1
    obtain ⟨n80, e80, o80⟩ := P.2.1 80
    have o80 := o80.2.2.2.2.2.1 rfl
    subst o80
    have hm := P.1
    unfold P_round
    simp only []
    by_cases hk : nI k < p 80
    · rw [if_pos hk]
      by_cases hk2 : k < n80
      · obtain ⟨q1, q2, q3⟩ := P_age_OK P hB A hk2 w
        have hage : ∀ i, i < n80 → i ≠ k → ∃ n, n ≤ bd_nh B ∧ (P_age B (p, w) k).1 (81 + 7 * i + 2) = nI n := by
          intro i hi hik
          rw [q2 _ (by omega) (by omega) (by omega) (by omega)]
          exact A i hi
        obtain ⟨n, hn, e⟩ := A k hk2
        rw [e, nI_add] at q3
        by_cases hb : (P_age B (p, w) k).1 (81 + 7 * k + 2) = nI (bd_nh B) + nI 1
        · rw [if_pos hb]
          obtain ⟨m1, rfl⟩ : ∃ m1, n80 = m1 + 1 := ⟨n80 - 1, by omega⟩
          obtain ⟨b1, b2⟩ := P_back_OK q1 hB hk2
          obtain ⟨d1, d2, -⟩ := P_drop_OK b1 hB hk2 (fun i hi hik => by rw [b2 _ (by omega) (by omega)]; exact hage i hi hik)
          obtain ⟨m', h1, h2⟩ := P_round_OK hB f k m1 _ (P_age B (p, w) k).2 (by omega) d1 d2
          exact ⟨m', by omega, h2⟩
        · rw [if_neg hb]
          refine P_round_OK hB f (k + 1) n80 _ _ (by omega) q1 (fun i hi => ?_)
          by_cases hik : i = k
          · subst hik
            refine ⟨n + 1, ?_, q3⟩
            have : n ≠ bd_nh B := fun z => hb (by rw [q3, z, nI_add])
            omega
          · exact hage i hi hik
      · exfalso
        rw [e80] at hk
        exact hk2 ((nI_ltI (by omega) (by omega)).mp hk)
    · rw [if_neg hk]; exact ⟨n80, Nat.le_refl _, P, A⟩

theorem P_caught_OK (hB : BV2 B) (pr : Int32) (h : Nat) : ∀ (f t : Nat) (p : Pg), POK B m p → POK B m (P_caught B pr h f t p).1 ∧ ∀ j, (∀ t, t < bd_nt B → j ≠ 40 + 6 * t + 4) → (P_caught B pr h f t p).1 j = p j
  | 0, _, _, P => ⟨P, fun _ _ => rfl⟩
  | f + 1, t, p, P => by
    unfold P_caught
    by_cases ht : t < bd_nt B
    · rw [if_pos ht]
      obtain ⟨⟨c, c1, c2, ec⟩, ⟨n, n1, n2, e⟩, -⟩ := P.trig ht
      split
      · split
        · refine ⟨?_, fun j hj => ?_⟩
          · show POK B m (pu (pu p _ _) _ (p (40 + 6 * t + 3)))
            rw [show pu (pu p (40 + 6 * t + 4) (p (40 + 6 * t + 4) - nI 1)) (40 + 6 * t + 4) (p (40 + 6 * t + 3)) = pu p (40 + 6 * t + 4) (p (40 + 6 * t + 3)) by funext j; unfold pu; split <;> rfl, ec]
            exact P.trigleft ht hB.1 ⟨c1, c2⟩
          · show pu (pu p _ _) _ _ j = p j
            rw [pu_n _ _ (hj t ht), pu_n _ _ (hj t ht)]
        · rename_i hne
          have hn1 : n - 1 ≠ 0 := by
            intro z
            apply hne
            rw [e, pk_sub (by omega), z]
          have Q : POK B m (pu p (40 + 6 * t + 4) (p (40 + 6 * t + 4) - nI 1)) := by
            rw [e, pk_sub (by omega)]
            exact P.trigleft ht hB.1 (by omega)
          obtain ⟨q1, q2⟩ := P_caught_OK hB pr h f ((P_chain B pr p 6 t (P_match B pr p t)).1 + 1) _ Q
          exact ⟨q1, fun j hj => (q2 j hj).trans (pu_n _ _ (hj t ht))⟩
      · exact P_caught_OK hB pr h f _ p P
    · rw [if_neg ht]; exact ⟨P, fun _ _ => rfl⟩
theorem POK.hartp (P : POK B m p) {h : Nat} (hh : h < 4) : (∃ n, n ≤ 16 ∧ p (8 * h) = nI n) ∧ (∃ n, n ≤ 2 ∧ p (8 * h + 1) = nI n) ∧ (∃ n, n ≤ 1 ∧ p (8 * h + 2) = nI n) := by
  obtain ⟨hm, ho, hr⟩ := P
  obtain ⟨n0, e0, o0⟩ := ho (8 * h)
  obtain ⟨n1, e1, o1⟩ := ho (8 * h + 1)
  obtain ⟨n2, e2, o2⟩ := ho (8 * h + 2)
  have o0 := (o0.2.1 (by omega)).1 (by omega)
  have o1 := (o1.2.1 (by omega)).2.1 (by omega)
  have o2 := (o2.2.1 (by omega)).2.2.1 (by omega)
  exact ⟨⟨n0, o0, e0⟩, ⟨n1, o1, e1⟩, ⟨n2, o2, e2⟩⟩
theorem CV_DV {u : Nat} (h : CV u) (h6 : u / 1000 ≠ 6) (h7 : u / 1000 ≠ 7) (h8 : u / 1000 ≠ 8) : DV u := by
  unfold CV at h
  unfold DV
  omega
theorem P_instr_OK (P : POK B m p) (hB : BV2 B) {h u : Nat} (hh : h < 4) (hu : CV u) (w : Int32) : POK B m (P_instr (p, w) h u).1 ∧ ∀ j, 40 ≤ j → (P_instr (p, w) h u).1 j = p j := by
  unfold P_instr
  by_cases h6 : u / 1000 = 6
  · rw [if_pos h6]
    refine ⟨?_, fun j hj => pu_n _ _ (by omega)⟩
    obtain ⟨⟨n, hn, e⟩, -⟩ := P.hartp hh
    have hx : u % 100 ≤ 15 := (hu.2.2.2.2.2.2.1 h6).2
    split
    · show POK B m (pu p (8 * h) (p (8 * h)))
      rw [e]; exact P.place hB.1 hh hn
    · exact P.place hB.1 hh (by omega)
  · rw [if_neg h6]
    by_cases h7 : u / 1000 = 7
    · rw [if_pos h7]
      show POK B m (pu p (8 * h + 1) (nI 1)) ∧ ∀ j, 40 ≤ j → pu p (8 * h + 1) (nI 1) j = p j
      obtain ⟨-, -, ⟨n2, hn2, e2⟩⟩ := P.hartp hh
      refine ⟨?_, fun j hj => pu_n _ _ (by omega)⟩
      obtain ⟨hm, ho, r1, r2, r3⟩ := P
      have b4 := hB.1.2.1
      refine ⟨hm, ho.upd (OKv_mode hh (by omega)), fun i hi => ?_, fun t ht => ?_, fun i hi => ?_⟩
      · by_cases hih : i = h
        · subst hih
          rw [pu_s]
          intro z
          exact absurd (nI_inj (by omega) (by omega) z) (by omega)
        · rw [pu_n _ _ (by omega), pu_n _ _ (by omega)]; exact r1 i hi
      · rw [pu_n _ _ (by omega), pu_n _ _ (by omega)]; exact r2 t ht
      · rw [pu_n _ _ (by omega), pu_n _ _ (by omega)]; exact r3 i hi
    · rw [if_neg h7]
      by_cases h8 : u / 1000 = 8
      · rw [if_pos h8]; exact ⟨P.halt hh (by omega), fun j hj => P_halt_keep (by omega)⟩
      · rw [if_neg h8]
        have hd := CV_DV hu h6 h7 h8
        exact ⟨P_do_OK P hB.1 hh hd w, fun j hj => P_do_hi hh hd hj⟩
theorem P_wrap_OK (P : POK B m p) (hB : BV2 B) {h : Nat} (hh : h < 4) : POK B m (P_wrap B p h) ∧ (∀ j, j ≠ 8 * h → P_wrap B p h j = p j) ∧ (bd_nc B ≠ 0 → ∃ n, n < bd_nc B ∧ P_wrap B p h (8 * h) = nI n) := by
  obtain ⟨⟨n, hn, e⟩, -⟩ := P.hartp hh
  have h16 := hB.1.1
  unfold P_wrap
  refine ⟨?_, fun j hj => pu_n _ _ hj, fun h0 => ?_⟩
  · split
    · exact P.place hB.1 hh (by omega)
    · rw [e]; exact P.place hB.1 hh hn
  · rw [pu_s]
    by_cases hc : nI (bd_nc B) ≤ p (8 * h)
    · rw [if_pos hc]; exact ⟨0, by omega, rfl⟩
    · rw [if_neg hc]
      refine ⟨n, ?_, e⟩
      rw [e] at hc
      by_cases hlt : n < bd_nc B
      · exact hlt
      · exact absurd (nI_le (by omega) (by omega)) hc
theorem P_run_OK (P : POK B m p) (hB : BV2 B) (pr w : Int32) {h : Nat} (hh : h < 4) : POK B m (P_run B pr (p, w) h).1 ∧ ∀ j, 76 ≤ j → (P_run B pr (p, w) h).1 j = p j := by
  have h6 := hB.1.2.2.1
  have h16 := hB.1.1
  unfold P_run
  split
  · rename_i hc
    obtain ⟨w1, w2, w3⟩ := P_wrap_OK P hB hh
    obtain ⟨n, hn, en⟩ := w3 hc.2
    obtain ⟨c1, c2⟩ := P_caught_OK hB pr h 7 0 _ w1
    have e8 : (P_caught B pr h 7 0 (P_wrap B p h)).1 (8 * h) = nI n := by rw [c2 _ (fun t ht => by omega), en]
    split
    · refine ⟨c1.halt hh (by omega), fun j hj => ?_⟩
      show P_halt _ h (nI 2) j = p j
      rw [P_halt_keep (by omega), c2 _ (fun t ht => by omega), w2 _ (by omega)]
    · simp only [e8]
      rw [nI_clamp (by omega), nI_add]
      obtain ⟨i1, i2⟩ := P_instr_OK (c1.place hB.1 hh (show n + 1 ≤ 16 by omega)) hB hh (hB.2.1 n hn) w
      refine ⟨i1, fun j hj => ?_⟩
      rw [i2 j (by omega), pu_n _ _ (by omega), c2 _ (fun t ht => by omega), w2 _ (by omega)]
  · exact ⟨P, fun _ _ => rfl⟩
theorem P_runs_OK (P : POK B m p) (hB : BV2 B) (pr w : Int32) : POK B m (P_runs B pr (p, w)).1 ∧ ∀ j, 76 ≤ j → (P_runs B pr (p, w)).1 j = p j := by
  have h4 := hB.1.2.1
  unfold P_runs
  refine itN_ind (I := fun s : Ps => POK B m s.1 ∧ ∀ j, 76 ≤ j → s.1 j = p j) _ _ ⟨P, fun _ _ => rfl⟩ (fun h s hh Q => ?_)
  obtain ⟨q1, q2⟩ := P_run_OK Q.1 hB pr s.2 (h := h) (by omega)
  exact ⟨q1, fun j hj => (q2 j hj).trans (Q.2 j hj)⟩
theorem P_grp_OK (P : POK B m p) (hB : BV2 B) (was now : Int32) (k : Nat) : POK B m (P_grp B was now k p) ∧ ∀ j, 76 ≤ j → P_grp B was now k p j = p j := by
  have h4 := hB.1.2.1
  unfold P_grp
  refine itN_ind (I := fun s : Pg => POK B m s ∧ ∀ j, 76 ≤ j → s j = p j) _ _ ⟨P, fun _ _ => rfl⟩ (fun h s hh Q => ?_)
  show POK B m (if _ ∧ _ then P_halt s h (nI 4) else s) ∧ ∀ j, 76 ≤ j → (if _ ∧ _ then P_halt s h (nI 4) else s) j = p j
  split
  · exact ⟨Q.1.halt (by omega) (by omega), fun j hj => (P_halt_keep (by omega)).trans (Q.2 j hj)⟩
  · exact Q
theorem P_wake_OK (P : POK B m p) (hB : BV2 B) (w : Int32) : POK B m (P_wake B (p, w)) ∧ ∀ j, 76 ≤ j → P_wake B (p, w) j = p j := by
  have h4 := hB.1.2.1
  unfold P_wake
  split
  · exact ⟨P, fun _ _ => rfl⟩
  · refine itN_ind (I := fun s : Pg => POK B m s ∧ ∀ j, 76 ≤ j → s j = p j) _ _ ⟨P, fun _ _ => rfl⟩ (fun h s hh Q => ?_)
    obtain ⟨-, ⟨n, hn, e⟩, -⟩ := Q.1.hartp (h := h) (by omega)
    obtain ⟨nc, ec, oc⟩ := Q.1.2.1 (8 * h + 3)
    have oc := (oc.2.1 (by omega)).2.2.2 (by omega)
    refine ⟨Q.1.hart (h := h) (a := if n = 1 then 0 else n) (b := 0) (c := nc) (by omega) (by split <;> omega) (by omega) oc (fun _ => rfl) (fun j => ?_), fun j hj => ?_⟩
    · unfold pu
      by_cases h1 : j = 8 * h + 1
      · subst h1
        simp only [if_neg (show 8 * h + 1 ≠ 8 * h + 2 by omega), if_true, e]
        by_cases hn1 : n = 1
        · subst hn1; simp
        · rw [if_neg hn1, if_neg (fun z => hn1 (nI_inj (by omega) (by omega) z))]
      · by_cases h2 : j = 8 * h + 2
        · subst h2; simp
        · by_cases h3 : j = 8 * h + 3
          · subst h3; simp [ec]
          · simp [h1, h2, h3]
    · rw [pu_n _ _ (by omega), pu_n _ _ (by omega)]; exact Q.2 j hj
/-- a page of m orders at the most, with what holds of it -/
def POA (B : Bd) (m : Nat) (p : Pg) : Prop := ∃ m', m' ≤ m ∧ POK B m' p ∧ AG B m' p
theorem P_tick_OK {B : Bd} {m : Nat} {p : Pg} (P : POA B m p) (hB : BV2 B) (pr : Int32) : POA B m (P_tick B pr p).1 := by
  obtain ⟨m1, hm1, P1, A1⟩ := P
  obtain ⟨m', hm, P, A⟩ := P_round_OK hB 13 0 m1 p (nI 0) (by omega) P1 A1
  obtain ⟨r1, r2⟩ := P_runs_OK P hB pr (P_round B 13 0 (p, nI 0)).2
  obtain ⟨g1, g2⟩ := P_grp_OK r1 hB (P_hset p (bd_nh B)) (P_hset (P_runs B pr (P_round B 13 0 (p, nI 0))).1 (bd_nh B)) 1
  obtain ⟨g3, g4⟩ := P_grp_OK g1 hB (P_hset p (bd_nh B)) (P_hset (P_runs B pr (P_round B 13 0 (p, nI 0))).1 (bd_nh B)) 2
  obtain ⟨w1, w2⟩ := P_wake_OK g3 hB (P_runs B pr (P_round B 13 0 (p, nI 0))).2
  refine ⟨m', by omega, w1, fun i hi => ?_⟩
  obtain ⟨n, hn, e⟩ := A i hi
  refine ⟨n, hn, ?_⟩
  rw [← e]
  exact (w2 _ (by omega)).trans ((g4 _ (by omega)).trans ((g2 _ (by omega)).trans (r2 _ (by omega))))
end INV2
