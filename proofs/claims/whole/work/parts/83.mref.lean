/-! ===== the reference's relation, changed piece by piece ===== -/
theorem si_as (M : jv_Mem) (b k : Nat) (x : Int32) : jv_si M b k x = jv_pg M b (pu (M.1 b) k x) := by rw [← si_pg, pg_self]
theorem pu_lt (f h : Pg) (i : Nat) : pu (fun j => if j < i then f j else h j) i (f i) = fun j => if j < i + 1 then f j else h j := by
  funext j
  show (if j = i then f i else if j < i then f j else h j) = if j < i + 1 then f j else h j
  by_cases h1 : j = i
  · subst h1; rw [if_pos rfl, if_pos (by omega)]
  · rw [if_neg h1]
    by_cases h2 : j < i
    · rw [if_pos h2, if_pos (by omega)]
    · rw [if_neg h2, if_neg (by omega)]
theorem br0 (x : Int32) (n : Nat) : br x 0 n = bl x (n + 1) := by
  unfold br bl
  exact decide_eq_decide.mpr (by omega)
theorem rn1 {A C : Prop} (a : A) : (nI 1 ≠ 0 → A) ∧ (nI 1 = 0 → C) := ⟨fun _ => a, fun c => absurd c (by decide)⟩
theorem rn0 {A C : Prop} (a : C) : (nI 0 ≠ 0 → A) ∧ (nI 0 = 0 → C) := ⟨fun c => absurd rfl c, fun _ => a⟩
theorem re1 {A C : Prop} (a : C) : (nI 1 = 0 → A) ∧ (¬ (nI 1 = 0) → C) := ⟨fun c => absurd c (by decide), fun _ => a⟩
theorem re0 {A C : Prop} (a : A) : (nI 0 = 0 → A) ∧ (¬ (nI 0 = 0) → C) := ⟨fun _ => a, fun c => absurd rfl c⟩
section MC
variable {g : jv_G} {d : Nat} {M M' : jv_Mem} {Z : Option Value → jv_Mem → Nat → Prop} {N : Nat} {T T' : Tt} {B : Bd} {p p' q : Pg} {U U' : Ut} {K K' : Kt} {S S' : St} {e e' : Int64} {D : Dt} {a : Nat} {f : Pg}
theorem FRc.pg (ha : 647 ≤ a) : FRc M (jv_pg M a f) := fun b hb => ⟨fun j => pg_ne _ _ _ (by omega), fun _ => rfl, rfl⟩
theorem FRc.si {k : Nat} {x : Int32} (ha : 647 ≤ a) : FRc M (jv_si M a k x) := by rw [si_as]; exact FRc.pg ha
theorem FRc.sl {l : Int64} (ha : 647 ≤ a) : FRc M (jv_sl M a l) := fun b hb => ⟨fun _ => rfl, fun _ => rfl, by show (if b = a then l else _) = _; rw [if_neg (by omega)]⟩
theorem RM.t0 (h : RM M T B p U K S e D) (x : Int32) : RM (jv_si M 647 0 x) T B p U K S e D := h.scr (SCR.si (by omega))
theorem RM.mx (h : RM M T B p U K S e D) (hB : BV2 B) (h1 : 657 ≤ a) (h2 : a ≤ 660) : MX M B (nI 63) a := ⟨h.1, hB.1, h1, h2⟩
theorem RM.p1 (h : RM M T B p U K S e D) : M.1 658 = p := funext h.2.2.1
theorem RM.p648 (h : RM M T B p U K S e D) (hy : ∀ i, i < T.1 → f i = T.2 i) : RM (jv_pg M 648 f) T B p U K S e D := by
  obtain ⟨⟨a0, a1, a2, a3, a4, a5, a6, a7, a8⟩, ⟨t1, t2⟩, pg, ⟨u1, u2⟩, k1, k2, ⟨s1, s2⟩, e1, z, d1, d2, d3, d4⟩ := h
  obtain ⟨M2, e2⟩ : ∃ M2, M2 = jv_pg M 648 f := ⟨_, rfl⟩
  rw [← e2]
  have n : ∀ c, c ≠ 648 → ∀ j, M2.1 c j = M.1 c j := fun c hc j => by rw [e2]; exact pg_ne _ _ _ hc
  have s : ∀ j, M2.1 648 j = f j := fun j => by rw [e2]; exact pg_at _ _ _ _
  have r : ∀ k, M2.2.1 647 k = M.2.1 647 k := fun k => by rw [e2]; rfl
  have l : M2.2.2 647 = M.2.2 647 := by rw [e2]; rfl
  have m : ∀ k, k < 100 → M2.1 647 k = M.1 647 k := fun k _ => n 647 (by omega) k
  exact ⟨⟨fun k => (r k).trans (a0 k), (m 4 (by omega)).trans a1, (m 6 (by omega)).trans a2, (m 9 (by omega)).trans a3, (m 32 (by omega)).trans a4, fun k => (n 649 (by omega) k).trans (a5 k), fun k => (n 650 (by omega) k).trans (a6 k), fun k => (n 651 (by omega) k).trans (a7 k), fun k => (n 652 (by omega) k).trans (a8 k)⟩, ⟨(m 2 (by omega)).trans t1, fun i hi => (s i).trans (hy i hi)⟩, fun j => (n 658 (by omega) j).trans (pg j), ⟨(m 23 (by omega)).trans u1, fun i k hi hk => (n 661 (by omega) _).trans (u2 i k hi hk)⟩, fun i hi => (n 663 (by omega) i).trans (k1 i hi), fun i k hi hq hk => (n 662 (by omega) _).trans (k2 i k hi hq hk), ⟨(m 26 (by omega)).trans s1, fun i hi => ⟨(n 664 (by omega) i).trans (s2 i hi).1, (n 665 (by omega) i).trans (s2 i hi).2.1, (n 666 (by omega) i).trans (s2 i hi).2.2⟩⟩, l.trans e1, fun j hj => ⟨(n 657 (by omega) j).trans (z j hj).1, (n 659 (by omega) j).trans (z j hj).2.1, (n 660 (by omega) j).trans (z j hj).2.2⟩, fun k => (n 653 (by omega) k).trans (d1 k), fun k => (n 654 (by omega) k).trans (d2 k), fun k => (n 655 (by omega) k).trans (d3 k), fun k => (n 656 (by omega) k).trans (d4 k)⟩
theorem RM.p658 (h : RM M T B p U K S e D)  : RM (jv_pg M 658 f) T B f U K S e D := by
  obtain ⟨⟨a0, a1, a2, a3, a4, a5, a6, a7, a8⟩, ⟨t1, t2⟩, pg, ⟨u1, u2⟩, k1, k2, ⟨s1, s2⟩, e1, z, d1, d2, d3, d4⟩ := h
  obtain ⟨M2, e2⟩ : ∃ M2, M2 = jv_pg M 658 f := ⟨_, rfl⟩
  rw [← e2]
  have n : ∀ c, c ≠ 658 → ∀ j, M2.1 c j = M.1 c j := fun c hc j => by rw [e2]; exact pg_ne _ _ _ hc
  have s : ∀ j, M2.1 658 j = f j := fun j => by rw [e2]; exact pg_at _ _ _ _
  have r : ∀ k, M2.2.1 647 k = M.2.1 647 k := fun k => by rw [e2]; rfl
  have l : M2.2.2 647 = M.2.2 647 := by rw [e2]; rfl
  have m : ∀ k, k < 100 → M2.1 647 k = M.1 647 k := fun k _ => n 647 (by omega) k
  exact ⟨⟨fun k => (r k).trans (a0 k), (m 4 (by omega)).trans a1, (m 6 (by omega)).trans a2, (m 9 (by omega)).trans a3, (m 32 (by omega)).trans a4, fun k => (n 649 (by omega) k).trans (a5 k), fun k => (n 650 (by omega) k).trans (a6 k), fun k => (n 651 (by omega) k).trans (a7 k), fun k => (n 652 (by omega) k).trans (a8 k)⟩, ⟨(m 2 (by omega)).trans t1, fun i hi => (n 648 (by omega) i).trans (t2 i hi)⟩, s, ⟨(m 23 (by omega)).trans u1, fun i k hi hk => (n 661 (by omega) _).trans (u2 i k hi hk)⟩, fun i hi => (n 663 (by omega) i).trans (k1 i hi), fun i k hi hq hk => (n 662 (by omega) _).trans (k2 i k hi hq hk), ⟨(m 26 (by omega)).trans s1, fun i hi => ⟨(n 664 (by omega) i).trans (s2 i hi).1, (n 665 (by omega) i).trans (s2 i hi).2.1, (n 666 (by omega) i).trans (s2 i hi).2.2⟩⟩, l.trans e1, fun j hj => ⟨(n 657 (by omega) j).trans (z j hj).1, (n 659 (by omega) j).trans (z j hj).2.1, (n 660 (by omega) j).trans (z j hj).2.2⟩, fun k => (n 653 (by omega) k).trans (d1 k), fun k => (n 654 (by omega) k).trans (d2 k), fun k => (n 655 (by omega) k).trans (d3 k), fun k => (n 656 (by omega) k).trans (d4 k)⟩
theorem RM.p664 (h : RM M T B p U K S e D) (hy : ∀ i, i < S.1 → f i = S.2.1 i) : RM (jv_pg M 664 f) T B p U K S e D := by
  obtain ⟨⟨a0, a1, a2, a3, a4, a5, a6, a7, a8⟩, ⟨t1, t2⟩, pg, ⟨u1, u2⟩, k1, k2, ⟨s1, s2⟩, e1, z, d1, d2, d3, d4⟩ := h
  obtain ⟨M2, e2⟩ : ∃ M2, M2 = jv_pg M 664 f := ⟨_, rfl⟩
  rw [← e2]
  have n : ∀ c, c ≠ 664 → ∀ j, M2.1 c j = M.1 c j := fun c hc j => by rw [e2]; exact pg_ne _ _ _ hc
  have s : ∀ j, M2.1 664 j = f j := fun j => by rw [e2]; exact pg_at _ _ _ _
  have r : ∀ k, M2.2.1 647 k = M.2.1 647 k := fun k => by rw [e2]; rfl
  have l : M2.2.2 647 = M.2.2 647 := by rw [e2]; rfl
  have m : ∀ k, k < 100 → M2.1 647 k = M.1 647 k := fun k _ => n 647 (by omega) k
  exact ⟨⟨fun k => (r k).trans (a0 k), (m 4 (by omega)).trans a1, (m 6 (by omega)).trans a2, (m 9 (by omega)).trans a3, (m 32 (by omega)).trans a4, fun k => (n 649 (by omega) k).trans (a5 k), fun k => (n 650 (by omega) k).trans (a6 k), fun k => (n 651 (by omega) k).trans (a7 k), fun k => (n 652 (by omega) k).trans (a8 k)⟩, ⟨(m 2 (by omega)).trans t1, fun i hi => (n 648 (by omega) i).trans (t2 i hi)⟩, fun j => (n 658 (by omega) j).trans (pg j), ⟨(m 23 (by omega)).trans u1, fun i k hi hk => (n 661 (by omega) _).trans (u2 i k hi hk)⟩, fun i hi => (n 663 (by omega) i).trans (k1 i hi), fun i k hi hq hk => (n 662 (by omega) _).trans (k2 i k hi hq hk), ⟨(m 26 (by omega)).trans s1, fun i hi => ⟨(s i).trans (hy i hi), (n 665 (by omega) i).trans (s2 i hi).2.1, (n 666 (by omega) i).trans (s2 i hi).2.2⟩⟩, l.trans e1, fun j hj => ⟨(n 657 (by omega) j).trans (z j hj).1, (n 659 (by omega) j).trans (z j hj).2.1, (n 660 (by omega) j).trans (z j hj).2.2⟩, fun k => (n 653 (by omega) k).trans (d1 k), fun k => (n 654 (by omega) k).trans (d2 k), fun k => (n 655 (by omega) k).trans (d3 k), fun k => (n 656 (by omega) k).trans (d4 k)⟩
theorem RM.p665 (h : RM M T B p U K S e D) (hy : ∀ i, i < S.1 → f i = S.2.2.1 i) : RM (jv_pg M 665 f) T B p U K S e D := by
  obtain ⟨⟨a0, a1, a2, a3, a4, a5, a6, a7, a8⟩, ⟨t1, t2⟩, pg, ⟨u1, u2⟩, k1, k2, ⟨s1, s2⟩, e1, z, d1, d2, d3, d4⟩ := h
  obtain ⟨M2, e2⟩ : ∃ M2, M2 = jv_pg M 665 f := ⟨_, rfl⟩
  rw [← e2]
  have n : ∀ c, c ≠ 665 → ∀ j, M2.1 c j = M.1 c j := fun c hc j => by rw [e2]; exact pg_ne _ _ _ hc
  have s : ∀ j, M2.1 665 j = f j := fun j => by rw [e2]; exact pg_at _ _ _ _
  have r : ∀ k, M2.2.1 647 k = M.2.1 647 k := fun k => by rw [e2]; rfl
  have l : M2.2.2 647 = M.2.2 647 := by rw [e2]; rfl
  have m : ∀ k, k < 100 → M2.1 647 k = M.1 647 k := fun k _ => n 647 (by omega) k
  exact ⟨⟨fun k => (r k).trans (a0 k), (m 4 (by omega)).trans a1, (m 6 (by omega)).trans a2, (m 9 (by omega)).trans a3, (m 32 (by omega)).trans a4, fun k => (n 649 (by omega) k).trans (a5 k), fun k => (n 650 (by omega) k).trans (a6 k), fun k => (n 651 (by omega) k).trans (a7 k), fun k => (n 652 (by omega) k).trans (a8 k)⟩, ⟨(m 2 (by omega)).trans t1, fun i hi => (n 648 (by omega) i).trans (t2 i hi)⟩, fun j => (n 658 (by omega) j).trans (pg j), ⟨(m 23 (by omega)).trans u1, fun i k hi hk => (n 661 (by omega) _).trans (u2 i k hi hk)⟩, fun i hi => (n 663 (by omega) i).trans (k1 i hi), fun i k hi hq hk => (n 662 (by omega) _).trans (k2 i k hi hq hk), ⟨(m 26 (by omega)).trans s1, fun i hi => ⟨(n 664 (by omega) i).trans (s2 i hi).1, (s i).trans (hy i hi), (n 666 (by omega) i).trans (s2 i hi).2.2⟩⟩, l.trans e1, fun j hj => ⟨(n 657 (by omega) j).trans (z j hj).1, (n 659 (by omega) j).trans (z j hj).2.1, (n 660 (by omega) j).trans (z j hj).2.2⟩, fun k => (n 653 (by omega) k).trans (d1 k), fun k => (n 654 (by omega) k).trans (d2 k), fun k => (n 655 (by omega) k).trans (d3 k), fun k => (n 656 (by omega) k).trans (d4 k)⟩
theorem RM.p666 (h : RM M T B p U K S e D) (hy : ∀ i, i < S.1 → f i = S.2.2.2 i) : RM (jv_pg M 666 f) T B p U K S e D := by
  obtain ⟨⟨a0, a1, a2, a3, a4, a5, a6, a7, a8⟩, ⟨t1, t2⟩, pg, ⟨u1, u2⟩, k1, k2, ⟨s1, s2⟩, e1, z, d1, d2, d3, d4⟩ := h
  obtain ⟨M2, e2⟩ : ∃ M2, M2 = jv_pg M 666 f := ⟨_, rfl⟩
  rw [← e2]
  have n : ∀ c, c ≠ 666 → ∀ j, M2.1 c j = M.1 c j := fun c hc j => by rw [e2]; exact pg_ne _ _ _ hc
  have s : ∀ j, M2.1 666 j = f j := fun j => by rw [e2]; exact pg_at _ _ _ _
  have r : ∀ k, M2.2.1 647 k = M.2.1 647 k := fun k => by rw [e2]; rfl
  have l : M2.2.2 647 = M.2.2 647 := by rw [e2]; rfl
  have m : ∀ k, k < 100 → M2.1 647 k = M.1 647 k := fun k _ => n 647 (by omega) k
  exact ⟨⟨fun k => (r k).trans (a0 k), (m 4 (by omega)).trans a1, (m 6 (by omega)).trans a2, (m 9 (by omega)).trans a3, (m 32 (by omega)).trans a4, fun k => (n 649 (by omega) k).trans (a5 k), fun k => (n 650 (by omega) k).trans (a6 k), fun k => (n 651 (by omega) k).trans (a7 k), fun k => (n 652 (by omega) k).trans (a8 k)⟩, ⟨(m 2 (by omega)).trans t1, fun i hi => (n 648 (by omega) i).trans (t2 i hi)⟩, fun j => (n 658 (by omega) j).trans (pg j), ⟨(m 23 (by omega)).trans u1, fun i k hi hk => (n 661 (by omega) _).trans (u2 i k hi hk)⟩, fun i hi => (n 663 (by omega) i).trans (k1 i hi), fun i k hi hq hk => (n 662 (by omega) _).trans (k2 i k hi hq hk), ⟨(m 26 (by omega)).trans s1, fun i hi => ⟨(n 664 (by omega) i).trans (s2 i hi).1, (n 665 (by omega) i).trans (s2 i hi).2.1, (s i).trans (hy i hi)⟩⟩, l.trans e1, fun j hj => ⟨(n 657 (by omega) j).trans (z j hj).1, (n 659 (by omega) j).trans (z j hj).2.1, (n 660 (by omega) j).trans (z j hj).2.2⟩, fun k => (n 653 (by omega) k).trans (d1 k), fun k => (n 654 (by omega) k).trans (d2 k), fun k => (n 655 (by omega) k).trans (d3 k), fun k => (n 656 (by omega) k).trans (d4 k)⟩
theorem RM.f2 (h : RM M T B p U K S e D) (hy : ∀ i, i < T'.1 → M.1 648 i = T'.2 i) : RM (jv_si M 647 2 (nI T'.1)) T' B p U K S e D := by
  obtain ⟨⟨a0, a1, a2, a3, a4, a5, a6, a7, a8⟩, ⟨t1, t2⟩, pg, ⟨u1, u2⟩, k1, k2, ⟨s1, s2⟩, e1, z, d1, d2, d3, d4⟩ := h
  obtain ⟨M2, e2⟩ : ∃ M2, M2 = jv_si M 647 2 (nI T'.1) := ⟨_, rfl⟩
  rw [← e2]
  have n : ∀ c, c ≠ 647 → ∀ j, M2.1 c j = M.1 c j := fun c hc j => by rw [e2]; exact si_b _ _ hc
  have m : ∀ k, k ≠ 2 → M2.1 647 k = M.1 647 k := fun k hk => by rw [e2]; exact si_k _ _ hk
  have s : M2.1 647 2 = nI T'.1 := by rw [e2]; exact si_at _ _ _ _
  have r : ∀ k, M2.2.1 647 k = M.2.1 647 k := fun k => by rw [e2]; rfl
  have l : M2.2.2 647 = M.2.2 647 := by rw [e2]; rfl
  exact ⟨⟨fun k => (r k).trans (a0 k), (m 4 (by omega)).trans a1, (m 6 (by omega)).trans a2, (m 9 (by omega)).trans a3, (m 32 (by omega)).trans a4, fun k => (n 649 (by omega) k).trans (a5 k), fun k => (n 650 (by omega) k).trans (a6 k), fun k => (n 651 (by omega) k).trans (a7 k), fun k => (n 652 (by omega) k).trans (a8 k)⟩, ⟨s, fun i hi => (n 648 (by omega) i).trans (hy i hi)⟩, fun j => (n 658 (by omega) j).trans (pg j), ⟨(m 23 (by omega)).trans u1, fun i k hi hk => (n 661 (by omega) _).trans (u2 i k hi hk)⟩, fun i hi => (n 663 (by omega) i).trans (k1 i hi), fun i k hi hq hk => (n 662 (by omega) _).trans (k2 i k hi hq hk), ⟨(m 26 (by omega)).trans s1, fun i hi => ⟨(n 664 (by omega) i).trans (s2 i hi).1, (n 665 (by omega) i).trans (s2 i hi).2.1, (n 666 (by omega) i).trans (s2 i hi).2.2⟩⟩, l.trans e1, fun j hj => ⟨(n 657 (by omega) j).trans (z j hj).1, (n 659 (by omega) j).trans (z j hj).2.1, (n 660 (by omega) j).trans (z j hj).2.2⟩, fun k => (n 653 (by omega) k).trans (d1 k), fun k => (n 654 (by omega) k).trans (d2 k), fun k => (n 655 (by omega) k).trans (d3 k), fun k => (n 656 (by omega) k).trans (d4 k)⟩
theorem RM.f26 (h : RM M T B p U K S e D) (hy : ∀ i, i < S'.1 → M.1 664 i = S'.2.1 i ∧ M.1 665 i = S'.2.2.1 i ∧ M.1 666 i = S'.2.2.2 i) : RM (jv_si M 647 26 (nI S'.1)) T B p U K S' e D := by
  obtain ⟨⟨a0, a1, a2, a3, a4, a5, a6, a7, a8⟩, ⟨t1, t2⟩, pg, ⟨u1, u2⟩, k1, k2, ⟨s1, s2⟩, e1, z, d1, d2, d3, d4⟩ := h
  obtain ⟨M2, e2⟩ : ∃ M2, M2 = jv_si M 647 26 (nI S'.1) := ⟨_, rfl⟩
  rw [← e2]
  have n : ∀ c, c ≠ 647 → ∀ j, M2.1 c j = M.1 c j := fun c hc j => by rw [e2]; exact si_b _ _ hc
  have m : ∀ k, k ≠ 26 → M2.1 647 k = M.1 647 k := fun k hk => by rw [e2]; exact si_k _ _ hk
  have s : M2.1 647 26 = nI S'.1 := by rw [e2]; exact si_at _ _ _ _
  have r : ∀ k, M2.2.1 647 k = M.2.1 647 k := fun k => by rw [e2]; rfl
  have l : M2.2.2 647 = M.2.2 647 := by rw [e2]; rfl
  exact ⟨⟨fun k => (r k).trans (a0 k), (m 4 (by omega)).trans a1, (m 6 (by omega)).trans a2, (m 9 (by omega)).trans a3, (m 32 (by omega)).trans a4, fun k => (n 649 (by omega) k).trans (a5 k), fun k => (n 650 (by omega) k).trans (a6 k), fun k => (n 651 (by omega) k).trans (a7 k), fun k => (n 652 (by omega) k).trans (a8 k)⟩, ⟨(m 2 (by omega)).trans t1, fun i hi => (n 648 (by omega) i).trans (t2 i hi)⟩, fun j => (n 658 (by omega) j).trans (pg j), ⟨(m 23 (by omega)).trans u1, fun i k hi hk => (n 661 (by omega) _).trans (u2 i k hi hk)⟩, fun i hi => (n 663 (by omega) i).trans (k1 i hi), fun i k hi hq hk => (n 662 (by omega) _).trans (k2 i k hi hq hk), ⟨s, fun i hi => ⟨(n 664 (by omega) i).trans (hy i hi).1, (n 665 (by omega) i).trans (hy i hi).2.1, (n 666 (by omega) i).trans (hy i hi).2.2⟩⟩, l.trans e1, fun j hj => ⟨(n 657 (by omega) j).trans (z j hj).1, (n 659 (by omega) j).trans (z j hj).2.1, (n 660 (by omega) j).trans (z j hj).2.2⟩, fun k => (n 653 (by omega) k).trans (d1 k), fun k => (n 654 (by omega) k).trans (d2 k), fun k => (n 655 (by omega) k).trans (d3 k), fun k => (n 656 (by omega) k).trans (d4 k)⟩
theorem RM.f23 (h : RM M T B p U K S e D) (hy : ∀ i k, i < U'.1 → k < 165 → M.1 661 (165 * i + k) = U'.2 i k) : RM (jv_si M 647 23 (nI U'.1)) T B p U' K S e D := by
  obtain ⟨⟨a0, a1, a2, a3, a4, a5, a6, a7, a8⟩, ⟨t1, t2⟩, pg, ⟨u1, u2⟩, k1, k2, ⟨s1, s2⟩, e1, z, d1, d2, d3, d4⟩ := h
  obtain ⟨M2, e2⟩ : ∃ M2, M2 = jv_si M 647 23 (nI U'.1) := ⟨_, rfl⟩
  rw [← e2]
  have n : ∀ c, c ≠ 647 → ∀ j, M2.1 c j = M.1 c j := fun c hc j => by rw [e2]; exact si_b _ _ hc
  have m : ∀ k, k ≠ 23 → M2.1 647 k = M.1 647 k := fun k hk => by rw [e2]; exact si_k _ _ hk
  have s : M2.1 647 23 = nI U'.1 := by rw [e2]; exact si_at _ _ _ _
  have r : ∀ k, M2.2.1 647 k = M.2.1 647 k := fun k => by rw [e2]; rfl
  have l : M2.2.2 647 = M.2.2 647 := by rw [e2]; rfl
  exact ⟨⟨fun k => (r k).trans (a0 k), (m 4 (by omega)).trans a1, (m 6 (by omega)).trans a2, (m 9 (by omega)).trans a3, (m 32 (by omega)).trans a4, fun k => (n 649 (by omega) k).trans (a5 k), fun k => (n 650 (by omega) k).trans (a6 k), fun k => (n 651 (by omega) k).trans (a7 k), fun k => (n 652 (by omega) k).trans (a8 k)⟩, ⟨(m 2 (by omega)).trans t1, fun i hi => (n 648 (by omega) i).trans (t2 i hi)⟩, fun j => (n 658 (by omega) j).trans (pg j), ⟨s, fun i k hi hk => (n 661 (by omega) _).trans (hy i k hi hk)⟩, fun i hi => (n 663 (by omega) i).trans (k1 i hi), fun i k hi hq hk => (n 662 (by omega) _).trans (k2 i k hi hq hk), ⟨(m 26 (by omega)).trans s1, fun i hi => ⟨(n 664 (by omega) i).trans (s2 i hi).1, (n 665 (by omega) i).trans (s2 i hi).2.1, (n 666 (by omega) i).trans (s2 i hi).2.2⟩⟩, l.trans e1, fun j hj => ⟨(n 657 (by omega) j).trans (z j hj).1, (n 659 (by omega) j).trans (z j hj).2.1, (n 660 (by omega) j).trans (z j hj).2.2⟩, fun k => (n 653 (by omega) k).trans (d1 k), fun k => (n 654 (by omega) k).trans (d2 k), fun k => (n 655 (by omega) k).trans (d3 k), fun k => (n 656 (by omega) k).trans (d4 k)⟩
theorem RM.nt (h : RM M T B p U K S e D) (hy : ∀ i k, i < U'.1 → k < 165 → f (165 * i + k) = U'.2 i k) : RM (jv_si (jv_pg M 661 f) 647 23 (nI U'.1)) T B p U' K S e D := by
  obtain ⟨⟨a0, a1, a2, a3, a4, a5, a6, a7, a8⟩, ⟨t1, t2⟩, pg, ⟨u1, u2⟩, k1, k2, ⟨s1, s2⟩, e1, z, d1, d2, d3, d4⟩ := h
  obtain ⟨M2, e2⟩ : ∃ M2, M2 = jv_si (jv_pg M 661 f) 647 23 (nI U'.1) := ⟨_, rfl⟩
  rw [← e2]
  have n : ∀ c, c ≠ 647 ∧ c ≠ 661 → ∀ j, M2.1 c j = M.1 c j := fun c hc j => by rw [e2, si_b _ _ hc.1]; exact pg_ne _ _ _ hc.2
  have m : ∀ k, k ≠ 23 → M2.1 647 k = M.1 647 k := fun k hk => by rw [e2, si_k _ _ hk]; exact pg_ne _ _ _ (by omega)
  have s : M2.1 647 23 = nI U'.1 := by rw [e2]; exact si_at _ _ _ _
  have sf : ∀ j, M2.1 661 j = f j := fun j => by rw [e2, si_b _ _ (by omega)]; exact pg_at _ _ _ _
  have r : ∀ k, M2.2.1 647 k = M.2.1 647 k := fun k => by rw [e2]; rfl
  have l : M2.2.2 647 = M.2.2 647 := by rw [e2]; rfl
  exact ⟨⟨fun k => (r k).trans (a0 k), (m 4 (by omega)).trans a1, (m 6 (by omega)).trans a2, (m 9 (by omega)).trans a3, (m 32 (by omega)).trans a4, fun k => (n 649 (by omega) k).trans (a5 k), fun k => (n 650 (by omega) k).trans (a6 k), fun k => (n 651 (by omega) k).trans (a7 k), fun k => (n 652 (by omega) k).trans (a8 k)⟩, ⟨(m 2 (by omega)).trans t1, fun i hi => (n 648 (by omega) i).trans (t2 i hi)⟩, fun j => (n 658 (by omega) j).trans (pg j), ⟨s, fun i k hi hk => (sf _).trans (hy i k hi hk)⟩, fun i hi => (n 663 (by omega) i).trans (k1 i hi), fun i k hi hq hk => (n 662 (by omega) _).trans (k2 i k hi hq hk), ⟨(m 26 (by omega)).trans s1, fun i hi => ⟨(n 664 (by omega) i).trans (s2 i hi).1, (n 665 (by omega) i).trans (s2 i hi).2.1, (n 666 (by omega) i).trans (s2 i hi).2.2⟩⟩, l.trans e1, fun j hj => ⟨(n 657 (by omega) j).trans (z j hj).1, (n 659 (by omega) j).trans (z j hj).2.1, (n 660 (by omega) j).trans (z j hj).2.2⟩, fun k => (n 653 (by omega) k).trans (d1 k), fun k => (n 654 (by omega) k).trans (d2 k), fun k => (n 655 (by omega) k).trans (d3 k), fun k => (n 656 (by omega) k).trans (d4 k)⟩
theorem RM.kp (h : RM M T B p U K S e D) (hy : ∀ i, i < 2 → f i = if K'.1 i = true then nI 1 else nI 0) (hq : ∀ i k, i < 2 → K'.1 i = true → k < 165 → q (165 * i + k) = K'.2 i k) : RM (jv_pg (jv_pg M 663 f) 662 q) T B p U K' S e D := by
  obtain ⟨⟨a0, a1, a2, a3, a4, a5, a6, a7, a8⟩, ⟨t1, t2⟩, pg, ⟨u1, u2⟩, k1, k2, ⟨s1, s2⟩, e1, z, d1, d2, d3, d4⟩ := h
  obtain ⟨M2, e2⟩ : ∃ M2, M2 = jv_pg (jv_pg M 663 f) 662 q := ⟨_, rfl⟩
  rw [← e2]
  have n : ∀ c, c ≠ 662 ∧ c ≠ 663 → ∀ j, M2.1 c j = M.1 c j := fun c hc j => by rw [e2, pg_ne _ _ _ hc.1]; exact pg_ne _ _ _ hc.2
  have m : ∀ k, k < 100 → M2.1 647 k = M.1 647 k := fun k _ => n 647 (by omega) k
  have s3 : ∀ j, M2.1 663 j = f j := fun j => by rw [e2, pg_ne _ _ _ (by omega)]; exact pg_at _ _ _ _
  have s4 : ∀ j, M2.1 662 j = q j := fun j => by rw [e2]; exact pg_at _ _ _ _
  have r : ∀ k, M2.2.1 647 k = M.2.1 647 k := fun k => by rw [e2]; rfl
  have l : M2.2.2 647 = M.2.2 647 := by rw [e2]; rfl
  exact ⟨⟨fun k => (r k).trans (a0 k), (m 4 (by omega)).trans a1, (m 6 (by omega)).trans a2, (m 9 (by omega)).trans a3, (m 32 (by omega)).trans a4, fun k => (n 649 (by omega) k).trans (a5 k), fun k => (n 650 (by omega) k).trans (a6 k), fun k => (n 651 (by omega) k).trans (a7 k), fun k => (n 652 (by omega) k).trans (a8 k)⟩, ⟨(m 2 (by omega)).trans t1, fun i hi => (n 648 (by omega) i).trans (t2 i hi)⟩, fun j => (n 658 (by omega) j).trans (pg j), ⟨(m 23 (by omega)).trans u1, fun i k hi hk => (n 661 (by omega) _).trans (u2 i k hi hk)⟩, fun i hi => (s3 i).trans (hy i hi), fun i k hi hk hj => (s4 _).trans (hq i k hi hk hj), ⟨(m 26 (by omega)).trans s1, fun i hi => ⟨(n 664 (by omega) i).trans (s2 i hi).1, (n 665 (by omega) i).trans (s2 i hi).2.1, (n 666 (by omega) i).trans (s2 i hi).2.2⟩⟩, l.trans e1, fun j hj => ⟨(n 657 (by omega) j).trans (z j hj).1, (n 659 (by omega) j).trans (z j hj).2.1, (n 660 (by omega) j).trans (z j hj).2.2⟩, fun k => (n 653 (by omega) k).trans (d1 k), fun k => (n 654 (by omega) k).trans (d2 k), fun k => (n 655 (by omega) k).trans (d3 k), fun k => (n 656 (by omega) k).trans (d4 k)⟩
theorem RM.sl (h : RM M T B p U K S e D)  : RM (jv_sl M 647 e') T B p U K S e' D := by
  obtain ⟨⟨a0, a1, a2, a3, a4, a5, a6, a7, a8⟩, ⟨t1, t2⟩, pg, ⟨u1, u2⟩, k1, k2, ⟨s1, s2⟩, e1, z, d1, d2, d3, d4⟩ := h
  obtain ⟨M2, e2⟩ : ∃ M2, M2 = jv_sl M 647 e' := ⟨_, rfl⟩
  rw [← e2]
  have n : ∀ c, c < 1000 → ∀ j, M2.1 c j = M.1 c j := fun c hc j => by rw [e2]; rfl
  have m : ∀ k, k < 100 → M2.1 647 k = M.1 647 k := fun k _ => n 647 (by omega) k
  have r : ∀ k, M2.2.1 647 k = M.2.1 647 k := fun k => by rw [e2]; rfl
  have l : M2.2.2 647 = e' := by rw [e2]; show (if (647 : Nat) = 647 then e' else M.2.2 647) = e'; rw [if_pos rfl]
  exact ⟨⟨fun k => (r k).trans (a0 k), (m 4 (by omega)).trans a1, (m 6 (by omega)).trans a2, (m 9 (by omega)).trans a3, (m 32 (by omega)).trans a4, fun k => (n 649 (by omega) k).trans (a5 k), fun k => (n 650 (by omega) k).trans (a6 k), fun k => (n 651 (by omega) k).trans (a7 k), fun k => (n 652 (by omega) k).trans (a8 k)⟩, ⟨(m 2 (by omega)).trans t1, fun i hi => (n 648 (by omega) i).trans (t2 i hi)⟩, fun j => (n 658 (by omega) j).trans (pg j), ⟨(m 23 (by omega)).trans u1, fun i k hi hk => (n 661 (by omega) _).trans (u2 i k hi hk)⟩, fun i hi => (n 663 (by omega) i).trans (k1 i hi), fun i k hi hq hk => (n 662 (by omega) _).trans (k2 i k hi hq hk), ⟨(m 26 (by omega)).trans s1, fun i hi => ⟨(n 664 (by omega) i).trans (s2 i hi).1, (n 665 (by omega) i).trans (s2 i hi).2.1, (n 666 (by omega) i).trans (s2 i hi).2.2⟩⟩, l, fun j hj => ⟨(n 657 (by omega) j).trans (z j hj).1, (n 659 (by omega) j).trans (z j hj).2.1, (n 660 (by omega) j).trans (z j hj).2.2⟩, fun k => (n 653 (by omega) k).trans (d1 k), fun k => (n 654 (by omega) k).trans (d2 k), fun k => (n 655 (by omega) k).trans (d3 k), fun k => (n 656 (by omega) k).trans (d4 k)⟩
theorem c_in1 {x : Int32} {l2 l4 : Int64} (b : Nat) (e2 : l2 = lN 0) (e4 : l4 = lN b) (hb : b < 2 ^ 31) (h1 : bl x (b + 1) = true → Z (some (.int (nI 1))) M N) (h0 : ¬ bl x (b + 1) = true → Z (some (.int (nI 0))) M N) : jv_Ct g d mt_M_in [.long (Int32.toInt64 x), .long l2, .long l4] M N 0 0 Z := by
  refine c_in 0 b e2 e4 (by omega) hb ?_
  rw [br0]
  by_cases h : bl x (b + 1) = true
  · rw [if_pos h]; exact h1 h
  · rw [if_neg h]; exact h0 h
theorem c_inb1 {x : Int32} {l2 : Int64} {n : Nat} (e2 : l2 = lN 0) (hn : n < 1000) (h1 : bl x n = true → Z (some (.int (nI 1))) M N) (h0 : ¬ bl x n = true → Z (some (.int (nI 0))) M N) : jv_Ct g d mt_M_in [.long (Int32.toInt64 x), .long l2, .long (Int32.toInt64 (nI n - nI 1))] M N 0 0 Z := by
  refine c_inb e2 hn ?_
  by_cases h : bl x n = true
  · rw [if_pos h]; exact h1 h
  · rw [if_neg h]; exact h0 h
theorem c_in2 {x : Int32} {l2 l4 : Int64} (a b : Nat) (e2 : l2 = lN a) (e4 : l4 = lN b) (ha : a < 2 ^ 31) (hb : b < 2 ^ 31) (h1 : br x a b = true → Z (some (.int (nI 1))) M N) (h0 : ¬ br x a b = true → Z (some (.int (nI 0))) M N) : jv_Ct g d mt_M_in [.long (Int32.toInt64 x), .long l2, .long l4] M N 0 0 Z := by
  refine c_in a b e2 e4 ha hb ?_
  by_cases h : br x a b = true
  · rw [if_pos h]; exact h1 h
  · rw [if_neg h]; exact h0 h
theorem c_noHart {n : Nat} (e6 : M.1 647 6 = nI n) (hn : n ≤ 4) {x : Int32} (h1 : bl x n = true → Z (some (.int (nI 0))) M 668) (h0 : ¬ bl x n = true → Z (some (.int (nI 1))) M 668) : jv_Ct g (d + 1) mt_M_noHart [.ref 647, .int x] M 668 0 0 Z := by
  refine jv_ct rfl (Nat.le_of_ble_eq_true rfl) (b_M_noHart_0 ⟨tg_m, ?_⟩)
  rw [e6]
  exact c_inb1 rfl (by omega) (fun h => jv_ri_i (rn1 (h1 h))) (fun h => jv_ri_i (rn0 (h0 h)))
theorem q_hof {pr : Int32} (C : MX M B pr a) {n : Nat} (hn : n ≤ 4) (hz : Z (some (.int (P_hset (M.1 a) n))) M 668) : jv_Ct g d mt_M_haltedOf [.ref a, .int (nI n)] M 668 0 0 Z := by
  have ha : 647 ≠ a := by
    have := C.2.2.1
    omega
  have c := c_M_haltedOf (g := g) (d := d) (Z := Z) (p := M.1 a) (w := M.1 647 31) C hn (by rw [pw_self ha]; exact hz)
  rw [pw_self ha] at c
  exact c
theorem c_lay0 {b : Nat} (ta : jv_Tg 11 a 668) (la : (jv_sh a).2 = 165) (tb : jv_Tg 11 b 668) (lb : (jv_sh b).2 = 165) (hab : b ≠ a) (hz : Z none (jv_pg M a (fun j => if j < 165 then M.1 b j else M.1 a j)) 668) : jv_Ct g d mt_M_lay [.ref a, .ref b] M 668 0 0 Z := by
  have l : ∀ n i, i + n = 165 → jv_J g d mt_M_lay 2 [some (.ref a), some (.ref b), some (.int (nI i))] [] (jv_pg M a (fun j => if j < i then M.1 b j else M.1 a j)) 668 0 0 Z := by
    intro n
    induction n with
    | zero =>
      intro i hi
      have hi : i = 165 := by omega
      subst hi
      exact b_M_lay_2 ⟨fun _ => hz, fun c => absurd (nI_le (Nat.le_refl 165) (by omega)) c⟩
    | succ n ih =>
      intro i hi
      refine b_M_lay_2 ?_
      simp (disch := omega) only [li, nn_le, nI_clamp, vin, true_and, ta, tb, la, lb, nI_add, pg_ne, hab, ne_eq, not_false_eq_true, si_pg, pu_lt]
      exact ⟨fun c => absurd c (by omega), fun _ => ih (i + 1) (by omega)⟩
  refine jv_ct rfl (Nat.le_of_ble_eq_true rfl) (b_M_lay_0 ?_)
  have l0 := l 165 0 rfl
  have e0 : (fun j => if j < 0 then M.1 b j else M.1 a j) = M.1 a := by
    funext j
    rw [if_neg (by omega)]
  rw [e0, pg_self] at l0
  exact l0
/-- the present page laid on another -/
theorem q_lay (h : RM M T B p U K S e D) (hp : PZ p) (ha : a = 659 ∨ a = 660) (hz : ∀ M', SCR M M' → M'.1 a = p → Z none M' 668) : jv_Ct g d mt_M_lay [.ref a, .ref 658] M 668 0 0 Z := by
  refine c_lay0 (tg_pg (by omega) (by omega)) (sl_pg (by omega) (by omega)) tg_658 sl_658 (by omega) (hz _ (SCR.pg (by omega) (fun j hj => if_neg (by omega))) (funext fun j => ?_))
  rw [pg_at]
  have hpg := h.2.2.1 j
  by_cases hj : j < 165
  · rw [if_pos hj, hpg]
  · rw [if_neg hj, hp j (by omega)]
    obtain ⟨z1, z2, z3⟩ := h.2.2.2.2.2.2.2.2.1 j (by omega)
    rcases ha with rfl | rfl
    · exact z2
    · exact z3
theorem q_tm (h : RM M T B p U K S e D) (hB : BV2 B) (ha : a = 659 ∨ a = 660) (P : POA B 12 (M.1 a)) {n : Nat} (hn : n ≤ 1000) (hz : ∀ M', SCR M M' → M'.1 a = PT B (nI 63) n (M.1 a) → Z none M' 668) : jv_Ct g (d + 5) mt_M_tickMany [.ref 647, .ref a, .int (nI n)] M 668 0 0 Z :=
  q_tickMany (h.mx hB (by omega) (by omega)) hB P hn (fun w => hz _ (SCR.pw (by omega) (fun _ hj => PT_hi hB _ hj n _ P)) (funext fun _ => pw_at _ _ _ _ _))
theorem q_to (h : RM M T B p U K S e D) (hB : BV2 B) (ha : a = 659 ∨ a = 660) (P : POA B 12 (M.1 a)) (hz : ∀ M', SCR M M' → M'.1 a = (P_tick B (nI 63) (M.1 a)).1 → Z none M' 668) : jv_Ct g (d + 4) mt_M_tickOn [.ref 647, .ref a] M 668 0 0 Z :=
  q_tickOn (h.mx hB (by omega) (by omega)) hB P (fun w => hz _ (SCR.pw (by omega) (fun _ hj => P_tick_hi P hB _ hj)) (funext fun _ => pw_at _ _ _ _ _))
theorem c_tellHart {pr : Int32} (C : MX M B pr a) {h w : Nat} (hh : h < 4) (hw : w < 10) (hz : Z (some (.int (P_tell B (M.1 a) h w))) M 668) : jv_Ct g (d + 1) mt_M_tellHart [.ref 647, .ref a, .int (nI h), .int (nI w)] M 668 0 0 Z := by
  obtain ⟨⟨hr, hnc, hnh, hnt, hpr, hcode, hfirst, hgroup, hwhose⟩, ⟨b1, b2, b3, b4, b5⟩, ha1, ha2⟩ := C
  have hT := tg_pg ha1 ha2
  have hl := sl_pg ha1 ha2
  unfold P_tell at hz
  refine jv_ct rfl (Nat.le_of_ble_eq_true rfl) (b_M_tellHart_0 ?_)
  simp (disch := omega) only [li, ne_eq, nI_clamp, vin, true_and, nn_eq, nn_le, hr, mr_7, mr_8, tg_m, tg_650, tg_651, sl_650, sl_651, hfirst, hgroup, Option.some.injEq, exists_eq_left']
  refine ⟨fun c => ⟨fun c2 => ?_, fun c2 => ?_⟩, fun c => ?_⟩
  · rwa [if_neg (by omega), if_neg c2] at hz
  · rwa [if_neg (by omega), if_pos c2] at hz
  · rw [if_pos (by omega)] at hz
    unfold P_ht at hz
    refine jv_ct rfl (Nat.le_of_ble_eq_true rfl) (b_M_hartOf_0 ?_)
    simp (disch := omega) only [li, ne_eq, nI_clamp, nI_add, pk_mul, vin, true_and, nn_eq, hT, hl]
    refine ⟨fun c => ?_, fun c => ?_, fun c => ?_, fun c => ⟨fun c2 => ?_, fun c2 => ?_⟩, fun c => ?_⟩
    · rw [if_pos c] at hz; exact jv_ri_i hz
    · rw [if_neg (by omega), if_pos c] at hz; exact jv_ri_i hz
    · rw [if_neg (by omega), if_neg (by omega), if_pos c] at hz; exact jv_ri_i hz
    · rw [if_neg (by omega), if_neg (by omega), if_neg (by omega), if_pos c, if_neg c2] at hz; exact jv_ri_i hz
    · rw [if_neg (by omega), if_neg (by omega), if_neg (by omega), if_pos c, if_pos c2] at hz; exact jv_ri_i hz
    · rw [if_neg (by omega), if_neg (by omega), if_neg (by omega), if_neg (by omega)] at hz; exact jv_ri_i hz
end MC
