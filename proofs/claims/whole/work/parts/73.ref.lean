/-! ===== the reference's cells ===== -/
def PZ (p : Pg) : Prop := ∀ j, 165 ≤ j → p j = nI 0
/-- what was read last: codes, first places, groups, owners -/
abbrev Dt : Type := (Nat → Nat) × (Nat → Int32) × (Nat → Int32) × (Nat → Nat)
def DOK (D : Dt) : Prop := (∀ k, D.1 k < 10000) ∧ (∀ h, ∃ n, n < 16 ∧ D.2.1 h = nI n) ∧ (∀ h, ∃ n, n ≤ 2 ∧ D.2.2.1 h = nI n) ∧ ∀ t, D.2.2.2 t < 4
def RM (M : jv_Mem) (T : Tt) (B : Bd) (p : Pg) (U : Ut) (K : Kt) (S : St) (e : Int64) (D : Dt) : Prop :=
  MB M B (nI 63) ∧ (M.1 647 2 = nI T.1 ∧ ∀ i, i < T.1 → M.1 648 i = T.2 i) ∧ (∀ j, M.1 658 j = p j) ∧ (M.1 647 23 = nI U.1 ∧ ∀ i k, i < U.1 → k < 165 → M.1 661 (165 * i + k) = U.2 i k) ∧
  (∀ i, i < 2 → M.1 663 i = if K.1 i = true then nI 1 else nI 0) ∧ (∀ i k, i < 2 → K.1 i = true → k < 165 → M.1 662 (165 * i + k) = K.2 i k) ∧ (M.1 647 26 = nI S.1 ∧ ∀ i, i < S.1 → M.1 664 i = S.2.1 i ∧ M.1 665 i = S.2.2.1 i ∧ M.1 666 i = S.2.2.2 i) ∧
  M.2.2 647 = e ∧ (∀ j, 165 ≤ j → M.1 657 j = nI 0 ∧ M.1 659 j = nI 0 ∧ M.1 660 j = nI 0) ∧ ((∀ k, M.1 653 k = nI (D.1 k)) ∧ (∀ h, M.1 654 h = D.2.1 h) ∧ (∀ h, M.1 655 h = D.2.2.1 h) ∧ ∀ t, M.1 656 t = nI (D.2.2.2 t))
/-- what both sides tell holds together -/
def IV (T : Tt) (B : Bd) (p : Pg) (U : Ut) (K : Kt) (S : St) (D : Dt) : Prop :=
  BV2 B ∧ (POA B 8 p ∧ PZ p) ∧ (T.1 ≤ 150 ∧ ∀ i, i < T.1 → ∃ n, n < 256 ∧ T.2 i = nI n) ∧ (U.1 ≤ 14 ∧ ∀ i, i < U.1 → POA B 8 (U.2 i) ∧ PZ (U.2 i)) ∧ (∀ i, i < 2 → K.1 i = true → POA B 8 (K.2 i) ∧ PZ (K.2 i)) ∧ (S.1 ≤ 6 ∧ ∀ i, i < S.1 → (∃ n, n ≤ 9 ∧ S.2.1 i = nI n) ∧ ∃ n, n ≤ 2 ∧ S.2.2.1 i = nI n) ∧ DOK D
/-- memories that differ in the reference's scratch cells alone -/
def SCR (M M' : jv_Mem) : Prop := M'.2 = M.2 ∧ (∀ k, k ≠ 0 → k ≠ 3 → k ≠ 11 → k ≠ 13 → k ≠ 16 → k ≠ 31 → M'.1 647 k = M.1 647 k) ∧ (∀ b, b ≠ 647 → b ≠ 657 → b ≠ 659 → b ≠ 660 → b ≠ 667 → ∀ j, M'.1 b j = M.1 b j) ∧ ∀ b, b = 657 ∨ b = 659 ∨ b = 660 → ∀ j, 165 ≤ j → M'.1 b j = M.1 b j
theorem SCR.rf {M : jv_Mem} : SCR M M := ⟨rfl, fun _ _ _ _ _ _ _ => rfl, fun _ _ _ _ _ _ _ => rfl, fun _ _ _ _ => rfl⟩
theorem SCR.trans {M M1 M2 : jv_Mem} (a : SCR M M1) (b : SCR M1 M2) : SCR M M2 := ⟨b.1.trans a.1, fun k h1 h2 h3 h4 h5 h6 => (b.2.1 k h1 h2 h3 h4 h5 h6).trans (a.2.1 k h1 h2 h3 h4 h5 h6), fun c h1 h2 h3 h4 h5 j => (b.2.2.1 c h1 h2 h3 h4 h5 j).trans (a.2.2.1 c h1 h2 h3 h4 h5 j), fun c hc j hj => (b.2.2.2 c hc j hj).trans (a.2.2.2 c hc j hj)⟩
section RML
variable {M M' : jv_Mem} {T : Tt} {B : Bd} {p p' : Pg} {U : Ut} {K : Kt} {S : St} {e : Int64} {D : Dt}
theorem SCR.frc (h : SCR M M') : FRc M M' := fun b hb => ⟨fun j => h.2.2.1 b (by omega) (by omega) (by omega) (by omega) (by omega) j, fun j => by rw [h.1], by rw [h.1]⟩
theorem MB.scr {pr : Int32} (h : MB M B pr) (E : SCR M M') : MB M' B pr := by
  obtain ⟨a0, a1, a2, a3, a4, a5, a6, a7, a8⟩ := h
  have n := fun b (h1 : b ≠ 647) (h2 : b ≠ 657) (h3 : b ≠ 659) (h4 : b ≠ 660) (h5 : b ≠ 667) j => E.2.2.1 b h1 h2 h3 h4 h5 j
  have f := fun k (h : 3 < k ∧ k < 11 ∨ k = 32) => E.2.1 k (by omega) (by omega) (by omega) (by omega) (by omega) (by omega)
  exact ⟨fun k => by rw [E.1, a0], by rw [f 4 (by omega), a1], by rw [f 6 (by omega), a2], by rw [f 9 (by omega), a3], by rw [f 32 (by omega), a4], fun k => by rw [n 649 (by omega) (by omega) (by omega) (by omega) (by omega), a5], fun k => by rw [n 650 (by omega) (by omega) (by omega) (by omega) (by omega), a6], fun k => by rw [n 651 (by omega) (by omega) (by omega) (by omega) (by omega), a7], fun k => by rw [n 652 (by omega) (by omega) (by omega) (by omega) (by omega), a8]⟩
theorem RM.scr (h : RM M T B p U K S e D) (E : SCR M M') : RM M' T B p U K S e D := by
  obtain ⟨b, ⟨t1, t2⟩, pg, ⟨u1, u2⟩, k1, k2, ⟨s1, s2⟩, e1, z, d1, d2, d3, d4⟩ := h
  have n := fun b (h1 : b ≠ 647) (h2 : b ≠ 657) (h3 : b ≠ 659) (h4 : b ≠ 660) (h5 : b ≠ 667) j => E.2.2.1 b h1 h2 h3 h4 h5 j
  have n648 := n 648 (by omega) (by omega) (by omega) (by omega) (by omega)
  have n658 := n 658 (by omega) (by omega) (by omega) (by omega) (by omega)
  have n661 := n 661 (by omega) (by omega) (by omega) (by omega) (by omega)
  have n662 := n 662 (by omega) (by omega) (by omega) (by omega) (by omega)
  have n663 := n 663 (by omega) (by omega) (by omega) (by omega) (by omega)
  have n664 := n 664 (by omega) (by omega) (by omega) (by omega) (by omega)
  have n665 := n 665 (by omega) (by omega) (by omega) (by omega) (by omega)
  have n666 := n 666 (by omega) (by omega) (by omega) (by omega) (by omega)
  have n653 := n 653 (by omega) (by omega) (by omega) (by omega) (by omega)
  have n654 := n 654 (by omega) (by omega) (by omega) (by omega) (by omega)
  have n655 := n 655 (by omega) (by omega) (by omega) (by omega) (by omega)
  have n656 := n 656 (by omega) (by omega) (by omega) (by omega) (by omega)
  have f2 := E.2.1 2 (by omega) (by omega) (by omega) (by omega) (by omega) (by omega)
  have f23 := E.2.1 23 (by omega) (by omega) (by omega) (by omega) (by omega) (by omega)
  have f26 := E.2.1 26 (by omega) (by omega) (by omega) (by omega) (by omega) (by omega)
  exact ⟨b.scr E, ⟨by rw [f2, t1], fun i hi => by rw [n648, t2 i hi]⟩, fun j => by rw [n658, pg], ⟨by rw [f23, u1], fun i k hi hk => by rw [n661, u2 i k hi hk]⟩, fun i hi => by rw [n663, k1 i hi], fun i k hi hq hk => by rw [n662, k2 i k hi hq hk], ⟨by rw [f26, s1], fun i hi => by rw [n664, n665, n666]; exact s2 i hi⟩, by rw [E.1, e1], fun j hj => ⟨by rw [E.2.2.2 657 (by omega) j hj]; exact (z j hj).1, by rw [E.2.2.2 659 (by omega) j hj]; exact (z j hj).2.1, by rw [E.2.2.2 660 (by omega) j hj]; exact (z j hj).2.2⟩, fun k => by rw [n653, d1], fun k => by rw [n654, d2], fun k => by rw [n655, d3], fun k => by rw [n656, d4]⟩
theorem RM.frm (h : RM M T B p U K S e D) (F : FRm M M') : RM M' T B p U K S e D := by
  obtain ⟨⟨a0, a1, a2, a3, a4, a5, a6, a7, a8⟩, ⟨t1, t2⟩, pg, ⟨u1, u2⟩, k1, k2, ⟨s1, s2⟩, e1, z, d1, d2, d3, d4⟩ := h
  have n := fun b (hb : 647 ≤ b) j => (F b hb).1 j
  exact ⟨⟨fun k => by rw [(F 647 (by omega)).2.1, a0], by rw [n 647 (by omega), a1], by rw [n 647 (by omega), a2], by rw [n 647 (by omega), a3], by rw [n 647 (by omega), a4], fun k => by rw [n 649 (by omega), a5], fun k => by rw [n 650 (by omega), a6], fun k => by rw [n 651 (by omega), a7], fun k => by rw [n 652 (by omega), a8]⟩, ⟨by rw [n 647 (by omega), t1], fun i hi => by rw [n 648 (by omega), t2 i hi]⟩, fun j => by rw [n 658 (by omega), pg], ⟨by rw [n 647 (by omega), u1], fun i k hi hk => by rw [n 661 (by omega), u2 i k hi hk]⟩, fun i hi => by rw [n 663 (by omega), k1 i hi], fun i k hi hq hk => by rw [n 662 (by omega), k2 i k hi hq hk], ⟨by rw [n 647 (by omega), s1], fun i hi => by rw [n 664 (by omega), n 665 (by omega), n 666 (by omega)]; exact s2 i hi⟩, by rw [(F 647 (by omega)).2.2, e1], fun j hj => by rw [n 657 (by omega), n 659 (by omega), n 660 (by omega)]; exact z j hj, fun k => by rw [n 653 (by omega), d1], fun k => by rw [n 654 (by omega), d2], fun k => by rw [n 655 (by omega), d3], fun k => by rw [n 656 (by omega), d4]⟩
theorem SCR.si {k : Nat} {x : Int32} (hk : k = 0 ∨ k = 3 ∨ k = 11 ∨ k = 13 ∨ k = 16 ∨ k = 31) : SCR M (jv_si M 647 k x) := by
  refine ⟨rfl, fun j h1 h2 h3 h4 h5 h6 => ?_, fun b h1 _ _ _ _ j => ?_, fun b hb j hj => ?_⟩
  · show (if 647 = 647 ∧ j = k then x else _) = _
    rw [if_neg (by omega)]
  · show (if b = 647 ∧ j = k then x else _) = _
    rw [if_neg (by omega)]
  · show (if b = 647 ∧ j = k then x else _) = _
    rw [if_neg (by omega)]
theorem SCR.pw {a : Nat} {q : Pg} {w : Int32} (ha : a = 657 ∨ a = 659 ∨ a = 660) (hq : ∀ j, 165 ≤ j → q j = M.1 a j) : SCR M (jv_pw M a q w) := by
  refine ⟨rfl, fun j h1 h2 h3 h4 h5 h6 => pw_m _ _ _ (by omega) h6, fun b h1 h2 h3 h4 _ j => pw_o _ _ _ (by omega) h1, fun b hb j hj => ?_⟩
  by_cases hba : b = a
  · subst hba; rw [pw_at]; exact hq j hj
  · exact pw_o _ _ _ hba (by omega)
theorem SCR.pg {a : Nat} {q : Pg} (ha : a = 657 ∨ a = 659 ∨ a = 660) (hq : ∀ j, 165 ≤ j → q j = M.1 a j) : SCR M (jv_pg M a q) := by
  refine ⟨rfl, fun j h1 h2 h3 h4 h5 h6 => pg_ne _ _ _ (by omega), fun b h1 h2 h3 h4 _ j => pg_ne _ _ _ (by omega), fun b hb j hj => ?_⟩
  by_cases hba : b = a
  · subst hba; rw [pg_at]; exact hq j hj
  · exact pg_ne _ _ _ hba
theorem pw_self {a : Nat} (ha : 647 ≠ a) : jv_pw M a (M.1 a) (M.1 647 31) = M := by
  have : jv_si M 647 31 (M.1 647 31) = M := by
    obtain ⟨M1, M2⟩ := M
    unfold jv_si
    congr 1
    funext b j
    by_cases h : b = 647 ∧ j = 31
    · rw [if_pos h, h.1, h.2]
    · rw [if_neg h]
  unfold jv_pw
  rw [this]
  exact pg_self M a
/-! places behind the page's end stay -/
theorem P_round_hi (hB : BV2 B) : ∀ (f k m : Nat) (p : Pg) (w : Int32), k + f ≤ 100 → POK B m p → AG B m p → ∀ j, 165 ≤ j → (P_round B f k (p, w)).1 j = p j
  | 0, _, _, _, _, _, _, _, _, _ => rfl
  | f + 1, k, m, p, w, hkf, P, A, j, hj => by
    have h4 := hB.1.2.1
    obtain ⟨n80, e80, o80⟩ := P.2.1 80
    have o80 := o80.2.2.2.2.2.1 rfl
    subst o80
    have hm := P.1
    unfold P_round
    simp only []
    by_cases hk : nI k < p 80
    · rw [if_pos hk]
      by_cases hk2 : k < n80
      · obtain ⟨q1, q2, q3⟩ := P_age_OK P hB A hk2 w
        have hage : ∀ i, i < n80 → i ≠ k → ∃ n, n ≤ bd_nh B ∧ (P_age B (p, w) k).1 (81 + 7 * i + 2) = nI n := by
          intro i hi hik
          rw [q2 _ (by omega) (by omega) (by omega) (by omega)]
          exact A i hi
        obtain ⟨n, hn, e⟩ := A k hk2
        rw [e, nI_add] at q3
        by_cases hb : (P_age B (p, w) k).1 (81 + 7 * k + 2) = nI (bd_nh B) + nI 1
        · rw [if_pos hb]
          obtain ⟨m1, rfl⟩ : ∃ m1, n80 = m1 + 1 := ⟨n80 - 1, by omega⟩
          obtain ⟨b1, b2⟩ := P_back_OK q1 hB hk2
          obtain ⟨d1, d2, -⟩ := P_drop_OK b1 hB hk2 (fun i hi hik => by rw [b2 _ (by omega) (by omega)]; exact hage i hi hik)
          rw [P_round_hi hB f k m1 _ (P_age B (p, w) k).2 (by omega) d1 d2 j hj]
          have e8 : P_back (P_age B (p, w) k).1 k 80 - nI 1 = nI m1 := by rw [b2 _ (by omega) (by omega), q2 _ (by omega) (by omega) (by omega) (by omega), e80]; exact nI_pred m1
          unfold P_drop
          rw [if_neg (by omega), e8, nI_clamp (by omega), if_neg (by omega), b2 _ (by omega) (by omega), q2 _ (by omega) (by omega) (by omega) (by omega)]
        · rw [if_neg hb, P_round_hi hB f (k + 1) n80 _ _ (by omega) q1 (fun i hi => ?_) j hj, q2 _ (by omega) (by omega) (by omega) (by omega)]
          by_cases hik : i = k
          · subst hik
            refine ⟨n + 1, ?_, q3⟩
            have : n ≠ bd_nh B := fun z => hb (by rw [q3, z, nI_add])
            omega
          · exact hage i hi hik
      · exfalso
        rw [e80] at hk
        exact hk2 ((nI_ltI (by omega) (by omega)).mp hk)
    · rw [if_neg hk]
theorem P_tick_hi {m : Nat} (P : POA B m p) (hB : BV2 B) (pr : Int32) {j : Nat} (hj : 165 ≤ j) : (P_tick B pr p).1 j = p j := by
  obtain ⟨m1, hm1, P1, A1⟩ := P
  obtain ⟨m', hm, P, A⟩ := P_round_OK hB 13 0 m1 p (nI 0) (by omega) P1 A1
  obtain ⟨r1, r2⟩ := P_runs_OK P hB pr (P_round B 13 0 (p, nI 0)).2
  obtain ⟨g1, g2⟩ := P_grp_OK r1 hB (P_hset p (bd_nh B)) (P_hset (P_runs B pr (P_round B 13 0 (p, nI 0))).1 (bd_nh B)) 1
  obtain ⟨g3, g4⟩ := P_grp_OK g1 hB (P_hset p (bd_nh B)) (P_hset (P_runs B pr (P_round B 13 0 (p, nI 0))).1 (bd_nh B)) 2
  obtain ⟨w1, w2⟩ := P_wake_OK g3 hB (P_runs B pr (P_round B 13 0 (p, nI 0))).2
  exact (w2 _ (by omega)).trans ((g4 _ (by omega)).trans ((g2 _ (by omega)).trans ((r2 _ (by omega)).trans (P_round_hi hB 13 0 m1 p (nI 0) (by omega) P1 A1 j hj))))
theorem PT_OK {m : Nat} (hB : BV2 B) (pr : Int32) : ∀ (n : Nat) (p : Pg), POA B m p → POA B m (PT B pr n p)
  | 0, _, P => P
  | n + 1, p, P => PT_OK hB pr n _ (P_tick_OK P hB pr)
theorem PT_hi {m : Nat} (hB : BV2 B) (pr : Int32) {j : Nat} (hj : 165 ≤ j) : ∀ (n : Nat) (p : Pg), POA B m p → PT B pr n p j = p j
  | 0, _, _ => rfl
  | n + 1, p, P => (PT_hi hB pr hj n _ (P_tick_OK P hB pr)).trans (P_tick_hi P hB pr hj)
theorem POA.le {m m' : Nat} (P : POA B m p) (h : m ≤ m') : POA B m' p := by
  obtain ⟨k, hk, q⟩ := P
  exact ⟨k, by omega, q⟩
theorem PT_succ (pr : Int32) : ∀ (n : Nat) (p : Pg), PT B pr (n + 1) p = (P_tick B pr (PT B pr n p)).1
  | 0, _ => rfl
  | n + 1, p => PT_succ pr n _
end RML
/-! ===== calls in any memory ===== -/
section CALLS
variable {g : jv_G} {d : Nat} {M : jv_Mem} {Z : Option Value → jv_Mem → Nat → Prop} {B : Bd} {p : Pg} {σ τ : Nat}
/-- a State that tells page p, the triggers of pr alone being there -/
def SQ (M : jv_Mem) (σ : Nat) (B : Bd) (pr ab : Int32) (p : Pg) : Prop := ∃ V π, (∀ k j, k < 33 → M.1 (σ + k) j = V k j) ∧ (∀ j, M.2.1 (σ + 2) j = some (σ + 4 + π j)) ∧ SR B pr V π p ∧ V 0 6 = ab
theorem SP_SQ : SP M σ B p ↔ SQ M σ B (nI 63) (nI 0) p := Iff.rfl
theorem SQ.congr {M M' : jv_Mem} {pr ab : Int32} (h : SQ M σ B pr ab p) (h1 : ∀ k j, k < 33 → M'.1 (σ + k) j = M.1 (σ + k) j) (h2 : ∀ j, M'.2.1 (σ + 2) j = M.2.1 (σ + 2) j) : SQ M' σ B pr ab p := by
  obtain ⟨V, π, a1, a2, a3⟩ := h
  exact ⟨V, π, fun k j hk => (h1 k j hk).trans (a1 k j hk), fun j => (h2 j).trans (a2 j), a3⟩
theorem SQ.mk {V : SV} {π : Nat → Nat} {pr ab : Int32} (S : SR B pr V π p) (h6 : V 0 6 = ab) : SQ (sw M σ V π) σ B pr ab p := by
  refine ⟨V, π, fun k j hk => ?_, fun j => sw_q j, S, h6⟩
  show (if σ ≤ σ + k ∧ σ + k < σ + 33 then V (σ + k - σ) j else _) = _
  rw [if_pos (by omega), show σ + k - σ = k by omega]
theorem SR.pi {pr : Int32} {V : SV} {π : Nat → Nat} (S : SR B pr V π p) : PI π := by
  obtain ⟨m, h⟩ := S
  exact h.2.2.2.2.2.1
theorem SR.marks {pr : Int32} {V : SV} {π : Nat → Nat} (S : SR B pr V π p) (hB : BV2 B) : (∀ h, h < bd_nh B → V (19 + 2 * h) 6 = nI 0 ∨ V (19 + 2 * h) 6 = nI 1) ∧ ∀ t, t < bd_nt B → V (27 + t) 6 = nI 0 ∨ V (27 + t) 6 = nI 1 := by
  obtain ⟨m, P, A, R, -⟩ := S
  have b4 := hB.1.2.1
  refine ⟨fun h hh => ?_, fun t ht => ?_⟩
  · rw [(R.2.1 h hh).2.2.2.2.2.1]
    obtain ⟨-, -, ⟨n, hn, e⟩⟩ := P.hartp (h := h) (by omega)
    split
    · exact Or.inr rfl
    · rw [e]
      rcases (by omega : n = 0 ∨ n = 1) with rfl | rfl
      · exact Or.inl rfl
      · exact Or.inr rfl
  · rw [show V (27 + t) 6 = _ from (R.2.2.2.1 t ht).2 5 (by omega)]
    obtain ⟨-, -, -, -, ⟨n, hn, e⟩⟩ := P.trig ht
    rw [e]
    rcases (by omega : n = 0 ∨ n = 1) with rfl | rfl
    · exact Or.inl rfl
    · exact Or.inr rfl
theorem q_copy (H : SHP M) (hB : BV2 B) {pr ab : Int32} (hσ : σ ∈ st_bases) (hτ : τ ∈ st_bases) (hne : σ ≠ τ) (Q : SQ M σ B pr ab p) (hz : ∀ M', EXC M M' τ → SQ M' τ B pr ab p → Z none M' 668) : jv_Ct g (d + 2) mt_S_copyFrom [.ref τ, .ref σ] M 668 0 0 Z := by
  have b4 := hB.1.2.1
  have b6 := hB.1.2.2.1
  obtain ⟨V, π, v1, v2, S, ab6⟩ := Q
  obtain ⟨sxτ, ρ, J, q2⟩ := H.2.2.2.2.2.2 τ hτ
  obtain ⟨sxσ, -⟩ := H.2.2.2.2.2.2 σ hσ
  obtain ⟨mk1, mk2⟩ := S.marks hB
  have S0 := S
  obtain ⟨m, P, A, R, Qo, C, I, AB1⟩ := S
  have hm := P.1
  have e := sw_self (M := M) (σ := τ) (V := fun k j => M.1 (τ + k) j) (π := ρ) (fun _ _ _ => rfl) q2
  have c := cc_S (g := g) (d := d) (Z := Z) (W := fun k j => M.1 (τ + k) j) ⟨sxτ, sxσ, hne, v1, v2, I, J⟩ (show m < 13 by omega) C (show bd_nh B < 5 by omega) R.1.1 (show bd_nt B < 7 by omega) R.1.2 mk1 mk2 (fun W' cp => hz _ (EXC.sw J) (SQ.mk (CPY.sr S0 C (by omega) J cp) (cp.1.2.2.trans ab6)))
  rw [e] at c
  exact c
theorem q_pass (H : SHP M) (G : PRG M B) (hB : BV2 B) {pr ab : Int32} (hσ : σ ∈ st_bases) (Q : SQ M σ B pr ab p) {n : Nat} (hn : n < 1000) (hz : ∀ M', EXC M M' σ → SQ M' σ B pr ab (PT B pr n p) → Z none M' 668) : jv_Ct g (d + 4) mt_S_pass [.ref σ, .ref 40, .int (nI n)] M 668 0 0 Z := by
  obtain ⟨V, π, v1, v2, S, ab6⟩ := Q
  have e := sw_self v1 v2
  have c := c_S_pass (g := g) (d := d) (Z := Z) (H.2.2.2.2.2.2 σ hσ).1 G hB S hn (fun V' π' S' ab' => hz _ (EXC.sw S'.pi) (SQ.mk S' (ab'.trans ab6)))
  rw [e] at c
  exact c
theorem q_hset (H : SHP M) (hB : BV2 B) {pr ab : Int32} (hσ : σ ∈ st_bases) (Q : SQ M σ B pr ab p) (hz : Z (some (.int (P_hset p (bd_nh B)))) M 668) : jv_Ct g d mt_S_haltedSet [.ref σ] M 668 0 0 Z := by
  obtain ⟨V, π, v1, v2, ⟨m, P, A, R, -⟩, ab6⟩ := Q
  have e := sw_self v1 v2
  have c := c_S_haltedSet (g := g) (d := d) (Z := Z) (π := π) (H.2.2.2.2.2.2 σ hσ).1 hB.1 R (by rw [e]; exact hz)
  rw [e] at c
  exact c
/-- how many harts are halted -/
def ones (x : Int32) : Nat := pcn x.toNatClampNeg 8
theorem ones_hset (p : Pg) (hB : BV2 B) : ∃ a, a < 16 ∧ P_hset p (bd_nh B) = nI a ∧ ones (P_hset p (bd_nh B)) = pcn a 8 := by
  obtain ⟨a, ha, e⟩ := hset_n p (bd_nh B) hB.1.2.1
  have : a < 16 := Nat.lt_of_lt_of_le ha (Nat.pow_le_pow_right (by omega) hB.1.2.1)
  refine ⟨a, this, e, ?_⟩
  unfold ones
  rw [e, nI_clamp (by omega)]
theorem q_hcount (H : SHP M) (hB : BV2 B) {pr ab : Int32} (hσ : σ ∈ st_bases) (Q : SQ M σ B pr ab p) (hz : Z (some (.int (nI (ones (P_hset p (bd_nh B)))))) M 668) : jv_Ct g (d + 1) mt_S_haltedCount [.ref σ] M 668 0 0 Z := by
  obtain ⟨a, ha, e, eo⟩ := ones_hset p hB
  rw [eo] at hz
  refine jv_ct rfl (Nat.le_of_ble_eq_true rfl) (b_S_haltedCount_0 ⟨t_S0 hσ, q_hset H hB hσ Q (jv_ri_i ?_)⟩)
  rw [e]
  exact c_bitCount (by omega) (jv_ri_i hz)
theorem q_tg {k t n : Nat} (hk : k < 33) (h : st_sh k = (t, n)) (hσ : σ ∈ st_bases) : jv_Tg t (σ + k) 668 := (tS k t n hk h hσ).1
/-- ticks of a page in any memory -/
theorem q_tickMany {pr : Int32} {a n : Nat} (C : MX M B pr a) (hB : BV2 B) (P : POA B 12 (M.1 a)) (hn : n ≤ 1000) (hz : ∀ w, Z none (jv_pw M a (PT B pr n (M.1 a)) w) 668) : jv_Ct g (d + 5) mt_M_tickMany [.ref 647, .ref a, .int (nI n)] M 668 0 0 Z := by
  have ha : 647 ≠ a := by
    have := C.2.2.1
    omega
  have c := c_M_tickMany (g := g) (d := d) (Z := Z) (w := M.1 647 31) C hB P hn (by rw [PT_eq]; exact hz _)
  rw [pw_self ha] at c
  exact c
theorem q_tickOn {pr : Int32} {a : Nat} (C : MX M B pr a) (hB : BV2 B) (P : POA B 12 (M.1 a)) (hz : ∀ w, Z none (jv_pw M a (P_tick B pr (M.1 a)).1 w) 668) : jv_Ct g (d + 4) mt_M_tickOn [.ref 647, .ref a] M 668 0 0 Z := by
  have ha : 647 ≠ a := by
    have := C.2.2.1
    omega
  have c := c_M_tickOn (g := g) (d := d) (Z := Z) (w := M.1 647 31) C hB P (hz _)
  rw [pw_self ha] at c
  exact c
end CALLS
