/-! ===== what holds of a page ===== -/
/-- an instruction of the buffer, as three digits -/
def BV (b : Nat) : Prop := b < 900 ∧ (b / 100 = 0 → b = 0) ∧ (b / 100 = 1 → b / 10 % 10 ≤ 3) ∧ (b / 100 = 2 → b / 10 % 10 ≤ 3 ∧ b % 10 = 0) ∧ (b / 100 = 3 → b / 10 % 10 ≤ 3 ∧ b % 10 ≤ 3) ∧ (b / 100 = 4 ∨ b / 100 = 5 → b / 10 % 10 ≤ 3 ∧ b % 10 ≤ 7) ∧ (b / 100 = 6 → b / 10 % 10 ≤ 3) ∧ (b / 100 = 7 ∨ b / 100 = 8 → b % 100 = 0)
/-- an instruction of the program -/
def CV (u : Nat) : Prop := 1000 ≤ u ∧ u < 9000 ∧ (u / 1000 = 1 → u / 100 % 10 ≤ 3 ∧ u % 100 ≤ 9) ∧ (u / 1000 = 2 → u / 100 % 10 ≤ 3 ∧ u % 100 = 0) ∧ (u / 1000 = 3 → u / 100 % 10 ≤ 3 ∧ u % 100 ≤ 3) ∧ (u / 1000 = 4 ∨ u / 1000 = 5 → u / 100 % 10 ≤ 3 ∧ u % 100 ≤ 7) ∧ (u / 1000 = 6 → u / 100 % 10 ≤ 3 ∧ u % 100 ≤ 15) ∧ (u / 1000 = 7 ∨ u / 1000 = 8 → u % 1000 = 0)
/-- the number n may stand at place j of a page with m orders -/
def OKn (B : Bd) (m j n : Nat) : Prop :=
  n < 1000 ∧ (j < 32 → (j % 8 = 0 → n ≤ 16) ∧ (j % 8 = 1 → n ≤ 2) ∧ (j % 8 = 2 → n ≤ 1) ∧ (j % 8 = 3 → n ≤ 4)) ∧
  (40 ≤ j → j < 40 + 6 * bd_nt B → ((j - 40) % 6 = 0 → n ≤ 1) ∧ ((j - 40) % 6 = 1 → n < 16) ∧ ((j - 40) % 6 = 3 → 1 ≤ n ∧ n ≤ 9) ∧ ((j - 40) % 6 = 4 → 1 ≤ n ∧ n ≤ 9) ∧ ((j - 40) % 6 = 5 → n ≤ 1)) ∧
  (j = 76 → n ≤ 4) ∧ (j = 78 ∨ j = 79 → BV n) ∧ (j = 80 → n = m) ∧
  (81 ≤ j → j < 81 + 7 * m → ((j - 81) % 7 = 0 → n ≤ 5) ∧ ((j - 81) % 7 = 1 → n < bd_nh B) ∧ ((j - 81) % 7 = 2 → n ≤ 5) ∧ ((j - 81) % 7 = 3 → n ≤ 4) ∧ ((j - 81) % 7 = 4 → n < 4))
def OKv (B : Bd) (m j : Nat) (x : Int32) : Prop := ∃ n : Nat, x = nI n ∧ OKn B m j n
def OKs (B : Bd) (m : Nat) (p : Pg) : Prop := ∀ j, OKv B m j (p j)
/-- what ties places to each other -/
def RKs (B : Bd) (m : Nat) (p : Pg) : Prop := (∀ h, h < bd_nh B → p (8 * h + 1) = nI 0 → p (8 * h + 2) = nI 0) ∧ (∀ t, t < bd_nt B → p (40 + 6 * t) = nI 1 → ∃ n, n < 4 ∧ p (40 + 6 * t + 1) = nI n) ∧ ∀ i, i < m → p (81 + 7 * i + 3) ≠ nI 0 → nI 2 < p (81 + 7 * i)
def POK (B : Bd) (m : Nat) (p : Pg) : Prop := m ≤ 12 ∧ OKs B m p ∧ RKs B m p
/-- the board is one that a text can tell -/
def BV2 (B : Bd) : Prop := BOK B ∧ (∀ k, k < bd_nc B → CV (bd_code B k)) ∧ (∀ h, ∃ n, n < 16 ∧ bd_first B h = nI n) ∧ (∀ h, ∃ n, n ≤ 2 ∧ bd_group B h = nI n) ∧ ∀ t, t < bd_nt B → bd_whose B t < bd_nh B
theorem OKs.upd {B : Bd} {m : Nat} {p : Pg} (h : OKs B m p) {k : Nat} {x : Int32} (hx : OKv B m k x) : OKs B m (pu p k x) := by
  intro j
  by_cases hj : j = k
  · subst hj; rw [pu_s]; exact hx
  · rw [pu_n _ _ hj]; exact h j
theorem OKs.at {B : Bd} {m : Nat} {p : Pg} (h : OKs B m p) (j : Nat) : ∃ n, p j = nI n ∧ n < 1000 := by
  obtain ⟨n, h1, h2⟩ := h j
  exact ⟨n, h1, h2.1⟩
/-- places that are neither a hart's mode or mark, nor a trigger's kind or place, nor an order's kind or code -/
theorem RKs.upd {B : Bd} {m : Nat} {p : Pg} (h : RKs B m p) {k : Nat} {x : Int32} (h1 : ∀ i, i < bd_nh B → k ≠ 8 * i + 1 ∧ k ≠ 8 * i + 2) (h2 : ∀ t, t < bd_nt B → k ≠ 40 + 6 * t ∧ k ≠ 40 + 6 * t + 1) (h3 : ∀ i, i < m → k ≠ 81 + 7 * i + 3 ∧ k ≠ 81 + 7 * i) : RKs B m (pu p k x) := by
  obtain ⟨r1, r2, r3⟩ := h
  refine ⟨fun i hi => ?_, fun t ht => ?_, fun i hi => ?_⟩
  · rw [pu_n _ _ (Ne.symm (h1 i hi).1), pu_n _ _ (Ne.symm (h1 i hi).2)]; exact r1 i hi
  · rw [pu_n _ _ (Ne.symm (h2 t ht).1), pu_n _ _ (Ne.symm (h2 t ht).2)]; exact r2 t ht
  · rw [pu_n _ _ (Ne.symm (h3 i hi).1), pu_n _ _ (Ne.symm (h3 i hi).2)]; exact r3 i hi
section INV
variable {B : Bd} {m : Nat} {p : Pg}
theorem OKv_mode {h n : Nat} (hh : h < 4) (hn : n ≤ 2) : OKv B m (8 * h + 1) (nI n) := ⟨n, rfl, by unfold OKn; omega⟩
theorem OKv_slept {h n : Nat} (hh : h < 4) (hn : n ≤ 1) : OKv B m (8 * h + 2) (nI n) := ⟨n, rfl, by unfold OKn; omega⟩
theorem OKv_cause {h n : Nat} (hh : h < 4) (hn : n ≤ 4) : OKv B m (8 * h + 3) (nI n) := ⟨n, rfl, by unfold OKn; omega⟩
theorem OKv_place {h n : Nat} (hh : h < 4) (hn : n ≤ 16) : OKv B m (8 * h) (nI n) := ⟨n, rfl, by unfold OKn; omega⟩
theorem OKv_reg {h r n : Nat} (hh : h < 4) (hr : r < 4) (hn : n < 1000) : OKv B m (8 * h + 4 + r) (nI n) := ⟨n, rfl, by unfold OKn; omega⟩
theorem OKv_cell {c n : Nat} (hc : c < 8) (hn : n < 1000) : OKv B m (32 + c) (nI n) := ⟨n, rfl, by unfold OKn; omega⟩
theorem nI_inj {a b : Nat} (ha : a < 1000) (hb : b < 1000) (h : nI a = nI b) : a = b := (nI_eq (by omega) (by omega)).mp h
/-- a hart's mode, mark and cause changed: if it runs then, it has no mark -/
theorem POK.hart (P : POK B m p) {h a b c : Nat} (hh : h < 4) (ha : a ≤ 2) (hb : b ≤ 1) (hc : c ≤ 4) (hab : a = 0 → b = 0) {q : Pg} (hq : ∀ j, q j = if j = 8 * h + 1 then nI a else if j = 8 * h + 2 then nI b else if j = 8 * h + 3 then nI c else p j) : POK B m q := by
  obtain ⟨hm, ho, r1, r2, r3⟩ := P
  refine ⟨hm, fun j => ?_, fun i hi => ?_, fun t ht => ?_, fun i hi => ?_⟩
  · rw [hq j]
    by_cases h1 : j = 8 * h + 1
    · rw [if_pos h1, h1]; exact OKv_mode hh ha
    · rw [if_neg h1]
      by_cases h2 : j = 8 * h + 2
      · rw [if_pos h2, h2]; exact OKv_slept hh hb
      · rw [if_neg h2]
        by_cases h3 : j = 8 * h + 3
        · rw [if_pos h3, h3]; exact OKv_cause hh hc
        · rw [if_neg h3]; exact ho j
  · rw [hq, hq]
    by_cases hih : i = h
    · subst hih
      rw [if_pos rfl, if_neg (by omega), if_pos rfl]
      intro q0
      rw [hab (nI_inj (by omega) (by omega) q0)]
    · rw [if_neg (by omega), if_neg (by omega), if_neg (by omega), if_neg (by omega), if_neg (by omega), if_neg (by omega)]
      exact r1 i hi
  · rw [hq, hq, if_neg (by omega), if_neg (by omega), if_neg (by omega), if_neg (by omega), if_neg (by omega), if_neg (by omega)]
    exact r2 t ht
  · rw [hq, hq, if_neg (by omega), if_neg (by omega), if_neg (by omega), if_neg (by omega), if_neg (by omega), if_neg (by omega)]
    exact r3 i hi
theorem POK.halt (P : POK B m p) {h c : Nat} (hh : h < 4) (hc : c ≤ 4) : POK B m (P_halt p h (nI c)) := by
  unfold P_halt
  by_cases hm : p (8 * h + 1) = nI 2
  · rw [if_pos hm]; exact P
  · rw [if_neg hm]
    refine P.hart (h := h) (a := 2) (b := if p (8 * h + 1) = nI 1 then 1 else 0) (c := c) hh (by omega) (by split <;> omega) hc (by omega) (fun j => ?_)
    unfold pu
    by_cases h1 : j = 8 * h + 1
    · subst h1; simp
    · by_cases h2 : j = 8 * h + 2
      · subst h2; simp; split <;> rfl
      · by_cases h3 : j = 8 * h + 3
        · subst h3; simp
        · simp [h1, h2, h3]
theorem POK.resume (P : POK B m p) {h : Nat} (hh : h < 4) : POK B m (P_resume p h) := by
  unfold P_resume
  by_cases hm : p (8 * h + 1) = nI 2
  · rw [if_pos hm]
    refine P.hart (h := h) (a := if p (8 * h + 2) = nI 1 then 1 else 0) (b := 0) (c := 0) hh (by split <;> omega) (by omega) (by omega) (fun _ => rfl) (fun j => ?_)
    unfold pu
    by_cases h1 : j = 8 * h + 1
    · subst h1; simp; split <;> rfl
    · by_cases h2 : j = 8 * h + 2
      · subst h2; simp
      · by_cases h3 : j = 8 * h + 3
        · subst h3; simp
        · simp [h1, h2, h3]
  · rw [if_neg hm]; exact P

theorem itN_ind {α : Type} {f : Nat → α → α} {I : α → Prop} : ∀ (n : Nat) (a : α), I a → (∀ i a, i < n → I a → I (f i a)) → I (itN f n a)
  | 0, _, h, _ => h
  | n + 1, a, h, hs => hs n _ (Nat.lt_succ_self n) (itN_ind n a h (fun i b hi => hs i b (Nat.lt_succ_of_lt hi)))
/-- a hart's eight places, cleared -/
theorem P_clr (p : Pg) (h : Nat) (x : Int32) : ∀ (k j : Nat), itN (fun k p => pu p (8 * h + k) (if k = 0 then x else nI 0)) k p j = if 8 * h ≤ j ∧ j < 8 * h + k then (if j = 8 * h then x else nI 0) else p j
  | 0, j => by rw [if_neg (by omega)]; rfl
  | k + 1, j => by
    show (if j = 8 * h + k then (if k = 0 then x else nI 0) else itN (fun k p => pu p (8 * h + k) (if k = 0 then x else nI 0)) k p j) = _
    rw [P_clr p h x k j]
    (repeat' split) <;> first | rfl | (exfalso; omega)
theorem POK.trigleft (P : POK B m p) {t n : Nat} (ht : t < bd_nt B) (hB : BOK B) (hn : 1 ≤ n ∧ n ≤ 9) : POK B m (pu p (40 + 6 * t + 4) (nI n)) := by
  obtain ⟨hm, ho, hr⟩ := P
  have hnt := hB.2.2.1
  have hnh := hB.2.1
  exact ⟨hm, ho.upd ⟨n, rfl, by unfold OKn; omega⟩, hr.upd (fun i hi => by omega) (fun t' ht' => by omega) (fun i hi => by omega)⟩
theorem POK.trig (P : POK B m p) {t : Nat} (ht : t < bd_nt B) : (∃ n, 1 ≤ n ∧ n ≤ 9 ∧ p (40 + 6 * t + 3) = nI n) ∧ (∃ n, 1 ≤ n ∧ n ≤ 9 ∧ p (40 + 6 * t + 4) = nI n) ∧ (∃ n, n < 16 ∧ p (40 + 6 * t + 1) = nI n) ∧ (∃ n, n ≤ 1 ∧ p (40 + 6 * t) = nI n) ∧ (∃ n, n ≤ 1 ∧ p (40 + 6 * t + 5) = nI n) := by
  obtain ⟨hm, ho, hr⟩ := P
  obtain ⟨n3, e3, o3⟩ := ho (40 + 6 * t + 3)
  obtain ⟨n4, e4, o4⟩ := ho (40 + 6 * t + 4)
  obtain ⟨n1, e1, o1⟩ := ho (40 + 6 * t + 1)
  obtain ⟨n0, e0, o0⟩ := ho (40 + 6 * t)
  obtain ⟨n5, e5, o5⟩ := ho (40 + 6 * t + 5)
  have o3 := (o3.2.2.1 (by omega) (by omega)).2.2.1 (by omega)
  have o4 := (o4.2.2.1 (by omega) (by omega)).2.2.2.1 (by omega)
  have o1 := (o1.2.2.1 (by omega) (by omega)).2.1 (by omega)
  have o0 := (o0.2.2.1 (by omega) (by omega)).1 (by omega)
  have o5 := (o5.2.2.1 (by omega) (by omega)).2.2.2.2 (by omega)
  exact ⟨⟨n3, o3.1, o3.2, e3⟩, ⟨n4, o4.1, o4.2, e4⟩, ⟨n1, o1, e1⟩, ⟨n0, o0, e0⟩, ⟨n5, o5, e5⟩⟩
theorem P_reset_eq (B : Bd) (p : Pg) (h : Nat) : P_reset B p h = itN (fun t p => if bd_whose B t = h then pu p (40 + 6 * t + 4) (p (40 + 6 * t + 3)) else p) (bd_nt B) (fun j => if 8 * h ≤ j ∧ j < 8 * h + 8 then (if j = 8 * h then bd_first B h else nI 0) else p j) := by
  unfold P_reset
  congr 1
  funext j
  exact P_clr p h (bd_first B h) 8 j
theorem POK.clr (P : POK B m p) (hB : BV2 B) {h : Nat} (hh : h < 4) {q : Pg} (hq : ∀ j, q j = if 8 * h ≤ j ∧ j < 8 * h + 8 then (if j = 8 * h then bd_first B h else nI 0) else p j) : POK B m q := by
  obtain ⟨hm, ho, r1, r2, r3⟩ := P
  obtain ⟨f, hf, ef⟩ := hB.2.2.1 h
  have h6 := hB.1.2.2.1
  have out : ∀ j, ¬ (8 * h ≤ j ∧ j < 8 * h + 8) → q j = p j := fun j hj => by rw [hq, if_neg hj]
  refine ⟨hm, fun j => ?_, fun i hi => ?_, fun t ht => ?_, fun i hi => ?_⟩
  · by_cases h1 : 8 * h ≤ j ∧ j < 8 * h + 8
    · rw [hq, if_pos h1]
      by_cases h2 : j = 8 * h
      · rw [if_pos h2, ef, h2]; exact OKv_place hh (by omega)
      · rw [if_neg h2]; exact ⟨0, rfl, by unfold OKn; omega⟩
    · rw [out j h1]; exact ho j
  · by_cases hih : i = h
    · subst hih
      intro _
      rw [hq, if_pos ⟨by omega, by omega⟩, if_neg (by omega)]
    · rw [out _ (by omega), out _ (by omega)]; exact r1 i hi
  · rw [out _ (by omega), out _ (by omega)]; exact r2 t ht
  · rw [out _ (by omega), out _ (by omega)]; exact r3 i hi
theorem POK.reset (P : POK B m p) (hB : BV2 B) {h : Nat} (hh : h < 4) : POK B m (P_reset B p h) := by
  rw [P_reset_eq]
  refine itN_ind (I := POK B m) _ _ (P.clr hB hh (fun _ => rfl)) (fun t q ht Q => ?_)
  by_cases hw : bd_whose B t = h
  · rw [if_pos hw]
    obtain ⟨⟨n, n1, n2, e⟩, -⟩ := Q.trig ht
    rw [e]
    exact Q.trigleft ht hB.1 ⟨n1, n2⟩
  · rw [if_neg hw]; exact Q
/-- an instruction that calculates -/
def DV (u : Nat) : Prop := 1000 ≤ u ∧ u < 6000 ∧ u / 100 % 10 ≤ 3 ∧ (u / 1000 = 1 → u % 100 ≤ 9) ∧ (u / 1000 = 3 → u % 100 ≤ 3) ∧ (u / 1000 = 4 ∨ u / 1000 = 5 → u % 100 ≤ 7)
theorem RKs.low (h : RKs B m p) {k : Nat} {x : Int32} (hk : (4 ≤ k % 8 ∨ k % 8 = 0) ∧ k < 32 ∨ (32 ≤ k ∧ k < 40) ∨ (76 ≤ k ∧ k ≤ 80)) (hB : BOK B) : RKs B m (pu p k x) := by
  have h4 := hB.2.1
  have h6 := hB.2.2.1
  exact h.upd (fun i hi => by omega) (fun t ht => by omega) (fun i hi => by omega)
theorem POK.reg (P : POK B m p) (hB : BOK B) {h r n : Nat} (hh : h < 4) (hr : r < 4) (hn : n < 1000) : POK B m (pu p (8 * h + 4 + r) (nI n)) := ⟨P.1, P.2.1.upd (OKv_reg hh hr hn), P.2.2.low (by omega) hB⟩
theorem POK.cell (P : POK B m p) (hB : BOK B) {c n : Nat} (hc : c < 8) (hn : n < 1000) : POK B m (pu p (32 + c) (nI n)) := ⟨P.1, P.2.1.upd (OKv_cell hc hn), P.2.2.low (by omega) hB⟩
theorem POK.place (P : POK B m p) (hB : BOK B) {h n : Nat} (hh : h < 4) (hn : n ≤ 16) : POK B m (pu p (8 * h) (nI n)) := ⟨P.1, P.2.1.upd (OKv_place hh hn), P.2.2.low (by omega) hB⟩
theorem P_do_OK (P : POK B m p) (hB : BOK B) {h u : Nat} (hh : h < 4) (hu : DV u) (w : Int32) : POK B m (P_do (p, w) h u).1 := by
  unfold DV at hu
  have hx : ∀ j, ∃ n, p j = nI n ∧ n < 1000 := P.2.1.at
  unfold P_do
  obtain ⟨n, e, hn⟩ := hx (8 * h + 4 + u / 100 % 10)
  split
  · show POK B m (pu p (8 * h + 4 + u / 100 % 10) _)
    simp only [e, nI_add]
    rw [pk_rem (by omega) (by omega) (by omega)]
    exact P.reg hB hh (by omega) (by omega)
  · split
    · show POK B m (pu p (8 * h + 4 + u / 100 % 10) _)
      simp only [e]
      by_cases h0 : nI n ≤ nI 0
      · rw [if_pos h0]; exact P.reg hB hh (by omega) hn
      · rw [if_neg h0]
        have : ¬ n ≤ 0 := fun q => h0 (nI_le q (by omega))
        rw [pk_sub (by omega)]
        exact P.reg hB hh (by omega) (by omega)
    · split
      · obtain ⟨n2, e2, hn2⟩ := hx (8 * h + 4 + u % 100)
        show POK B m (pu p _ (p (8 * h + 4 + u % 100)))
        rw [e2]; exact P.reg hB hh (by omega) hn2
      · split
        · obtain ⟨n2, e2, hn2⟩ := hx (32 + u % 100)
          show POK B m (pu p _ (p (32 + u % 100)))
          rw [e2]; exact P.reg hB hh (by omega) hn2
        · show POK B m (pu p (32 + u % 100) (p (8 * h + 4 + u / 100 % 10)))
          rw [e]; exact P.cell hB (by omega) hn
theorem P_do_hi {s : Ps} {h u j : Nat} (hh : h < 4) (hu : DV u) (hj : 40 ≤ j) : (P_do s h u).1 j = s.1 j := by
  unfold DV at hu
  unfold P_do
  split
  · exact pu_n _ _ (by omega)
  · split
    · exact pu_n _ _ (by omega)
    · split
      · exact pu_n _ _ (by omega)
      · split
        · exact pu_n _ _ (by omega)
        · exact pu_n _ _ (by omega)
theorem plain_parts (b : Nat) : P_plain b / 1000 = b / 100 ∧ P_plain b / 100 % 10 = b / 10 % 10 ∧ P_plain b % 100 = b % 10 := by
  unfold P_plain
  have h1 : b / 10 % 10 < 10 := Nat.mod_lt _ (by decide)
  have h2 : b % 10 < 10 := Nat.mod_lt _ (by decide)
  generalize b / 100 = x at *
  generalize b / 10 % 10 = y at *
  generalize b % 10 = z at *
  omega
theorem BV_DV {b : Nat} (h : BV b) (h0 : P_plain b ≠ 0) (h5 : P_plain b / 1000 ≤ 5) : DV (P_plain b) := by
  obtain ⟨e1, e2, e3⟩ := plain_parts b
  have e4 : P_plain b = 1000 * (b / 100) + 100 * (b / 10 % 10) + b % 10 := rfl
  unfold BV at h
  unfold DV
  rw [e1, e2, e3]
  rw [e1] at h5
  have h1 : b / 10 % 10 < 10 := Nat.mod_lt _ (by decide)
  have h2 : b % 10 < 10 := Nat.mod_lt _ (by decide)
  omega
theorem POK.buf (P : POK B m p) {k : Nat} (hk : k < 2) : ∃ b, BV b ∧ p (78 + k) = nI b := by
  obtain ⟨n, e, o⟩ := P.2.1 (78 + k)
  unfold OKn at o
  exact ⟨n, o.2.2.2.2.1 (by omega), e⟩
theorem P_buf_OK (hB : BOK B) {h : Nat} (hh : h < 4) : ∀ (f k : Nat) (p : Pg) (w : Int32), k + f ≤ 2 → POK B m p → POK B m (P_buf h f k (p, w)).1.1 ∧ (∀ j, 40 ≤ j → (P_buf h f k (p, w)).1.1 j = p j) ∧ ((P_buf h f k (p, w)).2 = nI 0 ∨ (P_buf h f k (p, w)).2 = nI 3)
  | 0, k, p, w, _, P => ⟨P, fun _ _ => rfl, Or.inl rfl⟩
  | f + 1, k, p, w, hk, P => by
    obtain ⟨b, hb, e⟩ := P.buf (k := k) (by omega)
    have hb9 : b < 900 := hb.1
    unfold P_buf
    simp only [e]
    rw [nI_clamp (by omega)]
    by_cases h0 : P_plain b = 0
    · rw [if_pos h0]; exact ⟨P, fun _ _ => rfl, Or.inl rfl⟩
    · rw [if_neg h0]
      by_cases h5 : P_plain b / 1000 ≤ 5
      · rw [if_pos h5]
        have hd := BV_DV hb h0 h5
        obtain ⟨q1, q2, q3⟩ := P_buf_OK hB hh f (k + 1) (P_do (p, w) h (P_plain b)).1 (P_do (p, w) h (P_plain b)).2 (by omega) (P_do_OK P hB hh hd w)
        exact ⟨q1, fun j hj => (q2 j hj).trans (P_do_hi hh hd hj), q3⟩
      · rw [if_neg h5]; exact ⟨P, fun _ _ => rfl, Or.inr rfl⟩

theorem P_halt_keep {h j : Nat} {c : Int32} (hj : j ≠ 8 * h + 1 ∧ j ≠ 8 * h + 2 ∧ j ≠ 8 * h + 3) : P_halt p h c j = p j := by
  unfold P_halt
  split
  · rfl
  · rw [pu_n _ _ hj.2.2, pu_n _ _ hj.1, pu_n _ _ hj.2.1]
theorem P_resume_keep {h j : Nat} (hj : j ≠ 8 * h + 1 ∧ j ≠ 8 * h + 2 ∧ j ≠ 8 * h + 3) : P_resume p h j = p j := by
  unfold P_resume
  split
  · rw [pu_n _ _ hj.2.2, pu_n _ _ hj.2.1, pu_n _ _ hj.1]
  · rfl
theorem P_reset_keep {h j : Nat} (hB : BOK B) (hh : h < 4) (hj : 76 ≤ j) : P_reset B p h j = p j := by
  have h6 := hB.2.2.1
  rw [P_reset_eq]
  refine itN_ind (I := fun q : Pg => q j = p j) _ _ (by show (if _ ∧ _ then _ else _) = _; rw [if_neg (by omega)]) (fun t q ht Q => ?_)
  show (if bd_whose B t = h then pu q (40 + 6 * t + 4) (q (40 + 6 * t + 3)) else q) j = p j
  split
  · rw [pu_n _ _ (by omega)]; exact Q
  · exact Q
/-- the orders' own numbers -/
theorem POK.ord (P : POK B m p) {i : Nat} (hi : i < m) : (∃ n, n ≤ 5 ∧ p (81 + 7 * i) = nI n) ∧ (∃ n, n < bd_nh B ∧ p (81 + 7 * i + 1) = nI n) ∧ (∃ n, n ≤ 5 ∧ p (81 + 7 * i + 2) = nI n) ∧ (∃ n, n ≤ 4 ∧ p (81 + 7 * i + 3) = nI n) ∧ (∃ n, n < 4 ∧ p (81 + 7 * i + 4) = nI n) := by
  obtain ⟨hm, ho, hr⟩ := P
  obtain ⟨n0, e0, o0⟩ := ho (81 + 7 * i)
  obtain ⟨n1, e1, o1⟩ := ho (81 + 7 * i + 1)
  obtain ⟨n2, e2, o2⟩ := ho (81 + 7 * i + 2)
  obtain ⟨n3, e3, o3⟩ := ho (81 + 7 * i + 3)
  obtain ⟨n4, e4, o4⟩ := ho (81 + 7 * i + 4)
  have o0 := (o0.2.2.2.2.2.2 (by omega) (by omega)).1 (by omega)
  have o1 := (o1.2.2.2.2.2.2 (by omega) (by omega)).2.1 (by omega)
  have o2 := (o2.2.2.2.2.2.2 (by omega) (by omega)).2.2.1 (by omega)
  have o3 := (o3.2.2.2.2.2.2 (by omega) (by omega)).2.2.2.1 (by omega)
  have o4 := (o4.2.2.2.2.2.2 (by omega) (by omega)).2.2.2.2 (by omega)
  exact ⟨⟨n0, o0, e0⟩, ⟨n1, o1, e1⟩, ⟨n2, o2, e2⟩, ⟨n3, o3, e3⟩, ⟨n4, o4, e4⟩⟩
theorem OKv_hi {j n : Nat} (hj : 81 ≤ j) (hn : n < 1000) (h2 : (j - 81) % 7 = 0 → n ≤ 5) (h3 : (j - 81) % 7 = 1 → n < bd_nh B) (h4 : (j - 81) % 7 = 2 → n ≤ 5) (h5 : (j - 81) % 7 = 3 → n ≤ 4) (h6 : (j - 81) % 7 = 4 → n < 4) (hB : BOK B) : OKv B m j (nI n) := by
  have b6 := hB.2.2.1
  exact ⟨n, rfl, hn, fun q => by omega, fun _ q => by omega, fun q => by omega, fun q => by omega, fun q => by omega, fun _ _ => ⟨h2, h3, h4, h5, h6⟩⟩
/-- an order's code, if it is an abstract one -/
theorem POK.code (P : POK B m p) (hB : BOK B) {i n : Nat} (hn : n ≤ 4) (hk : i < m → nI 2 < p (81 + 7 * i)) : POK B m (pu p (81 + 7 * i + 3) (nI n)) := by
  obtain ⟨hm, ho, r1, r2, r3⟩ := P
  have h4 := hB.2.1
  have h6 := hB.2.2.1
  refine ⟨hm, ho.upd (OKv_hi (by omega) (by omega) (by omega) (by omega) (by omega) (by omega) (by omega) hB), fun i' hi => ?_, fun t ht => ?_, fun i' hi => ?_⟩
  · rw [pu_n _ _ (by omega), pu_n _ _ (by omega)]; exact r1 i' hi
  · rw [pu_n _ _ (by omega), pu_n _ _ (by omega)]; exact r2 t ht
  · by_cases hii : i' = i
    · subst hii
      intro _
      rw [pu_n _ _ (by omega)]
      exact hk hi
    · rw [pu_n _ _ (by omega), pu_n _ _ (by omega)]; exact r3 i' hi
theorem POK.otherOrd (P : POK B m p) (hB : BOK B) {j n : Nat} (hj : 81 ≤ j) (h2 : (j - 81) % 7 = 2 → n ≤ 5) (h0 : (j - 81) % 7 = 2 ∨ (j - 81) % 7 = 6) (hn : n < 1000) : POK B m (pu p j (nI n)) := by
  obtain ⟨hm, ho, hr⟩ := P
  have h4 := hB.2.1
  have h6 := hB.2.2.1
  exact ⟨hm, ho.upd (OKv_hi hj hn (by omega) (by omega) h2 (by omega) (by omega) hB), hr.upd (fun i hi => by omega) (fun t ht => by omega) (fun i hi => by omega)⟩
theorem P_reach_OK (P : POK B m p) (hB : BV2 B) {k : Nat} (hk : k < m) (w : Int32) : POK B m (P_reach B (p, w) k).1 ∧ ∀ j, 76 ≤ j → j ≠ 81 + 7 * k + 3 → j ≠ 81 + 7 * k + 6 → (P_reach B (p, w) k).1 j = p j := by
  obtain ⟨⟨q, hq, eq⟩, ⟨t, ht, et⟩, -, -, ⟨r, hr, er⟩⟩ := P.ord hk
  have h4 := hB.1.2.1
  have hx : ∀ j, ∃ n, p j = nI n ∧ n < 1000 := P.2.1.at
  unfold P_reach
  simp only [et, er]
  rw [nI_clamp (by omega), nI_clamp (by omega)]
  by_cases h1 : nI 2 < p (81 + 7 * k) ∧ p (8 * t + 1) ≠ nI 2
  · rw [if_pos h1]
    exact ⟨P.code hB.1 (by omega) (fun _ => h1.1), fun j hj h3 h6 => pu_n _ _ h3⟩
  · rw [if_neg h1]
    by_cases c0 : p (81 + 7 * k) = nI 0
    · rw [if_pos c0]; exact ⟨P.halt (by omega) (by omega), fun j hj _ _ => P_halt_keep (by omega)⟩
    · rw [if_neg c0]
      by_cases c1 : p (81 + 7 * k) = nI 1
      · rw [if_pos c1]; exact ⟨P.resume (by omega), fun j hj _ _ => P_resume_keep (by omega)⟩
      · rw [if_neg c1]
        by_cases c2 : p (81 + 7 * k) = nI 2
        · rw [if_pos c2]; exact ⟨P.reset hB (by omega), fun j hj _ _ => P_reset_keep hB.1 (by omega) hj⟩
        · rw [if_neg c2]
          by_cases c3 : p (81 + 7 * k) = nI 3
          · rw [if_pos c3]
            obtain ⟨n, e, hn⟩ := hx (8 * t + 4 + r)
            rw [e]
            exact ⟨P.otherOrd hB.1 (by omega) (by omega) (by omega) hn, fun j hj _ h6 => pu_n _ _ h6⟩
          · rw [if_neg c3]
            by_cases c4 : p (81 + 7 * k) = nI 4
            · rw [if_pos c4]
              obtain ⟨n, e, hn⟩ := hx (81 + 7 * k + 5)
              rw [e]
              exact ⟨P.reg hB.1 (by omega) hr hn, fun j hj _ _ => pu_n _ _ (by omega)⟩
            · rw [if_neg c4]
              obtain ⟨q1, q2, q3⟩ := P_buf_OK hB.1 (h := t) (by omega) 2 0 p w (by omega) P
              have hq5 : q = 5 := by
                rw [eq] at c0 c1 c2 c3 c4
                have a0 : q ≠ 0 := fun z => c0 (by rw [z])
                have a1 : q ≠ 1 := fun z => c1 (by rw [z])
                have a2 : q ≠ 2 := fun z => c2 (by rw [z])
                have a3 : q ≠ 3 := fun z => c3 (by rw [z])
                have a4 : q ≠ 4 := fun z => c4 (by rw [z])
                omega
              have hkk : nI 2 < (P_buf t 2 0 (p, w)).1.1 (81 + 7 * k) := by
                rw [q2 _ (by omega), eq, hq5]
                decide
              refine ⟨?_, fun j hj h3 _ => (pu_n _ _ h3).trans (q2 j (by omega))⟩
              rcases q3 with q3 | q3
              · rw [q3]; exact q1.code hB.1 (by omega) (fun _ => hkk)
              · rw [q3]; exact q1.code hB.1 (by omega) (fun _ => hkk)
end INV
