/-! ===== what both sides tell, and how they hold it ===== -/
theorem st_pair : ∀ σ ∈ st_bases, ∀ τ ∈ st_bases, σ ≠ τ → (σ + 33 ≤ τ ∨ τ + 33 ≤ σ) := by decide +kernel
theorem st_647 : ∀ σ ∈ st_bases, σ + 33 ≤ 647 := by decide +kernel
def nsc : List Nat := [0, 1, 2, 3, 4, 5, 6, 40, 41, 42, 43, 110, 111, 574, 575, 576, 577, 578, 579, 580]
theorem st_nsc : ∀ σ ∈ st_bases, ∀ b ∈ nsc, (b < σ ∨ σ + 33 ≤ b) := by decide +kernel
/-- the class's references, but for the queues' -/
def SHP (M : jv_Mem) : Prop := (M.2.1 0 0 = some 1 ∧ M.2.1 0 1 = some 40 ∧ M.2.1 0 2 = some 44 ∧ M.2.1 0 3 = some 77 ∧ M.2.1 0 4 = some 110 ∧ M.2.1 0 5 = some 574 ∧ M.2.1 0 6 = some 575 ∧ M.2.1 0 7 = some 576 ∧ M.2.1 0 8 = some 580) ∧
  (M.2.1 1 0 = some 2 ∧ M.2.1 1 2 = some 3 ∧ M.2.1 1 3 = some 7) ∧ (M.2.1 3 0 = some 4 ∧ M.2.1 3 1 = some 5 ∧ M.2.1 3 2 = some 6) ∧ (M.2.1 40 0 = some 41 ∧ M.2.1 40 1 = some 42 ∧ M.2.1 40 2 = some 43) ∧
  (M.2.1 110 0 = some 111 ∧ (∀ i, i < 14 → M.2.1 111 i = some (112 + 33 * i)) ∧ ∀ i, i < 2 → M.2.1 574 i = some (581 + 33 * i)) ∧ (M.2.1 576 0 = some 577 ∧ M.2.1 576 1 = some 578 ∧ M.2.1 576 2 = some 579) ∧
  ∀ σ ∈ st_bases, SX M σ ∧ ∃ π, PI π ∧ ∀ j, M.2.1 (σ + 2) j = some (σ + 4 + π j)
/-- the memories differ, of the class's cells, in the State at σ alone -/
def EXC (M M' : jv_Mem) (σ : Nat) : Prop := (∀ b, b < σ ∨ σ + 33 ≤ b → ∀ j, M'.1 b j = M.1 b j) ∧ (∀ b, b ≠ σ + 2 → ∀ j, M'.2.1 b j = M.2.1 b j) ∧ (∃ π, PI π ∧ ∀ j, M'.2.1 (σ + 2) j = some (σ + 4 + π j)) ∧ M'.2.2 = M.2.2
theorem EXC.sw {M : jv_Mem} {σ : Nat} {V : SV} {π : Nat → Nat} (I : PI π) : EXC M (sw M σ V π) σ := ⟨fun b hb j => sw_out hb j, fun b hb j => sw_ref hb j, ⟨π, I, fun j => sw_q j⟩, rfl⟩
theorem EXC.trans {M M1 M2 : jv_Mem} {σ : Nat} (a : EXC M M1 σ) (b : EXC M1 M2 σ) : EXC M M2 σ := ⟨fun c hc j => (b.1 c hc j).trans (a.1 c hc j), fun c hc j => (b.2.1 c hc j).trans (a.2.1 c hc j), b.2.2.1, b.2.2.2.trans a.2.2.2⟩
theorem sw_sw {M : jv_Mem} {σ : Nat} {V V' : SV} {π π' : Nat → Nat} : sw (sw M σ V π) σ V' π' = sw M σ V' π' := by
  unfold sw
  congr 1
  · funext b j
    show (if σ ≤ b ∧ b < σ + 33 then _ else if σ ≤ b ∧ b < σ + 33 then _ else _) = _
    split <;> rfl
  · congr 1
    funext b j
    show (if b = σ + 2 then _ else if b = σ + 2 then _ else _) = _
    split <;> rfl
theorem sw_self {M : jv_Mem} {σ : Nat} {V : SV} {π : Nat → Nat} (h1 : ∀ k j, k < 33 → M.1 (σ + k) j = V k j) (h2 : ∀ j, M.2.1 (σ + 2) j = some (σ + 4 + π j)) : sw M σ V π = M := by
  obtain ⟨M1, M2, M3⟩ := M
  unfold sw
  congr 1
  · funext b j
    show (if σ ≤ b ∧ b < σ + 33 then _ else _) = _
    split
    · have := h1 (b - σ) j (by omega)
      rw [show σ + (b - σ) = b by omega] at this
      exact this.symm
    · rfl
  · congr 1
    funext b j
    show (if b = σ + 2 then _ else _) = _
    split
    · rename_i hb; subst hb; exact (h2 j).symm
    · rfl
/-- a State that tells page p -/
def SP (M : jv_Mem) (σ : Nat) (B : Bd) (p : Pg) : Prop := ∃ V π, (∀ k j, k < 33 → M.1 (σ + k) j = V k j) ∧ (∀ j, M.2.1 (σ + 2) j = some (σ + 4 + π j)) ∧ SR B (nI 63) V π p ∧ V 0 6 = nI 0
theorem SP.congr {M M' : jv_Mem} {σ : Nat} {B : Bd} {p : Pg} (h : SP M σ B p) (h1 : ∀ k j, k < 33 → M'.1 (σ + k) j = M.1 (σ + k) j) (h2 : ∀ j, M'.2.1 (σ + 2) j = M.2.1 (σ + 2) j) : SP M' σ B p := by
  obtain ⟨V, π, a1, a2, a3⟩ := h
  exact ⟨V, π, fun k j hk => (h1 k j hk).trans (a1 k j hk), fun j => (h2 j).trans (a2 j), a3⟩
theorem SP.exc {M M' : jv_Mem} {σ τ : Nat} {B : Bd} {p : Pg} (h : SP M τ B p) (E : EXC M M' σ) (hσ : σ ∈ st_bases) (hτ : τ ∈ st_bases) (hne : σ ≠ τ) : SP M' τ B p := by
  have := st_pair σ hσ τ hτ hne
  exact h.congr (fun k j hk => E.1 _ (by omega) j) (fun j => E.2.1 _ (by omega) j)
theorem SP.mk {M : jv_Mem} {σ : Nat} {B : Bd} {p : Pg} {V : SV} {π : Nat → Nat} (S : SR B (nI 63) V π p) (h6 : V 0 6 = nI 0) : SP (sw M σ V π) σ B p := by
  refine ⟨V, π, fun k j hk => ?_, fun j => sw_q j, S, h6⟩
  show (if σ ≤ σ + k ∧ σ + k < σ + 33 then V (σ + k - σ) j else _) = _
  rw [if_pos (by omega), show σ + k - σ = k by omega]
theorem SX.congr {M M' : jv_Mem} {σ : Nat} (h : SX M σ) (hr : ∀ k, k < 33 → k ≠ 2 → ∀ j, M'.2.1 (σ + k) j = M.2.1 (σ + k) j) : SX M' σ := by
  obtain ⟨a0, a1, a2, a3, a4, a5, a6, a7, a8, a9⟩ := h
  have r0 := hr 0 (by omega) (by omega)
  rw [Nat.add_zero] at r0
  refine ⟨a0, by rw [r0, a1], by rw [r0, a2], by rw [r0, a3], by rw [r0, a4], by rw [hr 1 (by omega) (by omega), a5], by rw [hr 1 (by omega) (by omega), a6], fun h hh => by rw [hr 16 (by omega) (by omega), a7 h hh], fun t ht => by rw [hr 17 (by omega) (by omega), a8 t ht], fun h hh => ?_⟩
  have := hr (19 + 2 * h) (by omega) (by omega) 0
  rw [← Nat.add_assoc] at this
  rw [this, a9 h hh]
theorem SHP.exc {M M' : jv_Mem} {σ : Nat} (h : SHP M) (E : EXC M M' σ) (hσ : σ ∈ st_bases) : SHP M' := by
  obtain ⟨⟨a0, a1, a2, a3, a4, a5, a6, a7, a8⟩, ⟨b0, b1, b2⟩, ⟨c0, c1, c2⟩, ⟨d0, d1, d2⟩, ⟨e0, e1, e2⟩, ⟨f0, f1, f2⟩, s⟩ := h
  have n : ∀ b ∈ nsc, ∀ j, M'.2.1 b j = M.2.1 b j := fun b hb j => E.2.1 b (by have := st_nsc σ hσ b hb; omega) j
  have n0 := n 0 (by decide)
  have n1 := n 1 (by decide)
  have n3 := n 3 (by decide)
  have n40 := n 40 (by decide)
  have n110 := n 110 (by decide)
  have n111 := n 111 (by decide)
  have n574 := n 574 (by decide)
  have n576 := n 576 (by decide)
  refine ⟨⟨by rw [n0, a0], by rw [n0, a1], by rw [n0, a2], by rw [n0, a3], by rw [n0, a4], by rw [n0, a5], by rw [n0, a6], by rw [n0, a7], by rw [n0, a8]⟩, ⟨by rw [n1, b0], by rw [n1, b1], by rw [n1, b2]⟩, ⟨by rw [n3, c0], by rw [n3, c1], by rw [n3, c2]⟩, ⟨by rw [n40, d0], by rw [n40, d1], by rw [n40, d2]⟩, ⟨by rw [n110, e0], fun i hi => by rw [n111, e1 i hi], fun i hi => by rw [n574, e2 i hi]⟩, ⟨by rw [n576, f0], by rw [n576, f1], by rw [n576, f2]⟩, fun τ hτ => ?_⟩
  obtain ⟨sx, π, I, q⟩ := s τ hτ
  by_cases hne : σ = τ
  · subst hne
    exact ⟨sx.congr (fun k hk h2 j => E.2.1 _ (by omega) j), E.2.2.1⟩
  · have := st_pair σ hσ τ hτ hne
    exact ⟨sx.congr (fun k hk h2 j => E.2.1 _ (by omega) j), π, I, fun j => by rw [E.2.1 _ (by omega), q j]⟩
theorem SHP.refs {M M' : jv_Mem} (h : SHP M) (E : ∀ b, b < 647 → ∀ j, M'.2.1 b j = M.2.1 b j) : SHP M' := by
  obtain ⟨⟨a0, a1, a2, a3, a4, a5, a6, a7, a8⟩, ⟨b0, b1, b2⟩, ⟨c0, c1, c2⟩, ⟨d0, d1, d2⟩, ⟨e0, e1, e2⟩, ⟨f0, f1, f2⟩, s⟩ := h
  have n0 := E 0 (by decide)
  have n1 := E 1 (by decide)
  have n3 := E 3 (by decide)
  have n40 := E 40 (by decide)
  have n110 := E 110 (by decide)
  have n111 := E 111 (by decide)
  have n574 := E 574 (by decide)
  have n576 := E 576 (by decide)
  refine ⟨⟨by rw [n0, a0], by rw [n0, a1], by rw [n0, a2], by rw [n0, a3], by rw [n0, a4], by rw [n0, a5], by rw [n0, a6], by rw [n0, a7], by rw [n0, a8]⟩, ⟨by rw [n1, b0], by rw [n1, b1], by rw [n1, b2]⟩, ⟨by rw [n3, c0], by rw [n3, c1], by rw [n3, c2]⟩, ⟨by rw [n40, d0], by rw [n40, d1], by rw [n40, d2]⟩, ⟨by rw [n110, e0], fun i hi => by rw [n111, e1 i hi], fun i hi => by rw [n574, e2 i hi]⟩, ⟨by rw [n576, f0], by rw [n576, f1], by rw [n576, f2]⟩, fun τ hτ => ?_⟩
  have := st_647 τ hτ
  obtain ⟨sx, π, I, q⟩ := s τ hτ
  exact ⟨sx.congr (fun k hk h2 j => E _ (by omega) j), π, I, fun j => by rw [E _ (by omega), q j]⟩
/-- texts; acts that can be undone; what is kept; sights -/
abbrev Tt : Type := Nat × (Nat → Int32)
abbrev Ut : Type := Nat × (Nat → Pg)
abbrev Kt : Type := (Nat → Bool) × (Nat → Pg)
abbrev St : Type := Nat × (Nat → Int32) × (Nat → Int32) × (Nat → Int32)
/-- the class's other cells -/
def RCo (M : jv_Mem) (T : Tt) (B : Bd) (U : Ut) (K : Kt) (S : St) (e : Int64) : Prop :=
  (M.1 1 1 = nI T.1 ∧ ∀ i, i < T.1 → M.1 2 i = T.2 i) ∧ (M.1 40 3 = nI (bd_nc B) ∧ ∀ k, k < bd_nc B → M.1 41 k = nI (bd_code B k / 1000) ∧ M.1 42 k = nI (bd_code B k / 100 % 10) ∧ M.1 43 k = nI (bd_code B k % 100)) ∧
  M.1 110 2 = nI U.1 ∧ (∀ i, i < 2 → M.1 575 i = if K.1 i = true then nI 1 else nI 0) ∧ (M.1 576 3 = nI S.1 ∧ ∀ i, i < S.1 → M.1 577 i = S.2.1 i ∧ M.1 578 i = S.2.2.1 i ∧ M.1 579 i = S.2.2.2 i) ∧ M.2.2 0 = e
/-- the text's own State: what the beginning has -/
def TZ (M : jv_Mem) : Prop := (∀ c, c < 8 → M.1 25 c = nI 0) ∧ (∀ i, i < 2 → M.1 10 i = nI 0) ∧ M.1 8 2 = nI 0 ∧ M.1 8 3 = nI 0 ∧ M.1 8 4 = nI 0 ∧ M.1 7 6 = nI 0
def pst (s nx i : Nat) : Nat := 112 + 33 * ((nx + 14 - s + i) % 14)
theorem pst_in (s nx i : Nat) : pst s nx i ∈ st_bases := by
  unfold pst
  have h : ∀ k, k < 14 → 112 + 33 * k ∈ st_bases := by decide
  exact h _ (Nat.mod_lt _ (by omega))
theorem sl_in : ∀ i, i < 2 → 581 + 33 * i ∈ st_bases := by decide
def RCs (M : jv_Mem) (B : Bd) (p : Pg) (U : Ut) (K : Kt) : Prop := SP M 44 B p ∧ (∃ nx, nx < 14 ∧ M.1 110 1 = nI nx ∧ ∀ i, i < U.1 → SP M (pst U.1 nx i) B (U.2 i)) ∧ (∀ i, i < 2 → K.1 i = true → SP M (581 + 33 * i) B (K.2 i)) ∧ TZ M
def RC (M : jv_Mem) (T : Tt) (B : Bd) (p : Pg) (U : Ut) (K : Kt) (S : St) (e : Int64) : Prop := SHP M ∧ RCo M T B U K S e ∧ RCs M B p U K
section RCL
variable {M M' : jv_Mem} {T : Tt} {B : Bd} {p p' : Pg} {U : Ut} {K : Kt} {S : St} {e : Int64}
theorem RCo.congr (h : RCo M T B U K S e) (n : ∀ b ∈ nsc, ∀ j, M'.1 b j = M.1 b j) (he : M'.2.2 0 = M.2.2 0) : RCo M' T B U K S e := by
  obtain ⟨⟨a1, a2⟩, ⟨b1, b2⟩, c, d, ⟨e1, e2⟩, f⟩ := h
  have n1 := n 1 (by decide)
  have n2 := n 2 (by decide)
  have n40 := n 40 (by decide)
  have n41 := n 41 (by decide)
  have n42 := n 42 (by decide)
  have n43 := n 43 (by decide)
  have n110 := n 110 (by decide)
  have n575 := n 575 (by decide)
  have n576 := n 576 (by decide)
  have n577 := n 577 (by decide)
  have n578 := n 578 (by decide)
  have n579 := n 579 (by decide)
  exact ⟨⟨by rw [n1, a1], fun i hi => by rw [n2, a2 i hi]⟩, ⟨by rw [n40, b1], fun k hk => by rw [n41, n42, n43]; exact b2 k hk⟩, by rw [n110, c], fun i hi => by rw [n575, d i hi], ⟨by rw [n576, e1], fun i hi => by rw [n577, n578, n579]; exact e2 i hi⟩, by rw [he, f]⟩
theorem TZ.congr (h : TZ M) (n : ∀ b, 7 ≤ b → b < 40 → ∀ j, M'.1 b j = M.1 b j) : TZ M' := by
  obtain ⟨a, b, c, d, e, f⟩ := h
  exact ⟨fun i hi => by rw [n 25 (by omega) (by omega), a i hi], fun i hi => by rw [n 10 (by omega) (by omega), b i hi], by rw [n 8 (by omega) (by omega), c], by rw [n 8 (by omega) (by omega), d], by rw [n 8 (by omega) (by omega), e], by rw [n 7 (by omega) (by omega), f]⟩
theorem pst_ne : ∀ σ, σ = 7 ∨ σ = 44 ∨ σ = 77 ∨ σ = 581 ∨ σ = 614 → ∀ s nx i, σ ≠ pst s nx i := by
  intro σ h s nx i
  unfold pst
  have := Nat.mod_lt (nx + 14 - s + i) (show 14 > 0 by omega)
  omega
/-- what happens to the trial State is no matter -/
theorem RC.trial (h : RC M T B p U K S e) (E : EXC M M' 77) : RC M' T B p U K S e := by
  have h77 : 77 ∈ st_bases := by decide
  have n : ∀ b ∈ nsc, ∀ j, M'.1 b j = M.1 b j := fun b hb j => E.1 b (st_nsc 77 h77 b hb) j
  obtain ⟨s, o, p1, ⟨nx, hnx, p2, p3⟩, k, z⟩ := h
  exact ⟨s.exc E h77, o.congr n (by rw [E.2.2.2]), p1.exc E h77 (by decide) (by decide), ⟨nx, hnx, by rw [n 110 (by decide), p2], fun i hi => (p3 i hi).exc E h77 (pst_in _ _ _) (pst_ne _ (by omega) _ _ _)⟩, fun i hi q => (k i hi q).exc E h77 (sl_in i hi) (by omega), z.congr (fun b h1 h2 j => E.1 b (by omega) j)⟩
/-- the present State is another -/
theorem RC.present (h : RC M T B p U K S e) (E : EXC M M' 44) (Q : SP M' 44 B p') : RC M' T B p' U K S e := by
  have h44 : 44 ∈ st_bases := by decide
  have n : ∀ b ∈ nsc, ∀ j, M'.1 b j = M.1 b j := fun b hb j => E.1 b (st_nsc 44 h44 b hb) j
  obtain ⟨s, o, p1, ⟨nx, hnx, p2, p3⟩, k, z⟩ := h
  exact ⟨s.exc E h44, o.congr n (by rw [E.2.2.2]), Q, ⟨nx, hnx, by rw [n 110 (by decide), p2], fun i hi => (p3 i hi).exc E h44 (pst_in _ _ _) (pst_ne _ (by omega) _ _ _)⟩, fun i hi q => (k i hi q).exc E h44 (sl_in i hi) (by omega), z.congr (fun b h1 h2 j => E.1 b (by omega) j)⟩
/-- no cell of the class differs -/
def FRc (M M' : jv_Mem) : Prop := ∀ b, b < 647 → (∀ j, M'.1 b j = M.1 b j) ∧ (∀ j, M'.2.1 b j = M.2.1 b j) ∧ M'.2.2 b = M.2.2 b
/-- no cell of the reference differs -/
def FRm (M M' : jv_Mem) : Prop := ∀ b, 647 ≤ b → (∀ j, M'.1 b j = M.1 b j) ∧ (∀ j, M'.2.1 b j = M.2.1 b j) ∧ M'.2.2 b = M.2.2 b
theorem FRc.rf : FRc M M := fun _ _ => ⟨fun _ => rfl, fun _ => rfl, rfl⟩
theorem FRm.rf : FRm M M := fun _ _ => ⟨fun _ => rfl, fun _ => rfl, rfl⟩
theorem FRc.trans {M1 M2 : jv_Mem} (a : FRc M M1) (b : FRc M1 M2) : FRc M M2 := fun c hc => ⟨fun j => ((b c hc).1 j).trans ((a c hc).1 j), fun j => ((b c hc).2.1 j).trans ((a c hc).2.1 j), (b c hc).2.2.trans (a c hc).2.2⟩
theorem FRm.trans {M1 M2 : jv_Mem} (a : FRm M M1) (b : FRm M1 M2) : FRm M M2 := fun c hc => ⟨fun j => ((b c hc).1 j).trans ((a c hc).1 j), fun j => ((b c hc).2.1 j).trans ((a c hc).2.1 j), (b c hc).2.2.trans (a c hc).2.2⟩
theorem EXC.frm {σ : Nat} (E : EXC M M' σ) (hσ : σ ∈ st_bases) : FRm M M' := fun b hb => by
  have := st_647 σ hσ
  exact ⟨fun j => E.1 b (by omega) j, fun j => E.2.1 b (by omega) j, by rw [E.2.2.2]⟩
theorem RC.frc (h : RC M T B p U K S e) (F : FRc M M') : RC M' T B p U K S e := by
  have n : ∀ b ∈ nsc, ∀ j, M'.1 b j = M.1 b j := fun b hb j => (F b ((by decide : ∀ b ∈ nsc, b < 647) b hb)).1 j
  have hs : ∀ σ ∈ st_bases, ∀ {q : Pg}, SP M σ B q → SP M' σ B q := fun σ hσ q Q => by
    have := st_647 σ hσ
    exact Q.congr (fun k j hk => (F _ (by omega)).1 j) (fun j => (F _ (by omega)).2.1 j)
  obtain ⟨s, o, p1, ⟨nx, hnx, p2, p3⟩, k, z⟩ := h
  refine ⟨?_, o.congr n (F 0 (by omega)).2.2, hs _ (by decide) p1, ⟨nx, hnx, by rw [n 110 (by decide), p2], fun i hi => hs _ (pst_in _ _ _) (p3 i hi)⟩, fun i hi q => hs _ (sl_in i hi) (k i hi q), z.congr (fun b h1 h2 j => (F b (by omega)).1 j)⟩
  exact s.refs (fun b hb j => (F b hb).2.1 j)
end RCL
