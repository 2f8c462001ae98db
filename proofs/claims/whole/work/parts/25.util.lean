/-! ===== weakening ===== -/
theorem jv_Ct.mono {g : jv_G} {d : Nat} {κ : jv_Mt} {as : List Value} {M : jv_Mem} {N cr sr : Nat} {Z Z' : Option Value → jv_Mem → Nat → Prop} (h : jv_Ct g d κ as M N cr sr Z) (hz : ∀ v M N, Z v M N → Z' v M N) : jv_Ct g d κ as M N cr sr Z' := by
  intro p e h1 h2 h3 s m args below h4 h5 h6 h7
  obtain ⟨n, o, a1, a2, a3, ⟨⟨v, M', N', b1, b2, b3⟩, c1⟩, d1⟩ := h p e h1 h2 h3 s m args below h4 h5 h6 h7
  exact ⟨n, o, a1, a2, a3, ⟨⟨v, M', N', b1, hz _ _ _ b2, b3⟩, c1⟩, d1⟩
theorem jv_J.mono {g : jv_G} {d : Nat} {κ : jv_Mt} {pc : Nat} {L : List (Option Value)} {st : List Value} {M : jv_Mem} {N cr sr : Nat} {Z Z' : Option Value → jv_Mem → Nat → Prop} (h : jv_J g d κ pc L st M N cr sr Z) (hz : ∀ v M N, Z v M N → Z' v M N) : jv_J g d κ pc L st M N cr sr Z' := by
  intro p e R s m args below meth c H ls locs cells slots cm sm Q X hR hS hL h1 h2 h3 h4 hE
  exact h p e R s m args below meth c H ls locs cells slots cm sm Q X hR hS hL h1 h2 h3 h4 (fun H locs cells slots pc ls v M N q => hE H locs cells slots pc ls v M N (hz v M N q))
/-- fewer locals known -/
def jv_le : List (Option Value) → List (Option Value) → Prop
  | [], _ => True
  | none :: L', _ :: L => jv_le L' L
  | some v :: L', some w :: L => v = w ∧ jv_le L' L
  | _, _ => False
theorem jv_le_at : ∀ (L' L : List (Option Value)), jv_le L' L → ∀ (i : Nat) (v : Value), L'[i]? = some (some v) → L[i]? = some (some v)
  | [], _, _, i, v, h => by simp at h
  | none :: L', [], hl, i, v, h => by simp [jv_le] at hl
  | none :: L', o :: L, hl, i, v, h => by
    match i, h with
    | 0, h => simp at h
    | i + 1, h =>
      rw [List.getElem?_cons_succ] at h ⊢
      exact jv_le_at L' L (by simpa [jv_le] using hl) i v h
  | some w :: L', [], hl, i, v, h => by simp [jv_le] at hl
  | some w :: L', none :: L, hl, i, v, h => by simp [jv_le] at hl
  | some w :: L', some u :: L, hl, i, v, h => by
    simp only [jv_le] at hl
    match i, h with
    | 0, h => rw [← hl.1]; exact h
    | i + 1, h =>
      rw [List.getElem?_cons_succ] at h ⊢
      exact jv_le_at L' L hl.2 i v h
theorem jv_weak {g : jv_G} {d : Nat} {κ : jv_Mt} {pc : Nat} {L L' : List (Option Value)} {st : List Value} {M : jv_Mem} {N cr sr : Nat} {Z : Option Value → jv_Mem → Nat → Prop} (hl : jv_le L' L) (h : jv_J g d κ pc L' st M N cr sr Z) : jv_J g d κ pc L st M N cr sr Z := by
  intro p e R s m args below meth c H ls locs cells slots cm sm Q X hR hS hL h1 h2 h3 h4 hE
  exact h p e R s m args below meth c H ls locs cells slots cm sm Q X hR hS ⟨hL.1, hL.2.1, fun i v hi => hL.2.2 i v (jv_le_at L' L hl i v hi)⟩ h1 h2 h3 h4 hE
theorem jv_nz {x : Int32} (h : x = 0 ∨ x = 1) : narrow .boolean (.int x) = .int x := by rcases h with rfl | rfl <;> rfl
/-- less room than there is -/
theorem jv_J.less {g : jv_G} {d : Nat} {κ : jv_Mt} {pc : Nat} {L : List (Option Value)} {st : List Value} {M : jv_Mem} {N cr sr cr' sr' : Nat} {Z : Option Value → jv_Mem → Nat → Prop} (h : jv_J g d κ pc L st M N cr' sr' Z) (h1 : cr' ≤ cr) (h2 : sr' ≤ sr) : jv_J g d κ pc L st M N cr sr Z := by
  intro p e R s m args below meth c H ls locs cells slots cm sm Q X hR hS hL g1 g2 g3 g4 hE
  exact h p e R s m args below meth c H ls locs cells slots cm sm Q X hR hS hL (by omega) (by omega) g3 g4 hE
/-- results of calls -/
def jv_ri (v : Option Value) (f : Int32 → Prop) : Prop := ∃ r : Int32, v = some (.int r) ∧ f r
def jv_rl (v : Option Value) (f : Int64 → Prop) : Prop := ∃ r : Int64, v = some (.long r) ∧ f r
def jv_ra (v : Option Value) (f : Nat → Prop) : Prop := ∃ r : Nat, v = some (.ref r) ∧ f r
def jv_rv (v : Option Value) (f : Prop) : Prop := v = none ∧ f
theorem jv_ri_i {r : Int32} {f : Int32 → Prop} (h : f r) : jv_ri (some (.int r)) f := ⟨r, rfl, h⟩
theorem jv_rl_i {r : Int64} {f : Int64 → Prop} (h : f r) : jv_rl (some (.long r)) f := ⟨r, rfl, h⟩
theorem jv_ra_i {r : Nat} {f : Nat → Prop} (h : f r) : jv_ra (some (.ref r)) f := ⟨r, rfl, h⟩
theorem jv_rv_i {f : Prop} (h : f) : jv_rv none f := ⟨rfl, h⟩
theorem jv_one9 : ∀ j, j < jv_len 9 → jv_ft 9 j = 2 → j = 9 := by decide
theorem jv_one10 : ∀ j, j < jv_len 10 → jv_ft 10 j = 2 → j = 30 := by decide
theorem jv_copy0 {g : jv_G} {d : Nat} {κ : jv_Mt} {pc : Nat} {L : List (Option Value)} {st : List Value} {M : jv_Mem} {N cr sr : Nat} {Z : Option Value → jv_Mem → Nat → Prop} {i a0 a k : Nat} {n : Int32} (hd : decode κ.2.1 pc = .ok (.invokestatic i, 3)) (w1 : Cond.methodLink κ.1.cls i arraycopyName ∈ jv_tbl) (w2 : Cond.native arraycopyName ∈ jv_tbl) (w3 : Cond.static arraycopyName ∈ jv_tbl) (w4 : Cond.initialized "java/lang/System" ∈ jv_tbl)
    (hT0 : jv_Tg 11 a0 N) (hT : jv_Tg 11 a N) (h3 : ¬ n < 0) (hk : n.toNatClampNeg = k) (h4 : k ≤ (jv_sh a0).2) (h5 : k ≤ (jv_sh a).2) (hw : jv_words st ≤ 8)
    (kk : jv_J g (d + 1) κ (pc + 3) L st (jv_cp M a0 a 0 0 k) N cr sr Z) : jv_J g (d + 1) κ pc L (.int n :: .int 0 :: .ref a :: .int 0 :: .ref a0 :: st) M N cr sr Z := by
  subst hk
  exact jv_copy hd w1 w2 w3 w4 hT0 hT (by decide) (by decide) h3 (by simpa using h4) (by simpa using h5) hw kk
