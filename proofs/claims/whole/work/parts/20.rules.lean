section JR
variable {g : jv_G} {d : Nat} {κ : jv_Mt} {pc : Nat} {L : List (Option Value)} {st : List Value} {M : jv_Mem} {N cr sr : Nat} {Z : Option Value → jv_Mem → Nat → Prop}
/-! locals -/
def jv_cl2 (o : Option Value) : Option Value := match o with
  | some (.long _) => none
  | some (.double _) => none
  | o => o
def jv_st1 : List (Option Value) → Nat → Value → List (Option Value)
  | [], _, _ => []
  | _ :: L, 0, v => some v :: L
  | o :: L, 1, v => jv_cl2 o :: jv_st1 L 0 v
  | o :: L, i + 2, v => o :: jv_st1 L (i + 1) v
def jv_st2 : List (Option Value) → Nat → Value → List (Option Value)
  | [], _, _ => []
  | [_], 0, v => [some v]
  | _ :: _ :: L, 0, v => some v :: none :: L
  | o :: L, 1, v => jv_cl2 o :: jv_st2 L 0 v
  | o :: L, i + 2, v => o :: jv_st2 L (i + 1) v
theorem jv_cl2_some {o : Option Value} {w : Value} (h : jv_cl2 o = some w) : o = some w ∧ ¬ w.category = 2 := by
  unfold jv_cl2 at h
  split at h
  · cases h
  · cases h
  · refine ⟨h, ?_⟩
    subst h
    cases w <;> simp_all [Value.category]
theorem jv_st1_at : ∀ (L : List (Option Value)) (i : Nat) (v : Value) (j : Nat) (w : Value), (jv_st1 L i v)[j]? = some (some w) → (j = i ∧ w = v) ∨ (j ≠ i ∧ L[j]? = some (some w) ∧ ¬ (j + 1 = i ∧ w.category = 2))
  | [], i, v, j, w, h => by simp [jv_st1] at h
  | o :: L, 0, v, j, w, h => by
    simp only [jv_st1] at h
    match j, h with
    | 0, h => simp at h; exact Or.inl ⟨rfl, h.symm⟩
    | j + 1, h => exact Or.inr ⟨by omega, by simpa using h, by omega⟩
  | o :: L, 1, v, j, w, h => by
    simp only [jv_st1] at h
    match j, h with
    | 0, h =>
      simp only [List.getElem?_cons_zero, Option.some.injEq] at h
      obtain ⟨h1, h2⟩ := jv_cl2_some h
      exact Or.inr ⟨by omega, by simp [h1], fun q => h2 q.2⟩
    | j + 1, h =>
      rw [List.getElem?_cons_succ] at h
      rcases jv_st1_at L 0 v j w h with ⟨q1, q2⟩ | ⟨q1, q2, q3⟩
      · exact Or.inl ⟨by omega, q2⟩
      · exact Or.inr ⟨by omega, by simpa using q2, by omega⟩
  | o :: L, i + 2, v, j, w, h => by
    simp only [jv_st1] at h
    match j, h with
    | 0, h => exact Or.inr ⟨by omega, by simpa using h, by omega⟩
    | j + 1, h =>
      rw [List.getElem?_cons_succ] at h
      rcases jv_st1_at L (i + 1) v j w h with ⟨q1, q2⟩ | ⟨q1, q2, q3⟩
      · exact Or.inl ⟨by omega, q2⟩
      · exact Or.inr ⟨by omega, by simpa using q2, fun q => q3 ⟨by omega, q.2⟩⟩
theorem jv_st2_at : ∀ (L : List (Option Value)) (i : Nat) (v : Value) (j : Nat) (w : Value), (jv_st2 L i v)[j]? = some (some w) → (j = i ∧ w = v) ∨ (j ≠ i ∧ j ≠ i + 1 ∧ L[j]? = some (some w) ∧ ¬ (j + 1 = i ∧ w.category = 2))
  | [], i, v, j, w, h => by simp [jv_st2] at h
  | [o], 0, v, j, w, h => by
    simp only [jv_st2] at h
    match j, h with
    | 0, h => simp at h; exact Or.inl ⟨rfl, h.symm⟩
    | j + 1, h => simp at h
  | o :: o2 :: L, 0, v, j, w, h => by
    simp only [jv_st2] at h
    match j, h with
    | 0, h => simp at h; exact Or.inl ⟨rfl, h.symm⟩
    | 1, h => simp at h
    | j + 2, h => exact Or.inr ⟨by omega, by omega, by simpa using h, by omega⟩
  | o :: L, 1, v, j, w, h => by
    have h' : (jv_cl2 o :: jv_st2 L 0 v)[j]? = some (some w) := by
      cases L <;> simpa only [jv_st2] using h
    match j, h' with
    | 0, h =>
      simp only [List.getElem?_cons_zero, Option.some.injEq] at h
      obtain ⟨h1, h2⟩ := jv_cl2_some h
      exact Or.inr ⟨by omega, by omega, by simp [h1], fun q => h2 q.2⟩
    | j + 1, h =>
      rw [List.getElem?_cons_succ] at h
      rcases jv_st2_at L 0 v j w h with ⟨q1, q2⟩ | ⟨q1, q2, q3, q4⟩
      · exact Or.inl ⟨by omega, q2⟩
      · exact Or.inr ⟨by omega, by omega, by simpa using q3, by omega⟩
  | o :: L, i + 2, v, j, w, h => by
    have h' : (o :: jv_st2 L (i + 1) v)[j]? = some (some w) := by
      cases L <;> simpa only [jv_st2] using h
    match j, h' with
    | 0, h => exact Or.inr ⟨by omega, by omega, by simpa using h, by omega⟩
    | j + 1, h =>
      rw [List.getElem?_cons_succ] at h
      rcases jv_st2_at L (i + 1) v j w h with ⟨q1, q2⟩ | ⟨q1, q2, q3, q4⟩
      · exact Or.inl ⟨by omega, q2⟩
      · exact Or.inr ⟨by omega, by omega, by simpa using q3, fun q => q4 ⟨by omega, q.2⟩⟩
def jv_lp (g : jv_G) (L : List (Option Value)) : List (Nat × Value) := (List.range L.length).filterMap (fun i => (L.getD i none).map (fun v => (i, jv_mv g v)))
theorem jv_lp_mem {g : jv_G} {L : List (Option Value)} {i : Nat} {v : Value} (h : L[i]? = some (some v)) : (i, jv_mv g v) ∈ jv_lp g L := by
  refine List.mem_filterMap.mpr ⟨i, List.mem_range.mpr (List.getElem?_eq_some_iff.mp h).1, ?_⟩
  rw [List.getD_eq_getElem?_getD, h]
  rfl
theorem jv_lp_of {g : jv_G} {L : List (Option Value)} {q : Nat × Value} (h : q ∈ jv_lp g L) : ∃ v, L[q.1]? = some (some v) ∧ q.2 = jv_mv g v := by
  obtain ⟨i, hi, hq⟩ := List.mem_filterMap.mp h
  have hl := List.mem_range.mp hi
  rw [List.getD_eq_getElem?_getD, List.getElem?_eq_getElem hl] at hq
  cases ho : L[i] with
  | none => rw [ho] at hq; cases hq
  | some v =>
    rw [ho] at hq
    have hq : (i, jv_mv g v) = q := by simpa using hq
    subst hq
    exact ⟨v, by rw [List.getElem?_eq_getElem hl, ho], rfl⟩
theorem jv_Ls.has {g : jv_G} {n : Nat} {L : List (Option Value)} {ls : Array Slot} (h : jv_Ls g n L ls) : lv_has ls n (jv_lp g L) := by
  refine ⟨h.1, h.2.1, fun q hq => ?_⟩
  obtain ⟨v, h1, h2⟩ := jv_lp_of hq
  rw [h2]
  exact h.2.2 _ _ h1
theorem jv_Ls.st1 {g : jv_G} {n i : Nat} {L : List (Option Value)} {ls : Array Slot} {v : Value} (h : lv_has ls n ((i, jv_mv g v) :: (jv_lp g L).filter (fun q => !(q.1 == i) && !(q.1 + 1 == i && q.2.category == 2)))) : jv_Ls g n (jv_st1 L i v) ls := by
  refine ⟨h.1, h.2.1, fun j w hj => ?_⟩
  rcases jv_st1_at L i v j w hj with ⟨rfl, rfl⟩ | ⟨q1, q2, q3⟩
  · exact h.2.2 _ List.mem_cons_self
  · refine h.2.2 (j, jv_mv g w) (List.mem_cons_of_mem _ (List.mem_filter.mpr ⟨jv_lp_mem q2, ?_⟩))
    simp only [jv_mv_cat', Bool.and_eq_true, Bool.not_eq_true', beq_eq_false_iff_ne, ne_eq, Bool.and_eq_false_imp, beq_iff_eq]
    exact ⟨q1, fun a b => q3 ⟨a, b⟩⟩
theorem jv_Ls.st2 {g : jv_G} {n i : Nat} {L : List (Option Value)} {ls : Array Slot} {v : Value} (h : lv_has ls n ((i, jv_mv g v) :: (jv_lp g L).filter (fun q => !(q.1 == i) && (!(q.1 == i + 1) && !(q.1 + 1 == i && q.2.category == 2))))) : jv_Ls g n (jv_st2 L i v) ls := by
  refine ⟨h.1, h.2.1, fun j w hj => ?_⟩
  rcases jv_st2_at L i v j w hj with ⟨rfl, rfl⟩ | ⟨q1, q2, q3, q4⟩
  · exact h.2.2 _ List.mem_cons_self
  · refine h.2.2 (j, jv_mv g w) (List.mem_cons_of_mem _ (List.mem_filter.mpr ⟨jv_lp_mem q3, ?_⟩))
    simp only [jv_mv_cat', Bool.and_eq_true, Bool.not_eq_true', beq_eq_false_iff_ne, ne_eq, Bool.and_eq_false_imp, beq_iff_eq]
    exact ⟨q1, q2, fun a b => q4 ⟨a, b⟩⟩

theorem jv_iconst {n : Int} {v : Int32} (hd : decode κ.2.1 pc = .ok (.iconst n, 1)) (hv : Int32.ofInt n = v) (k : jv_J g d κ (pc + 1) L (.int v :: st) M N cr sr Z) : jv_J g d κ pc L st M N cr sr Z := by
  intro p e R s m args below meth c H ls locs cells slots cm sm Q X hR hS hL h1 h2 h3 h4 hE
  exact lv_iconst X.1 X.2.1 hd hv (k p e R s m args below meth c H ls locs cells slots cm sm Q X hR hS hL h1 h2 h3 h4 hE)
theorem jv_bipush {n : Int} {v : Int32} (hd : decode κ.2.1 pc = .ok (.bipush n, 2)) (hv : (Int8.ofInt n).toInt32 = v) (k : jv_J g d κ (pc + 2) L (.int v :: st) M N cr sr Z) : jv_J g d κ pc L st M N cr sr Z := by
  intro p e R s m args below meth c H ls locs cells slots cm sm Q X hR hS hL h1 h2 h3 h4 hE
  exact lv_bipush X.1 X.2.1 hd hv (k p e R s m args below meth c H ls locs cells slots cm sm Q X hR hS hL h1 h2 h3 h4 hE)
theorem jv_sipush {n : Int} {v : Int32} (hd : decode κ.2.1 pc = .ok (.sipush n, 3)) (hv : (Int16.ofInt n).toInt32 = v) (k : jv_J g d κ (pc + 3) L (.int v :: st) M N cr sr Z) : jv_J g d κ pc L st M N cr sr Z := by
  intro p e R s m args below meth c H ls locs cells slots cm sm Q X hR hS hL h1 h2 h3 h4 hE
  exact lv_sipush X.1 X.2.1 hd hv (k p e R s m args below meth c H ls locs cells slots cm sm Q X hR hS hL h1 h2 h3 h4 hE)
theorem jv_lconst {n : Fin 2} {v : Int64} (hd : decode κ.2.1 pc = .ok (.lconst n, 1)) (hv : Int64.ofNat (n : Nat) = v) (k : jv_J g d κ (pc + 1) L (.long v :: st) M N cr sr Z) : jv_J g d κ pc L st M N cr sr Z := by
  intro p e R s m args below meth c H ls locs cells slots cm sm Q X hR hS hL h1 h2 h3 h4 hE
  exact lv_lconst X.1 X.2.1 hd hv (k p e R s m args below meth c H ls locs cells slots cm sm Q X hR hS hL h1 h2 h3 h4 hE)
theorem jv_iload_n {q : Fin 4} {i : Nat} {x : Int32} (hd : decode κ.2.1 pc = .ok (.iload_n q, 1)) (hi : (q : Nat) = i) (hl : L[i]? = some (some (.int x))) (k : jv_J g d κ (pc + 1) L (.int x :: st) M N cr sr Z) : jv_J g d κ pc L st M N cr sr Z := by
  intro p e R s m args below meth c H ls locs cells slots cm sm Q X hR hS hL h1 h2 h3 h4 hE
  exact lv_iload_n X.1 X.2.1 hd hi (hL.2.2 i _ hl) (k p e R s m args below meth c H ls locs cells slots cm sm Q X hR hS hL h1 h2 h3 h4 hE)
theorem jv_iload {i : Nat} {x : Int32} (hd : decode κ.2.1 pc = .ok (.iload i, 2)) (hl : L[i]? = some (some (.int x))) (k : jv_J g d κ (pc + 2) L (.int x :: st) M N cr sr Z) : jv_J g d κ pc L st M N cr sr Z := by
  intro p e R s m args below meth c H ls locs cells slots cm sm Q X hR hS hL h1 h2 h3 h4 hE
  exact lv_iload X.1 X.2.1 hd (hL.2.2 i _ hl) (k p e R s m args below meth c H ls locs cells slots cm sm Q X hR hS hL h1 h2 h3 h4 hE)
theorem jv_lload_n {q : Fin 4} {i : Nat} {x : Int64} (hd : decode κ.2.1 pc = .ok (.lload_n q, 1)) (hi : (q : Nat) = i) (hl : L[i]? = some (some (.long x))) (k : jv_J g d κ (pc + 1) L (.long x :: st) M N cr sr Z) : jv_J g d κ pc L st M N cr sr Z := by
  intro p e R s m args below meth c H ls locs cells slots cm sm Q X hR hS hL h1 h2 h3 h4 hE
  exact lv_lload_n X.1 X.2.1 hd hi (hL.2.2 i _ hl) (k p e R s m args below meth c H ls locs cells slots cm sm Q X hR hS hL h1 h2 h3 h4 hE)
theorem jv_lload {i : Nat} {x : Int64} (hd : decode κ.2.1 pc = .ok (.lload i, 2)) (hl : L[i]? = some (some (.long x))) (k : jv_J g d κ (pc + 2) L (.long x :: st) M N cr sr Z) : jv_J g d κ pc L st M N cr sr Z := by
  intro p e R s m args below meth c H ls locs cells slots cm sm Q X hR hS hL h1 h2 h3 h4 hE
  exact lv_lload X.1 X.2.1 hd (hL.2.2 i _ hl) (k p e R s m args below meth c H ls locs cells slots cm sm Q X hR hS hL h1 h2 h3 h4 hE)
theorem jv_aload_n {q : Fin 4} {i x : Nat} (hd : decode κ.2.1 pc = .ok (.aload_n q, 1)) (hi : (q : Nat) = i) (hl : L[i]? = some (some (.ref x))) (k : jv_J g d κ (pc + 1) L (.ref x :: st) M N cr sr Z) : jv_J g d κ pc L st M N cr sr Z := by
  intro p e R s m args below meth c H ls locs cells slots cm sm Q X hR hS hL h1 h2 h3 h4 hE
  exact lv_aload_n X.1 X.2.1 hd hi (hL.2.2 i _ hl) (k p e R s m args below meth c H ls locs cells slots cm sm Q X hR hS hL h1 h2 h3 h4 hE)
theorem jv_aload {i x : Nat} (hd : decode κ.2.1 pc = .ok (.aload i, 2)) (hl : L[i]? = some (some (.ref x))) (k : jv_J g d κ (pc + 2) L (.ref x :: st) M N cr sr Z) : jv_J g d κ pc L st M N cr sr Z := by
  intro p e R s m args below meth c H ls locs cells slots cm sm Q X hR hS hL h1 h2 h3 h4 hE
  exact lv_aload X.1 X.2.1 hd (hL.2.2 i _ hl) (k p e R s m args below meth c H ls locs cells slots cm sm Q X hR hS hL h1 h2 h3 h4 hE)
theorem jv_aload_nR {q : Fin 4} {i x : Nat} (hd : decode κ.2.1 pc = .ok (.aload_n q, 1)) (hi : (q : Nat) = i) (hl : L[i]? = some (some (.retAddr x))) (k : jv_J g d κ (pc + 1) L (.retAddr x :: st) M N cr sr Z) : jv_J g d κ pc L st M N cr sr Z := by
  intro p e R s m args below meth c H ls locs cells slots cm sm Q X hR hS hL h1 h2 h3 h4 hE
  exact lv_aload_n X.1 X.2.1 hd hi (hL.2.2 i _ hl) (k p e R s m args below meth c H ls locs cells slots cm sm Q X hR hS hL h1 h2 h3 h4 hE)
theorem jv_aloadR {i x : Nat} (hd : decode κ.2.1 pc = .ok (.aload i, 2)) (hl : L[i]? = some (some (.retAddr x))) (k : jv_J g d κ (pc + 2) L (.retAddr x :: st) M N cr sr Z) : jv_J g d κ pc L st M N cr sr Z := by
  intro p e R s m args below meth c H ls locs cells slots cm sm Q X hR hS hL h1 h2 h3 h4 hE
  exact lv_aload X.1 X.2.1 hd (hL.2.2 i _ hl) (k p e R s m args below meth c H ls locs cells slots cm sm Q X hR hS hL h1 h2 h3 h4 hE)
theorem jv_istore_n {q : Fin 4} {i : Nat} {x : Int32} {L' : List (Option Value)} (hd : decode κ.2.1 pc = .ok (.istore_n q, 1)) (hi : (q : Nat) = i) (hn : i < κ.2.2.1) (hl : jv_st1 L i (.int x) = L') (k : jv_J g d κ (pc + 1) L' st M N cr sr Z) : jv_J g d κ pc L (.int x :: st) M N cr sr Z := by
  intro p e R s m args below meth c H ls locs cells slots cm sm Q X hR hS hL h1 h2 h3 h4 hE
  exact lv_istore_n X.1 X.2.1 hd hi hL.has hn rfl (fun ls2 hl2 => k p e R s m args below meth c H ls2 locs cells slots cm sm Q X hR hS (by rw [← hl]; exact jv_Ls.st1 hl2) h1 h2 h3 h4 hE)
theorem jv_istore {i : Nat} {x : Int32} {L' : List (Option Value)} (hd : decode κ.2.1 pc = .ok (.istore i, 2)) (hn : i < κ.2.2.1) (hl : jv_st1 L i (.int x) = L') (k : jv_J g d κ (pc + 2) L' st M N cr sr Z) : jv_J g d κ pc L (.int x :: st) M N cr sr Z := by
  intro p e R s m args below meth c H ls locs cells slots cm sm Q X hR hS hL h1 h2 h3 h4 hE
  exact lv_istore X.1 X.2.1 hd hL.has hn rfl (fun ls2 hl2 => k p e R s m args below meth c H ls2 locs cells slots cm sm Q X hR hS (by rw [← hl]; exact jv_Ls.st1 hl2) h1 h2 h3 h4 hE)
theorem jv_lstore_n {q : Fin 4} {i : Nat} {x : Int64} {L' : List (Option Value)} (hd : decode κ.2.1 pc = .ok (.lstore_n q, 1)) (hi : (q : Nat) = i) (hn : i + 1 < κ.2.2.1) (hl : jv_st2 L i (.long x) = L') (k : jv_J g d κ (pc + 1) L' st M N cr sr Z) : jv_J g d κ pc L (.long x :: st) M N cr sr Z := by
  intro p e R s m args below meth c H ls locs cells slots cm sm Q X hR hS hL h1 h2 h3 h4 hE
  exact lv_lstore_n X.1 X.2.1 hd hi hL.has hn rfl (fun ls2 hl2 => k p e R s m args below meth c H ls2 locs cells slots cm sm Q X hR hS (by rw [← hl]; exact jv_Ls.st2 hl2) h1 h2 h3 h4 hE)
theorem jv_lstore {i : Nat} {x : Int64} {L' : List (Option Value)} (hd : decode κ.2.1 pc = .ok (.lstore i, 2)) (hn : i + 1 < κ.2.2.1) (hl : jv_st2 L i (.long x) = L') (k : jv_J g d κ (pc + 2) L' st M N cr sr Z) : jv_J g d κ pc L (.long x :: st) M N cr sr Z := by
  intro p e R s m args below meth c H ls locs cells slots cm sm Q X hR hS hL h1 h2 h3 h4 hE
  exact lv_lstore X.1 X.2.1 hd hL.has hn rfl (fun ls2 hl2 => k p e R s m args below meth c H ls2 locs cells slots cm sm Q X hR hS (by rw [← hl]; exact jv_Ls.st2 hl2) h1 h2 h3 h4 hE)
theorem jv_astore_n {q : Fin 4} {i : Nat} {x : Nat} {L' : List (Option Value)} (hd : decode κ.2.1 pc = .ok (.astore_n q, 1)) (hi : (q : Nat) = i) (hn : i < κ.2.2.1) (hl : jv_st1 L i (.ref x) = L') (k : jv_J g d κ (pc + 1) L' st M N cr sr Z) : jv_J g d κ pc L (.ref x :: st) M N cr sr Z := by
  intro p e R s m args below meth c H ls locs cells slots cm sm Q X hR hS hL h1 h2 h3 h4 hE
  exact lv_astore_n X.1 X.2.1 hd hi hL.has hn rfl (fun ls2 hl2 => k p e R s m args below meth c H ls2 locs cells slots cm sm Q X hR hS (by rw [← hl]; exact jv_Ls.st1 hl2) h1 h2 h3 h4 hE)
theorem jv_astore {i : Nat} {x : Nat} {L' : List (Option Value)} (hd : decode κ.2.1 pc = .ok (.astore i, 2)) (hn : i < κ.2.2.1) (hl : jv_st1 L i (.ref x) = L') (k : jv_J g d κ (pc + 2) L' st M N cr sr Z) : jv_J g d κ pc L (.ref x :: st) M N cr sr Z := by
  intro p e R s m args below meth c H ls locs cells slots cm sm Q X hR hS hL h1 h2 h3 h4 hE
  exact lv_astore X.1 X.2.1 hd hL.has hn rfl (fun ls2 hl2 => k p e R s m args below meth c H ls2 locs cells slots cm sm Q X hR hS (by rw [← hl]; exact jv_Ls.st1 hl2) h1 h2 h3 h4 hE)
theorem jv_iinc {i : Nat} {n : Int} {x v : Int32} {L' : List (Option Value)} (hd : decode κ.2.1 pc = .ok (.iinc i n, 3)) (hx : L[i]? = some (some (.int x))) (hv : x + Int32.ofInt n = v) (hn : i < κ.2.2.1) (hl : jv_st1 L i (.int v) = L') (k : jv_J g d κ (pc + 3) L' st M N cr sr Z) : jv_J g d κ pc L st M N cr sr Z := by
  intro p e R s m args below meth c H ls locs cells slots cm sm Q X hR hS hL h1 h2 h3 h4 hE
  obtain ⟨q, hq⟩ := List.getElem?_of_mem (jv_lp_mem (g := g) hx)
  exact lv_iinc X.1 X.2.1 hd hL.has hq hv hn rfl (fun ls2 hl2 => k p e R s m args below meth c H ls2 locs cells slots cm sm Q X hR hS (by rw [← hl]; exact jv_Ls.st1 hl2) h1 h2 h3 h4 hE)
theorem jv_iadd {x y : Int32} (hd : decode κ.2.1 pc = .ok (.iadd, 1)) (k : jv_J g d κ (pc + 1) L (.int (x + y) :: st) M N cr sr Z) : jv_J g d κ pc L (.int y :: .int x :: st) M N cr sr Z := by
  intro p e R s m args below meth c H ls locs cells slots cm sm Q X hR hS hL h1 h2 h3 h4 hE
  exact lv_iadd X.1 X.2.1 hd (k p e R s m args below meth c H ls locs cells slots cm sm Q X hR hS hL h1 h2 h3 h4 hE)
theorem jv_isub {x y : Int32} (hd : decode κ.2.1 pc = .ok (.isub, 1)) (k : jv_J g d κ (pc + 1) L (.int (x - y) :: st) M N cr sr Z) : jv_J g d κ pc L (.int y :: .int x :: st) M N cr sr Z := by
  intro p e R s m args below meth c H ls locs cells slots cm sm Q X hR hS hL h1 h2 h3 h4 hE
  exact lv_isub X.1 X.2.1 hd (k p e R s m args below meth c H ls locs cells slots cm sm Q X hR hS hL h1 h2 h3 h4 hE)
theorem jv_imul {x y : Int32} (hd : decode κ.2.1 pc = .ok (.imul, 1)) (k : jv_J g d κ (pc + 1) L (.int (x * y) :: st) M N cr sr Z) : jv_J g d κ pc L (.int y :: .int x :: st) M N cr sr Z := by
  intro p e R s m args below meth c H ls locs cells slots cm sm Q X hR hS hL h1 h2 h3 h4 hE
  exact lv_imul X.1 X.2.1 hd (k p e R s m args below meth c H ls locs cells slots cm sm Q X hR hS hL h1 h2 h3 h4 hE)
theorem jv_iand {x y : Int32} (hd : decode κ.2.1 pc = .ok (.iand, 1)) (k : jv_J g d κ (pc + 1) L (.int (x &&& y) :: st) M N cr sr Z) : jv_J g d κ pc L (.int y :: .int x :: st) M N cr sr Z := by
  intro p e R s m args below meth c H ls locs cells slots cm sm Q X hR hS hL h1 h2 h3 h4 hE
  exact lv_iand X.1 X.2.1 hd (k p e R s m args below meth c H ls locs cells slots cm sm Q X hR hS hL h1 h2 h3 h4 hE)
theorem jv_ior {x y : Int32} (hd : decode κ.2.1 pc = .ok (.ior, 1)) (k : jv_J g d κ (pc + 1) L (.int (x ||| y) :: st) M N cr sr Z) : jv_J g d κ pc L (.int y :: .int x :: st) M N cr sr Z := by
  intro p e R s m args below meth c H ls locs cells slots cm sm Q X hR hS hL h1 h2 h3 h4 hE
  exact lv_ior X.1 X.2.1 hd (k p e R s m args below meth c H ls locs cells slots cm sm Q X hR hS hL h1 h2 h3 h4 hE)
theorem jv_ixor {x y : Int32} (hd : decode κ.2.1 pc = .ok (.ixor, 1)) (k : jv_J g d κ (pc + 1) L (.int (x ^^^ y) :: st) M N cr sr Z) : jv_J g d κ pc L (.int y :: .int x :: st) M N cr sr Z := by
  intro p e R s m args below meth c H ls locs cells slots cm sm Q X hR hS hL h1 h2 h3 h4 hE
  exact lv_ixor X.1 X.2.1 hd (k p e R s m args below meth c H ls locs cells slots cm sm Q X hR hS hL h1 h2 h3 h4 hE)
theorem jv_ishl {x y : Int32} (hd : decode κ.2.1 pc = .ok (.ishl, 1)) (k : jv_J g d κ (pc + 1) L (.int (x <<< (y &&& 31)) :: st) M N cr sr Z) : jv_J g d κ pc L (.int y :: .int x :: st) M N cr sr Z := by
  intro p e R s m args below meth c H ls locs cells slots cm sm Q X hR hS hL h1 h2 h3 h4 hE
  exact lv_ishl X.1 X.2.1 hd (k p e R s m args below meth c H ls locs cells slots cm sm Q X hR hS hL h1 h2 h3 h4 hE)
theorem jv_ishr {x y : Int32} (hd : decode κ.2.1 pc = .ok (.ishr, 1)) (k : jv_J g d κ (pc + 1) L (.int (x >>> (y &&& 31)) :: st) M N cr sr Z) : jv_J g d κ pc L (.int y :: .int x :: st) M N cr sr Z := by
  intro p e R s m args below meth c H ls locs cells slots cm sm Q X hR hS hL h1 h2 h3 h4 hE
  exact lv_ishr X.1 X.2.1 hd (k p e R s m args below meth c H ls locs cells slots cm sm Q X hR hS hL h1 h2 h3 h4 hE)
theorem jv_idiv {x y : Int32} (hd : decode κ.2.1 pc = .ok (.idiv, 1)) (hne : ¬ y = 0) (k : jv_J g d κ (pc + 1) L (.int (x / y) :: st) M N cr sr Z) : jv_J g d κ pc L (.int y :: .int x :: st) M N cr sr Z := by
  intro p e R s m args below meth c H ls locs cells slots cm sm Q X hR hS hL h1 h2 h3 h4 hE
  exact lv_idiv X.1 X.2.1 hd hne (k p e R s m args below meth c H ls locs cells slots cm sm Q X hR hS hL h1 h2 h3 h4 hE)
theorem jv_irem {x y : Int32} (hd : decode κ.2.1 pc = .ok (.irem, 1)) (hne : ¬ y = 0) (k : jv_J g d κ (pc + 1) L (.int (x - x / y * y) :: st) M N cr sr Z) : jv_J g d κ pc L (.int y :: .int x :: st) M N cr sr Z := by
  intro p e R s m args below meth c H ls locs cells slots cm sm Q X hR hS hL h1 h2 h3 h4 hE
  exact lv_irem X.1 X.2.1 hd hne (k p e R s m args below meth c H ls locs cells slots cm sm Q X hR hS hL h1 h2 h3 h4 hE)
theorem jv_iushr {x y : Int32} (hd : decode κ.2.1 pc = .ok (.iushr, 1)) (k : jv_J g d κ (pc + 1) L (.int (x.toUInt32 >>> (y.toUInt32 &&& Int32.toUInt32 31)).toInt32 :: st) M N cr sr Z) : jv_J g d κ pc L (.int y :: .int x :: st) M N cr sr Z := by
  intro p e R s m args below meth c H ls locs cells slots cm sm Q X hR hS hL h1 h2 h3 h4 hE
  exact lv_iushr X.1 X.2.1 hd rfl (k p e R s m args below meth c H ls locs cells slots cm sm Q X hR hS hL h1 h2 h3 h4 hE)
theorem jv_ineg {x : Int32} (hd : decode κ.2.1 pc = .ok (.ineg, 1)) (k : jv_J g d κ (pc + 1) L (.int (-x) :: st) M N cr sr Z) : jv_J g d κ pc L (.int x :: st) M N cr sr Z := by
  intro p e R s m args below meth c H ls locs cells slots cm sm Q X hR hS hL h1 h2 h3 h4 hE
  exact lv_ineg X.1 X.2.1 hd (k p e R s m args below meth c H ls locs cells slots cm sm Q X hR hS hL h1 h2 h3 h4 hE)
theorem jv_ladd {x y : Int64} (hd : decode κ.2.1 pc = .ok (.ladd, 1)) (k : jv_J g d κ (pc + 1) L (.long (x + y) :: st) M N cr sr Z) : jv_J g d κ pc L (.long y :: .long x :: st) M N cr sr Z := by
  intro p e R s m args below meth c H ls locs cells slots cm sm Q X hR hS hL h1 h2 h3 h4 hE
  exact lv_ladd X.1 X.2.1 hd (k p e R s m args below meth c H ls locs cells slots cm sm Q X hR hS hL h1 h2 h3 h4 hE)
theorem jv_lsub {x y : Int64} (hd : decode κ.2.1 pc = .ok (.lsub, 1)) (k : jv_J g d κ (pc + 1) L (.long (x - y) :: st) M N cr sr Z) : jv_J g d κ pc L (.long y :: .long x :: st) M N cr sr Z := by
  intro p e R s m args below meth c H ls locs cells slots cm sm Q X hR hS hL h1 h2 h3 h4 hE
  exact lv_lsub X.1 X.2.1 hd (k p e R s m args below meth c H ls locs cells slots cm sm Q X hR hS hL h1 h2 h3 h4 hE)
theorem jv_lmul {x y : Int64} (hd : decode κ.2.1 pc = .ok (.lmul, 1)) (k : jv_J g d κ (pc + 1) L (.long (x * y) :: st) M N cr sr Z) : jv_J g d κ pc L (.long y :: .long x :: st) M N cr sr Z := by
  intro p e R s m args below meth c H ls locs cells slots cm sm Q X hR hS hL h1 h2 h3 h4 hE
  exact lv_lmul X.1 X.2.1 hd (k p e R s m args below meth c H ls locs cells slots cm sm Q X hR hS hL h1 h2 h3 h4 hE)
theorem jv_land {x y : Int64} (hd : decode κ.2.1 pc = .ok (.land, 1)) (k : jv_J g d κ (pc + 1) L (.long (x &&& y) :: st) M N cr sr Z) : jv_J g d κ pc L (.long y :: .long x :: st) M N cr sr Z := by
  intro p e R s m args below meth c H ls locs cells slots cm sm Q X hR hS hL h1 h2 h3 h4 hE
  exact lv_land X.1 X.2.1 hd (k p e R s m args below meth c H ls locs cells slots cm sm Q X hR hS hL h1 h2 h3 h4 hE)
theorem jv_lor {x y : Int64} (hd : decode κ.2.1 pc = .ok (.lor, 1)) (k : jv_J g d κ (pc + 1) L (.long (x ||| y) :: st) M N cr sr Z) : jv_J g d κ pc L (.long y :: .long x :: st) M N cr sr Z := by
  intro p e R s m args below meth c H ls locs cells slots cm sm Q X hR hS hL h1 h2 h3 h4 hE
  exact lv_lor X.1 X.2.1 hd (k p e R s m args below meth c H ls locs cells slots cm sm Q X hR hS hL h1 h2 h3 h4 hE)
theorem jv_ldiv {x y : Int64} (hd : decode κ.2.1 pc = .ok (.ldiv, 1)) (hne : ¬ y = 0) (k : jv_J g d κ (pc + 1) L (.long (x / y) :: st) M N cr sr Z) : jv_J g d κ pc L (.long y :: .long x :: st) M N cr sr Z := by
  intro p e R s m args below meth c H ls locs cells slots cm sm Q X hR hS hL h1 h2 h3 h4 hE
  exact lv_ldiv X.1 X.2.1 hd hne (k p e R s m args below meth c H ls locs cells slots cm sm Q X hR hS hL h1 h2 h3 h4 hE)
theorem jv_lrem {x y : Int64} (hd : decode κ.2.1 pc = .ok (.lrem, 1)) (hne : ¬ y = 0) (k : jv_J g d κ (pc + 1) L (.long (x - x / y * y) :: st) M N cr sr Z) : jv_J g d κ pc L (.long y :: .long x :: st) M N cr sr Z := by
  intro p e R s m args below meth c H ls locs cells slots cm sm Q X hR hS hL h1 h2 h3 h4 hE
  exact lv_lrem X.1 X.2.1 hd hne (k p e R s m args below meth c H ls locs cells slots cm sm Q X hR hS hL h1 h2 h3 h4 hE)
theorem jv_lneg {x : Int64} (hd : decode κ.2.1 pc = .ok (.lneg, 1)) (k : jv_J g d κ (pc + 1) L (.long (-x) :: st) M N cr sr Z) : jv_J g d κ pc L (.long x :: st) M N cr sr Z := by
  intro p e R s m args below meth c H ls locs cells slots cm sm Q X hR hS hL h1 h2 h3 h4 hE
  exact lv_lneg X.1 X.2.1 hd (k p e R s m args below meth c H ls locs cells slots cm sm Q X hR hS hL h1 h2 h3 h4 hE)
theorem jv_lshl {x : Int64} {y : Int32} (hd : decode κ.2.1 pc = .ok (.lshl, 1)) (k : jv_J g d κ (pc + 1) L (.long (x <<< (y.toInt64 &&& 63)) :: st) M N cr sr Z) : jv_J g d κ pc L (.int y :: .long x :: st) M N cr sr Z := by
  intro p e R s m args below meth c H ls locs cells slots cm sm Q X hR hS hL h1 h2 h3 h4 hE
  exact lv_lshl X.1 X.2.1 hd rfl (k p e R s m args below meth c H ls locs cells slots cm sm Q X hR hS hL h1 h2 h3 h4 hE)
theorem jv_lushr {x : Int64} {y : Int32} (hd : decode κ.2.1 pc = .ok (.lushr, 1)) (k : jv_J g d κ (pc + 1) L (.long (x.toUInt64 >>> (y.toInt64.toUInt64 &&& Int64.toUInt64 63)).toInt64 :: st) M N cr sr Z) : jv_J g d κ pc L (.int y :: .long x :: st) M N cr sr Z := by
  intro p e R s m args below meth c H ls locs cells slots cm sm Q X hR hS hL h1 h2 h3 h4 hE
  exact lv_lushr X.1 X.2.1 hd rfl (k p e R s m args below meth c H ls locs cells slots cm sm Q X hR hS hL h1 h2 h3 h4 hE)
theorem jv_i2l {x : Int32} (hd : decode κ.2.1 pc = .ok (.i2l, 1)) (k : jv_J g d κ (pc + 1) L (.long x.toInt64 :: st) M N cr sr Z) : jv_J g d κ pc L (.int x :: st) M N cr sr Z := by
  intro p e R s m args below meth c H ls locs cells slots cm sm Q X hR hS hL h1 h2 h3 h4 hE
  exact lv_i2l X.1 X.2.1 hd rfl (k p e R s m args below meth c H ls locs cells slots cm sm Q X hR hS hL h1 h2 h3 h4 hE)
theorem jv_l2i {x : Int64} (hd : decode κ.2.1 pc = .ok (.l2i, 1)) (k : jv_J g d κ (pc + 1) L (.int x.toInt32 :: st) M N cr sr Z) : jv_J g d κ pc L (.long x :: st) M N cr sr Z := by
  intro p e R s m args below meth c H ls locs cells slots cm sm Q X hR hS hL h1 h2 h3 h4 hE
  exact lv_l2i X.1 X.2.1 hd rfl (k p e R s m args below meth c H ls locs cells slots cm sm Q X hR hS hL h1 h2 h3 h4 hE)
theorem jv_i2c {x : Int32} (hd : decode κ.2.1 pc = .ok (.i2c, 1)) (k : jv_J g d κ (pc + 1) L (.int (x.toUInt32 % 65536).toInt32 :: st) M N cr sr Z) : jv_J g d κ pc L (.int x :: st) M N cr sr Z := by
  intro p e R s m args below meth c H ls locs cells slots cm sm Q X hR hS hL h1 h2 h3 h4 hE
  exact lv_i2c X.1 X.2.1 hd rfl (k p e R s m args below meth c H ls locs cells slots cm sm Q X hR hS hL h1 h2 h3 h4 hE)
theorem jv_i2b {x : Int32} (hd : decode κ.2.1 pc = .ok (.i2b, 1)) (k : jv_J g d κ (pc + 1) L (.int x.toInt8.toInt32 :: st) M N cr sr Z) : jv_J g d κ pc L (.int x :: st) M N cr sr Z := by
  intro p e R s m args below meth c H ls locs cells slots cm sm Q X hR hS hL h1 h2 h3 h4 hE
  exact lv_i2b X.1 X.2.1 hd rfl (k p e R s m args below meth c H ls locs cells slots cm sm Q X hR hS hL h1 h2 h3 h4 hE)
theorem jv_lcmp {x y : Int64} (hd : decode κ.2.1 pc = .ok (.lcmp, 1)) (k : jv_J g d κ (pc + 1) L (.int (lg_cmp x y) :: st) M N cr sr Z) : jv_J g d κ pc L (.long y :: .long x :: st) M N cr sr Z := by
  intro p e R s m args below meth c H ls locs cells slots cm sm Q X hR hS hL h1 h2 h3 h4 hE
  exact W.lcmp X.1 X.2.1 hd (k p e R s m args below meth c H ls locs cells slots cm sm Q X hR hS hL h1 h2 h3 h4 hE)
theorem jv_dup {v : Value} (hd : decode κ.2.1 pc = .ok (.dup, 1)) (hc : v.category = 1) (k : jv_J g d κ (pc + 1) L (v :: v :: st) M N cr sr Z) : jv_J g d κ pc L (v :: st) M N cr sr Z := by
  intro p e R s m args below meth c H ls locs cells slots cm sm Q X hR hS hL h1 h2 h3 h4 hE
  exact lv_dup X.1 X.2.1 hd ((jv_mv_cat' g v).trans hc) (k p e R s m args below meth c H ls locs cells slots cm sm Q X hR hS hL h1 h2 h3 h4 hE)
theorem jv_dup2 {v w : Value} (hd : decode κ.2.1 pc = .ok (.dup2, 1)) (hc : v.category = 1) (hc2 : w.category = 1) (k : jv_J g d κ (pc + 1) L (v :: w :: v :: w :: st) M N cr sr Z) : jv_J g d κ pc L (v :: w :: st) M N cr sr Z := by
  intro p e R s m args below meth c H ls locs cells slots cm sm Q X hR hS hL h1 h2 h3 h4 hE
  exact lv_dup2_11 X.1 X.2.1 hd ((jv_mv_cat' g v).trans hc) ((jv_mv_cat' g w).trans hc2) (k p e R s m args below meth c H ls locs cells slots cm sm Q X hR hS hL h1 h2 h3 h4 hE)
theorem jv_pop {v : Value} (hd : decode κ.2.1 pc = .ok (.pop, 1)) (hc : v.category = 1) (k : jv_J g d κ (pc + 1) L st M N cr sr Z) : jv_J g d κ pc L (v :: st) M N cr sr Z := by
  intro p e R s m args below meth c H ls locs cells slots cm sm Q X hR hS hL h1 h2 h3 h4 hE
  exact lv_pop X.1 X.2.1 hd ((jv_mv_cat' g v).trans hc) (k p e R s m args below meth c H ls locs cells slots cm sm Q X hR hS hL h1 h2 h3 h4 hE)
theorem jv_goto {off : Int} {tgt : Nat} (hd : decode κ.2.1 pc = .ok (.goto off, 3)) (ht : (pc : Int) + off = (tgt : Int)) (k : jv_J g d κ tgt L st M N cr sr Z) : jv_J g d κ pc L st M N cr sr Z := by
  intro p e R s m args below meth c H ls locs cells slots cm sm Q X hR hS hL h1 h2 h3 h4 hE
  exact lv_goto X.1 X.2.1 hd ht (k p e R s m args below meth c H ls locs cells slots cm sm Q X hR hS hL h1 h2 h3 h4 hE)
theorem jv_if_eq {x : Int32} {off : Int} {tgt : Nat} (hd : decode κ.2.1 pc = .ok (.ifCond .eq off, 3)) (ht : (pc : Int) + off = (tgt : Int)) (k : (x = 0 → jv_J g d κ tgt L st M N cr sr Z) ∧ (¬ (x = 0) → jv_J g d κ (pc + 3) L st M N cr sr Z)) : jv_J g d κ pc L (.int x :: st) M N cr sr Z := by
  intro p e R s m args below meth c H ls locs cells slots cm sm Q X hR hS hL h1 h2 h3 h4 hE
  exact lv_if_eq X.1 X.2.1 hd ht (fun q => k.1 q p e R s m args below meth c H ls locs cells slots cm sm Q X hR hS hL h1 h2 h3 h4 hE) (fun q => k.2 q p e R s m args below meth c H ls locs cells slots cm sm Q X hR hS hL h1 h2 h3 h4 hE)
theorem jv_icmp_eq {x y : Int32} {off : Int} {tgt : Nat} (hd : decode κ.2.1 pc = .ok (.if_icmp .eq off, 3)) (ht : (pc : Int) + off = (tgt : Int)) (k : (x = y → jv_J g d κ tgt L st M N cr sr Z) ∧ (¬ (x = y) → jv_J g d κ (pc + 3) L st M N cr sr Z)) : jv_J g d κ pc L (.int y :: .int x :: st) M N cr sr Z := by
  intro p e R s m args below meth c H ls locs cells slots cm sm Q X hR hS hL h1 h2 h3 h4 hE
  exact lv_icmp_eq X.1 X.2.1 hd ht (fun q => k.1 q p e R s m args below meth c H ls locs cells slots cm sm Q X hR hS hL h1 h2 h3 h4 hE) (fun q => k.2 q p e R s m args below meth c H ls locs cells slots cm sm Q X hR hS hL h1 h2 h3 h4 hE)
theorem jv_if_ne {x : Int32} {off : Int} {tgt : Nat} (hd : decode κ.2.1 pc = .ok (.ifCond .ne off, 3)) (ht : (pc : Int) + off = (tgt : Int)) (k : (x ≠ 0 → jv_J g d κ tgt L st M N cr sr Z) ∧ (x = 0 → jv_J g d κ (pc + 3) L st M N cr sr Z)) : jv_J g d κ pc L (.int x :: st) M N cr sr Z := by
  intro p e R s m args below meth c H ls locs cells slots cm sm Q X hR hS hL h1 h2 h3 h4 hE
  exact lv_if_ne X.1 X.2.1 hd ht (fun q => k.1 q p e R s m args below meth c H ls locs cells slots cm sm Q X hR hS hL h1 h2 h3 h4 hE) (fun q => k.2 q p e R s m args below meth c H ls locs cells slots cm sm Q X hR hS hL h1 h2 h3 h4 hE)
theorem jv_icmp_ne {x y : Int32} {off : Int} {tgt : Nat} (hd : decode κ.2.1 pc = .ok (.if_icmp .ne off, 3)) (ht : (pc : Int) + off = (tgt : Int)) (k : (x ≠ y → jv_J g d κ tgt L st M N cr sr Z) ∧ (x = y → jv_J g d κ (pc + 3) L st M N cr sr Z)) : jv_J g d κ pc L (.int y :: .int x :: st) M N cr sr Z := by
  intro p e R s m args below meth c H ls locs cells slots cm sm Q X hR hS hL h1 h2 h3 h4 hE
  exact lv_icmp_ne X.1 X.2.1 hd ht (fun q => k.1 q p e R s m args below meth c H ls locs cells slots cm sm Q X hR hS hL h1 h2 h3 h4 hE) (fun q => k.2 q p e R s m args below meth c H ls locs cells slots cm sm Q X hR hS hL h1 h2 h3 h4 hE)
theorem jv_if_lt {x : Int32} {off : Int} {tgt : Nat} (hd : decode κ.2.1 pc = .ok (.ifCond .lt off, 3)) (ht : (pc : Int) + off = (tgt : Int)) (k : (x < 0 → jv_J g d κ tgt L st M N cr sr Z) ∧ (¬ (x < 0) → jv_J g d κ (pc + 3) L st M N cr sr Z)) : jv_J g d κ pc L (.int x :: st) M N cr sr Z := by
  intro p e R s m args below meth c H ls locs cells slots cm sm Q X hR hS hL h1 h2 h3 h4 hE
  exact lv_if_lt X.1 X.2.1 hd ht (fun q => k.1 q p e R s m args below meth c H ls locs cells slots cm sm Q X hR hS hL h1 h2 h3 h4 hE) (fun q => k.2 q p e R s m args below meth c H ls locs cells slots cm sm Q X hR hS hL h1 h2 h3 h4 hE)
theorem jv_icmp_lt {x y : Int32} {off : Int} {tgt : Nat} (hd : decode κ.2.1 pc = .ok (.if_icmp .lt off, 3)) (ht : (pc : Int) + off = (tgt : Int)) (k : (x < y → jv_J g d κ tgt L st M N cr sr Z) ∧ (¬ (x < y) → jv_J g d κ (pc + 3) L st M N cr sr Z)) : jv_J g d κ pc L (.int y :: .int x :: st) M N cr sr Z := by
  intro p e R s m args below meth c H ls locs cells slots cm sm Q X hR hS hL h1 h2 h3 h4 hE
  exact lv_icmp_lt X.1 X.2.1 hd ht (fun q => k.1 q p e R s m args below meth c H ls locs cells slots cm sm Q X hR hS hL h1 h2 h3 h4 hE) (fun q => k.2 q p e R s m args below meth c H ls locs cells slots cm sm Q X hR hS hL h1 h2 h3 h4 hE)
theorem jv_if_ge {x : Int32} {off : Int} {tgt : Nat} (hd : decode κ.2.1 pc = .ok (.ifCond .ge off, 3)) (ht : (pc : Int) + off = (tgt : Int)) (k : (0 ≤ x → jv_J g d κ tgt L st M N cr sr Z) ∧ (¬ (0 ≤ x) → jv_J g d κ (pc + 3) L st M N cr sr Z)) : jv_J g d κ pc L (.int x :: st) M N cr sr Z := by
  intro p e R s m args below meth c H ls locs cells slots cm sm Q X hR hS hL h1 h2 h3 h4 hE
  exact lv_if_ge X.1 X.2.1 hd ht (fun q => k.1 q p e R s m args below meth c H ls locs cells slots cm sm Q X hR hS hL h1 h2 h3 h4 hE) (fun q => k.2 q p e R s m args below meth c H ls locs cells slots cm sm Q X hR hS hL h1 h2 h3 h4 hE)
theorem jv_icmp_ge {x y : Int32} {off : Int} {tgt : Nat} (hd : decode κ.2.1 pc = .ok (.if_icmp .ge off, 3)) (ht : (pc : Int) + off = (tgt : Int)) (k : (y ≤ x → jv_J g d κ tgt L st M N cr sr Z) ∧ (¬ (y ≤ x) → jv_J g d κ (pc + 3) L st M N cr sr Z)) : jv_J g d κ pc L (.int y :: .int x :: st) M N cr sr Z := by
  intro p e R s m args below meth c H ls locs cells slots cm sm Q X hR hS hL h1 h2 h3 h4 hE
  exact lv_icmp_ge X.1 X.2.1 hd ht (fun q => k.1 q p e R s m args below meth c H ls locs cells slots cm sm Q X hR hS hL h1 h2 h3 h4 hE) (fun q => k.2 q p e R s m args below meth c H ls locs cells slots cm sm Q X hR hS hL h1 h2 h3 h4 hE)
theorem jv_if_gt {x : Int32} {off : Int} {tgt : Nat} (hd : decode κ.2.1 pc = .ok (.ifCond .gt off, 3)) (ht : (pc : Int) + off = (tgt : Int)) (k : (0 < x → jv_J g d κ tgt L st M N cr sr Z) ∧ (¬ (0 < x) → jv_J g d κ (pc + 3) L st M N cr sr Z)) : jv_J g d κ pc L (.int x :: st) M N cr sr Z := by
  intro p e R s m args below meth c H ls locs cells slots cm sm Q X hR hS hL h1 h2 h3 h4 hE
  exact lv_if_gt X.1 X.2.1 hd ht (fun q => k.1 q p e R s m args below meth c H ls locs cells slots cm sm Q X hR hS hL h1 h2 h3 h4 hE) (fun q => k.2 q p e R s m args below meth c H ls locs cells slots cm sm Q X hR hS hL h1 h2 h3 h4 hE)
theorem jv_icmp_gt {x y : Int32} {off : Int} {tgt : Nat} (hd : decode κ.2.1 pc = .ok (.if_icmp .gt off, 3)) (ht : (pc : Int) + off = (tgt : Int)) (k : (y < x → jv_J g d κ tgt L st M N cr sr Z) ∧ (¬ (y < x) → jv_J g d κ (pc + 3) L st M N cr sr Z)) : jv_J g d κ pc L (.int y :: .int x :: st) M N cr sr Z := by
  intro p e R s m args below meth c H ls locs cells slots cm sm Q X hR hS hL h1 h2 h3 h4 hE
  exact lv_icmp_gt X.1 X.2.1 hd ht (fun q => k.1 q p e R s m args below meth c H ls locs cells slots cm sm Q X hR hS hL h1 h2 h3 h4 hE) (fun q => k.2 q p e R s m args below meth c H ls locs cells slots cm sm Q X hR hS hL h1 h2 h3 h4 hE)
theorem jv_if_le {x : Int32} {off : Int} {tgt : Nat} (hd : decode κ.2.1 pc = .ok (.ifCond .le off, 3)) (ht : (pc : Int) + off = (tgt : Int)) (k : (x ≤ 0 → jv_J g d κ tgt L st M N cr sr Z) ∧ (¬ (x ≤ 0) → jv_J g d κ (pc + 3) L st M N cr sr Z)) : jv_J g d κ pc L (.int x :: st) M N cr sr Z := by
  intro p e R s m args below meth c H ls locs cells slots cm sm Q X hR hS hL h1 h2 h3 h4 hE
  exact lv_if_le X.1 X.2.1 hd ht (fun q => k.1 q p e R s m args below meth c H ls locs cells slots cm sm Q X hR hS hL h1 h2 h3 h4 hE) (fun q => k.2 q p e R s m args below meth c H ls locs cells slots cm sm Q X hR hS hL h1 h2 h3 h4 hE)
theorem jv_icmp_le {x y : Int32} {off : Int} {tgt : Nat} (hd : decode κ.2.1 pc = .ok (.if_icmp .le off, 3)) (ht : (pc : Int) + off = (tgt : Int)) (k : (x ≤ y → jv_J g d κ tgt L st M N cr sr Z) ∧ (¬ (x ≤ y) → jv_J g d κ (pc + 3) L st M N cr sr Z)) : jv_J g d κ pc L (.int y :: .int x :: st) M N cr sr Z := by
  intro p e R s m args below meth c H ls locs cells slots cm sm Q X hR hS hL h1 h2 h3 h4 hE
  exact lv_icmp_le X.1 X.2.1 hd ht (fun q => k.1 q p e R s m args below meth c H ls locs cells slots cm sm Q X hR hS hL h1 h2 h3 h4 hE) (fun q => k.2 q p e R s m args below meth c H ls locs cells slots cm sm Q X hR hS hL h1 h2 h3 h4 hE)
theorem jv_ldc {i : Nat} {v : Int32} (hd : decode κ.2.1 pc = .ok (.ldc i, 2)) (hw : Cond.constant κ.1.cls i v ∈ jv_tbl) (k : jv_J g d κ (pc + 2) L (.int v :: st) M N cr sr Z) : jv_J g d κ pc L st M N cr sr Z := by
  intro p e R s m args below meth c H ls locs cells slots cm sm Q X hR hS hL h1 h2 h3 h4 hE
  exact lv_ldc X.1 X.2.1 X.2.2.2.2.2.1 (X.2.2.2.2.2.2.1 _ hw) hd (k p e R s m args below meth c H ls locs cells slots cm sm Q X hR hS hL h1 h2 h3 h4 hE)
theorem jv_ldcw {i : Nat} {v : Int32} (hd : decode κ.2.1 pc = .ok (.ldc_w i, 3)) (hw : Cond.constant κ.1.cls i v ∈ jv_tbl) (k : jv_J g d κ (pc + 3) L (.int v :: st) M N cr sr Z) : jv_J g d κ pc L st M N cr sr Z := by
  intro p e R s m args below meth c H ls locs cells slots cm sm Q X hR hS hL h1 h2 h3 h4 hE
  exact lv_ldcw X.1 X.2.1 X.2.2.2.2.2.1 (X.2.2.2.2.2.2.1 _ hw) hd (k p e R s m args below meth c H ls locs cells slots cm sm Q X hR hS hL h1 h2 h3 h4 hE)
theorem jv_ldc2 {i : Nat} {v : Int64} (hd : decode κ.2.1 pc = .ok (.ldc2_w i, 3)) (hw : Cond.constantLong κ.1.cls i v ∈ jv_tbl) (k : jv_J g d κ (pc + 3) L (.long v :: st) M N cr sr Z) : jv_J g d κ pc L st M N cr sr Z := by
  intro p e R s m args below meth c H ls locs cells slots cm sm Q X hR hS hL h1 h2 h3 h4 hE
  exact lv_ldc2 X.1 X.2.1 X.2.2.2.2.2.1 (X.2.2.2.2.2.2.1 _ hw) hd (k p e R s m args below meth c H ls locs cells slots cm sm Q X hR hS hL h1 h2 h3 h4 hE)
/-- a switch by a table: its keys and targets -/
def jv_tk (pc : Nat) (lo : Int) (offs : Array Int) (ks : List (Int32 × Nat)) : Bool := ks.length == offs.size && (List.range ks.length).all (fun i => match ks[i]?, offs[i]? with | some q, some o => decide (q.1.toInt = lo + i) && decide ((pc : Int) + o = (q.2 : Int)) | _, _ => false)
theorem jv_tsw {dflt lo hi : Int} {offs : Array Int} {len dt : Nat} {x : Int32} (ks : List (Int32 × Nat)) (hd : decode κ.2.1 pc = .ok (.tableswitch dflt lo hi offs, len)) (hs : (offs.size : Int) = hi - lo + 1) (hk : jv_tk pc lo offs ks = true) (ht : (pc : Int) + dflt = (dt : Int))
    (k1 : ∀ q ∈ ks, x = q.1 → jv_J g d κ q.2 L st M N cr sr Z) (k2 : (∀ q ∈ ks, x ≠ q.1) → jv_J g d κ dt L st M N cr sr Z) : jv_J g d κ pc L (.int x :: st) M N cr sr Z := by
  intro p e R s m args below meth c H ls locs cells slots cm sm Q X hR hS hL h1 h2 h3 h4 hE
  unfold jv_tk at hk
  simp only [Bool.and_eq_true, beq_iff_eq, List.all_eq_true, List.mem_range] at hk
  obtain ⟨hl, hk⟩ := hk
  by_cases hin : ¬ x.toInt < lo ∧ ¬ hi < x.toInt
  · have hi1 : (x.toInt - lo).toNat < ks.length := by omega
    have hq := hk _ hi1
    rw [List.getElem?_eq_getElem hi1, Array.getElem?_eq_getElem (by omega)] at hq
    simp only [Bool.and_eq_true, decide_eq_true_eq] at hq
    have hx : x = (ks[(x.toInt - lo).toNat]).1 := Int32.toInt_inj.mp (by omega)
    exact lv_tableIn X.1 X.2.1 hd hin.1 hin.2 (Array.getElem?_eq_getElem (by omega)) hq.2 (k1 _ (List.getElem_mem hi1) hx p e R s m args below meth c H ls locs cells slots cm sm Q X hR hS hL h1 h2 h3 h4 hE)
  · refine lv_tableOut X.1 X.2.1 hd (by omega) ht (k2 (fun q hq e => hin ?_) p e R s m args below meth c H ls locs cells slots cm sm Q X hR hS hL h1 h2 h3 h4 hE)
    obtain ⟨i, hi1, rfl⟩ := List.getElem_of_mem hq
    have hq := hk _ hi1
    rw [List.getElem?_eq_getElem hi1, Array.getElem?_eq_getElem (by omega)] at hq
    simp only [Bool.and_eq_true, decide_eq_true_eq] at hq
    rw [e]
    omega
def jv_lk (pc : Nat) (ps : List (Int × Int)) (ks : List (Int32 × Nat)) : Bool := match ps, ks with
  | [], [] => true
  | p :: ps, k :: ks => decide (k.1.toInt = p.1) && decide ((pc : Int) + p.2 = (k.2 : Int)) && jv_lk pc ps ks
  | _, _ => false
theorem jv_lk_at {pc : Nat} {dflt : Int} {dt : Nat} {x : Int32} : ∀ (ps : List (Int × Int)) (ks : List (Int32 × Nat)), jv_lk pc ps ks = true → (pc : Int) + dflt = (dt : Int) →
    ∃ tgt : Nat, (pc : Int) + Op.lookupswitch.offset ps dflt x.toInt = (tgt : Int) ∧ ((∃ q ∈ ks, x = q.1 ∧ tgt = q.2) ∨ ((∀ q ∈ ks, x ≠ q.1) ∧ tgt = dt))
  | [], [], _, ht => ⟨dt, by simpa [Op.lookupswitch.offset] using ht, Or.inr ⟨by simp, rfl⟩⟩
  | [], _ :: _, h, _ => by simp [jv_lk] at h
  | _ :: _, [], h, _ => by simp [jv_lk] at h
  | (a, o) :: ps, (k, t) :: ks, h, ht => by
    simp only [jv_lk, Bool.and_eq_true, decide_eq_true_eq] at h
    obtain ⟨⟨h1, h2⟩, h3⟩ := h
    by_cases hx : x = k
    · subst hx
      refine ⟨t, ?_, Or.inl ⟨_, List.mem_cons_self, rfl, rfl⟩⟩
      rw [← h2]
      congr 1
      simp [Op.lookupswitch.offset, h1]
    · rw [lv_osw hx h1]
      obtain ⟨tgt, e, hh⟩ := jv_lk_at ps ks h3 ht
      refine ⟨tgt, e, ?_⟩
      rcases hh with ⟨q, hq, q1, q2⟩ | ⟨hq, q2⟩
      · exact Or.inl ⟨q, List.mem_cons_of_mem _ hq, q1, q2⟩
      · refine Or.inr ⟨fun q hm => ?_, q2⟩
        rcases List.mem_cons.mp hm with rfl | hm
        · exact hx
        · exact hq q hm
theorem jv_lsw {dflt : Int} {ps : Array (Int × Int)} {len dt : Nat} {x : Int32} (ks : List (Int32 × Nat)) (hd : decode κ.2.1 pc = .ok (.lookupswitch dflt ps, len)) (hp : (ps.toList.zip (ps.toList.drop 1)).all (fun (a, next) => a.1 < next.1) = true) (hk : jv_lk pc ps.toList ks = true) (ht : (pc : Int) + dflt = (dt : Int))
    (k1 : ∀ q ∈ ks, x = q.1 → jv_J g d κ q.2 L st M N cr sr Z) (k2 : (∀ q ∈ ks, x ≠ q.1) → jv_J g d κ dt L st M N cr sr Z) : jv_J g d κ pc L (.int x :: st) M N cr sr Z := by
  intro p e R s m args below meth c H ls locs cells slots cm sm Q X hR hS hL h1 h2 h3 h4 hE
  obtain ⟨tgt, h5, h6⟩ := jv_lk_at (x := x) ps.toList ks hk ht
  refine lv_lookup X.1 X.2.1 hd hp rfl h5 ?_
  rcases h6 with ⟨q, hq, q1, rfl⟩ | ⟨hq, rfl⟩
  · exact k1 q hq q1 p e R s m args below meth c H ls locs cells slots cm sm Q X hR hS hL h1 h2 h3 h4 hE
  · exact k2 hq p e R s m args below meth c H ls locs cells slots cm sm Q X hR hS hL h1 h2 h3 h4 hE
theorem jv_ret (hd : decode κ.2.1 pc = .ok (.return_, 1)) (hr : κ.2.2.2 = none) (hz : Z none M N) : jv_J g d κ pc L [] M N cr sr Z := by
  intro p e R s m args below meth c H ls locs cells slots cm sm Q X hR hS hL h1 h2 h3 h4 hE
  exact hE H locs cells slots pc ls none M N hz hR hS (by omega) (by omega) (Or.inl ⟨hd, rfl, hr⟩)
theorem jv_iret {x : Int32} {ty : FieldType} (hd : decode κ.2.1 pc = .ok (.ireturn, 1)) (hr : κ.2.2.2 = some ty) (hn : narrow ty (.int x) = .int x) (hz : Z (some (.int x)) M N) : jv_J g d κ pc L [.int x] M N cr sr Z := by
  intro p e R s m args below meth c H ls locs cells slots cm sm Q X hR hS hL h1 h2 h3 h4 hE
  exact hE H locs cells slots pc ls (some (.int x)) M N hz hR hS (by omega) (by omega) (Or.inr (Or.inl ⟨x, ty, hd, rfl, hr, hn⟩))
theorem jv_lret {x : Int64} (hd : decode κ.2.1 pc = .ok (.lreturn, 1)) (hr : κ.2.2.2 = some .long) (hz : Z (some (.long x)) M N) : jv_J g d κ pc L [.long x] M N cr sr Z := by
  intro p e R s m args below meth c H ls locs cells slots cm sm Q X hR hS hL h1 h2 h3 h4 hE
  exact hE H locs cells slots pc ls (some (.long x)) M N hz hR hS (by omega) (by omega) (Or.inr (Or.inr (Or.inl ⟨x, hd, rfl, hr⟩)))
theorem jv_aret {x : Nat} {n : String} (hd : decode κ.2.1 pc = .ok (.areturn, 1)) (hr : κ.2.2.2 = some (.object n)) (hz : Z (some (.ref x)) M N) : jv_J g d κ pc L [.ref x] M N cr sr Z := by
  intro p e R s m args below meth c H ls locs cells slots cm sm Q X hR hS hL h1 h2 h3 h4 hE
  exact hE H locs cells slots pc ls (some (.ref x)) M N hz hR hS (by omega) (by omega) (Or.inr (Or.inr (Or.inr ⟨x, n, hd, rfl, hr⟩)))
end JR
