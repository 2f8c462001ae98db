/-! ===== the pure picture: cells by their numbers (number a is the machine's cell base + a), and the judgement jv_J over it ===== -/
/-- a method: its name, its bytes, its locals, what it returns -/
abbrev jv_Mt : Type := MethodName × ByteArray × Nat × Option FieldType
/-- ints by cell and place, references by cell and place, the long of a cell -/
abbrev jv_Mem : Type := (Nat → Nat → Int32) × (Nat → Nat → Option Nat) × (Nat → Int64)
/-- launch, base, the cells that are only read, classes and slots, array classes, the script's length and ints -/
abbrev jv_G : Type := Launch × Nat × (Nat → Nat) × va_G × (Nat → ClassId) × Nat × (Nat → Int32)
def jv_l (g : jv_G) : Launch := g.1
def jv_base (g : jv_G) : Nat := g.2.1
def jv_ro (g : jv_G) : Nat → Nat := g.2.2.1
def jv_D (g : jv_G) : va_G := g.2.2.2.1
def jv_cA (g : jv_G) : Nat → ClassId := g.2.2.2.2.1
def jv_L (g : jv_G) : Nat := g.2.2.2.2.2.1
def jv_xs (g : jv_G) : Nat → Int32 := g.2.2.2.2.2.2
def jv_A (g : jv_G) : Nat → Prop := fun q => jv_base g ≤ q
/-- a pure value as the machine has it: .ref a is a cell of the pool, .retAddr i one of those that are only read -/
def jv_mv (g : jv_G) (v : Value) : Value := match v with
  | .ref a => .ref (jv_base g + a)
  | .retAddr i => .ref (jv_ro g i)
  | .int x => .int x
  | .long x => .long x
  | .float x => .float x
  | .double x => .double x
  | .null => .null
def jv_rf (b : Nat) (r : Option Nat) : Value := match r with
  | none => .null
  | some q => .ref (b + q)
def jv_fv (b : Nat) (M : jv_Mem) (t a k : Nat) : Value := if jv_ft t k = 1 then jv_rf b (M.2.1 a k) else if jv_ft t k = 2 then .long (M.2.2 a) else .int (M.1 a k)
def jv_Fo (b : Nat) (M : jv_Mem) (t n a : Nat) : List Value := (List.range n).map (jv_fv b M t a)
def jv_F (g : jv_G) (M : jv_Mem) (a : Nat) : va_E :=
  if (jv_sh a).1 < 11 then .inr ((jv_sh a).1, jv_Fo (jv_base g) M (jv_sh a).1 (jv_sh a).2 a)
  else if (jv_sh a).1 < 13 then .inl (jv_cA g (jv_sh a).1, (jv_sh a).2, .inl (M.1 a))
  else .inl (jv_cA g (jv_sh a).1, (jv_sh a).2, .inr (.inr (.inr (.inr (fun i => (M.2.1 a i).map (jv_base g + ·))))))
def jv_Rep (g : jv_G) (M : jv_Mem) (N : Nat) (H : Heap) : Prop := H.size = jv_base g + N ∧ ∀ a : Nat, a < N → va_at (jv_D g) jv_cl (jv_base g + a, jv_F g M a) H
def jv_tys (g : jv_G) : List (ClassId × FieldType) := [(jv_cA g 11, .int), (jv_cA g 12, .boolean), (jv_cA g 13, .object "HaltRing$Hart"), (jv_cA g 14, .object "HaltRing$Order"), (jv_cA g 15, .object "HaltRing$State"), (jv_cA g 16, .object "HaltRing$Trigger")]
def jv_isN (w : Cond) : Bool := match w with
  | .methodLinkNest _ _ _ _ => true
  | .fieldLinkNest _ _ _ _ _ _ => true
  | _ => false
def jv_nws : List Cond := lw_tbl.filter jv_isN
def jv_second : Nat → Int32 := fun i => [0, 10, 0, 4, 8, 8, 16, 0, 0].getD i 0
def jv_fact : Nat → Int32 := fun i => [1, 1, 2, 6, 24, 120, 720].getD i 0
/-- what is only read: the script, two static rows, a text -/
def jv_RO (g : jv_G) (U : State) (H : Heap) : Prop :=
  (∀ i : Nat, jv_ro g i < jv_base g) ∧ va_X (jv_ro g 0) (jv_L g) (jv_xs g) U H ∧ va_T .int (jv_ro g 1) 9 (fun j => .int (jv_second j)) (jv_A g) U H ∧ va_T .int (jv_ro g 2) 7 (fun j => .int (jv_fact j)) (jv_A g) U H ∧
  va_Z "HaltRing" "SECOND" "[I" (.ref (jv_ro g 1)) (jv_A g) U H ∧ va_Z "HaltRing" "FACTORIAL" "[I" (.ref (jv_ro g 2)) (jv_A g) U H ∧ va_Z "java/lang/String" "COMPACT_STRINGS" "Z" (.int 1) (jv_A g) U H ∧
  vk_S 1 [8] [[97, 100, 99, 108, 119, 106, 122, 98]] (fun _ => jv_ro g 3) (fun _ => jv_ro g 4) (jv_A g) U H ∧ vk_R "HaltRing$Text" 94 "adclwjzb" (jv_ro g 3) U
/-- what the tables say, and what is only read -/
def jv_CU (g : jv_G) (U : State) (H : Heap) : Prop := va_K (jv_D g) jv_cl (jv_tys g) U ∧ (∀ w ∈ jv_nws, va_Nw w U) ∧ (va_AO "HaltRing$Hart" U ∧ va_AO "HaltRing$Order" U ∧ va_AO "HaltRing$State" U ∧ va_AO "HaltRing$Trigger" U) ∧ jv_RO g U H
theorem jv_nw_warm {w : Cond} (hw : jv_isN w = true) {s U : State} (hW : s.WarmedH U.vm) (h : va_Nw w s) : va_Nw w U := by
  unfold jv_isN at hw
  split at hw
  · exact va_Nw.warmM hW h
  · exact va_Nw.warmF hW h
  · cases hw
theorem jv_RO.warm {g : jv_G} {s U : State} {H : Heap} (hW : s.WarmedH U.vm) (h : jv_RO g s H) : jv_RO g U H := by
  obtain ⟨h0, h1, h2, h3, h4, h5, h6, h7, h8⟩ := h
  have hv := hW.alike
  exact ⟨h0, h1.moved hv, h2.moved hv, h3.moved hv, h4.moved hv, h5.moved hv, h6.moved hv, h7.moved hv, h8.warm hW⟩
theorem jv_RO.kept {g : jv_G} {U : State} {H H1 : Heap} (hb : jv_base g ≤ H.size) (hq : ∀ a : Nat, a < H.size → ¬ jv_A g a → H1[a]? = H[a]?) (h : jv_RO g U H) : jv_RO g U H1 := by
  obtain ⟨h0, h1, h2, h3, h4, h5, h6, h7, h8⟩ := h
  have hr : ∀ i, H1[jv_ro g i]? = H[jv_ro g i]? := fun i => hq _ (Nat.lt_of_lt_of_le (h0 i) hb) (fun z => Nat.not_le.mpr (h0 i) z)
  exact ⟨h0, h1.kept (hr 0), h2.kept hq, h3.kept hq, h4.kept hq, h5.kept hq, h6.kept hq, h7.kept hq, h8⟩
theorem jv_CU.warm {g : jv_G} {s U : State} {H : Heap} (hW : s.WarmedH U.vm) (h : jv_CU g s H) : jv_CU g U H :=
  ⟨h.1.moved hW.alike, fun w hw => jv_nw_warm (List.mem_filter.mp hw).2 hW (h.2.1 w hw), ⟨h.2.2.1.1.moved hW.alike, h.2.2.1.2.1.moved hW.alike, h.2.2.1.2.2.1.moved hW.alike, h.2.2.1.2.2.2.moved hW.alike⟩, h.2.2.2.warm hW⟩
theorem jv_nw_tab {w : Cond} (hw : jv_isN w = true) : w.onTables = true := by
  unfold jv_isN at hw
  split at hw
  · rfl
  · rfl
  · cases hw
theorem jv_CU.same {g : jv_G} {s U : State} {H : Heap} (hv : U.vm = s.vm) (h : jv_CU g s H) : jv_CU g U H := by
  have ha : s.vm.Alike U.vm := by rw [hv]; exact Vm.Alike.refl _
  obtain ⟨q1, q2, q3, h0, h1, h2, h3, h4, h5, h6, h7, h8⟩ := h
  exact ⟨q1.moved ha, fun w hw => va_Nw.same (jv_nw_tab (List.mem_filter.mp hw).2) hv.symm (q2 w hw), ⟨q3.1.moved ha, q3.2.1.moved ha, q3.2.2.1.moved ha, q3.2.2.2.moved ha⟩, h0, h1.moved ha, h2.moved ha, h3.moved ha, h4.moved ha, h5.moved ha, h6.moved ha, h7.moved ha, h8.same hv⟩
/-- a method's frame stands: the machine, its code, the words, the room for d frames, what is only read -/
def jv_Cx (g : jv_G) (d : Nat) (κ : jv_Mt) (p : Program) (R : Room) (s : State) (m : MethodId) (args : Array Value) (meth : Method) (c : Code) : Prop :=
  p.tables.exec = Jvm.exec ∧ c.code = κ.2.1 ∧ c.maxLocals = κ.2.2.1 ∧ meth.sig.returnType = κ.2.2.2 ∧ meth.locks = false ∧ s.vm.findClass κ.1.cls = some m.cls ∧ (∀ w ∈ jv_tbl, w.before args s = true) ∧ meth.name = κ.1.name ∧ (d ≤ R.frames ∧ 36 * d ≤ R.locals) ∧ jv_base g ≤ s.heap.size ∧ jv_CU g s s.heap
def jv_Ls (g : jv_G) (n : Nat) (L : List (Option Value)) (ls : Array Slot) : Prop := ls.size = n ∧ lv_wf ls ∧ ∀ (i : Nat) (v : Value), L[i]? = some (some v) → ls[i]? = some (.val (jv_mv g v))
/-- a return instruction that fits -/
def jv_rt (κ : jv_Mt) (pc : Nat) (v : Option Value) : Prop :=
  (decode κ.2.1 pc = .ok (.return_, 1) ∧ v = none ∧ κ.2.2.2 = none) ∨
  (∃ (x : Int32) (ty : FieldType), decode κ.2.1 pc = .ok (.ireturn, 1) ∧ v = some (.int x) ∧ κ.2.2.2 = some ty ∧ narrow ty (.int x) = .int x) ∨
  (∃ x : Int64, decode κ.2.1 pc = .ok (.lreturn, 1) ∧ v = some (.long x) ∧ κ.2.2.2 = some .long) ∨
  (∃ (x : Nat) (n : String), decode κ.2.1 pc = .ok (.areturn, 1) ∧ v = some (.ref x) ∧ κ.2.2.2 = some (.object n))
def jv_Ex (g : jv_G) (κ : jv_Mt) (p : Program) (e : Env) (R : Room) (s : State) (m : MethodId) (args : Array Value) (below : List Frame) (meth : Method) (c : Code) (cm sm : Nat) (Z : Option Value → jv_Mem → Nat → Prop) (Q : State → Prop) : Prop :=
  ∀ (H : Heap) (locs : List Loc) (cells slots pc : Nat) (ls : Array Slot) (v : Option Value) (M : jv_Mem) (N : Nat), Z v M N → jv_Rep g M N H → va_S (jv_A g) s.heap H locs → cells ≤ cm → slots ≤ sm → jv_rt κ pc v →
    W p (jv_l g) e R s m args below meth c H locs cells slots Q (F0 m pc ls (v.toList.map (jv_mv g)))
/-- THE JUDGEMENT: method κ at pc, with locals L, stack st, memory M of N cells, with d frames and room for cr cells of sr slots, comes to its end with Z -/
def jv_J (g : jv_G) (d : Nat) (κ : jv_Mt) (pc : Nat) (L : List (Option Value)) (st : List Value) (M : jv_Mem) (N cr sr : Nat) (Z : Option Value → jv_Mem → Nat → Prop) : Prop :=
  ∀ (p : Program) (e : Env) (R : Room) (s : State) (m : MethodId) (args : Array Value) (below : List Frame) (meth : Method) (c : Code) (H : Heap) (ls : Array Slot) (locs : List Loc) (cells slots cm sm : Nat) (Q : State → Prop),
    jv_Cx g d κ p R s m args meth c → jv_Rep g M N H → va_S (jv_A g) s.heap H locs → jv_Ls g κ.2.2.1 L ls → cells + cr ≤ cm → slots + sr ≤ sm → cm ≤ R.cells → sm ≤ R.slots → jv_Ex g κ p e R s m args below meth c cm sm Z Q →
    W p (jv_l g) e R s m args below meth c H locs cells slots Q (F0 m pc ls (st.map (jv_mv g)))
/-- the contract of a call -/
def jv_ws (κ : jv_Mt) : List Cond := Cond.code κ.1 κ.2.1 κ.2.2.1 κ.2.2.2 :: jv_tbl
def jv_rm (d c s : Nat) : Room := { frames := d, cells := c, slots := s, locals := 36 * d }
def jv_Pc (g : jv_G) (as : List Value) (M : jv_Mem) (N : Nat) : Array Value → State → Prop := va_Pc (as.map (jv_mv g)) (fun U => jv_CU g U U.heap ∧ jv_Rep g M N U.heap)
def jv_Qc (g : jv_G) (Z : Option Value → jv_Mem → Nat → Prop) : Array Value → State → Outcome → State → Prop := fun _ st oc t => (∃ (v : Option Value) (M : jv_Mem) (N : Nat), oc = .returned (v.map (jv_mv g)) ∧ Z v M N ∧ jv_Rep g M N t.heap) ∧ va_F (jv_A g) st t
def jv_Ct (g : jv_G) (d : Nat) (κ : jv_Mt) (as : List Value) (M : jv_Mem) (N cr sr : Nat) (Z : Option Value → jv_Mem → Nat → Prop) : Prop :=
  Met (jv_l g) κ.1 (jv_ws κ) (jv_rm d cr sr) (jv_Pc g as M N) (jv_Qc g Z) cr sr (jv_A g)
/-- the locals at a method's entry -/
def jv_ent : List Value → Nat → List (Option Value)
  | [], n => List.replicate n none
  | v :: vs, n => if v.category = 2 then some v :: none :: jv_ent vs (n - 2) else some v :: jv_ent vs (n - 1)
theorem jv_mv_cat (g : jv_G) (v : Value) (h : ∀ n, v ≠ .retAddr n) : (jv_mv g v).category = v.category := by cases v <;> rfl
theorem jv_mv_cat' (g : jv_G) (v : Value) : (jv_mv g v).category = v.category := by cases v <;> rfl
theorem jv_ent_at (g : jv_G) : ∀ (vs : List Value) (n b i : Nat) (v : Value), (jv_ent vs n)[i]? = some (some v) → (b + i, jv_mv g v) ∈ lv_args b (vs.map (jv_mv g))
  | [], n, b, i, v, h => by
    simp only [jv_ent, List.getElem?_replicate] at h
    split at h <;> simp at h
  | w :: vs, n, b, i, v, h => by
    simp only [List.map_cons, lv_args, jv_mv_cat', List.mem_cons]
    unfold jv_ent at h
    by_cases hc : w.category = 2
    · rw [if_pos hc] at h ⊢
      match i, h with
      | 0, h => simp at h; exact Or.inl (by rw [h]; rfl)
      | 1, h => simp at h
      | i + 2, h =>
        rw [List.getElem?_cons_succ, List.getElem?_cons_succ] at h
        have := jv_ent_at g vs (n - 2) (b + 2) i v h
        exact Or.inr (by rwa [show b + 2 + i = b + (i + 2) by omega] at this)
    · rw [if_neg hc] at h ⊢
      match i, h with
      | 0, h => simp at h; exact Or.inl (by rw [h]; rfl)
      | i + 1, h =>
        rw [List.getElem?_cons_succ] at h
        have := jv_ent_at g vs (n - 1) (b + 1) i v h
        exact Or.inr (by rwa [show b + 1 + i = b + (i + 1) by omega] at this)
def jv_words (vs : List Value) : Nat := (vs.map Value.category).sum
theorem jv_words_sl (g : jv_G) : ∀ vs : List Value, (lg_sl (vs.map (jv_mv g))).length = jv_words vs
  | [] => rfl
  | v :: vs => by
    have ih := jv_words_sl g vs
    unfold lg_sl at ih ⊢
    simp only [List.map_cons, List.flatMap_cons, List.length_append, ih, jv_words, List.sum_cons, jv_mv_cat']
    rcases lv_cat v with h | h <;> simp [h]
/-- a contract out of the walk of the body -/
theorem jv_ct {g : jv_G} {d : Nat} {κ : jv_Mt} {as : List Value} {M : jv_Mem} {N cr sr : Nat} {Z : Option Value → jv_Mem → Nat → Prop} (hp : plainName κ.1.cls = true) (hw : jv_words as ≤ κ.2.2.1)
    (h : jv_J g d κ 0 (jv_ent as κ.2.2.1) [] M N cr sr Z) : jv_Ct g d κ as M N cr sr Z := by
  refine Met.ofW (cc := κ.2.1) (maxL := κ.2.2.1) (ret := κ.2.2.2) hp rfl ?_
  intro p e s m args below meth c s₁ B hml hv
  obtain ⟨rfl, hCU, hRep⟩ := hv
  have hts := atoms_spec (ws := jv_ws κ) B.pre
  have hown : s.vm.findClass κ.1.cls = some m.cls := findClass_of_methodNamed B.named
  have hin : meth.name = κ.1.name := (name_of_methodNamed B.named B.method).1
  rw [lg_entry_eq]
  have hl := lv_entry (as.map (jv_mv g)) (n := κ.2.2.1) (by rw [jv_words_sl]; exact hw)
  refine h p e (headSpec (jv_ws κ) (jv_rm d cr sr)).room s m _ below meth c s.heap _ [] 0 0 cr sr _ ⟨B.exec, B.bytes, hml, B.returns, B.notSynchronized, hown, fun w hw => hts w (List.mem_cons_of_mem _ hw), hin, ⟨Nat.le_refl _, Nat.le_refl _⟩, by rw [hRep.1]; exact Nat.le_add_right _ _, hCU⟩ hRep va_S.rf ⟨hl.1, hl.2.1, fun i v hi => ?_⟩ (by omega) (by omega) (Nat.le_refl _) (Nat.le_refl _) ?_
  · have := jv_ent_at g as κ.2.2.1 0 i v hi
    rw [Nat.zero_add] at this
    exact hl.2.2 _ this
  · intro H locs cells slots pc ls v M' N' hZ hR hS h1 h2 hrt
    refine W.widen (k := cr) (n := sr) h1 h2 ?_
    have hq : ∀ (v' : Option Value) (t : State), t.heap = H → v'= v.map (jv_mv g) → jv_Qc g Z (as.map (jv_mv g)).toArray s (.returned v') t := fun v' t ht hv' => ⟨⟨v, M', N', by rw [hv'], hZ, by rw [ht]; exact hR⟩, by rw [ht]; exact hS.1, fun q h1 h2 => by rw [ht]; exact hS.2.1 q h1 h2⟩
    have hlocks : meth.locks = false := B.notSynchronized
    rcases hrt with ⟨h1, rfl, h3⟩ | ⟨x, ty, h1, rfl, h3, h4⟩ | ⟨x, h1, rfl, h3⟩ | ⟨x, n, h1, rfl, h3⟩
    · exact W.vret B.exec B.bytes (B.returns.trans h3) (fun t ht _ => hq _ t ht rfl) (fun q hq' => hS.2.2 q hq') h1
    · exact W.zret (ty := ty) B.exec B.bytes (B.returns.trans h3) h4 (fun t ht _ => hq _ t ht rfl) (fun q hq' => hS.2.2 q hq') h1
    · exact W.lret B.exec B.bytes (B.returns.trans h3) (fun t ht _ => hq _ t ht rfl) (fun q hq' => hS.2.2 q hq') h1
    · exact W.aret (rt := .object n) B.exec B.bytes (B.returns.trans h3) (Or.inl ⟨n, rfl⟩) (Or.inr ⟨_, rfl⟩) (fun t ht _ => hq _ t ht rfl) (fun q hq' => hS.2.2 q hq') h1
