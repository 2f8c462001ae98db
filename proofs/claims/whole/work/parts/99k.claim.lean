/-! THE CLAIM OUT OF ONE WALK OF THE LAW'S BODY. Your part is whole_start (and what it stands on); all else here is the same for every law, but numbers. -/
def R_law : String := "HaltRingLaw"
def lw_P (b : Addr) (xs : List Int32) (args : Array Value) (s : State) : Prop := args = #[.ref b] ∧ s.IntsAt b xs ∧ xs.length ≤ 3584 ∧ (Jvm.Cond.and given_1 narrow_1).before args s = true
def lw_Q (_ : Array Value) (s : State) (o : Outcome) (t : State) : Prop := o = .returned (some (.int 1)) ∧ Framed s o t [] 600000 7302250
def lw_Z (below : List Frame) (a : Array Value) (s : State) : State → Prop := fun t => ∃ o, t.status = .running ∧ Ended t below o ∧ lw_Q a s o t
/-- the law's own end, with 1 on the stack, nothing written that was there before, its room as the claim has it -/
theorem lw_ret {p : Program} {l : Launch} {e : Env} {s : State} {m : MethodId} {below : List Frame} {meth : Method} {c : Code} {b : Nat} (hx : p.tables.exec = Jvm.exec) (hb : c.code = code) (hr : meth.sig.returnType = ret) (hlocks : meth.locks = false) {pc : Nat} {H : Heap} {ls : Array Slot} (hdg : decode code pc = .ok (.ireturn, 1)) : W p l e room_1 s m #[Value.ref b] below meth c H [] 600000 7302250 (lw_Z below #[Value.ref b] s) (F0 m pc ls [.int 1]) := by
  intro T hT X
  obtain ⟨fs, hret, hrun, hended, hW, hframe⟩ := X.leave (v := some (.int 1)) (hlocks := hlocks) (fun h => by rw [hr] at h; cases h)
  have hmeth' : T.vm.method? m = some meth := X.method'
  refine ⟨T.setFrames fs, ?_, .returned (some (.int 1)), hrun, hended, rfl, ⟨_, rfl⟩, hW, hframe⟩
  jvm_step X.here [X.here.top, hx, hb, hdg, hmeth', hr, ret, narrow_b1]
  (try refine ⟨rfl, ?_⟩); (try refine ⟨rfl, ?_⟩)
  first | (intro acts; rw [hret _ acts rfl rfl rfl]) | rw [hret _ _ rfl rfl rfl]
  exact Steps.refl _
/-- what holds at the law's entry: the machine, the code, the tables' words (any of lw_tbl by 'hts w (by decide +kernel)'), the script of L ints xs at the cell b, what the Statement gives of the start (any of its parts by flat_of_before) -/
def lw_At (p : Program) (s : State) (m : MethodId) (meth : Method) (c : Code) (b L : Nat) (xs : Nat → Int32) : Prop :=
  p.tables.exec = Jvm.exec ∧ c.code = code ∧ meth.sig.returnType = ret ∧ c.maxLocals = 4 ∧ s.vm.findClass R_law = some m.cls ∧ (∀ w ∈ lw_tbl, w.before #[Value.ref b] s = true) ∧ va_X b L xs s s.heap ∧ b < s.heap.size ∧ meth.locks = false ∧ (Jvm.Cond.and given_1 narrow_1).before #[Value.ref b] s = true ∧ meth.name = "law"
-- ===== YOUR PART BEGINS =====
def st_A (s : State) : Nat → Prop := fun q => s.heap.size ≤ q
def st_second : Term := .static "HaltRing" "SECOND" "[I"
def st_fact : Term := .static "HaltRing" "FACTORIAL" "[I"
def st_text : Term := .string "HaltRing$Text" 94
def st_value : Term := .field (.string "HaltRing$Text" 94) "java/lang/String" "value" "[B"
def st_pre : Jvm.Cond := Jvm.Cond.and given_1 narrow_1
def st_byt : List (List Int32) := [[97, 100, 99, 108, 119, 106, 122, 98]]
theorem st_m1 : Cond.arrayOf (.static "HaltRing" "SECOND" "[I") .int ∈ flatC (Jvm.Cond.and given_1 narrow_1) := by decide +kernel
theorem st_m2 : Cond.eq (.length (.static "HaltRing" "SECOND" "[I")) (.int (Int32.ofNat 9)) ∈ flatC (Jvm.Cond.and given_1 narrow_1) := by decide +kernel
theorem st_m3 : ∀ j, j < 9 → Cond.eq (.elem (.static "HaltRing" "SECOND" "[I") (.int (Int32.ofNat j))) (.int (jv_second j)) ∈ flatC (Jvm.Cond.and given_1 narrow_1) := by decide +kernel
theorem st_m4 : Cond.arrayOf (.static "HaltRing" "FACTORIAL" "[I") .int ∈ flatC (Jvm.Cond.and given_1 narrow_1) := by decide +kernel
theorem st_m5 : Cond.eq (.length (.static "HaltRing" "FACTORIAL" "[I")) (.int (Int32.ofNat 7)) ∈ flatC (Jvm.Cond.and given_1 narrow_1) := by decide +kernel
theorem st_m6 : ∀ j, j < 7 → Cond.eq (.elem (.static "HaltRing" "FACTORIAL" "[I") (.int (Int32.ofNat j))) (.int (jv_fact j)) ∈ flatC (Jvm.Cond.and given_1 narrow_1) := by decide +kernel
theorem st_m7 : Cond.eq (.static "java/lang/String" "COMPACT_STRINGS" "Z") (.int 1) ∈ flatC (Jvm.Cond.and given_1 narrow_1) := by decide +kernel
theorem st_m8 : Cond.exactly (.string "HaltRing$Text" 94) "java/lang/String" ∈ flatC (Jvm.Cond.and given_1 narrow_1) := by decide +kernel
theorem st_m9 : Cond.eq (.field (.string "HaltRing$Text" 94) "java/lang/String" "coder" "B") (.int 0) ∈ flatC (Jvm.Cond.and given_1 narrow_1) := by decide +kernel
theorem st_m10 : Cond.arrayOf (.field (.string "HaltRing$Text" 94) "java/lang/String" "value" "[B") .byte ∈ flatC (Jvm.Cond.and given_1 narrow_1) := by decide +kernel
theorem st_m11 : Cond.eq (.length (.field (.string "HaltRing$Text" 94) "java/lang/String" "value" "[B")) (.int (Int32.ofNat 8)) ∈ flatC (Jvm.Cond.and given_1 narrow_1) := by decide +kernel
theorem st_m12 : ∀ j, j < 8 → Cond.eq (.elem (.field (.string "HaltRing$Text" 94) "java/lang/String" "value" "[B") (.int (Int32.ofNat j))) (.int ((st_byt.getD 0 []).getD j 0)) ∈ flatC (Jvm.Cond.and given_1 narrow_1) := by decide +kernel
theorem st_w1 : Cond.laysStatic "HaltRing" "SECOND" "[I" ∈ lw_tbl := List.mem_of_getElem? (i := 510) (by decide +kernel)
theorem st_w2 : Cond.laysStatic "HaltRing" "FACTORIAL" "[I" ∈ lw_tbl := List.mem_of_getElem? (i := 858) (by decide +kernel)
theorem st_w3 : Cond.laysStatic "java/lang/String" "COMPACT_STRINGS" "Z" ∈ lw_tbl := List.mem_of_getElem? (i := 433) (by decide +kernel)
theorem st_w4 : Cond.initialized "HaltRing" ∈ lw_tbl := List.mem_of_getElem? (i := 33) (by decide +kernel)
theorem st_w5 : Cond.initialized "java/lang/String" ∈ lw_tbl := List.mem_of_getElem? (i := 44) (by decide +kernel)
theorem st_w6 : Cond.stringRef "HaltRing$Text" 94 "adclwjzb" ∈ lw_tbl := List.mem_of_getElem? (i := 419) (by decide +kernel)
theorem st_w7 : Cond.arrayClass .int ∈ lw_tbl := List.mem_of_getElem? (i := 91) (by decide +kernel)
theorem st_w8 : Cond.arrayClass .boolean ∈ lw_tbl := List.mem_of_getElem? (i := 348) (by decide +kernel)
theorem st_w9 : Cond.arrayOver (.object "HaltRing$Order") ∈ lw_tbl := List.mem_of_getElem? (i := 105) (by decide +kernel)
theorem st_w10 : Cond.arrayOver (.object "HaltRing$Hart") ∈ lw_tbl := List.mem_of_getElem? (i := 172) (by decide +kernel)
theorem st_w11 : Cond.arrayOver (.object "HaltRing$Trigger") ∈ lw_tbl := List.mem_of_getElem? (i := 174) (by decide +kernel)
theorem st_w12 : Cond.arrayOver (.object "HaltRing$State") ∈ lw_tbl := List.mem_of_getElem? (i := 315) (by decide +kernel)
theorem st_ins : ∀ (t : Nat) (r : vw_C), jv_cl[t]? = some r → Cond.instantiable r.1 r.2.2 ∈ jv_tbl := by
  intro t r h
  match t, h with
  | 0, h => cases h; exact ins_D
  | 1, h => cases h; exact ins_H
  | 2, h => cases h; exact ins_O
  | 3, h => cases h; exact ins_A
  | 4, h => cases h; exact ins_P
  | 5, h => cases h; exact ins_G
  | 6, h => cases h; exact ins_S
  | 7, h => cases h; exact ins_T
  | 8, h => cases h; exact ins_U
  | 9, h => cases h; exact ins_R
  | 10, h => cases h; exact ins_M
  | t + 11, h => simp [jv_cl] at h
theorem st_prim {s : State} {args : Array Value} {ty : FieldType} (h : (Cond.arrayClass ty).before args s = true) : ∃ cA : ClassId, ArrOfT s cA ty ∧ s.vm.findClass ("[" ++ ty.toString) = some cA := by
  obtain ⟨cA, kA, comp, h1, h2, h3⟩ := Cond.arrayClass_spec h
  exact ⟨cA, fun n z => ⟨fun k h => (by cases h), kA, h2, comp, h3⟩, h1⟩
theorem st_over {s : State} {args : Array Value} {C : String} (h : (Cond.arrayOver (.object C)).before args s = true) : ∃ cA : ClassId, ArrOfT s cA (.object C) ∧ va_RA s cA (.object C) := by
  obtain ⟨comp, c, k, h1, h2, h3, h4, h5⟩ := Cond.arrayOver_spec h
  exact ⟨c, fun n z => ⟨fun k h => (by cases h), k, h3, comp, h4⟩, k, comp, h3, h4, h1, h5⟩
/-- what holds of a start: the picture's frame -/
theorem st_CU {s : State} {b L : Nat} {xs : Nat → Int32} (l : Launch) (hts : ∀ w ∈ lw_tbl, w.before #[Value.ref b] s = true) (hX : va_X b L xs s s.heap) (hbl : b < s.heap.size) (hgv : (Jvm.Cond.and given_1 narrow_1).before #[Value.ref b] s = true) : ∃ g : jv_G, jv_l g = l ∧ jv_base g = s.heap.size ∧ jv_ro g 0 = b ∧ jv_L g = L ∧ jv_CU g s s.heap := by
  have hs := flat_of_before _ hgv
  have hA : ∀ a : Nat, a < s.heap.size → ¬ st_A s a := fun a h z => Nat.not_le.mpr h z
  obtain ⟨t1, ht1, hT1⟩ := va_Tof (tm := .static "HaltRing" "SECOND" "[I") (ty := .int) (N := 9) (f := fun j => .int (jv_second j)) (A := st_A s) (by decide) (hs _ st_m1) (va_eqt (hs _ st_m2)) (fun j hj => va_eqt (hs _ (st_m3 j hj))) hA
  obtain ⟨t2, ht2, hT2⟩ := va_Tof (tm := .static "HaltRing" "FACTORIAL" "[I") (ty := .int) (N := 7) (f := fun j => .int (jv_fact j)) (A := st_A s) (by decide) (hs _ st_m4) (va_eqt (hs _ st_m5)) (fun j hj => va_eqt (hs _ (st_m6 j hj))) hA
  have hZ1 := va_Zref (hts _ st_w1) (hts _ st_w4) ht1 hA
  have hZ2 := va_Zref (hts _ st_w2) (hts _ st_w4) ht2 hA
  have hZ3 := va_Zof (hts _ st_w3) (hts _ st_w5) (va_eqi (hs _ st_m7)) hA
  obtain ⟨adK, adV, hS, hev⟩ := vk_Sof (args := #[Value.ref b]) (s := s) (N := 1) (tm := fun _ => .string "HaltRing$Text" 94) (len := [8]) (byt := st_byt) (A := st_A s) (fun i hi => by
      have : i = 0 := by omega
      subst this; decide) (fun i hi => hs _ st_m8) (fun i hi => hs _ st_m9) (fun i hi => hs _ st_m10) (fun i hi => by
      have : i = 0 := by omega
      subst this; exact hs _ st_m11) (fun i hi j hj => by
      have : i = 0 := by omega
      subst this; exact hs _ (st_m12 j hj)) (fun i j hi hj hij => absurd (show i = j by omega) hij) hA
  have hS0 := hS.1 0 (by omega)
  have hR : vk_R "HaltRing$Text" 94 "adclwjzb" (adK 0) s := vk_R.of (hts _ st_w6) (hev 0 (by omega))
  have l1 : t1 < s.heap.size := by
    obtain ⟨cell, h1, -⟩ := hT1
    exact (Array.getElem?_eq_some_iff.mp h1).1
  have l2 : t2 < s.heap.size := by
    obtain ⟨cell, h1, -⟩ := hT2
    exact (Array.getElem?_eq_some_iff.mp h1).1
  have l3 : adK 0 < s.heap.size := by
    obtain ⟨cell, h1, -⟩ := hS0.1
    exact (Array.getElem?_eq_some_iff.mp h1).1
  have l4 : adV 0 < s.heap.size := by
    obtain ⟨cell, h1, -⟩ := hS0.2.2.2
    exact (Array.getElem?_eq_some_iff.mp h1).1
  obtain ⟨cI, a1, a2⟩ := st_prim (hts _ st_w7)
  obtain ⟨cZ, b1, b2⟩ := st_prim (hts _ st_w8)
  obtain ⟨cO, c1, c2⟩ := st_over (hts _ st_w9)
  obtain ⟨cH, d1, d2⟩ := st_over (hts _ st_w10)
  obtain ⟨cT, e1, e2⟩ := st_over (hts _ st_w11)
  obtain ⟨cS, f1, f2⟩ := st_over (hts _ st_w12)
  have hk : ∀ t : Nat, ∃ x : ClassId × (Nat → Nat), ∀ r : vw_C, jv_cl[t]? = some r → u_Kn s r.1 r.2.1 r.2.2 x.1 x.2 := by
    intro t
    cases hc : jv_cl[t]? with
    | none => exact ⟨(0, fun _ => 0), fun r h => by cases h⟩
    | some r =>
      obtain ⟨cC, iS, hKn⟩ := u_known (ws := lw_tbl) (s := s) (args := #[Value.ref b]) (C := r.1) (T := r.2.1) (N := r.2.2) hts (fun w hw => (List.mem_filter.mp ((jv_ok t r hc).1 w hw)).1) (hts _ (List.mem_filter.mp (st_ins t r hc)).1)
      exact ⟨(cC, iS), fun r' h => by cases h; exact hKn⟩
  obtain ⟨dk, hdk⟩ := Classical.skolem.mp hk
  refine ⟨(l, s.heap.size, fun i => match i with | 0 => b | 1 => t1 | 2 => t2 | 3 => adK 0 | 4 => adV 0 | _ => b, (fun t => (dk t).1, fun t => (dk t).2), fun t => match t with | 11 => cI | 12 => cZ | 13 => cH | 14 => cO | 15 => cS | _ => cT, L, xs), rfl, rfl, rfl, rfl, ⟨fun c q hq => hdk c q hq, fun k q hq => ?_⟩, fun w hw => va_Nw.of (jv_nw_tab (List.mem_filter.mp hw).2) (hts w (List.mem_filter.mp hw).1), ⟨va_AO.of (hts _ st_w10), va_AO.of (hts _ st_w9), va_AO.of (hts _ st_w12), va_AO.of (hts _ st_w11)⟩, fun i => ?_, hX, hT1, hT2, hZ1, hZ2, hZ3, ⟨fun i hi => ?_, fun i j hi hj _ => by omega⟩, hR⟩
  · match k, hq with
    | 0, hq => cases hq; exact ⟨a1, a2⟩
    | 1, hq => cases hq; exact ⟨b1, b2⟩
    | 2, hq => cases hq; exact ⟨d1, d2⟩
    | 3, hq => cases hq; exact ⟨c1, c2⟩
    | 4, hq => cases hq; exact ⟨f1, f2⟩
    | 5, hq => cases hq; exact ⟨e1, e2⟩
    | k + 6, hq => simp [jv_tys] at hq
  · match i with
    | 0 => exact hbl
    | 1 => exact l1
    | 2 => exact l2
    | 3 => exact l3
    | 4 => exact l4
    | i + 5 => exact hbl
  · have : i = 0 := by omega
    subst this
    exact hS0
/-- YOUR PART: from the entry, for every script of at most 3584 ints, the law comes to its end with true ('hflags': the launch's flags, for a law that throws: no stack traces) -/
theorem whole_start {p : Program} {e : Env} {s : State} {m : MethodId} {below : List Frame} {meth : Method} {c : Code} (l : Launch) (hflags : l.flags = flags0) {b L : Nat} {xs : Nat → Int32} (hL : L ≤ 3584) (C0 : lw_At p s m meth c b L xs) : W p l e room_1 s m #[Value.ref b] below meth c s.heap [] 0 0 (lw_Z below #[Value.ref b] s) (entryFrame m ([Value.ref b] : List Value).toArray 4) := by
  obtain ⟨hx, hb, hr, hml, hown, hts, hX, hbl, hlocks, hgv, hnm⟩ := id C0
  obtain ⟨g, gl, gb, g0, gL, hCU⟩ := st_CU l hts hX hbl hgv
  have hl := lv_entry ([Value.ref b]) (n := 4) (Nat.le_of_ble_eq_true rfl)
  rw [lg_entry_eq]
  have J := law_all (g := g) (cr := 600000) (sr := 7302250) (by rw [gL]; exact hL) (by omega) (by omega) (fun _ _ => 0, fun _ _ => none, fun _ => 0)
  have K := J p e room_1 s m #[Value.ref b] below meth c s.heap _ [] 0 0 600000 7302250 (lw_Z below #[Value.ref b] s) ⟨hx, hb, hml, hr, hlocks, hown, fun w hw => hts w (List.mem_filter.mp hw).1, hnm, ⟨by decide, by decide⟩, by rw [gb]; exact Nat.le_refl _, hCU⟩ ⟨by rw [gb]; rfl, fun a h => absurd h (Nat.not_lt_zero a)⟩ va_S.rf ⟨hl.1, hl.2.1, fun i v hi => ?_⟩ (by omega) (by omega) (Nat.le_refl _) (Nat.le_refl _) ?_
  · rw [gl] at K
    exact K
  · match i, hi with
    | 0, hi =>
      have hi : some (some (Value.retAddr 0)) = some (some v) := hi
      cases hi
      have := hl.2.2 (0, .ref b) List.mem_cons_self
      show _ = some (Slot.val (.ref (jv_ro g 0)))
      rw [g0]
      exact this
    | 1, hi => cases hi
    | 2, hi => cases hi
    | 3, hi => cases hi
    | i + 4, hi => simp at hi
  · intro H locs cells slots pc ls v M N hZ hR hS h1 h2 hrt
    subst hZ
    rw [gl]
    refine W.widen (k := 600000) (n := 7302250) h1 h2 (va_forget (fun q hq => ?_) ?_)
    · have := hS.2.2 q hq
      unfold jv_A at this
      rw [gb] at this
      exact this
    · rcases hrt with ⟨-, h, -⟩ | ⟨x, ty, hd, hv, -, -⟩ | ⟨x, -, h, -⟩ | ⟨x, n, -, h, -⟩
      · cases h
      · cases hv
        exact lw_ret hx hb hr hlocks hd
      · cases h
      · cases h
-- ===== YOUR PART ENDS =====
set_option maxHeartbeats 4000000 in
theorem lw_walk (l : Launch) (hflags : l.flags = flags0) (b : Addr) (xs : List Int32) : MetFree l x (headSpec (Jvm.Cond.code x code maxLocals ret :: tables_1) room_1) (lw_P b xs) (fun _ _ _ _ _ => True) lw_Q := by
  refine MetFree.of_bodyS (code := code) (maxLocals := maxLocals) (ret := ret) (by decide) ?_ ?_
  · intro args s m h hn
    obtain ⟨meth, c, h1, h2, h3, h4, h5, h6, -, -⟩ := Cond.code_spec hn (atoms_spec (ws := Jvm.Cond.code x code maxLocals ret :: tables_1) h _ List.mem_cons_self)
    exact ⟨meth, c, h1, h2, h3, h4, h5, h6⟩
  · intro p e s m args below meth c s₁ B hml0 hP _
    obtain ⟨rfl, hx, hbd, hgv⟩ := hP
    obtain ⟨scr, harrAt, hlist, hof, hsmall⟩ := hx
    obtain ⟨hcb, hkn, -, -⟩ := State.arrayAt?_spec harrAt
    have hown : s.vm.findClass R_law = some m.cls := findClass_of_methodNamed B.named
    have hts0 : ∀ c ∈ (Jvm.Cond.code x code maxLocals ret :: tables_1), c.before #[Value.ref b] s = true := atoms_spec (ws := Jvm.Cond.code x code maxLocals ret :: tables_1) B.pre
    have hts : ∀ w ∈ lw_tbl, w.before #[Value.ref b] s = true := k2_hts_sels lw_privs (fun w hw => hts0 w (List.mem_cons_of_mem _ hw)) lw_privs_ok
    have hml : c.maxLocals = 4 := B.maxLocals_eq (hts0 _ List.mem_cons_self)
    have X₀ : Stand p l e room_1 s m #[Value.ref b] below meth c s₁ [] 0 0 := Stand.of_body B
    have hh0 : s₁.heap = s.heap := by rw [B.state]; rfl
    have hsz : scr.slots.size = xs.length := by rw [← Array.length_toList, hlist, List.length_map]
    have hval : ∀ j : Nat, j < xs.length → scr.slots[j]? = some (.int (xs.getD j 0)) := fun j hj => by
      rw [← Array.getElem?_toList, hlist]
      simp [hj]
    have hbl : b < s.heap.size := (Array.getElem?_eq_some_iff.mp hcb).1
    have hX : va_X b xs.length (fun j => xs.getD j 0) s s.heap := ⟨scr, hcb, hof, hkn, hsz, hval⟩
    have K : W p l e room_1 s m #[Value.ref b] below meth c s₁.heap [] 0 0 (lw_Z below #[Value.ref b] s) (entryFrame m ([Value.ref b] : List Value).toArray 4) := by
      rw [hh0]
      exact whole_start l hflags hbd ⟨B.exec, B.bytes, B.returns, hml, hown, hts, hX, hbl, B.notSynchronized, hgv, (name_of_methodNamed B.named B.method).1⟩
    obtain ⟨t, a1, o, b1, b2, b3⟩ := K s₁ rfl X₀
    exact ⟨t, o, a1, b1, b2, b3⟩
theorem lw_pre_spec {args : Array Value} {s : State} (h : (Jvm.Cond.and given_1 narrow_1).before args s = true) (hr : rest_1_c.before args s = true) : ∃ (b : Addr) (xs : List Int32), lw_P b xs args s := by
  have hs := flat_of_before _ h
  have hq := flat_of_before _ hr
  have hc : (Cond.count 1).before args s = true := hs _ (by decide +kernel)
  have harr : (Cond.arrayOf (.arg 0) .int).before args s = true := hs _ (by decide +kernel)
  have hle : (Cond.le (.length (.arg 0)) (.int 3584)).before args s = true := hs _ (by decide +kernel)
  have hlen : (Cond.isInt (.length (.arg 0))).before args s = true := hq _ (by decide +kernel)
  have hall : (Cond.all (.arg 0) (.isInt (.elem (.arg 0) (.index 0)))).before args s = true := hq _ (by decide +kernel)
  obtain ⟨b, xs, hb, hx⟩ := State.ints_of_pre rfl harr hlen hall
  have hsm : xs.length < 2 ^ 31 := hx.choose_spec.2.2.2
  have hev : (Term.length (.arg 0)).eval args s none [] s = some (.int xs.length.toInt32) := hx.length_eval hb
  have hv := Cond.le_ints hev (show (Term.int 3584).eval args s none [] s = some (.int 3584) from rfl)
  have hd : xs.length.toInt32 ≤ 3584 := by
    simpa [Cond.before, Cond.holds, hv] using hle
  have hN : xs.length ≤ 3584 := (Int32.ofNat_le_ofNat hsm (by decide)).mp (show Int32.ofNat xs.length ≤ Int32.ofNat 3584 from hd)
  exact ⟨b, xs, Cond.one_arg hc (show args[0]? = some (.ref b) from hb), hx, hN, h⟩
theorem lw_comes (l : Launch) (hflags : l.flags = flags0) : Comes l x (Jvm.Cond.code x code maxLocals ret :: tables_1) room_1 (fun tb e args s => Calls_1 tb e args s ∧ rest_1 tb e args s ∧ Pre_1 tb e args s)
    (fun _ _ args s o t => lw_Q args s o t) := by
  intro p e ha hc hk s m args below hf hfit hheap happ hpre
  obtain ⟨b, xs, hP⟩ := lw_pre_spec hpre.2.2 hpre.2.1
  obtain ⟨k, o, h1, h2, h3, hQ⟩ := lw_walk l hflags b xs p e ha hc hk s m args below hf ((Spec.applies_iff_loose hf).mp happ).1 hP trivial
  exact ⟨k, o, h1, h2, h3, hQ⟩
theorem lw_frame {s t : State} {o : Outcome} {args : Array Value} (h : Framed s o t [] 600000 7302250) :
    Framed s o t (fieldLocs frame_1_writes args s ++ arrayLocs frame_1_arrays args s ++ staticLocs frame_1_statics s) 600000 7302250 := h
theorem lw_limb (L : Cond) (hL : ∀ (args : Array Value) (s t : State), L.after args s (.returned (some (.int 1))) t = true) :
    ArmFor flags0 classFile x code maxLocals ret World_1 tables_1 room_1 Calls_1 rest_1 Pre_1
      (fun tb e a s o t => postC L tb e a s o t ∧ Framed s o t (fieldLocs frame_1_writes a s ++ arrayLocs frame_1_arrays a s ++ staticLocs frame_1_statics s) 600000 7302250) := by
  intro l hflags _ _ p e ha hc hk s m args below hf hfit hheap happ hpre
  obtain ⟨k, o, h1, h2, h3, rfl, hF⟩ := lw_comes l hflags p e ha hc hk s m args below hf hfit hheap happ hpre
  exact ⟨k, _, h1, h2, h3, hL args s _, lw_frame hF⟩
theorem i_vc : Claimed_1_1 ∧ Claimed_1_2 := ⟨lw_limb limb_1_1 (fun args s t => by simp [limb_1_1, Cond.after, Cond.holds, Cond.value]), lw_limb limb_1_2 (fun args s t => Cond.after_iff.mpr (by
  first | (rw [show limb_1_2 = Cond.eq .result (.int 1) from rfl, Cond.eq_ints (x := 1) (y := 1) rfl rfl]; simp; done) | (simp [limb_1_2, Cond.value, Term.eval]; done)))⟩
