/-! ===== arrays, new cells, what is only read ===== -/
theorem jv_one {g : jv_G} {a : Nat} {x : va_E} {H : Heap} (h : va_at (jv_D g) jv_cl (a, x) H) : va_P (jv_D g) jv_cl [(a, x)] H := by
  intro q y hy
  match q, hy with
  | 0, hy => cases hy; exact h
  | q + 1, hy => simp at hy
def jv_zero (M : jv_Mem) (a : Nat) : jv_Mem := (fun b j => if b = a then 0 else M.1 b j, fun b j => if b = a then none else M.2.1 b j, fun b => if b = a then 0 else M.2.2 b)
theorem jv_Rep.push {g : jv_G} {M : jv_Mem} {N : Nat} {H H1 : Heap} (h : jv_Rep g M N H) (hz : H1.size = H.size + 1) (oq : ∀ q : Nat, q < H.size → H1[q]? = H[q]?) (he : va_at (jv_D g) jv_cl (jv_base g + N, jv_F g (jv_zero M N) N) H1) : jv_Rep g (jv_zero M N) (N + 1) H1 := by
  refine ⟨by rw [hz, h.1]; omega, fun b hb => ?_⟩
  by_cases hba : b = N
  · subst hba; exact he
  · rw [jv_F_congr (M := M) (by simp [jv_zero, hba]) (by simp [jv_zero, hba]) (by simp [jv_zero, hba])]
    exact (h.2 b (by omega)).kept (oq _ (by rw [h.1]; omega))
theorem jv_dflt : ∀ t, t < 11 → ∀ j, j < jv_len t → defaultValue (jv_ty t j) = (if jv_ft t j = 1 then .null else if jv_ft t j = 2 then .long 0 else .int 0) := by decide +kernel
section JA
variable {g : jv_G} {d : Nat} {κ : jv_Mt} {pc : Nat} {L : List (Option Value)} {st : List Value} {M : jv_Mem} {N cr sr : Nat} {Z : Option Value → jv_Mem → Nat → Prop}
theorem jv_iald {a : Nat} {i : Int32} (hd : decode κ.2.1 pc = .ok (.iaload, 1)) (hT : jv_Tg 11 a N) (hin : vp_in i (jv_sh a).2) (k : jv_J g d κ (pc + 1) L (.int (M.1 a i.toNatClampNeg) :: st) M N cr sr Z) : jv_J g d κ pc L (.int i :: .ref a :: st) M N cr sr Z := by
  intro p e R s m args below meth c H ls locs cells slots cm sm Q X hR hS hL h1 h2 h3 h4 hE
  have hat := hR.2 a hT.2
  rw [jv_F_int hT.1 (by omega) (by omega)] at hat
  exact va_iald X.1 X.2.1 X.2.2.2.2.2.2.2.2.2.2.1 (jv_one hat) 0 0 rfl rfl hin hd (k p e R s m args below meth c H ls locs cells slots cm sm Q X hR hS hL h1 h2 h3 h4 hE)
theorem jv_zald {a : Nat} {i : Int32} (hd : decode κ.2.1 pc = .ok (.baload, 1)) (hT : jv_Tg 12 a N) (hin : vp_in i (jv_sh a).2) (k : jv_J g d κ (pc + 1) L (.int (M.1 a i.toNatClampNeg) :: st) M N cr sr Z) : jv_J g d κ pc L (.int i :: .ref a :: st) M N cr sr Z := by
  intro p e R s m args below meth c H ls locs cells slots cm sm Q X hR hS hL h1 h2 h3 h4 hE
  have hat := hR.2 a hT.2
  rw [jv_F_int hT.1 (by omega) (by omega)] at hat
  exact va_zald X.1 X.2.1 X.2.2.2.2.2.2.2.2.2.2.1 (jv_one hat) 0 1 rfl rfl hin hd (k p e R s m args below meth c H ls locs cells slots cm sm Q X hR hS hL h1 h2 h3 h4 hE)
theorem jv_si_row (M : jv_Mem) (a k : Nat) (x : Int32) : (jv_si M a k x).1 a = upd (M.1 a) k x := by
  funext j
  simp [jv_si, upd]
theorem jv_iast {a : Nat} {i x : Int32} (hd : decode κ.2.1 pc = .ok (.iastore, 1)) (hT : jv_Tg 11 a N) (hin : vp_in i (jv_sh a).2) (k : jv_J g d κ (pc + 1) L st (jv_si M a i.toNatClampNeg x) N cr sr Z) : jv_J g d κ pc L (.int x :: .int i :: .ref a :: st) M N cr sr Z := by
  intro p e R s m args below meth c H ls locs cells slots cm sm Q X hR hS hL h1 h2 h3 h4 hE
  have hat := hR.2 a hT.2
  rw [jv_F_int hT.1 (by omega) (by omega)] at hat
  have hK := X.2.2.2.2.2.2.2.2.2.2.1
  refine W.iast X.1 X.2.1 hat ((hK.2 0 _ rfl).1 _ (fun j => .int (M.1 a j))) (fun q => by cases q) (by show ¬ (i < 0 ∨ (arrV _ _ _).slots.size ≤ _); rw [arrV_size]; exact hin) rfl rfl hd fun H1 e1 z oq => ?_
  refine k p e R s m args below meth c H1 ls _ cells slots cm sm Q X (hR.upd z oq ?_ (fun b hb => by simp [jv_si, hb])) (hS.put z oq (Nat.le_add_right _ _)) hL h1 h2 h3 h4 hE
  rw [jv_F_int hT.1 (by omega) (by omega)]
  show H1[jv_base g + a]? = some (vp_cell _ _)
  rw [e1]
  rw [vp_cell_i, vp_cell_i, arrV_store, jv_si_row]
  congr 2
  funext q
  by_cases hq : q = i.toNatClampNeg
  · subst hq
    simp [updV, upd]
  · simp [updV, upd, hq]
theorem jv_zast {a : Nat} {i x : Int32} (hd : decode κ.2.1 pc = .ok (.bastore, 1)) (hT : jv_Tg 12 a N) (hin : vp_in i (jv_sh a).2) (hx : x = 0 ∨ x = 1) (k : jv_J g d κ (pc + 1) L st (jv_si M a i.toNatClampNeg x) N cr sr Z) : jv_J g d κ pc L (.int x :: .int i :: .ref a :: st) M N cr sr Z := by
  intro p e R s m args below meth c H ls locs cells slots cm sm Q X hR hS hL h1 h2 h3 h4 hE
  have hat := hR.2 a hT.2
  rw [jv_F_int hT.1 (by omega) (by omega)] at hat
  have hK := X.2.2.2.2.2.2.2.2.2.2.1
  have hnar : narrow .boolean (.int x) = .int x := by rcases hx with rfl | rfl <;> rfl
  refine W.zast X.1 X.2.1 hat ((hK.2 1 _ rfl).1 _ (fun j => .int (M.1 a j))) (fun q => by cases q) (by show ¬ (i < 0 ∨ (arrV _ _ _).slots.size ≤ _); rw [arrV_size]; exact hin) rfl rfl hd fun H1 e1 z oq => ?_
  refine k p e R s m args below meth c H1 ls _ cells slots cm sm Q X (hR.upd z oq ?_ (fun b hb => by simp [jv_si, hb])) (hS.put z oq (Nat.le_add_right _ _)) hL h1 h2 h3 h4 hE
  rw [jv_F_int hT.1 (by omega) (by omega)]
  show H1[jv_base g + a]? = some (vp_cell _ _)
  rw [e1, hnar]
  rw [vp_cell_i, vp_cell_i, arrV_store, jv_si_row]
  congr 2
  funext q
  by_cases hq : q = i.toNatClampNeg
  · subst hq
    simp [updV, upd]
  · simp [updV, upd, hq]
/-- the class of an array's references -/
def jv_el (t : Nat) : Nat := match t with
  | 13 => 1
  | 14 => 2
  | 15 => 6
  | _ => 8
theorem jv_tys_at {g : jv_G} {t : Nat} (h1 : 13 ≤ t) (h2 : t ≤ 16) : ∃ r : vw_C, jv_cl[jv_el t]? = some r ∧ (jv_tys g)[t - 11]? = some (jv_cA g t, .object r.1) := by
  rcases (by omega : t = 13 ∨ t = 14 ∨ t = 15 ∨ t = 16) with rfl | rfl | rfl | rfl
  · exact ⟨_, rfl, rfl⟩
  · exact ⟨_, rfl, rfl⟩
  · exact ⟨_, rfl, rfl⟩
  · exact ⟨_, rfl, rfl⟩
theorem jv_aald {t a b : Nat} {i : Int32} (hd : decode κ.2.1 pc = .ok (.aaload, 1)) (ht : 13 ≤ t ∧ t ≤ 16) (hT : jv_Tg t a N) (hin : vp_in i (jv_sh a).2) (hb : M.2.1 a i.toNatClampNeg = some b) (k : jv_J g d κ (pc + 1) L (.ref b :: st) M N cr sr Z) : jv_J g d κ pc L (.int i :: .ref a :: st) M N cr sr Z := by
  intro p e R s m args below meth c H ls locs cells slots cm sm Q X hR hS hL h1 h2 h3 h4 hE
  have hat := hR.2 a hT.2
  rw [jv_F_ref hT.1 (by omega)] at hat
  obtain ⟨r, -, q2⟩ := jv_tys_at (g := g) ht.1 ht.2
  refine va_aldq X.1 X.2.1 X.2.2.2.2.2.2.2.2.2.2.1 (jv_one hat) 0 (t - 11) rfl q2 hin hd ?_
  rw [hb]
  exact k p e R s m args below meth c H ls locs cells slots cm sm Q X hR hS hL h1 h2 h3 h4 hE
theorem jv_aast {t a b : Nat} {i : Int32} (hd : decode κ.2.1 pc = .ok (.aastore, 1)) (ht : 13 ≤ t ∧ t ≤ 16) (hT : jv_Tg t a N) (hin : vp_in i (jv_sh a).2) (hb : jv_Tg (jv_el t) b N) (k : jv_J g d κ (pc + 1) L st (jv_sr M a i.toNatClampNeg (some b)) N cr sr Z) : jv_J g d κ pc L (.ref b :: .int i :: .ref a :: st) M N cr sr Z := by
  intro p e R s m args below meth c H ls locs cells slots cm sm Q X hR hS hL h1 h2 h3 h4 hE
  have hat := hR.2 a hT.2
  rw [jv_F_ref hT.1 (by omega)] at hat
  have hK := X.2.2.2.2.2.2.2.2.2.2.1
  obtain ⟨r, q1, q2⟩ := jv_tys_at (g := g) ht.1 ht.2
  have hlt : i.toNatClampNeg < (jv_sh a).2 := Nat.not_le.mp fun q => hin (Or.inr q)
  have h0 : ¬ i < 0 := fun q => hin (Or.inl q)
  have hel : jv_el t < 11 := (List.getElem?_eq_some_iff.mp q1).1
  have hbt := hR.2 b hb.2
  rw [jv_F_obj hb.1 hel] at hbt
  obtain ⟨r', hr', cellV, g1, g2, g3, -⟩ := hbt
  have hcls := (hK.1 _ r q1).2
  obtain ⟨kA, comp, k1, k2, k3, -⟩ := (hK.2 _ _ q2).2
  have hcomp : comp = (jv_D g).1 (jv_el t) := Option.some.inj (k3.symm.trans hcls.1)
  subst hcomp
  obtain ⟨kC, hkC, -⟩ := hcls.2
  refine W.aast X.1 X.2.1 hat (fun q h => by cases h) (fun h => by cases h) k1 k2 rfl hkC ⟨h0, by show _ < (arrV _ _ _).slots.size; rw [arrV_size]; exact hlt⟩ g1 (fun q h => by rw [g3] at h; cases h) (by rw [g2]; exact hkC) (by rw [g2]; exact va_assign hcls) rfl rfl hd fun H1 e1 z oq => ?_
  refine k p e R s m args below meth c H1 ls _ cells slots cm sm Q X (hR.upd z oq ?_ (fun b' hb' => by simp [jv_sr, hb'])) (hS.put z oq (Nat.le_add_right _ _)) hL h1 h2 h3 h4 hE
  rw [jv_F_ref hT.1 (by omega)]
  show H1[jv_base g + a]? = some (vp_cell _ _)
  rw [e1]
  rw [vp_cell_q, vp_cell_q, arrV_store]
  congr 2
  funext q
  by_cases hq : q = i.toNatClampNeg
  · subst hq
    simp [updV, va_rf, jv_sr]
  · simp [updV, jv_sr, hq]
theorem jv_alen {t a : Nat} (hd : decode κ.2.1 pc = .ok (.arraylength, 1)) (ht : 11 ≤ t ∧ t ≤ 16) (hT : jv_Tg t a N) (k : jv_J g d κ (pc + 1) L (.int (Int32.ofNat (jv_sh a).2) :: st) M N cr sr Z) : jv_J g d κ pc L (.ref a :: st) M N cr sr Z := by
  intro p e R s m args below meth c H ls locs cells slots cm sm Q X hR hS hL h1 h2 h3 h4 hE
  have hat := hR.2 a hT.2
  have hK := X.2.2.2.2.2.2.2.2.2.2.1
  by_cases h13 : t < 13
  · rw [jv_F_int hT.1 (by omega) h13] at hat
    rcases (by omega : t = 11 ∨ t = 12) with rfl | rfl
    · exact va_alen X.1 X.2.1 hK (jv_one hat) 0 0 rfl rfl rfl hd (k p e R s m args below meth c H ls locs cells slots cm sm Q X hR hS hL h1 h2 h3 h4 hE)
    · exact va_alen X.1 X.2.1 hK (jv_one hat) 0 1 rfl rfl rfl hd (k p e R s m args below meth c H ls locs cells slots cm sm Q X hR hS hL h1 h2 h3 h4 hE)
  · rw [jv_F_ref hT.1 h13] at hat
    obtain ⟨r, -, q2⟩ := jv_tys_at (g := g) (by omega : 13 ≤ t) ht.2
    exact va_alen X.1 X.2.1 hK (jv_one hat) 0 (t - 11) rfl q2 rfl hd (k p e R s m args below meth c H ls locs cells slots cm sm Q X hR hS hL h1 h2 h3 h4 hE)
/-- a row that is only read -/
def jv_rox (g : jv_G) (q n : Nat) (f : Nat → Int32) : Prop := (q = 0 ∧ n = jv_L g ∧ f = jv_xs g) ∨ (q = 1 ∧ n = 9 ∧ f = jv_second) ∨ (q = 2 ∧ n = 7 ∧ f = jv_fact)
theorem jv_roald {q n : Nat} {f : Nat → Int32} {i : Int32} (hd : decode κ.2.1 pc = .ok (.iaload, 1)) (hq : jv_rox g q n f) (hin : vp_in i n) (k : jv_J g d κ (pc + 1) L (.int (f i.toNatClampNeg) :: st) M N cr sr Z) : jv_J g d κ pc L (.int i :: .retAddr q :: st) M N cr sr Z := by
  intro p e R s m args below meth c H ls locs cells slots cm sm Q X hR hS hL h1 h2 h3 h4 hE
  obtain ⟨h0, r0, r1, r2, -⟩ := X.2.2.2.2.2.2.2.2.2.2.2.2.2
  have kk := k p e R s m args below meth c H ls locs cells slots cm sm Q X hR hS hL h1 h2 h3 h4 hE
  rcases hq with ⟨rfl, rfl, rfl⟩ | ⟨rfl, rfl, rfl⟩ | ⟨rfl, rfl, rfl⟩
  · exact va_sld X.1 X.2.1 r0 (Nat.lt_of_lt_of_le (h0 0) X.2.2.2.2.2.2.2.2.2.1) (fun z => Nat.not_le.mpr (h0 0) z) hS hin hd kk
  · exact va_ti X.1 X.2.1 r1 hS hin rfl hd kk
  · exact va_ti X.1 X.2.1 r2 hS hin rfl hd kk
theorem jv_slen (hd : decode κ.2.1 pc = .ok (.arraylength, 1)) (k : jv_J g d κ (pc + 1) L (.int (Int32.ofNat (jv_L g)) :: st) M N cr sr Z) : jv_J g d κ pc L (.retAddr 0 :: st) M N cr sr Z := by
  intro p e R s m args below meth c H ls locs cells slots cm sm Q X hR hS hL h1 h2 h3 h4 hE
  have hro := X.2.2.2.2.2.2.2.2.2.2.2.2.2
  exact va_slen X.1 X.2.1 hro.2.1 (Nat.lt_of_lt_of_le (hro.1 0) X.2.2.2.2.2.2.2.2.2.1) (fun z => Nat.not_le.mpr (hro.1 0) z) hS hd (k p e R s m args below meth c H ls locs cells slots cm sm Q X hR hS hL h1 h2 h3 h4 hE)
theorem jv_gSecN {i : Nat} (hd : decode κ.2.1 pc = .ok (.getstatic i, 3)) (hw : Cond.fieldLinkNest κ.1.cls i "HaltRing" "SECOND" "[I" "HaltRing" ∈ jv_nws) (k : jv_J g d κ (pc + 3) L (.retAddr 1 :: st) M N cr sr Z) : jv_J g d κ pc L st M N cr sr Z := by
  intro p e R s m args below meth c H ls locs cells slots cm sm Q X hR hS hL h1 h2 h3 h4 hE
  have hro := X.2.2.2.2.2.2.2.2.2.2.2.2.2
  exact va_getsN X.1 X.2.1 hro.2.2.2.2.1 hS X.2.2.2.2.2.1 (va_Nw.use rfl (X.2.2.2.2.2.2.2.2.2.2.2.1 _ hw)) (fun x hx => hx) hd (k p e R s m args below meth c H ls locs cells slots cm sm Q X hR hS hL h1 h2 h3 h4 hE)
theorem jv_gSec {i : Nat} (hd : decode κ.2.1 pc = .ok (.getstatic i, 3)) (hw : Cond.fieldLink κ.1.cls i "HaltRing" "SECOND" "[I" ∈ jv_tbl) (k : jv_J g d κ (pc + 3) L (.retAddr 1 :: st) M N cr sr Z) : jv_J g d κ pc L st M N cr sr Z := by
  intro p e R s m args below meth c H ls locs cells slots cm sm Q X hR hS hL h1 h2 h3 h4 hE
  have hro := X.2.2.2.2.2.2.2.2.2.2.2.2.2
  exact va_gets X.1 X.2.1 hro.2.2.2.2.1 hS X.2.2.2.2.2.1 (X.2.2.2.2.2.2.1 _ hw) (fun x hx => hx) hd (k p e R s m args below meth c H ls locs cells slots cm sm Q X hR hS hL h1 h2 h3 h4 hE)
theorem jv_gFac {i : Nat} (hd : decode κ.2.1 pc = .ok (.getstatic i, 3)) (hw : Cond.fieldLink κ.1.cls i "HaltRing" "FACTORIAL" "[I" ∈ jv_tbl) (k : jv_J g d κ (pc + 3) L (.retAddr 2 :: st) M N cr sr Z) : jv_J g d κ pc L st M N cr sr Z := by
  intro p e R s m args below meth c H ls locs cells slots cm sm Q X hR hS hL h1 h2 h3 h4 hE
  have hro := X.2.2.2.2.2.2.2.2.2.2.2.2.2
  exact va_gets X.1 X.2.1 hro.2.2.2.2.2.1 hS X.2.2.2.2.2.1 (X.2.2.2.2.2.2.1 _ hw) (fun x hx => hx) hd (k p e R s m args below meth c H ls locs cells slots cm sm Q X hR hS hL h1 h2 h3 h4 hE)
theorem jv_gCom {i : Nat} (hd : decode κ.2.1 pc = .ok (.getstatic i, 3)) (hw : Cond.fieldLink κ.1.cls i "java/lang/String" "COMPACT_STRINGS" "Z" ∈ jv_tbl) (k : jv_J g d κ (pc + 3) L (.int 1 :: st) M N cr sr Z) : jv_J g d κ pc L st M N cr sr Z := by
  intro p e R s m args below meth c H ls locs cells slots cm sm Q X hR hS hL h1 h2 h3 h4 hE
  have hro := X.2.2.2.2.2.2.2.2.2.2.2.2.2
  exact va_gets X.1 X.2.1 hro.2.2.2.2.2.2.1 hS X.2.2.2.2.2.1 (X.2.2.2.2.2.2.1 _ hw) (fun x hx => hx) hd (k p e R s m args below meth c H ls locs cells slots cm sm Q X hR hS hL h1 h2 h3 h4 hE)
/-- new -/
theorem jv_new {t n i cr' sr' : Nat} (r : vw_C) (hd : decode κ.2.1 pc = .ok (.new i, 3)) (hc : jv_cl[t]? = some r) (hn : r.2.2 = n) (hw1 : Cond.classLink κ.1.cls i r.1 ∈ jv_tbl) (hw2 : Cond.instantiable r.1 n ∈ jv_tbl) (hw3 : Cond.initialized r.1 ∈ jv_tbl) (hsh : jv_sh N = (t, n)) (hcr : cr' + 1 = cr) (hsr : sr' + n = sr)
    (k : jv_J g d κ (pc + 3) L (.ref N :: st) (jv_zero M N) (N + 1) cr' sr' Z) : jv_J g d κ pc L st M N cr sr Z := by
  intro p e R s m args below meth c H ls locs cells slots cm sm Q X hR hS hL h1 h2 h3 h4 hE
  have hK := X.2.2.2.2.2.2.2.2.2.2.1
  have hts := X.2.2.2.2.2.2.1
  have hok := jv_ok t r hc
  have ht : t < 11 := (List.getElem?_eq_some_iff.mp hc).1
  have hKn := hK.1 t _ hc
  refine W.newcK X.1 X.2.1 X.2.2.2.2.2.1 (hts _ hw1) (hts _ hw2) (hts _ hw3) rfl hd (by omega) (by omega) hKn.2.1 hR.1 fun H1 kC hkC e1 z1 o1 => ?_
  refine k p e R s m args below meth c H1 ls locs (cells + 1) (slots + n) cm sm Q X (hR.push (by rw [z1, hR.1]) (fun q hq => o1 q (by rw [← hR.1]; exact hq)) ?_) ⟨Nat.le_trans hS.1 (by rw [z1, hR.1]; omega), fun x q1 q2 => (o1 x (by rw [← hR.1]; exact Nat.lt_of_lt_of_le q1 hS.1)).trans (hS.2.1 x q1 q2), hS.2.2⟩ hL (by omega) (by omega) h3 h4 hE
  rw [jv_F_obj (t := t) (by rw [hsh]) ht, hsh]
  refine ⟨_, hc, (u_born (jv_ty t) hts hok.1 hKn hkC e1 hok.2.1).to (fun j hj => ?_)⟩
  rw [vp_V, List.getD_eq_getElem?_getD, jv_Fo_at (by omega)]
  have hlt : j < jv_len t := by
    unfold jv_len
    rw [hc]
    exact hj
  rw [jv_dflt t ht j hlt]
  simp only [jv_fv, jv_zero, if_true, Option.getD_some, jv_rf]
theorem jv_newI {n cr' sr' : Nat} {x : Int32} (hd : decode κ.2.1 pc = .ok (.newarray .int, 2)) (hw : Cond.arrayClass .int ∈ jv_tbl) (hx0 : ¬ x < 0) (hx : x.toNatClampNeg = n) (hb : n * 4 ≤ 536870912) (hsh : jv_sh N = (11, n)) (hcr : cr' + 1 = cr) (hsr : sr' + n = sr)
    (k : jv_J g d κ (pc + 2) L (.ref N :: st) (jv_zero M N) (N + 1) cr' sr' Z) : jv_J g d κ pc L (.int x :: st) M N cr sr Z := by
  intro p e R s m args below meth c H ls locs cells slots cm sm Q X hR hS hL h1 h2 h3 h4 hE
  have hK := X.2.2.2.2.2.2.2.2.2.2.1
  have hts := X.2.2.2.2.2.2.1
  refine va_newaK (atype := .int) X.1 X.2.1 (hts _ hw) rfl hd rfl hx0 hx hb (by omega) (by omega) hR.1 fun H1 cA e1 z1 o1 hA hN => ?_
  have hcA : cA = jv_cA g 11 := Option.some.inj (hN.symm.trans (hK.2 0 _ rfl).2)
  subst hcA
  refine k p e R s m args below meth c H1 ls locs (cells + 1) (slots + n) cm sm Q X (hR.push (by rw [z1, hR.1]) (fun q hq => o1 q (by rw [← hR.1]; exact hq)) ?_) ⟨Nat.le_trans hS.1 (by rw [z1, hR.1]; omega), fun x q1 q2 => (o1 x (by rw [← hR.1]; exact Nat.lt_of_lt_of_le q1 hS.1)).trans (hS.2.1 x q1 q2), hS.2.2⟩ hL (by omega) (by omega) h3 h4 hE
  rw [jv_F_int (t := 11) (by rw [hsh]) (by omega) (by omega), hsh]
  show H1[jv_base g + N]? = some (vp_cell _ _)
  rw [e1, vp_cell_i]
  congr 2
  funext q
  simp [jv_zero, defaultValue, newarray.typeOf]
theorem jv_newZ {n cr' sr' : Nat} {x : Int32} (hd : decode κ.2.1 pc = .ok (.newarray .boolean, 2)) (hw : Cond.arrayClass .boolean ∈ jv_tbl) (hx0 : ¬ x < 0) (hx : x.toNatClampNeg = n) (hb : n * 1 ≤ 536870912) (hsh : jv_sh N = (12, n)) (hcr : cr' + 1 = cr) (hsr : sr' + n = sr)
    (k : jv_J g d κ (pc + 2) L (.ref N :: st) (jv_zero M N) (N + 1) cr' sr' Z) : jv_J g d κ pc L (.int x :: st) M N cr sr Z := by
  intro p e R s m args below meth c H ls locs cells slots cm sm Q X hR hS hL h1 h2 h3 h4 hE
  have hK := X.2.2.2.2.2.2.2.2.2.2.1
  have hts := X.2.2.2.2.2.2.1
  refine va_newaK (atype := .boolean) X.1 X.2.1 (hts _ hw) rfl hd rfl hx0 hx hb (by omega) (by omega) hR.1 fun H1 cA e1 z1 o1 hA hN => ?_
  have hcA : cA = jv_cA g 12 := Option.some.inj (hN.symm.trans (hK.2 1 _ rfl).2)
  subst hcA
  refine k p e R s m args below meth c H1 ls locs (cells + 1) (slots + n) cm sm Q X (hR.push (by rw [z1, hR.1]) (fun q hq => o1 q (by rw [← hR.1]; exact hq)) ?_) ⟨Nat.le_trans hS.1 (by rw [z1, hR.1]; omega), fun x q1 q2 => (o1 x (by rw [← hR.1]; exact Nat.lt_of_lt_of_le q1 hS.1)).trans (hS.2.1 x q1 q2), hS.2.2⟩ hL (by omega) (by omega) h3 h4 hE
  rw [jv_F_int (t := 12) (by rw [hsh]) (by omega) (by omega), hsh]
  show H1[jv_base g + N]? = some (vp_cell _ _)
  rw [e1, vp_cell_i]
  congr 2
  funext q
  simp [jv_zero, defaultValue, newarray.typeOf]
theorem jv_AO_at {g : jv_G} {U : State} {H : Heap} (h : jv_CU g U H) {t : Nat} (h1 : 13 ≤ t) (h2 : t ≤ 16) {r : vw_C} (hr : jv_cl[jv_el t]? = some r) : va_AO r.1 U := by
  obtain ⟨-, -, ⟨q1, q2, q3, q4⟩, -⟩ := h
  rcases (by omega : t = 13 ∨ t = 14 ∨ t = 15 ∨ t = 16) with rfl | rfl | rfl | rfl <;> cases hr <;> assumption
theorem jv_newR {t n i cr' sr' : Nat} {x : Int32} (r : vw_C) (hd : decode κ.2.1 pc = .ok (.anewarray i, 3)) (ht : 13 ≤ t ∧ t ≤ 16) (hr : jv_cl[jv_el t]? = some r) (hw : Cond.classLink κ.1.cls i r.1 ∈ jv_tbl) (hx0 : ¬ x < 0) (hx : x.toNatClampNeg = n) (hb : n * 4 ≤ 536870912) (hsh : jv_sh N = (t, n)) (hcr : cr' + 1 = cr) (hsr : sr' + n = sr)
    (k : jv_J g d κ (pc + 3) L (.ref N :: st) (jv_zero M N) (N + 1) cr' sr' Z) : jv_J g d κ pc L (.int x :: st) M N cr sr Z := by
  intro p e R s m args below meth c H ls locs cells slots cm sm Q X hR hS hL h1 h2 h3 h4 hE
  have hCU := X.2.2.2.2.2.2.2.2.2.2
  have hK := hCU.1
  have hts := X.2.2.2.2.2.2.1
  have hAO := jv_AO_at hCU ht.1 ht.2 hr
  obtain ⟨r', q1, q2⟩ := jv_tys_at (g := g) ht.1 ht.2
  have hrr : r' = r := Option.some.inj (q1.symm.trans hr)
  subst hrr
  subst hx
  refine W.anew X.1 X.2.1 X.2.2.2.2.2.1 (hts _ hw) (va_AO.use hAO) rfl hd rfl hx0 hb (by omega) (by omega) fun cA kA comp f1 f2 f3 f4 => ?_
  obtain ⟨kA', comp', -, -, -, k4⟩ := (hK.2 _ _ q2).2
  have hcA : cA = jv_cA g t := Option.some.inj (f1.symm.trans k4)
  subst hcA
  generalize hH1 : H.push ({ cls := jv_cA g t, slots := Array.replicate x.toNatClampNeg .null, vm := .none } : Cell) = H1
  have z1 : H1.size = H.size + 1 := by rw [← hH1, Array.size_push]
  have e1 : H1[H.size]? = some (arrV (jv_cA g t) x.toNatClampNeg (fun _ => .null)) := by rw [← hH1, Array.getElem?_push_size, ← arrV_new]
  have o1 : ∀ q, q < H.size → H1[q]? = H[q]? := fun q hq => by rw [← hH1, Array.getElem?_push, if_neg (Nat.ne_of_lt hq)]
  have hst : (.ref H.size :: st.map (jv_mv g)) = ((Value.ref N :: st).map (jv_mv g)) := by rw [hR.1]; rfl
  rw [hst]
  refine k p e R s m args below meth c H1 ls locs (cells + 1) (slots + x.toNatClampNeg) cm sm Q X (hR.push z1 o1 ?_) ⟨Nat.le_trans hS.1 (by omega), fun y q1 q2 => (o1 y (Nat.lt_of_lt_of_le q1 hS.1)).trans (hS.2.1 y q1 q2), hS.2.2⟩ hL (by omega) (by omega) h3 h4 hE
  rw [jv_F_ref (t := t) (by rw [hsh]) (by omega), hsh]
  show H1[jv_base g + N]? = some (vp_cell _ _)
  rw [← hR.1, e1, vp_cell_q]
  congr 2
  funext q
  simp [jv_zero, va_rf]
end JA
