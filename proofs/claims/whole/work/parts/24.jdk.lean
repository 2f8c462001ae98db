/-! ===== arraycopy, and the one text ===== -/
def jv_cp (M : jv_Mem) (a0 a sp dp n : Nat) : jv_Mem := (fun b j => if b = a then va_cpy (M.1 a0) (M.1 a) sp dp n j else M.1 b j, M.2.1, M.2.2)
section JD
variable {g : jv_G} {d : Nat} {κ : jv_Mt} {pc : Nat} {L : List (Option Value)} {st : List Value} {M : jv_Mem} {N cr sr : Nat} {Z : Option Value → jv_Mem → Nat → Prop}
theorem jv_copy {i a0 a : Nat} {sp dp n : Int32} (hd : decode κ.2.1 pc = .ok (.invokestatic i, 3)) (w1 : Cond.methodLink κ.1.cls i arraycopyName ∈ jv_tbl) (w2 : Cond.native arraycopyName ∈ jv_tbl) (w3 : Cond.static arraycopyName ∈ jv_tbl) (w4 : Cond.initialized "java/lang/System" ∈ jv_tbl)
    (hT0 : jv_Tg 11 a0 N) (hT : jv_Tg 11 a N) (h1 : ¬ sp < 0) (h2 : ¬ dp < 0) (h3 : ¬ n < 0) (h4 : sp.toNatClampNeg + n.toNatClampNeg ≤ (jv_sh a0).2) (h5 : dp.toNatClampNeg + n.toNatClampNeg ≤ (jv_sh a).2) (hw : jv_words st ≤ 8)
    (k : jv_J g (d + 1) κ (pc + 3) L st (jv_cp M a0 a sp.toNatClampNeg dp.toNatClampNeg n.toNatClampNeg) N cr sr Z) : jv_J g (d + 1) κ pc L (.int n :: .int dp :: .ref a :: .int sp :: .ref a0 :: st) M N cr sr Z := by
  intro p e R s m args below meth c H ls locs cells slots cm sm Q X hR hS hL g1 g2 g3 g4 hE
  have hts := X.2.2.2.2.2.2.1
  have hfr := X.2.2.2.2.2.2.2.2.1
  have hK := X.2.2.2.2.2.2.2.2.2.2.1
  have hc0 := hR.2 a0 hT0.2
  rw [jv_F_int hT0.1 (by omega) (by omega)] at hc0
  have hc1 := hR.2 a hT.2
  rw [jv_F_int hT.1 (by omega) (by omega)] at hc1
  have nn : ∀ z : Int32, ¬ z < 0 → z.toInt = (z.toNatClampNeg : Int) := by
    intro z hz
    have hz0 : (0 : Int) ≤ z.toInt := by
      have := Int32.not_lt.mp hz
      simpa using Int32.le_iff_toInt_le.mp this
    show z.toInt = ((z.toInt.toNat : Nat) : Int)
    omega
  intro T hT' XS
  obtain ⟨-, k0, hk0, cm0, hkk0⟩ := (hK.2 0 _ rfl).1 (jv_sh a0).2 (fun j => .int (M.1 a0 j))
  obtain ⟨-, k1, hk1, cm1, hkk1⟩ := (hK.2 0 _ rfl).1 (jv_sh a).2 (fun j => .int (M.1 a j))
  obtain ⟨vm', X', step⟩ := XS.arraycopy X.1 X.2.2.2.2.2.1 (hts _ w1) (hts _ w2) (hts _ w3) (hts _ w4) (src := jv_base g + a0) (dst := jv_base g + a) (cs := vp_cell (jv_cA g 11) ((jv_sh a0).2, .inl (M.1 a0))) (cd := vp_cell (jv_cA g 11) ((jv_sh a).2, .inl (M.1 a))) (srcPos := sp) (destPos := dp) (n := n) (by rw [hT']; exact hc0) (by rw [hT']; exact hc1)
    (fun _ h => by cases h) (fun _ h => by cases h) (fun h => by cases h) (fun h => by cases h) hk0 hk1 hkk0 hkk1 (by simp [refKind]) h1 h2 h3
    (by rw [nn sp h1, nn n h3]; show ¬ _ > ((arrV (jv_cA g 11) (jv_sh a0).2 (fun j => .int (M.1 a0 j))).slots.size : Int); rw [arrV_size]; omega)
    (by rw [nn dp h2, nn n h3]; show ¬ _ > ((arrV (jv_cA g 11) (jv_sh a).2 (fun j => .int (M.1 a j))).slots.size : Int); rw [arrV_size]; omega)
    (fun vm₁ _ i hi => by
      have e : (vp_cell (jv_cA g 11) ((jv_sh a0).2, .inl (M.1 a0))).slots.getD (sp.toNatClampNeg + i) .null = .int (M.1 a0 (sp.toNatClampNeg + i)) := by
        show (arrV (jv_cA g 11) (jv_sh a0).2 (fun j => .int (M.1 a0 j))).slots.getD _ _ = _
        rw [Array.getD_eq_getD_getElem?, arrV_read _ _ (by omega)]
        rfl
      refine ⟨?_, ?_⟩
      · rw [e]
        rfl
      · rw [e]
        exact trivial)
    (g := F0 m pc ls ((Value.int n :: .int dp :: .ref a :: .int sp :: .ref a0 :: st).map (jv_mv g))) rfl (hL.1.trans X.2.2.1.symm) (rest := st.map (jv_mv g)) rfl (by rw [X.2.1]; exact hd) (by omega) (by show 2 * 0 + _ + (nativeFrameWords "java/lang/System" "arraycopy" 5 + 11) ≤ _; rw [jv_words_map, show nativeFrameWords "java/lang/System" "arraycopy" 5 = 7 from by decide +kernel]; omega)
  have e1 : copied (vp_cell (jv_cA g 11) ((jv_sh a0).2, .inl (M.1 a0))) (vp_cell (jv_cA g 11) ((jv_sh a).2, .inl (M.1 a))) sp dp n = vp_cell (jv_cA g 11) ((jv_sh a).2, .inl (va_cpy (M.1 a0) (M.1 a) sp.toNatClampNeg dp.toNatClampNeg n.toNatClampNeg)) := va_copied (fun z => .int z) _ _ (M.1 a0) (M.1 a) h4
  rw [e1] at X' step
  have hl : jv_base g + a < H.size := (Array.getElem?_eq_some_iff.mp hc1).1
  generalize hnew : vp_cell (jv_cA g 11) ((jv_sh a).2, .inl (va_cpy (M.1 a0) (M.1 a) sp.toNatClampNeg dp.toNatClampNeg n.toNatClampNeg)) = nc at X' step
  have hheap : ((T.setVm vm').setCell (jv_base g + a) nc).heap = H.setIfInBounds (jv_base g + a) nc := by rw [← hT']; rfl
  have oq : ∀ q : Nat, q ≠ jv_base g + a → (H.setIfInBounds (jv_base g + a) nc)[q]? = H[q]? := fun q hq => by simp [Array.getElem?_setIfInBounds, Ne.symm hq]
  obtain ⟨t, a1, b1⟩ := k p e R s m args below meth c (H.setIfInBounds (jv_base g + a) nc) ls _ cells slots cm sm Q X (hR.upd (M' := jv_cp M a0 a sp.toNatClampNeg dp.toNatClampNeg n.toNatClampNeg) (by simp) oq (by
      rw [jv_F_int hT.1 (by omega) (by omega)]
      show (H.setIfInBounds (jv_base g + a) nc)[jv_base g + a]? = some (vp_cell _ _)
      have hrow : (jv_cp M a0 a sp.toNatClampNeg dp.toNatClampNeg n.toNatClampNeg).1 a = va_cpy (M.1 a0) (M.1 a) sp.toNatClampNeg dp.toNatClampNeg n.toNatClampNeg := by funext j; simp [jv_cp]
      rw [hrow, hnew]
      simp [Array.getElem?_setIfInBounds, hl]) (fun b hb => by simp [jv_cp, hb])) ⟨by simp; exact hS.1, fun q q1 q2 => by
      rw [oq q (fun e => q2 (by rw [e]; exact Nat.le_add_right _ _))]
      exact hS.2.1 q q1 q2, fun q hq => by
      rcases List.mem_append.mp hq with h | h
      · exact hS.2.2 q h
      · obtain ⟨z, -, hz⟩ := List.mem_map.mp h
        rw [← hz]
        exact Nat.le_add_right _ _⟩ hL g1 g2 g3 g4 hE _ hheap X'
  exact ⟨t, step t a1, b1⟩
/-- the text: .retAddr 3, its bytes: .retAddr 4 -/
def jv_txt : Nat → Int32 := fun j => [97, 100, 99, 108, 119, 106, 122, 98].getD j 0
theorem jv_ldcT (hd : decode κ.2.1 pc = .ok (.ldc 94, 2)) (ho : κ.1.cls = "HaltRing$Text") (k : jv_J g d κ (pc + 2) L (.retAddr 3 :: st) M N cr sr Z) : jv_J g d κ pc L st M N cr sr Z := by
  intro p e R s m args below meth c H ls locs cells slots cm sm Q X hR hS hL h1 h2 h3 h4 hE
  have hro := X.2.2.2.2.2.2.2.2.2.2.2.2.2
  exact va_ldcS X.1 X.2.1 (by rw [← ho]; exact X.2.2.2.2.2.1) hro.2.2.2.2.2.2.2.2 hd (k p e R s m args below meth c H ls locs cells slots cm sm Q X hR hS hL h1 h2 h3 h4 hE)
theorem jv_gCoder {i : Nat} (hd : decode κ.2.1 pc = .ok (.getfield i, 3)) (hw : Cond.fieldLink κ.1.cls i "java/lang/String" "coder" "B" ∈ jv_tbl) (k : jv_J g d κ (pc + 3) L (.int 0 :: st) M N cr sr Z) : jv_J g d κ pc L (.retAddr 3 :: st) M N cr sr Z := by
  intro p e R s m args below meth c H ls locs cells slots cm sm Q X hR hS hL h1 h2 h3 h4 hE
  have hk := (X.2.2.2.2.2.2.2.2.2.2.2.2.2).2.2.2.2.2.2.2.1.1 0 (by omega)
  exact vk_getf X.1 X.2.1 hk.2.1 hS X.2.2.2.2.2.1 (X.2.2.2.2.2.2.1 _ hw) (fun x hx => hx) hd (k p e R s m args below meth c H ls locs cells slots cm sm Q X hR hS hL h1 h2 h3 h4 hE)
theorem jv_gValue {i : Nat} (hd : decode κ.2.1 pc = .ok (.getfield i, 3)) (hw : Cond.fieldLink κ.1.cls i "java/lang/String" "value" "[B" ∈ jv_tbl) (k : jv_J g d κ (pc + 3) L (.retAddr 4 :: st) M N cr sr Z) : jv_J g d κ pc L (.retAddr 3 :: st) M N cr sr Z := by
  intro p e R s m args below meth c H ls locs cells slots cm sm Q X hR hS hL h1 h2 h3 h4 hE
  have hk := (X.2.2.2.2.2.2.2.2.2.2.2.2.2).2.2.2.2.2.2.2.1.1 0 (by omega)
  exact vk_getf X.1 X.2.1 hk.2.2.1 hS X.2.2.2.2.2.1 (X.2.2.2.2.2.2.1 _ hw) (fun x hx => hx) hd (k p e R s m args below meth c H ls locs cells slots cm sm Q X hR hS hL h1 h2 h3 h4 hE)
theorem jv_tlen (hd : decode κ.2.1 pc = .ok (.arraylength, 1)) (k : jv_J g d κ (pc + 1) L (.int 8 :: st) M N cr sr Z) : jv_J g d κ pc L (.retAddr 4 :: st) M N cr sr Z := by
  intro p e R s m args below meth c H ls locs cells slots cm sm Q X hR hS hL h1 h2 h3 h4 hE
  have hk := (X.2.2.2.2.2.2.2.2.2.2.2.2.2).2.2.2.2.2.2.2.1.1 0 (by omega)
  exact va_tlen X.1 X.2.1 hk.2.2.2 hS rfl hd (k p e R s m args below meth c H ls locs cells slots cm sm Q X hR hS hL h1 h2 h3 h4 hE)
theorem jv_tald {i : Int32} (hd : decode κ.2.1 pc = .ok (.baload, 1)) (hin : vp_in i 8) (k : jv_J g d κ (pc + 1) L (.int (jv_txt i.toNatClampNeg) :: st) M N cr sr Z) : jv_J g d κ pc L (.int i :: .retAddr 4 :: st) M N cr sr Z := by
  intro p e R s m args below meth c H ls locs cells slots cm sm Q X hR hS hL h1 h2 h3 h4 hE
  have hk := (X.2.2.2.2.2.2.2.2.2.2.2.2.2).2.2.2.2.2.2.2.1.1 0 (by omega)
  exact va_tb X.1 X.2.1 hk.2.2.2 hS hin rfl hd (k p e R s m args below meth c H ls locs cells slots cm sm Q X hR hS hL h1 h2 h3 h4 hE)
theorem jv_invT {κ' : jv_Mt} {i c1 c2 s1 s2 : Nat} (as rest : List Value) (hd : decode κ.2.1 pc = .ok (.invokevirtual i, 3)) (hV : jv_MT κ.1.cls i κ' as.length) (hst : st = as.reverse ++ .retAddr 3 :: rest) (hw : jv_words rest ≤ 8) (hcr : c1 + c2 = cr) (hsr : s1 + s2 = sr)
    (hC : jv_Ct g d κ' (.retAddr 3 :: as) M N c1 s1 (fun v M' N' => jv_J g (d + 1) κ (pc + 3) L (v.toList ++ rest) M' N' c2 s2 Z)) : jv_J g (d + 1) κ pc L st M N cr sr Z := by
  intro p e R s m args below meth c H ls locs cells slots cm sm Q X hR hS hL h1 h2 h3 h4 hE
  subst hcr; subst hsr
  obtain ⟨hok, w1, w2, w3, hr⟩ := hV
  have hts := X.2.2.2.2.2.2.1
  have hfr := X.2.2.2.2.2.2.2.2.1
  have hmx := hok.2.2.1
  have hro := X.2.2.2.2.2.2.2.2.2.2.2.2.2
  refine jv_goes X hS hL h1 h2 h3 h4 hE (va_runV (Ts := jv_tbl) (own := κ.1.cls) (C := κ'.1.cls) (b := jv_ro g 3) (n := as.length) (As := as.map (jv_mv g)) (rest := rest.map (jv_mv g)) ⟨X.1, X.2.1, X.2.2.1, X.2.2.2.2.2.1, hts⟩ hC
    ⟨callB_of (rm := jv_rm d c1 s1) as.length hts (jv_ws_in hok) rfl rfl rfl (hts _ hok.2.1) (hts _ w1) hok.2.2.2 ⟨hfr.1, by show 8 + (κ'.2.2.1 + 11) + 36 * d ≤ R.locals; omega⟩, hts _ w2, hts _ w3⟩
    ⟨jv_blind, by rw [hr]; exact vk_recv hro.2.2.2.2.2.2.2.1 (i := 0) (by omega) hS, fun U hU hW => ⟨rfl, jv_CU_now X hS hU hW, by rw [hU]; exact hR⟩⟩ rfl (by simp) hL.1 ?_ (lv_room (by rw [jv_words_map]; exact hw)) hd ⟨by omega, by omega⟩)
  rw [hst]
  show List.map _ _ = _
  simp [jv_mv]
end JD
