/-! ===== calls ===== -/
theorem jv_ws_in {κ : jv_Mt} {n : Nat} (h : jv_okm κ n) : GoodIn jv_tbl (jv_ws κ) := jv_good (fun w hw => (List.mem_cons.mp hw).elim (fun e => by rw [e]; exact h.1) id)
theorem jv_blind {g : jv_G} {as : List Value} {M : jv_Mem} {N : Nat} : FrameBlind (jv_Pc g as M N) := fun a U f mk q => ⟨q.1, jv_CU.same (s := U) rfl q.2.1, q.2.2⟩
theorem jv_words_map (g : jv_G) (vs : List Value) : ((vs.map (jv_mv g)).map fun v => v.category).sum = jv_words vs := by
  unfold jv_words
  rw [List.map_map]
  congr 1
  refine List.map_congr_left (fun v _ => jv_mv_cat' g v)
section JC
variable {g : jv_G} {d : Nat} {κ : jv_Mt} {pc : Nat} {L : List (Option Value)} {st : List Value} {M : jv_Mem} {N cr sr : Nat} {Z : Option Value → jv_Mem → Nat → Prop}
theorem jv_goes {p : Program} {e : Env} {R : Room} {s : State} {m : MethodId} {args : Array Value} {below : List Frame} {meth : Method} {c : Code} {H : Heap} {ls : Array Slot} {locs : List Loc} {cells slots cm sm c1 s1 c2 s2 : Nat} {Q : State → Prop} {st0 : List Value} {rest : List Value} {a : Array Value}
    (X : jv_Cx g d κ p R s m args meth c) (hS : va_S (jv_A g) s.heap H locs) (hL : jv_Ls g κ.2.2.1 L ls) (h1 : cells + (c1 + c2) ≤ cm) (h2 : slots + (s1 + s2) ≤ sm) (h3 : cm ≤ R.cells) (h4 : sm ≤ R.slots) (hE : jv_Ex g κ p e R s m args below meth c cm sm Z Q)
    (hr : va_Run p (jv_l g) e R s m args below meth c H locs cells slots c1 s1 (F0 m pc ls st0) (rest.map (jv_mv g)) (jv_Qc g (fun v M' N' => jv_J g d κ (pc + 3) L (v.toList ++ rest) M' N' c2 s2 Z) a) (jv_A g)) :
    W p (jv_l g) e R s m args below meth c H locs cells slots Q (F0 m pc ls st0) := by
  intro T hT XS
  obtain ⟨v, st₀, t, T', L', h0, X', hL', e1, e2, ⟨⟨v2, M', N', hv, hJ, hR'⟩, hz, hk⟩, st⟩ := hr T hT XS
  have hv : v = v2.map (jv_mv g) := by injection hv
  subst hv
  rw [h0] at hz hk
  have hst : (v2.map (jv_mv g)).toList ++ rest.map (jv_mv g) = (v2.toList ++ rest).map (jv_mv g) := by cases v2 <;> rfl
  obtain ⟨t2, a1, b1⟩ := hJ p e R s m args below meth c T'.heap ls (locs ++ L') (cells + c1) (slots + s1) cm sm Q X (by rw [e1]; exact hR') ⟨Nat.le_trans hS.1 (by rw [e1]; exact hz), fun q q1 q2 => by rw [e1, hk q (Nat.lt_of_lt_of_le q1 hS.1) q2]; exact hS.2.1 q q1 q2, fun q hq => by
      rcases List.mem_append.mp hq with h | h
      · exact hS.2.2 q h
      · exact hL' q h⟩ hL (by omega) (by omega) h3 h4 hE T' rfl X'
  rw [← hst] at a1
  exact ⟨t2, st t2 a1, b1⟩
theorem jv_invV {κ' : jv_Mt} {i t b c1 c2 s1 s2 : Nat} (as rest : List Value) (hd : decode κ.2.1 pc = .ok (.invokevirtual i, 3)) (hV : jv_MV κ.1.cls i t κ' as.length) (hT : jv_Tg t b N) (hst : st = as.reverse ++ .ref b :: rest) (hw : jv_words rest ≤ 8) (hcr : c1 + c2 = cr) (hsr : s1 + s2 = sr)
    (hC : jv_Ct g d κ' (.ref b :: as) M N c1 s1 (fun v M' N' => jv_J g (d + 1) κ (pc + 3) L (v.toList ++ rest) M' N' c2 s2 Z)) : jv_J g (d + 1) κ pc L st M N cr sr Z := by
  intro p e R s m args below meth c H ls locs cells slots cm sm Q X hR hS hL h1 h2 h3 h4 hE
  subst hcr; subst hsr
  obtain ⟨hok, w1, w2, w3, r, hc, hr⟩ := hV
  have hts := X.2.2.2.2.2.2.1
  have ht : t < 11 := (List.getElem?_eq_some_iff.mp hc).1
  have hat := hR.2 b hT.2
  rw [jv_F_obj hT.1 ht] at hat
  have hfr := X.2.2.2.2.2.2.2.2.1
  have hmx := hok.2.2.1
  refine jv_goes X hS hL h1 h2 h3 h4 hE (va_runV (Ts := jv_tbl) (own := κ.1.cls) (C := κ'.1.cls) (b := jv_base g + b) (n := as.length) (As := as.map (jv_mv g)) (rest := rest.map (jv_mv g)) ⟨X.1, X.2.1, X.2.2.1, X.2.2.2.2.2.1, hts⟩ hC
    ⟨callB_of (rm := jv_rm d c1 s1) as.length hts (jv_ws_in hok) rfl rfl rfl (hts _ hok.2.1) (hts _ w1) hok.2.2.2 ⟨hfr.1, by show 8 + (κ'.2.2.1 + 11) + 36 * d ≤ R.locals; omega⟩, hts _ w2, hts _ w3⟩
    ⟨jv_blind, by rw [← hr]; exact va_recv X.2.2.2.2.2.2.2.2.2.2.1 (jv_one hat) hc (q0 := 0) rfl, fun U hU hW => ⟨rfl, ?_, by rw [hU]; exact hR⟩⟩ rfl (by simp) hL.1 ?_ (lv_room (by rw [jv_words_map]; exact hw)) hd ⟨by omega, by omega⟩)
  · refine jv_CU.warm hW ⟨X.2.2.2.2.2.2.2.2.2.2.1, X.2.2.2.2.2.2.2.2.2.2.2.1, X.2.2.2.2.2.2.2.2.2.2.2.2.1, ?_⟩
    rw [hU]
    exact X.2.2.2.2.2.2.2.2.2.2.2.2.2.kept X.2.2.2.2.2.2.2.2.2.1 hS.2.1
  · rw [hst]
    show List.map _ _ = _
    simp [jv_mv]
theorem jv_CU_now {p : Program} {R : Room} {s U : State} {m : MethodId} {args : Array Value} {meth : Method} {c : Code} {H : Heap} {locs : List Loc} (X : jv_Cx g d κ p R s m args meth c) (hS : va_S (jv_A g) s.heap H locs) (hU : U.heap = H) (hW : s.WarmedH U.vm) : jv_CU g U U.heap := by
  refine jv_CU.warm hW ⟨X.2.2.2.2.2.2.2.2.2.2.1, X.2.2.2.2.2.2.2.2.2.2.2.1, X.2.2.2.2.2.2.2.2.2.2.2.2.1, ?_⟩
  rw [hU]
  exact X.2.2.2.2.2.2.2.2.2.2.2.2.2.kept X.2.2.2.2.2.2.2.2.2.1 hS.2.1
theorem jv_invS {κ' : jv_Mt} {i c1 c2 s1 s2 : Nat} (as rest : List Value) (hd : decode κ.2.1 pc = .ok (.invokestatic i, 3)) (hV : jv_MS κ.1.cls i κ' as.length) (hst : st = as.reverse ++ rest) (hw : jv_words rest ≤ 8) (hcr : c1 + c2 = cr) (hsr : s1 + s2 = sr)
    (hC : jv_Ct g d κ' as M N c1 s1 (fun v M' N' => jv_J g (d + 1) κ (pc + 3) L (v.toList ++ rest) M' N' c2 s2 Z)) : jv_J g (d + 1) κ pc L st M N cr sr Z := by
  intro p e R s m args below meth c H ls locs cells slots cm sm Q X hR hS hL h1 h2 h3 h4 hE
  subst hcr; subst hsr
  obtain ⟨hok, w1, w2⟩ := hV
  have hts := X.2.2.2.2.2.2.1
  have hfr := X.2.2.2.2.2.2.2.2.1
  have hmx := hok.2.2.1
  refine jv_goes X hS hL h1 h2 h3 h4 hE (va_runS (Ts := jv_tbl) (own := κ.1.cls) (n := as.length) (As := as.map (jv_mv g)) (rest := rest.map (jv_mv g)) ⟨X.1, X.2.1, X.2.2.1, X.2.2.2.2.2.1, hts⟩ hC
    ⟨callB_of (rm := jv_rm d c1 s1) as.length hts (jv_ws_in hok) rfl rfl rfl (hts _ hok.2.1) (hts _ w1) hok.2.2.2 ⟨hfr.1, by show 8 + (κ'.2.2.1 + 11) + 36 * d ≤ R.locals; omega⟩, hts _ w2⟩
    ⟨jv_blind, fun U hU hW => ⟨rfl, jv_CU_now X hS hU hW, by rw [hU]; exact hR⟩⟩ rfl (by simp) hL.1 ?_ (lv_room (by rw [jv_words_map]; exact hw)) hd ⟨by omega, by omega⟩)
  rw [hst]
  show List.map _ _ = _
  simp
theorem jv_invSN {κ' : jv_Mt} {i c1 c2 s1 s2 : Nat} (as rest : List Value) (hd : decode κ.2.1 pc = .ok (.invokestatic i, 3)) (hV : jv_MSN κ.1.cls i κ' as.length) (hst : st = as.reverse ++ rest) (hw : jv_words rest ≤ 8) (hcr : c1 + c2 = cr) (hsr : s1 + s2 = sr)
    (hC : jv_Ct g d κ' as M N c1 s1 (fun v M' N' => jv_J g (d + 1) κ (pc + 3) L (v.toList ++ rest) M' N' c2 s2 Z)) : jv_J g (d + 1) κ pc L st M N cr sr Z := by
  intro p e R s m args below meth c H ls locs cells slots cm sm Q X hR hS hL h1 h2 h3 h4 hE
  subst hcr; subst hsr
  obtain ⟨hok, w1, w2⟩ := hV
  have hts := X.2.2.2.2.2.2.1
  have hfr := X.2.2.2.2.2.2.2.2.1
  have hmx := hok.2.2.1
  refine jv_goes X hS hL h1 h2 h3 h4 hE (va_runSN (Ts := jv_tbl) (own := κ.1.cls) (host := "HaltRing") (n := as.length) (As := as.map (jv_mv g)) (rest := rest.map (jv_mv g)) ⟨X.1, X.2.1, X.2.2.1, X.2.2.2.2.2.1, hts⟩ hC
    ⟨va_cnB (rm := jv_rm d c1 s1) as.length hts (jv_ws_in hok) rfl rfl rfl (X.2.2.2.2.2.2.2.2.2.2.2.1 _ w1) (hts _ hok.2.1) hok.2.2.2 ⟨hfr.1, by show 8 + (κ'.2.2.1 + 11) + 36 * d ≤ R.locals; omega⟩, hts _ w2, trivial⟩
    ⟨jv_blind, fun U hU hW => ⟨rfl, jv_CU_now X hS hU hW, by rw [hU]; exact hR⟩⟩ rfl (by simp) hL.1 ?_ (lv_room (by rw [jv_words_map]; exact hw)) hd ⟨by omega, by omega⟩)
  rw [hst]
  show List.map _ _ = _
  simp
theorem jv_invI {κ' : jv_Mt} {i b c1 c2 s1 s2 : Nat} (as rest : List Value) (hd : decode κ.2.1 pc = .ok (.invokespecial i, 3)) (hV : jv_MI κ.1.cls i κ' as.length) (hst : st = as.reverse ++ .ref b :: rest) (hw : jv_words rest ≤ 8) (hcr : c1 + c2 = cr) (hsr : s1 + s2 = sr)
    (hC : jv_Ct g d κ' (.ref b :: as) M N c1 s1 (fun v M' N' => jv_J g (d + 1) κ (pc + 3) L (v.toList ++ rest) M' N' c2 s2 Z)) : jv_J g (d + 1) κ pc L st M N cr sr Z := by
  intro p e R s m args below meth c H ls locs cells slots cm sm Q X hR hS hL h1 h2 h3 h4 hE
  subst hcr; subst hsr
  obtain ⟨hok, w1, w2, hy1, hr⟩ := hV
  have hts := X.2.2.2.2.2.2.1
  have hfr := X.2.2.2.2.2.2.2.2.1
  have hmx := hok.2.2.1
  refine jv_goes X hS hL h1 h2 h3 h4 hE (va_runI (Ts := jv_tbl) (own := κ.1.cls) (b := jv_base g + b) (n := as.length) (As := as.map (jv_mv g)) (rest := rest.map (jv_mv g)) ⟨X.1, X.2.1, X.2.2.1, X.2.2.2.2.2.1, hts⟩ hC
    ⟨callB_of (rm := jv_rm d c1 s1) as.length hts (jv_ws_in hok) (by unfold jv_ws; rw [hr]) rfl rfl (hts _ hok.2.1) (hts _ w1) hok.2.2.2 ⟨hfr.1, by show 8 + (κ'.2.2.1 + 11) + 36 * d ≤ R.locals; omega⟩, hy1, hts _ w2⟩
    ⟨jv_blind, fun U hU hW => ⟨rfl, jv_CU_now X hS hU hW, by rw [hU]; exact hR⟩⟩ rfl (by simp) hL.1 ?_ (lv_room (by rw [jv_words_map]; exact hw)) hd ⟨by omega, by omega⟩)
  rw [hst]
  show List.map _ _ = _
  simp [jv_mv]
theorem jv_invIN {κ' : jv_Mt} {i b c1 c2 s1 s2 : Nat} (as rest : List Value) (hd : decode κ.2.1 pc = .ok (.invokespecial i, 3)) (hV : jv_MIN κ.1.cls i κ' as.length) (hst : st = as.reverse ++ .ref b :: rest) (hw : jv_words rest ≤ 8) (hcr : c1 + c2 = cr) (hsr : s1 + s2 = sr)
    (hC : jv_Ct g d κ' (.ref b :: as) M N c1 s1 (fun v M' N' => jv_J g (d + 1) κ (pc + 3) L (v.toList ++ rest) M' N' c2 s2 Z)) : jv_J g (d + 1) κ pc L st M N cr sr Z := by
  intro p e R s m args below meth c H ls locs cells slots cm sm Q X hR hS hL h1 h2 h3 h4 hE
  subst hcr; subst hsr
  obtain ⟨hok, w1, w2, hy1, hr⟩ := hV
  have hts := X.2.2.2.2.2.2.1
  have hfr := X.2.2.2.2.2.2.2.2.1
  have hmx := hok.2.2.1
  refine jv_goes X hS hL h1 h2 h3 h4 hE (va_runIN (Ts := jv_tbl) (own := κ.1.cls) (host := "HaltRing") (b := jv_base g + b) (n := as.length) (As := as.map (jv_mv g)) (rest := rest.map (jv_mv g)) ⟨X.1, X.2.1, X.2.2.1, X.2.2.2.2.2.1, hts⟩ hC
    ⟨va_cnB (rm := jv_rm d c1 s1) as.length hts (jv_ws_in hok) (by unfold jv_ws; rw [hr]) rfl rfl (X.2.2.2.2.2.2.2.2.2.2.2.1 _ w1) (hts _ hok.2.1) hok.2.2.2 ⟨hfr.1, by show 8 + (κ'.2.2.1 + 11) + 36 * d ≤ R.locals; omega⟩, hy1, hts _ w2⟩
    ⟨jv_blind, fun U hU hW => ⟨rfl, jv_CU_now X hS hU hW, by rw [hU]; exact hR⟩⟩ rfl (by simp) hL.1 ?_ (lv_room (by rw [jv_words_map]; exact hw)) hd ⟨by omega, by omega⟩)
  rw [hst]
  show List.map _ _ = _
  simp [jv_mv]
theorem jv_objI {i b : Nat} (hd : decode κ.2.1 pc = .ok (.invokespecial i, 3)) (w1 : Cond.methodLink κ.1.cls i Lib.objectInit ∈ jv_tbl) (w2 : Cond.instanceMethod Lib.objectInit ∈ jv_tbl) (w3 : Cond.code Lib.objectInit ⟨#[0xb1]⟩ 1 none ∈ jv_tbl) (hw : jv_words st ≤ 8)
    (k : jv_J g (d + 1) κ (pc + 3) L st M N cr sr Z) : jv_J g (d + 1) κ pc L (.ref b :: st) M N cr sr Z := by
  intro p e R s m args below meth c H ls locs cells slots cm sm Q X hR hS hL h1 h2 h3 h4 hE
  have hts := X.2.2.2.2.2.2.1
  have hfr := X.2.2.2.2.2.2.2.2.1
  refine W.objInit X.1 X.2.1 X.2.2.2.2.2.1 (hts _ w1) (hts _ w2) (hts _ w3) rfl (hL.1.trans X.2.2.1.symm) rfl hd (by omega) ?_ (k p e R s m args below meth c H ls locs cells slots cm sm Q X hR hS hL h1 h2 h3 h4 hE)
  have := lv_room (m := m) (pc := pc) (ls := ls) (rest := (Value.ref b :: st).map (jv_mv g)) (st := st.map (jv_mv g)) (by rw [jv_words_map]; exact hw)
  omega
end JC
