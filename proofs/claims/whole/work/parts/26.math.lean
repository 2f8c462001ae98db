/-! ===== Math.min, Math.max, Math.abs, by the library's laws ===== -/
section MT
variable {g : jv_G} {d : Nat} {κ : jv_Mt} {pc : Nat} {L : List (Option Value)} {st : List Value} {M : jv_Mem} {N cr sr : Nat} {Z : Option Value → jv_Mem → Nat → Prop}
theorem jv_mmin {i : Nat} {x y : Int32} (hd : decode κ.2.1 pc = .ok (.invokestatic i, 3)) (hV : jv_MS κ.1.cls i mt_JM_min 2) (hw : jv_words st ≤ 8) (k : jv_J g (d + 1) κ (pc + 3) L (.int (if y < x then y else x) :: st) M N cr sr Z) : jv_J g (d + 1) κ pc L (.int y :: .int x :: st) M N cr sr Z := by
  intro p e R s m args below meth c H ls locs cells slots cm sm Q X hR hS hL h1 h2 h3 h4 hE
  have hts := X.2.2.2.2.2.2.1
  have hfr := X.2.2.2.2.2.2.2.2.1
  exact va_mmin X.1 X.2.1 (X.2.2.1.trans hL.1.symm) X.2.2.2.2.2.1 (hts _ hV.2.1) (hts _ hV.2.2) (hts _ hV.1.2.1) (hts _ hV.1.1) (by omega) (by rw [jv_words_map]; omega) (by omega) (by omega) hd (k p e R s m args below meth c H ls locs cells slots cm sm Q X hR hS hL h1 h2 h3 h4 hE)
theorem jv_mmax {i : Nat} {x y : Int32} (hd : decode κ.2.1 pc = .ok (.invokestatic i, 3)) (hV : jv_MS κ.1.cls i mt_JM_max 2) (hw : jv_words st ≤ 8) (k : jv_J g (d + 1) κ (pc + 3) L (.int (if x < y then y else x) :: st) M N cr sr Z) : jv_J g (d + 1) κ pc L (.int y :: .int x :: st) M N cr sr Z := by
  intro p e R s m args below meth c H ls locs cells slots cm sm Q X hR hS hL h1 h2 h3 h4 hE
  have hts := X.2.2.2.2.2.2.1
  have hfr := X.2.2.2.2.2.2.2.2.1
  exact va_mmax X.1 X.2.1 (X.2.2.1.trans hL.1.symm) X.2.2.2.2.2.1 (hts _ hV.2.1) (hts _ hV.2.2) (hts _ hV.1.2.1) (hts _ hV.1.1) (by omega) (by rw [jv_words_map]; omega) (by omega) (by omega) hd (k p e R s m args below meth c H ls locs cells slots cm sm Q X hR hS hL h1 h2 h3 h4 hE)
theorem jv_mabs {i : Nat} {x : Int64} (hd : decode κ.2.1 pc = .ok (.invokestatic i, 3)) (hV : jv_MS κ.1.cls i mt_JM_abs 1) (hw : jv_words st ≤ 8) (k : jv_J g (d + 1) κ (pc + 3) L (.long (if 0 < x then x else -x) :: st) M N cr sr Z) : jv_J g (d + 1) κ pc L (.long x :: st) M N cr sr Z := by
  intro p e R s m args below meth c H ls locs cells slots cm sm Q X hR hS hL h1 h2 h3 h4 hE
  have hts := X.2.2.2.2.2.2.1
  have hfr := X.2.2.2.2.2.2.2.2.1
  exact va_mabs_long X.1 X.2.1 (X.2.2.1.trans hL.1.symm) X.2.2.2.2.2.1 (hts _ hV.2.1) (hts _ hV.2.2) (hts _ hV.1.2.1) (hts _ hV.1.1) (by omega) (by rw [jv_words_map]; omega) (by omega) (by omega) hd (k p e R s m args below meth c H ls locs cells slots cm sm Q X hR hS hL h1 h2 h3 h4 hE)
end MT
