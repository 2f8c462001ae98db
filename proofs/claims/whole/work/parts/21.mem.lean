/-! ===== the rules that touch cells ===== -/
def jv_si (M : jv_Mem) (a k : Nat) (x : Int32) : jv_Mem := (fun b j => if b = a ∧ j = k then x else M.1 b j, M.2.1, M.2.2)
def jv_sr (M : jv_Mem) (a k : Nat) (r : Option Nat) : jv_Mem := (M.1, fun b j => if b = a ∧ j = k then r else M.2.1 b j, M.2.2)
def jv_sl (M : jv_Mem) (a : Nat) (x : Int64) : jv_Mem := (M.1, M.2.1, fun b => if b = a then x else M.2.2 b)
/-- cell a, of kind t, is there -/
def jv_Tg (t a N : Nat) : Prop := (jv_sh a).1 = t ∧ a < N
theorem jv_F_congr {g : jv_G} {M M' : jv_Mem} {a : Nat} (h1 : ∀ k, M'.1 a k = M.1 a k) (h2 : ∀ k, M'.2.1 a k = M.2.1 a k) (h3 : M'.2.2 a = M.2.2 a) : jv_F g M' a = jv_F g M a := by
  have e1 : M'.1 a = M.1 a := funext h1
  have e2 : M'.2.1 a = M.2.1 a := funext h2
  have e3 : jv_fv (jv_base g) M' (jv_sh a).1 a = jv_fv (jv_base g) M (jv_sh a).1 a := by
    funext k
    unfold jv_fv
    rw [h1, h2, h3]
  unfold jv_F jv_Fo
  rw [e1, e2, e3]
theorem jv_Rep.upd {g : jv_G} {M M' : jv_Mem} {N a : Nat} {H H1 : Heap} (h : jv_Rep g M N H) (hz : H1.size = H.size) (oq : ∀ q : Nat, q ≠ jv_base g + a → H1[q]? = H[q]?) (he : va_at (jv_D g) jv_cl (jv_base g + a, jv_F g M' a) H1)
    (ho : ∀ b, b ≠ a → (∀ k, M'.1 b k = M.1 b k) ∧ (∀ k, M'.2.1 b k = M.2.1 b k) ∧ M'.2.2 b = M.2.2 b) : jv_Rep g M' N H1 := by
  refine ⟨hz.trans h.1, fun b hb => ?_⟩
  by_cases hba : b = a
  · subst hba; exact he
  · obtain ⟨o1, o2, o3⟩ := ho b hba
    rw [jv_F_congr o1 o2 o3]
    exact (h.2 b hb).kept (oq _ (by omega))
theorem jv_F_obj {g : jv_G} {M : jv_Mem} {a t : Nat} (h : (jv_sh a).1 = t) (ht : t < 11) : jv_F g M a = .inr (t, jv_Fo (jv_base g) M t (jv_sh a).2 a) := by
  unfold jv_F
  rw [if_pos (by omega), h]
theorem jv_F_int {g : jv_G} {M : jv_Mem} {a t : Nat} (h : (jv_sh a).1 = t) (h1 : ¬ t < 11) (h2 : t < 13) : jv_F g M a = .inl (jv_cA g t, (jv_sh a).2, .inl (M.1 a)) := by
  unfold jv_F
  rw [if_neg (by omega), if_pos (by omega), h]
theorem jv_F_ref {g : jv_G} {M : jv_Mem} {a t : Nat} (h : (jv_sh a).1 = t) (h2 : ¬ t < 13) : jv_F g M a = .inl (jv_cA g t, (jv_sh a).2, .inr (.inr (.inr (.inr (fun i => (M.2.1 a i).map (jv_base g + ·)))))) := by
  unfold jv_F
  rw [if_neg (by omega), if_neg (by omega), h]
theorem jv_Fo_at {b : Nat} {M : jv_Mem} {t n a k : Nat} (hk : k < n) : (jv_Fo b M t n a)[k]? = some (jv_fv b M t a k) := by
  simp [jv_Fo, List.getElem?_range hk]
theorem jv_Fo_len {b : Nat} {M : jv_Mem} {t n a : Nat} : (jv_Fo b M t n a).length = n := by simp [jv_Fo]
theorem jv_Fo_set {b : Nat} {M M' : jv_Mem} {t n a k : Nat} {v : Value} (h : ∀ j, j < n → jv_fv b M' t a j = if j = k then v else jv_fv b M t a j) : jv_Fo b M' t n a = (jv_Fo b M t n a).set k v := by
  refine List.ext_getElem? (fun j => ?_)
  by_cases hj : j < n
  · rw [jv_Fo_at hj, List.getElem?_set, jv_Fo_len, jv_Fo_at hj, h j hj]
    by_cases hk : k = j
    · subst hk; simp [hj]
    · simp [hk, Ne.symm hk]
  · rw [List.getElem?_eq_none (by rw [jv_Fo_len]; omega), List.getElem?_eq_none (by rw [List.length_set, jv_Fo_len]; omega)]
section JM
variable {g : jv_G} {d : Nat} {κ : jv_Mt} {pc : Nat} {L : List (Option Value)} {st : List Value} {M : jv_Mem} {N cr sr : Nat} {Z : Option Value → jv_Mem → Nat → Prop}
theorem jv_get0 {t k i a : Nat} {v : Value} (hd : decode κ.2.1 pc = .ok (.getfield i, 3)) (hF : jv_FL κ.1.cls i t k) (hT : jv_Tg t a N) (hv : jv_fv (jv_base g) M t a k = jv_mv g v) (h : jv_J g d κ (pc + 3) L (v :: st) M N cr sr Z) : jv_J g d κ pc L (.ref a :: st) M N cr sr Z := by
  intro p e R s m args below meth c H ls locs cells slots cm sm Q X hR hS hL h1 h2 h3 h4 hE
  obtain ⟨r, hc, hk, hw⟩ := hF
  have hok := jv_ok t r hc
  have ht : t < 11 := (List.getElem?_eq_some_iff.mp hc).1
  obtain ⟨hT1, hT2⟩ := hT
  have hlen : (jv_sh a).2 = r.2.2 := by
    obtain ⟨r', q1, q2⟩ := jv_shlen a (by omega)
    rw [hT1, hc] at q1
    cases q1
    exact q2
  have hat := hR.2 a hT2
  rw [jv_F_obj hT1 ht] at hat
  have hP : va_P (jv_D g) jv_cl [(jv_base g + a, .inr (t, jv_Fo (jv_base g) M t (jv_sh a).2 a))] H := by
    intro q x hx
    match q, hx with
    | 0, hx => cases hx; exact hat
    | q + 1, hx => simp at hx
  refine va_get (C := r.1) (T := r.2.1) (N := r.2.2) (ci := t) (v := jv_mv g v) X.1 X.2.1 X.2.2.2.2.2.2.1 hok.1 X.2.2.2.2.2.1 X.2.2.2.2.2.2.2.2.2.2.1 hP 0 rfl hc k hk (X.2.2.2.2.2.2.1 _ hw) (fun x hx => by rw [hok.2.2.2 k hk] at hx; exact hx) (by rw [jv_Fo_at (by omega), hv]) hd ?_
  exact h p e R s m args below meth c H ls locs cells slots cm sm Q X hR hS hL h1 h2 h3 h4 hE
theorem jv_getI {t k i a : Nat} (hd : decode κ.2.1 pc = .ok (.getfield i, 3)) (hF : jv_FL κ.1.cls i t k) (hf : jv_ft t k = 0) (hT : jv_Tg t a N) (h : jv_J g d κ (pc + 3) L (.int (M.1 a k) :: st) M N cr sr Z) : jv_J g d κ pc L (.ref a :: st) M N cr sr Z :=
  jv_get0 hd hF hT (by simp [jv_fv, hf, jv_mv]) h
theorem jv_getL {t k i a : Nat} (hd : decode κ.2.1 pc = .ok (.getfield i, 3)) (hF : jv_FL κ.1.cls i t k) (hf : jv_ft t k = 2) (hT : jv_Tg t a N) (h : jv_J g d κ (pc + 3) L (.long (M.2.2 a) :: st) M N cr sr Z) : jv_J g d κ pc L (.ref a :: st) M N cr sr Z :=
  jv_get0 hd hF hT (by simp [jv_fv, hf, jv_mv]) h
theorem jv_getR {t k i a b : Nat} (hd : decode κ.2.1 pc = .ok (.getfield i, 3)) (hF : jv_FL κ.1.cls i t k) (hf : jv_ft t k = 1) (hT : jv_Tg t a N) (hb : M.2.1 a k = some b) (h : jv_J g d κ (pc + 3) L (.ref b :: st) M N cr sr Z) : jv_J g d κ pc L (.ref a :: st) M N cr sr Z :=
  jv_get0 hd hF hT (by simp [jv_fv, hf, jv_mv, hb, jv_rf]) h
/-- a store into a field, at the heap: the cell behind it, its size, the others -/
theorem jv_put0 {t k i a : Nat} {v : Value} {M' : jv_Mem} (hd : decode κ.2.1 pc = .ok (.putfield i, 3)) (hF : jv_FL κ.1.cls i t k) (hT : jv_Tg t a N)
    (hfin : ∀ r, jv_cl[t]? = some r → (r.2.1 k).2.2.2 = false ∨ ((r.2.1 k).2.2.2 = true ∧ κ.1.name = "<init>" ∧ r.1 = κ.1.cls))
    (hn : narrow (jv_ty t k) (jv_mv g v) = jv_mv g v) (hfit : fits (jv_ty t k) (jv_mv g v) = true)
    (hM : ∀ j, j < jv_len t → jv_fv (jv_base g) M' t a j = if j = k then jv_mv g v else jv_fv (jv_base g) M t a j)
    (ho : ∀ b, b ≠ a → (∀ k, M'.1 b k = M.1 b k) ∧ (∀ k, M'.2.1 b k = M.2.1 b k) ∧ M'.2.2 b = M.2.2 b)
    (h : jv_J g d κ (pc + 3) L st M' N cr sr Z) : jv_J g d κ pc L (v :: .ref a :: st) M N cr sr Z := by
  intro p e R s m args below meth c H ls locs cells slots cm sm Q X hR hS hL h1 h2 h3 h4 hE
  obtain ⟨r, hc, hk, hw⟩ := hF
  have hok := jv_ok t r hc
  have ht : t < 11 := (List.getElem?_eq_some_iff.mp hc).1
  obtain ⟨hT1, hT2⟩ := hT
  have hlen : (jv_sh a).2 = r.2.2 := by
    obtain ⟨r', q1, q2⟩ := jv_shlen a (by omega)
    rw [hT1, hc] at q1
    cases q1
    exact q2
  have hat := hR.2 a hT2
  rw [jv_F_obj hT1 ht] at hat
  have hts := X.2.2.2.2.2.2.1
  have hown := X.2.2.2.2.2.1
  have hK := X.2.2.2.2.2.2.2.2.2.2.1
  have hap := va_apart (own := κ.1.cls) (C := r.1) (T := r.2.1) (N := r.2.2) hts hok.1 (jv_ty t) hok.2.1 hok.2.2.1 hK hc
  obtain ⟨r', h1', cell, q1, q2, q3, q4⟩ := hat
  have hr : r' = r := Option.some.inj (h1'.symm.trans hc)
  subst hr
  obtain ⟨hSl, hfc, kC, hkC, hkind⟩ := hK.1 t _ hc
  obtain ⟨cf, kf, fi, f, hi, hsl⟩ := hSl k hk
  have hst := (u_facts hfc hkC (u_lays hts hok.1 hk) hi).1
  have hlink := hts _ hw
  have hi' : s.fieldFound? r'.1 (r'.2.1 k).2.1 (r'.2.1 k).2.2.1 = some (cf, kf, fi, f) := by
    rw [hok.2.2.2 k hk] at hi
    exact hi
  have fin : ∀ (H' : Heap) (locs1 : List Loc), H'[jv_base g + a]? = some (cell.setSlot f.slot (jv_mv g v)) → H'.size = H.size → (∀ q, q ≠ jv_base g + a → H'[q]? = H[q]?) → locs1 = locs ++ [⟨jv_base g + a, f.slot⟩] →
      W p (jv_l g) e R s m args below meth c H' locs1 cells slots Q (F0 m (pc + 3) ls (st.map (jv_mv g))) := by
    intro H' locs1 e1 e2 e3 e4
    rw [hsl] at e1
    refine h p e R s m args below meth c H' ls locs1 cells slots cm sm Q X (hR.upd e2 e3 ?_ ho) (by rw [e4]; exact hS.put e2 e3 (Nat.le_add_right _ _)) hL h1 h2 h3 h4 hE
    rw [jv_F_obj hT1 ht]
    refine ⟨_, hc, t_OB.to (V := updV (vp_V (jv_Fo (jv_base g) M t (jv_sh a).2 a)) k (jv_mv g v)) ⟨_, e1, q2, q3, t_set q4 hap hk _⟩ (fun j _ => ?_)⟩
    have hjl : jv_len t = r'.2.2 := by unfold jv_len; rw [hc]
    rw [jv_Fo_set (fun j hj => hM j (by omega))]
    exact vp_updV_set (by rw [jv_Fo_len]; omega) _ j
  rcases hfin r' hc with hf | ⟨hf, hin2, hown2⟩
  · have hlay := hts _ (hok.1 _ (u_in_lay hk))
    unfold u_lay at hlay
    rw [if_neg (by rw [hf]; decide)] at hlay
    have h6 := u_store hfc hkC hkind hlay hi (hok.2.1 k hk) hn hfit
    exact W.putK X.1 X.2.1 (f := f) ⟨hown, hlink, ⟨_, _, _, hi'⟩, hst⟩ (by rw [q2]; exact h6) q1 q3 (by rw [hsl]; exact k2_hasslot (q4 k hk)) rfl rfl hd fun H' e1 e2 e3 => fin H' _ e1 e2 e3 rfl
  · have hlay := hts _ (hok.1 _ (u_in_lay hk))
    unfold u_lay at hlay
    rw [if_pos hf] at hlay
    have hcf : m.cls = cf := by
      obtain ⟨_, _, c', _, _, _, -, -, hf', -, -, -, hown3, -⟩ := Cond.laysFinal_spec hlay
      have e1 : c' = cf := by have := hi.symm.trans hf'; simp at this; exact this.1.symm
      rw [hok.2.2.2 k hk, hown2] at hown3
      rw [← e1]; exact Option.some.inj (hown.symm.trans hown3)
    have h6 := u_fits hfc hkC hkind (Or.inr hlay) hi (hok.2.1 k hk) hn hfit
    exact W.putFinK X.1 X.2.1 hown hlink hi' hst hcf (X.2.2.2.2.2.2.2.1.trans hin2) (by rw [q2]; exact h6) q1 q3 (by rw [hsl]; exact k2_hasslot (q4 k hk)) rfl rfl hd fun H' e1 e2 e3 => fin H' _ e1 e2 e3 rfl
/-- a field that is no final one -/
def jv_nf (t k : Nat) : Prop := ∀ r, jv_cl[t]? = some r → (r.2.1 k).2.2.2 = false
theorem jv_putI {t k i a : Nat} {x : Int32} (hd : decode κ.2.1 pc = .ok (.putfield i, 3)) (hF : jv_FL κ.1.cls i t k) (hf : jv_nf t k) (hty : jv_ty t k = .int) (hT : jv_Tg t a N) (h : jv_J g d κ (pc + 3) L st (jv_si M a k x) N cr sr Z) : jv_J g d κ pc L (.int x :: .ref a :: st) M N cr sr Z := by
  have hft : jv_ft t k = 0 := by simp [jv_ft, hty]
  refine jv_put0 hd hF hT (fun r hr => Or.inl (hf r hr)) (by rw [hty]; rfl) (by rw [hty]; rfl) (fun j _ => ?_) (fun b hb => ?_) h
  · unfold jv_fv jv_si
    by_cases hj : j = k
    · subst hj; simp [hft, jv_mv]
    · simp [hj]
  · simp [jv_si, hb]
theorem jv_putZ {t k i a : Nat} {x : Int32} (hd : decode κ.2.1 pc = .ok (.putfield i, 3)) (hF : jv_FL κ.1.cls i t k) (hf : jv_nf t k) (hty : jv_ty t k = .boolean) (hT : jv_Tg t a N) (hx : x = 0 ∨ x = 1) (h : jv_J g d κ (pc + 3) L st (jv_si M a k x) N cr sr Z) : jv_J g d κ pc L (.int x :: .ref a :: st) M N cr sr Z := by
  have hft : jv_ft t k = 0 := by simp [jv_ft, hty]
  refine jv_put0 hd hF hT (fun r hr => Or.inl (hf r hr)) (by rw [hty]; rcases hx with rfl | rfl <;> rfl) (by rw [hty]; rcases hx with rfl | rfl <;> rfl) (fun j _ => ?_) (fun b hb => ?_) h
  · unfold jv_fv jv_si
    by_cases hj : j = k
    · subst hj; simp [hft, jv_mv]
    · simp [hj]
  · simp [jv_si, hb]
theorem jv_putL {t k i a : Nat} {x : Int64} (hd : decode κ.2.1 pc = .ok (.putfield i, 3)) (hF : jv_FL κ.1.cls i t k) (hf : jv_nf t k) (hty : jv_ty t k = .long) (hone : ∀ j, j < jv_len t → jv_ft t j = 2 → j = k) (hT : jv_Tg t a N) (h : jv_J g d κ (pc + 3) L st (jv_sl M a x) N cr sr Z) : jv_J g d κ pc L (.long x :: .ref a :: st) M N cr sr Z := by
  have hft : jv_ft t k = 2 := by simp [jv_ft, hty]
  refine jv_put0 hd hF hT (fun r hr => Or.inl (hf r hr)) (by rw [hty]; rfl) (by rw [hty]; rfl) (fun j hjl => ?_) (fun b hb => ?_) h
  · unfold jv_fv jv_sl
    by_cases hj : j = k
    · subst hj; simp [hft, jv_mv]
    · have : jv_ft t j ≠ 2 := fun q => hj (hone j hjl q)
      simp [hj, this]
  · simp [jv_sl, hb]
/-- the constructors' stores of references -/
theorem jv_putR {t k i a b : Nat} (hd : decode κ.2.1 pc = .ok (.putfield i, 3)) (hF : jv_FL κ.1.cls i t k) (hft : jv_ft t k = 1) (hfin : ∀ r, jv_cl[t]? = some r → (r.2.1 k).2.2.2 = false ∨ ((r.2.1 k).2.2.2 = true ∧ κ.1.name = "<init>" ∧ r.1 = κ.1.cls)) (hT : jv_Tg t a N) (h : jv_J g d κ (pc + 3) L st (jv_sr M a k (some b)) N cr sr Z) : jv_J g d κ pc L (.ref b :: .ref a :: st) M N cr sr Z := by
  have hty : (∃ q, jv_ty t k = .array q) ∨ (∃ q, jv_ty t k = .object q) := by
    unfold jv_ft at hft
    split at hft
    · cases hft
    · rename_i q hq; exact Or.inl ⟨q, hq⟩
    · rename_i q hq; exact Or.inr ⟨q, hq⟩
    · cases hft
  refine jv_put0 hd hF hT hfin (by rcases hty with ⟨q, hq⟩ | ⟨q, hq⟩ <;> rw [hq] <;> rfl) (by rcases hty with ⟨q, hq⟩ | ⟨q, hq⟩ <;> rw [hq] <;> rfl) (fun j _ => ?_) (fun b' hb => ?_) h
  · unfold jv_fv jv_sr
    by_cases hj : j = k
    · subst hj; simp [hft, jv_mv, jv_rf]
    · simp [hj]
  · simp [jv_sr, hb]
end JM
