/-! ===== how a text is read ===== -/
def kbind {α β : Type} (r : Nat × Option α) (f : Nat → α → Nat × Option β) : Nat × Option β := match r.2 with
  | none => (r.1, none)
  | some v => f r.1 v
theorem kb_n {α β : Type} (a : Nat) (f : Nat → α → Nat × Option β) : kbind (a, none) f = (a, none) := rfl
theorem kb_s {α β : Type} (a : Nat) (v : α) (f : Nat → α → Nat × Option β) : kbind (a, some v) f = f a v := rfl
/-- one of n letters from lo on -/
def tk (T : Tt) (lo n a : Nat) : Nat × Option Nat := if a < T.1 ∧ lo ≤ nx (T.2 a) ∧ nx (T.2 a) < lo + n then (a + 1, some (nx (T.2 a) - lo)) else (a, none)
def kd (c : Nat) : Nat := if c = 97 then 1 else if c = 100 then 2 else if c = 99 then 3 else if c = 108 then 4 else if c = 119 then 5 else if c = 106 then 6 else if c = 122 then 7 else if c = 98 then 8 else 0
def tkd (T : Tt) (a : Nat) : Nat × Option Nat := if a < T.1 ∧ kd (nx (T.2 a)) ≠ 0 then (a + 1, some (kd (nx (T.2 a)))) else (a, none)
def sec (k : Nat) : Nat := [0, 10, 0, 4, 8, 8, 16, 0, 0].getD k 0
def B_i (B : Bd) (u : Nat) : Bd := (bd_nc B + 1, nu (bd_code B) (bd_nc B) u, bd_nh B, bd_first B, bd_group B, bd_nt B, bd_whose B)
def B_h (B : Bd) (f gr : Nat) : Bd := (bd_nc B, bd_code B, bd_nh B + 1, pu (bd_first B) (bd_nh B) (nI f), pu (bd_group B) (bd_nh B) (nI gr), bd_nt B, bd_whose B)
def B_t (B : Bd) (o : Nat) : Bd := (bd_nc B, bd_code B, bd_nh B, bd_first B, bd_group B, bd_nt B + 1, nu (bd_whose B) (bd_nt B) o)
def rd_i (T : Tt) (a : Nat) (B : Bd) (p : Pg) : Nat × Option (Bd × Pg) :=
  if bd_nc B = 16 then (a, none) else kbind (tkd T (a + 1)) fun a k => kbind (if k < 7 then tk T 48 4 a else (a, some 0)) fun a f => kbind (if 0 < sec k then tk T (if k = 6 then 97 else 48) (sec k) a else (a, some 0)) fun a v => (a, some (B_i B (1000 * k + 100 * f + v), p))
def rd_h (T : Tt) (a : Nat) (B : Bd) (p : Pg) : Nat × Option (Bd × Pg) :=
  if bd_nh B = 4 then (a, none) else kbind (tk T 97 16 (a + 1)) fun a f => kbind (tk T 48 3 a) fun a gr => (a, some (B_h B f gr, pu p (8 * bd_nh B) (nI f)))
def rd_v (T : Tt) (a : Nat) : Nat × Option Nat := kbind (tk T 48 10 a) fun a v1 => kbind (tk T 48 10 a) fun a v2 => kbind (tk T 48 10 a) fun a v3 => (a, some (v1 * 100 + v2 * 10 + v3))
def rd_t (T : Tt) (ch a : Nat) (B : Bd) (p : Pg) : Nat × Option (Bd × Pg) :=
  if bd_nt B = 6 ∨ bd_nh B = 0 then (a, none) else kbind (tk T 48 (bd_nh B) (a + 1)) fun a o => kbind (tk T 112 2 a) fun a k => kbind (if k = 0 then tk T 97 16 a else tk T 48 4 a) fun a x => kbind (if k = 0 then (a, some 0) else rd_v T a) fun a v => kbind (tk T 49 9 a) fun a c => (a, some (B_t B o, P_set p (bd_nt B) (nI k) (nI x) (nI v) (nI (1 + c)) (nI ch)))
def rd_p (T : Tt) (a : Nat) (B : Bd) (p : Pg) : Nat × Option (Bd × Pg) :=
  if nx (T.2 a) = 105 then rd_i T a B p else if nx (T.2 a) = 104 then rd_h T a B p else if nx (T.2 a) = 116 then rd_t T 0 a B p else if nx (T.2 a) = 84 then rd_t T 1 a B p else (a, none)
def rd_l (T : Tt) : Nat → Nat → Bd → Pg → Nat × Option (Bd × Pg)
  | 0, a, B, p => (a, some (B, p))
  | f + 1, a, B, p => if a < T.1 then kbind (rd_p T a B p) (fun a q => rd_l T f a q.1 q.2) else (a, some (B, p))
def B0 (D : Dt) : Bd := (0, D.1, 0, D.2.1, D.2.2.1, 0, D.2.2.2)
def p0 : Pg := fun _ => nI 0
def rd (T : Tt) (D : Dt) : Nat × Option (Bd × Pg) := kbind (tk T 82 1 0) (fun a _ => rd_l T 150 a (B0 D) p0)
def s_fault (T : Tt) (D : Dt) : Int32 := match (rd T D).2 with
  | none => nI (rd T D).1
  | some _ => -9
/-- what a text is: letters below 256 -/
def TOK (T : Tt) : Prop := T.1 ≤ 150 ∧ ∀ i, i < T.1 → ∃ n, n < 256 ∧ T.2 i = nI n
theorem tk_y {T : Tt} {lo n a v : Nat} (ha : a < T.1) (e : nx (T.2 a) = lo + v) (hv : v < n) : tk T lo n a = (a + 1, some v) := by
  unfold tk
  rw [if_pos ⟨ha, by omega, by omega⟩, e, Nat.add_sub_cancel_left]
theorem tk_n {T : Tt} {lo n a : Nat} (h : ¬ (a < T.1 ∧ lo ≤ nx (T.2 a) ∧ nx (T.2 a) < lo + n)) : tk T lo n a = (a, none) := if_neg h
theorem tk_cases (T : Tt) (lo n a : Nat) : (∃ v, v < n ∧ a < T.1 ∧ nx (T.2 a) = lo + v ∧ tk T lo n a = (a + 1, some v)) ∨ (¬ (a < T.1 ∧ lo ≤ nx (T.2 a) ∧ nx (T.2 a) < lo + n) ∧ tk T lo n a = (a, none)) := by
  by_cases h : a < T.1 ∧ lo ≤ nx (T.2 a) ∧ nx (T.2 a) < lo + n
  · refine Or.inl ⟨nx (T.2 a) - lo, by omega, h.1, by omega, ?_⟩
    exact tk_y h.1 (by omega) (by omega)
  · exact Or.inr ⟨h, tk_n h⟩
theorem tkd_cases (T : Tt) (a : Nat) : (∃ k, 1 ≤ k ∧ k ≤ 8 ∧ a < T.1 ∧ kd (nx (T.2 a)) = k ∧ tkd T a = (a + 1, some k)) ∨ (¬ (a < T.1 ∧ kd (nx (T.2 a)) ≠ 0) ∧ tkd T a = (a, none)) := by
  by_cases h : a < T.1 ∧ kd (nx (T.2 a)) ≠ 0
  · refine Or.inl ⟨kd (nx (T.2 a)), by omega, ?_, h.1, rfl, ?_⟩
    · unfold kd
      repeat' split
      all_goals omega
    · unfold tkd; rw [if_pos h]
  · refine Or.inr ⟨h, ?_⟩
    unfold tkd; rw [if_neg h]
/-- what holds while a text is read -/
def RI (B : Bd) (p : Pg) : Prop := BV2 B ∧ POK B 0 p ∧ (∀ j, (j < 32 ∧ j % 8 ≠ 0) ∨ (32 ≤ j ∧ j < 40) ∨ 76 ≤ j → p j = nI 0) ∧ ∀ h, h < bd_nh B → p (8 * h) = bd_first B h
theorem sec_le : ∀ k, k < 9 → sec k ≤ 16 := by decide
theorem CV_i {k f v : Nat} (h1 : 1 ≤ k) (h8 : k ≤ 8) (hf : f < (if k < 7 then 4 else 1)) (hv : v < (if 0 < sec k then sec k else 1)) : CV (1000 * k + 100 * f + v) := by
  unfold CV
  have hd : (1000 * k + 100 * f + v) / 1000 = k ∧ (1000 * k + 100 * f + v) / 100 % 10 = f ∧ (1000 * k + 100 * f + v) % 100 = v := by
    have := sec_le k (by omega)
    split at hf <;> split at hv <;> omega
  rw [hd.1, hd.2.1, hd.2.2]
  rcases (by omega : k = 1 ∨ k = 2 ∨ k = 3 ∨ k = 4 ∨ k = 5 ∨ k = 6 ∨ k = 7 ∨ k = 8) with rfl | rfl | rfl | rfl | rfl | rfl | rfl | rfl <;> simp [sec] at hf hv <;> omega
theorem RI_i {B : Bd} {p : Pg} (h : RI B p) {k f v : Nat} (h16 : bd_nc B ≠ 16) (h1 : 1 ≤ k) (h8 : k ≤ 8) (hf : f < (if k < 7 then 4 else 1)) (hv : v < (if 0 < sec k then sec k else 1)) : RI (B_i B (1000 * k + 100 * f + v)) p := by
  obtain ⟨⟨⟨b1, b2, b3, b4, b5⟩, b6, b7, b8, b9⟩, P, z, f1⟩ := h
  have c := CV_i h1 h8 hf hv
  refine ⟨⟨⟨?_, b2, b3, b4, fun j => ?_⟩, fun j hj => ?_, b7, b8, b9⟩, P, z, f1⟩
  · show bd_nc B + 1 ≤ 16; omega
  · show nu (bd_code B) (bd_nc B) _ j < 10000
    unfold nu
    split
    · have := c.2.1; omega
    · exact b5 j
  · show CV (nu (bd_code B) (bd_nc B) _ j)
    have hj : j < bd_nc B + 1 := hj
    unfold nu
    split
    · exact c
    · exact b6 j (by omega)
theorem OKv_more {B B' : Bd} {j : Nat} {x : Int32} (h : OKv B 0 j x) (ht : 40 ≤ j → j < 40 + 6 * bd_nt B' → j < 40 + 6 * bd_nt B) : OKv B' 0 j x := by
  obtain ⟨n, en, n1, n2, n3, n4, n5, n6, n7⟩ := h
  exact ⟨n, en, n1, n2, fun h40 hlt => n3 h40 (ht h40 hlt), n4, n5, n6, fun h81 hlt => absurd (show j < 81 from hlt) (Nat.not_lt.mpr h81)⟩
theorem OKn_s0 {B : Bd} {t n : Nat} (h : t < 6) (hn : n ≤ 1) : OKn B 0 (40 + 6 * t) n := by unfold OKn; omega
theorem OKn_s1 {B : Bd} {t n : Nat} (h : t < 6) (hn : n < 16) : OKn B 0 (40 + 6 * t + 1) n := by unfold OKn; omega
theorem OKn_s2 {B : Bd} {t n : Nat} (h : t < 6) (hn : n < 1000) : OKn B 0 (40 + 6 * t + 2) n := by unfold OKn; omega
theorem OKn_s3 {B : Bd} {t n : Nat} (h : t < 6) (hn : 1 ≤ n ∧ n ≤ 9) : OKn B 0 (40 + 6 * t + 3) n := by unfold OKn; omega
theorem OKn_s4 {B : Bd} {t n : Nat} (h : t < 6) (hn : 1 ≤ n ∧ n ≤ 9) : OKn B 0 (40 + 6 * t + 4) n := by unfold OKn; omega
theorem OKn_s5 {B : Bd} {t n : Nat} (h : t < 6) (hn : n ≤ 1) : OKn B 0 (40 + 6 * t + 5) n := by unfold OKn; omega
theorem OKn_h {B : Bd} {t n : Nat} (h : t < 4) (hn : n < 16) : OKn B 0 (8 * t) n := by unfold OKn; omega
theorem RI_h {B : Bd} {p : Pg} (h : RI B p) {f gr : Nat} (h4 : bd_nh B ≠ 4) (hf : f < 16) (hg : gr < 3) : RI (B_h B f gr) (pu p (8 * bd_nh B) (nI f)) := by
  obtain ⟨⟨⟨b1, b2, b3, b4, b5⟩, b6, b7, b8, b9⟩, ⟨P0, P1, P2, P3, P4⟩, z, f1⟩ := h
  refine ⟨⟨⟨b1, ?_, b3, b4, b5⟩, b6, fun j => ?_, fun j => ?_, fun t ht => ?_⟩, ⟨P0, fun j => ?_, fun i hi => ?_, fun t ht => ?_, fun i hi => absurd hi (by omega)⟩, fun j hj => ?_, fun i hi => ?_⟩
  · show bd_nh B + 1 ≤ 4; omega
  · show ∃ n, n < 16 ∧ pu (bd_first B) (bd_nh B) (nI f) j = nI n
    unfold pu
    split
    · exact ⟨f, hf, rfl⟩
    · exact b7 j
  · show ∃ n, n ≤ 2 ∧ pu (bd_group B) (bd_nh B) (nI gr) j = nI n
    unfold pu
    split
    · exact ⟨gr, by omega, rfl⟩
    · exact b8 j
  · show bd_whose B t < bd_nh B + 1
    have := b9 t ht
    omega
  · by_cases hj : j = 8 * bd_nh B
    · subst hj
      rw [pu_s]
      exact ⟨f, rfl, OKn_h (by omega) hf⟩
    · rw [pu_n _ _ hj]
      exact OKv_more (P1 j) (fun _ h => h)
  · rw [pu_n _ _ (by omega), pu_n _ _ (by omega)]
    have hi : i < bd_nh B + 1 := hi
    intro _
    exact z _ (by omega)
  · have ht : t < bd_nt B := ht
    rw [pu_n _ _ (by omega), pu_n _ _ (by omega)]
    exact P3 t ht
  · rw [pu_n _ _ (by omega)]
    exact z j hj
  · have hi : i < bd_nh B + 1 := hi
    show pu p (8 * bd_nh B) (nI f) (8 * i) = pu (bd_first B) (bd_nh B) (nI f) i
    by_cases hih : i = bd_nh B
    · subst hih; rw [pu_s, pu_s]
    · rw [pu_n _ _ (by omega), pu_n _ _ hih]
      exact f1 i (by omega)
theorem RI_t {B : Bd} {p : Pg} (h : RI B p) {o k x v c ch : Nat} (h6 : bd_nt B ≠ 6) (ho : o < bd_nh B) (hk : k < 2) (hx : x < (if k = 0 then 16 else 4)) (hv : v < 1000) (hc : c < 9) (hch : ch ≤ 1) : RI (B_t B o) (P_set p (bd_nt B) (nI k) (nI x) (nI v) (nI (1 + c)) (nI ch)) := by
  obtain ⟨⟨⟨b1, b2, b3, b4, b5⟩, b6, b7, b8, b9⟩, ⟨P0, P1, P2, P3, P4⟩, z, f1⟩ := h
  have hx16 : x < 16 ∧ (k = 1 → x < 4) := by split at hx <;> omega
  have lo : ∀ j, (j < 40 + 6 * bd_nt B ∨ 40 + 6 * bd_nt B + 6 ≤ j) → P_set p (bd_nt B) (nI k) (nI x) (nI v) (nI (1 + c)) (nI ch) j = p j := fun j hj => by
    rw [P_set_at, if_neg (by omega), if_neg (by omega), if_neg (by omega), if_neg (by omega), if_neg (by omega), if_neg (by omega)]
  refine ⟨⟨⟨b1, b2, ?_, fun t => ?_, b5⟩, b6, b7, b8, fun t ht => ?_⟩, ⟨P0, fun j => ?_, fun i hi => ?_, fun t ht => ?_, fun i hi => absurd hi (by omega)⟩, fun j hj => ?_, fun i hi => ?_⟩
  · show bd_nt B + 1 ≤ 6; omega
  · show nu (bd_whose B) (bd_nt B) o t < 4
    unfold nu
    split
    · omega
    · exact b4 t
  · have ht : t < bd_nt B + 1 := ht
    show nu (bd_whose B) (bd_nt B) o t < bd_nh B
    unfold nu
    split
    · exact ho
    · exact b9 t (by omega)
  · have n6 : bd_nt B < 6 := by omega
    by_cases hj : j < 40 + 6 * bd_nt B ∨ 40 + 6 * bd_nt B + 6 ≤ j
    · rw [lo j hj]
      refine OKv_more (P1 j) (fun _ hlt => ?_)
      have hlt : j < 40 + 6 * (bd_nt B + 1) := hlt
      omega
    · obtain ⟨r, hr, ej⟩ : ∃ r, r < 6 ∧ j = 40 + 6 * bd_nt B + r := ⟨j - (40 + 6 * bd_nt B), by omega, by omega⟩
      clear P1 P2 P3 P4 z f1 lo hj
      rcases (by omega : r = 0 ∨ r = 1 ∨ r = 2 ∨ r = 3 ∨ r = 4 ∨ r = 5) with h | h | h | h | h | h
      all_goals subst h
      all_goals subst ej
      all_goals rw [P_set_at]
      · rw [if_pos (Nat.add_zero _), Nat.add_zero]; exact ⟨k, rfl, OKn_s0 n6 (by omega)⟩
      · rw [if_neg (by omega), if_pos rfl]; exact ⟨x, rfl, OKn_s1 n6 hx16.1⟩
      · rw [if_neg (by omega), if_neg (by omega), if_pos rfl]; exact ⟨v, rfl, OKn_s2 n6 hv⟩
      · rw [if_neg (by omega), if_neg (by omega), if_neg (by omega), if_pos rfl]; exact ⟨1 + c, rfl, OKn_s3 n6 (by omega)⟩
      · rw [if_neg (by omega), if_neg (by omega), if_neg (by omega), if_neg (by omega), if_pos rfl]; exact ⟨1 + c, rfl, OKn_s4 n6 (by omega)⟩
      · rw [if_neg (by omega), if_neg (by omega), if_neg (by omega), if_neg (by omega), if_neg (by omega), if_pos rfl]; exact ⟨ch, rfl, OKn_s5 n6 hch⟩
  · have hi : i < bd_nh B := hi
    rw [lo _ (by omega), lo _ (by omega)]
    exact P2 i hi
  · have ht : t < bd_nt B + 1 := ht
    by_cases htt : t = bd_nt B
    · subst htt
      rw [P_set_at, P_set_at, if_pos rfl, if_neg (by omega), if_pos rfl]
      intro e
      have := nI_inj (by omega) (by omega) e
      exact ⟨x, hx16.2 this, rfl⟩
    · rw [lo _ (by omega), lo _ (by omega)]
      exact P3 t (by omega)
  · rw [lo j (by omega)]
    exact z j hj
  · have hi : i < bd_nh B := hi
    rw [lo _ (by omega)]
    exact f1 i hi
