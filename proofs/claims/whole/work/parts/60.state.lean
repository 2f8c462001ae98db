/-! ===== a State: 33 cells from σ on ===== -/
def st_bases : List Nat := [7, 44, 77, 112, 145, 178, 211, 244, 277, 310, 343, 376, 409, 442, 475, 508, 541, 581, 614]
def st_shl : List (Nat × Nat) := [(6, 8), (0, 5), (14, 12), (11, 2), (2, 7), (2, 7), (2, 7), (2, 7), (2, 7), (2, 7), (2, 7), (2, 7), (2, 7), (2, 7), (2, 7), (2, 7), (13, 4), (16, 6), (11, 8), (1, 7), (11, 4), (1, 7), (11, 4), (1, 7), (11, 4), (1, 7), (11, 4), (8, 7), (8, 7), (8, 7), (8, 7), (8, 7), (8, 7)]
def st_sh (k : Nat) : Nat × Nat := st_shl.getD k (99, 0)
theorem st_sh_at : ∀ σ ∈ st_bases, ∀ k, k < 33 → jv_sh (σ + k) = st_sh k ∧ σ + k < 668 := by decide +kernel
theorem st_shH : ∀ h, h < 4 → st_sh (19 + 2 * h) = (1, 7) ∧ st_sh (20 + 2 * h) = (11, 4) := by decide +kernel
theorem st_shT : ∀ t, t < 6 → st_sh (27 + t) = (8, 7) := by decide +kernel
theorem st_shO : ∀ j, j < 12 → st_sh (4 + j) = (2, 7) := by decide +kernel
section ST
variable {σ : Nat} (hσ : σ ∈ st_bases)
theorem tS (k t n : Nat) (hk : k < 33) (h : st_sh k = (t, n)) (hσ : σ ∈ st_bases) : jv_Tg t (σ + k) 668 ∧ (jv_sh (σ + k)).2 = n := by
  obtain ⟨h1, h2⟩ := st_sh_at σ hσ k hk
  rw [h] at h1
  exact ⟨⟨by rw [h1], h2⟩, by rw [h1]⟩
theorem t_S0 (hσ : σ ∈ st_bases) : jv_Tg 6 σ 668 := (tS 0 6 8 (by decide) (by decide +kernel) hσ).1
theorem t_S1 (hσ : σ ∈ st_bases) : jv_Tg 0 (σ + 1) 668 := (tS 1 0 5 (by decide) (by decide +kernel) hσ).1
theorem t_S2 (hσ : σ ∈ st_bases) : jv_Tg 14 (σ + 2) 668 := (tS 2 14 12 (by decide) (by decide +kernel) hσ).1
theorem l_S2 (hσ : σ ∈ st_bases) : (jv_sh (σ + 2)).2 = 12 := (tS 2 14 12 (by decide) (by decide +kernel) hσ).2
theorem t_S3 (hσ : σ ∈ st_bases) : jv_Tg 11 (σ + 3) 668 := (tS 3 11 2 (by decide) (by decide +kernel) hσ).1
theorem l_S3 (hσ : σ ∈ st_bases) : (jv_sh (σ + 3)).2 = 2 := (tS 3 11 2 (by decide) (by decide +kernel) hσ).2
theorem t_S16 (hσ : σ ∈ st_bases) : jv_Tg 13 (σ + 16) 668 := (tS 16 13 4 (by decide) (by decide +kernel) hσ).1
theorem l_S16 (hσ : σ ∈ st_bases) : (jv_sh (σ + 16)).2 = 4 := (tS 16 13 4 (by decide) (by decide +kernel) hσ).2
theorem t_S17 (hσ : σ ∈ st_bases) : jv_Tg 16 (σ + 17) 668 := (tS 17 16 6 (by decide) (by decide +kernel) hσ).1
theorem l_S17 (hσ : σ ∈ st_bases) : (jv_sh (σ + 17)).2 = 6 := (tS 17 16 6 (by decide) (by decide +kernel) hσ).2
theorem t_S18 (hσ : σ ∈ st_bases) : jv_Tg 11 (σ + 18) 668 := (tS 18 11 8 (by decide) (by decide +kernel) hσ).1
theorem l_S18 (hσ : σ ∈ st_bases) : (jv_sh (σ + 18)).2 = 8 := (tS 18 11 8 (by decide) (by decide +kernel) hσ).2
theorem t_SO (hσ : σ ∈ st_bases) {j : Nat} (hj : j < 12) : jv_Tg 2 (σ + 4 + j) 668 := by rw [Nat.add_assoc]; exact (tS (4 + j) 2 7 (by omega) (st_shO j hj) hσ).1
theorem t_SH (hσ : σ ∈ st_bases) {h : Nat} (hh : h < 4) : jv_Tg 1 (σ + 19 + 2 * h) 668 := by rw [Nat.add_assoc]; exact (tS (19 + 2 * h) 1 7 (by omega) (st_shH h hh).1 hσ).1
theorem t_SR (hσ : σ ∈ st_bases) {h : Nat} (hh : h < 4) : jv_Tg 11 (σ + 20 + 2 * h) 668 := by rw [Nat.add_assoc]; exact (tS (20 + 2 * h) 11 4 (by omega) (st_shH h hh).2 hσ).1
theorem l_SR (hσ : σ ∈ st_bases) {h : Nat} (hh : h < 4) : (jv_sh (σ + 20 + 2 * h)).2 = 4 := by rw [Nat.add_assoc]; exact (tS (20 + 2 * h) 11 4 (by omega) (st_shH h hh).2 hσ).2
theorem t_ST (hσ : σ ∈ st_bases) {t : Nat} (ht : t < 6) : jv_Tg 8 (σ + 27 + t) 668 := by rw [Nat.add_assoc]; exact (tS (27 + t) 8 7 (by omega) (st_shT t ht) hσ).1
end ST
/-- what its cells hold, by offset and place -/
abbrev SV : Type := Nat → Nat → Int32
def vu (V : SV) (k j : Nat) (x : Int32) : SV := fun k' j' => if k' = k ∧ j' = j then x else V k' j'
def nu (f : Nat → Nat) (k x : Nat) : Nat → Nat := fun j => if j = k then x else f j
theorem vu_s (V : SV) (k j : Nat) (x : Int32) : vu V k j x k j = x := by simp [vu]
theorem vu_k (V : SV) {k j k' j' : Nat} (x : Int32) (h : k' ≠ k) : vu V k j x k' j' = V k' j' := by simp [vu, h]
theorem vu_j (V : SV) {k j k' j' : Nat} (x : Int32) (h : j' ≠ j) : vu V k j x k' j' = V k' j' := by simp [vu, h]
/-- the memory with the State at σ holding V, its queue the objects π 0, π 1 .. -/
def sw (M : jv_Mem) (σ : Nat) (V : SV) (π : Nat → Nat) : jv_Mem := (fun b j => if σ ≤ b ∧ b < σ + 33 then V (b - σ) j else M.1 b j, fun b j => if b = σ + 2 then some (σ + 4 + π j) else M.2.1 b j, M.2.2)
/-- its references, but for the queue's -/
def SX (M : jv_Mem) (σ : Nat) : Prop := σ ∈ st_bases ∧ M.2.1 σ 0 = some (σ + 1) ∧ M.2.1 σ 1 = some (σ + 16) ∧ M.2.1 σ 2 = some (σ + 17) ∧ M.2.1 σ 3 = some (σ + 18) ∧ M.2.1 (σ + 1) 0 = some (σ + 2) ∧ M.2.1 (σ + 1) 1 = some (σ + 3) ∧ (∀ h, h < 4 → M.2.1 (σ + 16) h = some (σ + 19 + 2 * h)) ∧ (∀ t, t < 6 → M.2.1 (σ + 17) t = some (σ + 27 + t)) ∧ ∀ h, h < 4 → M.2.1 (σ + 19 + 2 * h) 0 = some (σ + 20 + 2 * h)
section SW
variable {M : jv_Mem} {σ : Nat} {V : SV} {π : Nat → Nat}
theorem sw_0  (j : Nat) : (sw M σ V π).1 σ j = V 0 j := by
  show (if σ ≤ σ ∧ σ < σ + 33 then V (σ - σ) j else M.1 σ j) = V 0 j
  rw [if_pos (by omega), show σ - σ = 0 by omega]
theorem wi_0  (j : Nat) (x : Int32) : jv_si (sw M σ V π) σ j x = sw M σ (vu V 0 j x) π := by
  unfold jv_si sw
  congr 1
  funext b i
  show (if b = σ ∧ i = j then x else if σ ≤ b ∧ b < σ + 33 then V (b - σ) i else M.1 b i) = if σ ≤ b ∧ b < σ + 33 then vu V 0 j x (b - σ) i else M.1 b i
  unfold vu
  by_cases hb : σ ≤ b ∧ b < σ + 33
  · rw [if_pos hb, if_pos hb]
    by_cases hc : b = σ ∧ i = j
    · rw [if_pos hc, if_pos ⟨by omega, hc.2⟩]
    · rw [if_neg hc, if_neg (fun z => hc ⟨by omega, z.2⟩)]
  · rw [if_neg hb, if_neg hb, if_neg (fun z => hb (by omega))]
theorem sw_1  (j : Nat) : (sw M σ V π).1 (σ + 1) j = V 1 j := by
  show (if σ ≤ (σ + 1) ∧ (σ + 1) < σ + 33 then V ((σ + 1) - σ) j else M.1 (σ + 1) j) = V 1 j
  rw [if_pos (by omega), show (σ + 1) - σ = 1 by omega]
theorem wi_1  (j : Nat) (x : Int32) : jv_si (sw M σ V π) (σ + 1) j x = sw M σ (vu V 1 j x) π := by
  unfold jv_si sw
  congr 1
  funext b i
  show (if b = (σ + 1) ∧ i = j then x else if σ ≤ b ∧ b < σ + 33 then V (b - σ) i else M.1 b i) = if σ ≤ b ∧ b < σ + 33 then vu V 1 j x (b - σ) i else M.1 b i
  unfold vu
  by_cases hb : σ ≤ b ∧ b < σ + 33
  · rw [if_pos hb, if_pos hb]
    by_cases hc : b = (σ + 1) ∧ i = j
    · rw [if_pos hc, if_pos ⟨by omega, hc.2⟩]
    · rw [if_neg hc, if_neg (fun z => hc ⟨by omega, z.2⟩)]
  · rw [if_neg hb, if_neg hb, if_neg (fun z => hb (by omega))]
theorem sw_3  (j : Nat) : (sw M σ V π).1 (σ + 3) j = V 3 j := by
  show (if σ ≤ (σ + 3) ∧ (σ + 3) < σ + 33 then V ((σ + 3) - σ) j else M.1 (σ + 3) j) = V 3 j
  rw [if_pos (by omega), show (σ + 3) - σ = 3 by omega]
theorem wi_3  (j : Nat) (x : Int32) : jv_si (sw M σ V π) (σ + 3) j x = sw M σ (vu V 3 j x) π := by
  unfold jv_si sw
  congr 1
  funext b i
  show (if b = (σ + 3) ∧ i = j then x else if σ ≤ b ∧ b < σ + 33 then V (b - σ) i else M.1 b i) = if σ ≤ b ∧ b < σ + 33 then vu V 3 j x (b - σ) i else M.1 b i
  unfold vu
  by_cases hb : σ ≤ b ∧ b < σ + 33
  · rw [if_pos hb, if_pos hb]
    by_cases hc : b = (σ + 3) ∧ i = j
    · rw [if_pos hc, if_pos ⟨by omega, hc.2⟩]
    · rw [if_neg hc, if_neg (fun z => hc ⟨by omega, z.2⟩)]
  · rw [if_neg hb, if_neg hb, if_neg (fun z => hb (by omega))]
theorem sw_18  (j : Nat) : (sw M σ V π).1 (σ + 18) j = V 18 j := by
  show (if σ ≤ (σ + 18) ∧ (σ + 18) < σ + 33 then V ((σ + 18) - σ) j else M.1 (σ + 18) j) = V 18 j
  rw [if_pos (by omega), show (σ + 18) - σ = 18 by omega]
theorem wi_18  (j : Nat) (x : Int32) : jv_si (sw M σ V π) (σ + 18) j x = sw M σ (vu V 18 j x) π := by
  unfold jv_si sw
  congr 1
  funext b i
  show (if b = (σ + 18) ∧ i = j then x else if σ ≤ b ∧ b < σ + 33 then V (b - σ) i else M.1 b i) = if σ ≤ b ∧ b < σ + 33 then vu V 18 j x (b - σ) i else M.1 b i
  unfold vu
  by_cases hb : σ ≤ b ∧ b < σ + 33
  · rw [if_pos hb, if_pos hb]
    by_cases hc : b = (σ + 18) ∧ i = j
    · rw [if_pos hc, if_pos ⟨by omega, hc.2⟩]
    · rw [if_neg hc, if_neg (fun z => hc ⟨by omega, z.2⟩)]
  · rw [if_neg hb, if_neg hb, if_neg (fun z => hb (by omega))]
theorem sw_o {q : Nat} (hq : q < 12) (j : Nat) : (sw M σ V π).1 (σ + 4 + q) j = V (4 + q) j := by
  show (if σ ≤ (σ + 4 + q) ∧ (σ + 4 + q) < σ + 33 then V ((σ + 4 + q) - σ) j else M.1 (σ + 4 + q) j) = V (4 + q) j
  rw [if_pos (by omega), show (σ + 4 + q) - σ = (4 + q) by omega]
theorem wi_o {q : Nat} (hq : q < 12) (j : Nat) (x : Int32) : jv_si (sw M σ V π) (σ + 4 + q) j x = sw M σ (vu V (4 + q) j x) π := by
  unfold jv_si sw
  congr 1
  funext b i
  show (if b = (σ + 4 + q) ∧ i = j then x else if σ ≤ b ∧ b < σ + 33 then V (b - σ) i else M.1 b i) = if σ ≤ b ∧ b < σ + 33 then vu V (4 + q) j x (b - σ) i else M.1 b i
  unfold vu
  by_cases hb : σ ≤ b ∧ b < σ + 33
  · rw [if_pos hb, if_pos hb]
    by_cases hc : b = (σ + 4 + q) ∧ i = j
    · rw [if_pos hc, if_pos ⟨by omega, hc.2⟩]
    · rw [if_neg hc, if_neg (fun z => hc ⟨by omega, z.2⟩)]
  · rw [if_neg hb, if_neg hb, if_neg (fun z => hb (by omega))]
theorem sw_h {q : Nat} (hq : q < 4) (j : Nat) : (sw M σ V π).1 (σ + 19 + 2 * q) j = V (19 + 2 * q) j := by
  show (if σ ≤ (σ + 19 + 2 * q) ∧ (σ + 19 + 2 * q) < σ + 33 then V ((σ + 19 + 2 * q) - σ) j else M.1 (σ + 19 + 2 * q) j) = V (19 + 2 * q) j
  rw [if_pos (by omega), show (σ + 19 + 2 * q) - σ = (19 + 2 * q) by omega]
theorem wi_h {q : Nat} (hq : q < 4) (j : Nat) (x : Int32) : jv_si (sw M σ V π) (σ + 19 + 2 * q) j x = sw M σ (vu V (19 + 2 * q) j x) π := by
  unfold jv_si sw
  congr 1
  funext b i
  show (if b = (σ + 19 + 2 * q) ∧ i = j then x else if σ ≤ b ∧ b < σ + 33 then V (b - σ) i else M.1 b i) = if σ ≤ b ∧ b < σ + 33 then vu V (19 + 2 * q) j x (b - σ) i else M.1 b i
  unfold vu
  by_cases hb : σ ≤ b ∧ b < σ + 33
  · rw [if_pos hb, if_pos hb]
    by_cases hc : b = (σ + 19 + 2 * q) ∧ i = j
    · rw [if_pos hc, if_pos ⟨by omega, hc.2⟩]
    · rw [if_neg hc, if_neg (fun z => hc ⟨by omega, z.2⟩)]
  · rw [if_neg hb, if_neg hb, if_neg (fun z => hb (by omega))]
theorem sw_r {q : Nat} (hq : q < 4) (j : Nat) : (sw M σ V π).1 (σ + 20 + 2 * q) j = V (20 + 2 * q) j := by
  show (if σ ≤ (σ + 20 + 2 * q) ∧ (σ + 20 + 2 * q) < σ + 33 then V ((σ + 20 + 2 * q) - σ) j else M.1 (σ + 20 + 2 * q) j) = V (20 + 2 * q) j
  rw [if_pos (by omega), show (σ + 20 + 2 * q) - σ = (20 + 2 * q) by omega]
theorem wi_r {q : Nat} (hq : q < 4) (j : Nat) (x : Int32) : jv_si (sw M σ V π) (σ + 20 + 2 * q) j x = sw M σ (vu V (20 + 2 * q) j x) π := by
  unfold jv_si sw
  congr 1
  funext b i
  show (if b = (σ + 20 + 2 * q) ∧ i = j then x else if σ ≤ b ∧ b < σ + 33 then V (b - σ) i else M.1 b i) = if σ ≤ b ∧ b < σ + 33 then vu V (20 + 2 * q) j x (b - σ) i else M.1 b i
  unfold vu
  by_cases hb : σ ≤ b ∧ b < σ + 33
  · rw [if_pos hb, if_pos hb]
    by_cases hc : b = (σ + 20 + 2 * q) ∧ i = j
    · rw [if_pos hc, if_pos ⟨by omega, hc.2⟩]
    · rw [if_neg hc, if_neg (fun z => hc ⟨by omega, z.2⟩)]
  · rw [if_neg hb, if_neg hb, if_neg (fun z => hb (by omega))]
theorem sw_t {q : Nat} (hq : q < 6) (j : Nat) : (sw M σ V π).1 (σ + 27 + q) j = V (27 + q) j := by
  show (if σ ≤ (σ + 27 + q) ∧ (σ + 27 + q) < σ + 33 then V ((σ + 27 + q) - σ) j else M.1 (σ + 27 + q) j) = V (27 + q) j
  rw [if_pos (by omega), show (σ + 27 + q) - σ = (27 + q) by omega]
theorem wi_t {q : Nat} (hq : q < 6) (j : Nat) (x : Int32) : jv_si (sw M σ V π) (σ + 27 + q) j x = sw M σ (vu V (27 + q) j x) π := by
  unfold jv_si sw
  congr 1
  funext b i
  show (if b = (σ + 27 + q) ∧ i = j then x else if σ ≤ b ∧ b < σ + 33 then V (b - σ) i else M.1 b i) = if σ ≤ b ∧ b < σ + 33 then vu V (27 + q) j x (b - σ) i else M.1 b i
  unfold vu
  by_cases hb : σ ≤ b ∧ b < σ + 33
  · rw [if_pos hb, if_pos hb]
    by_cases hc : b = (σ + 27 + q) ∧ i = j
    · rw [if_pos hc, if_pos ⟨by omega, hc.2⟩]
    · rw [if_neg hc, if_neg (fun z => hc ⟨by omega, z.2⟩)]
  · rw [if_neg hb, if_neg hb, if_neg (fun z => hb (by omega))]
theorem sw_q (j : Nat) : (sw M σ V π).2.1 (σ + 2) j = some (σ + 4 + π j) := by simp [sw]
theorem sw_ref {b : Nat} (hb : b ≠ σ + 2) (j : Nat) : (sw M σ V π).2.1 b j = M.2.1 b j := by simp [sw, hb]
theorem wr_q (i j : Nat) : jv_sr (sw M σ V π) (σ + 2) i (some (σ + 4 + j)) = sw M σ V (nu π i j) := by
  unfold jv_sr sw
  congr 1
  congr 1
  funext b k
  by_cases hb : b = σ + 2
  · subst hb; by_cases hk : k = i <;> simp [nu, hk]
  · simp [hb]
theorem sw_out {b : Nat} (hb : b < σ ∨ σ + 33 ≤ b) (j : Nat) : (sw M σ V π).1 b j = M.1 b j := by
  show (if σ ≤ b ∧ b < σ + 33 then _ else _) = _
  rw [if_neg (by omega)]
end SW
