/-! ===== lost ===== -/
def kl (left : Int32) (k n : Nat) : List Nat := (List.range' k n).filter (fun i => P_bit left i)
def L_pg (left : Int32) (m : Nat) (p : Pg) : Nat → Pg
  | 0 => p
  | j + 1 => if P_bit left (m - 1 - j) = true then L_pg left m p j else P_drop (L_pg left m p j) (m - 1 - j)
def L_end (B : Bd) (p : Pg) (m l : Nat) : Bool := decide (P_hset (PT B (nI 63) 10 (L_pg (nI l) m p m)) (bd_nh B) = nI (2 ^ bd_nh B - 1))
def L_w (x m l : Nat) : Nat := (10 - x) ^ pcn l 8 * x ^ (m - pcn l 8)
def L_t (B : Bd) (p : Pg) (x m l : Nat) : Nat := if L_end B p m l = true then L_w x m l else 0
def s_lost (B : Bd) (p : Pg) (x y : Int32) : Int32 := if bl x 11 = true then frac ((sumN (L_t B p (nx x) (nx (p 80))) (2 ^ nx (p 80)) : Nat) : Int) (10 ^ nx (p 80)) y else -2
theorem kl_s (left : Int32) (k n : Nat) : kl left k (n + 1) = if P_bit left k = true then k :: kl left (k + 1) n else kl left (k + 1) n := by
  unfold kl
  rw [List.range'_succ, List.filter_cons]
theorem kl_len (left : Int32) (k n : Nat) : (kl left k n).length ≤ n := by
  have := List.length_filter_le (fun i => P_bit left i) (List.range' k n)
  rw [List.length_range'] at this
  exact this
theorem L_w_sum : ∀ x, x < 11 → ∀ m, m < 9 → sumN (L_w x m) (2 ^ m) = 10 ^ m := by decide +kernel
theorem sumN_mono {f h : Nat → Nat} (le : ∀ i, f i ≤ h i) : ∀ n, sumN f n ≤ sumN h n
  | 0 => Nat.le_refl _
  | n + 1 => Nat.add_le_add (sumN_mono le n) (le n)
theorem sumN_up (f : Nat → Nat) (n : Nat) : ∀ k, sumN f n ≤ sumN f (n + k)
  | 0 => Nat.le_refl _
  | k + 1 => Nat.le_trans (sumN_up f n k) (Nat.le_add_right _ _)
theorem sumN_first (f : Nat → Nat) : ∀ n, sumN f (n + 1) = f 0 + sumN (fun i => f (i + 1)) n
  | 0 => by show 0 + f 0 = f 0 + 0; omega
  | n + 1 => by
    show sumN f (n + 1) + f (n + 1) = f 0 + (sumN (fun i => f (i + 1)) n + f (n + 1))
    rw [sumN_first f n]
    omega
theorem sumN_congr {f h : Nat → Nat} : ∀ n, (∀ i, i < n → f i = h i) → sumN f n = sumN h n
  | 0, _ => rfl
  | n + 1, e => by
    show sumN f n + f n = sumN h n + h n
    rw [sumN_congr n (fun i hi => e i (by omega)), e n (by omega)]
theorem sumN_rev (f : Nat → Nat) : ∀ n, sumN (fun i => f (n - 1 - i)) n = sumN f n
  | 0 => rfl
  | n + 1 => by
    rw [sumN_first]
    show f (n + 1 - 1 - 0) + sumN (fun i => f (n + 1 - 1 - (i + 1))) n = sumN f n + f n
    have e : sumN (fun i => f (n + 1 - 1 - (i + 1))) n = sumN (fun i => f (n - 1 - i)) n := sumN_congr n (fun i hi => by rw [show n + 1 - 1 - (i + 1) = n - 1 - i by omega])
    rw [e, sumN_rev f n, show n + 1 - 1 - 0 = n by omega]
    omega
theorem L_t_le (B : Bd) (p : Pg) (x m i : Nat) : L_t B p x m i ≤ L_w x m i := by
  unfold L_t
  split
  · exact Nat.le_refl _
  · exact Nat.zero_le _
theorem ten8 : ∀ m, m < 9 → 0 < 10 ^ m ∧ 10 ^ m ≤ 100000000 := by decide
theorem L_sum_le (B : Bd) (p : Pg) {x m n : Nat} (hx : x < 11) (hm : m < 9) (hn : n ≤ 2 ^ m) : sumN (L_t B p x m) n ≤ 100000000 := by
  have h1 := sumN_mono (L_t_le B p x m) n
  have h2 := sumN_up (L_w x m) n (2 ^ m - n)
  rw [show n + (2 ^ m - n) = 2 ^ m by omega, L_w_sum x hx m hm] at h2
  have := (ten8 m hm).2
  omega
theorem L_w_le {x m l : Nat} (hx : x < 11) (hm : m < 9) (hl : l < 2 ^ m) : L_w x m l ≤ 100000000 := by
  have h2 := sumN_up (L_w x m) (l + 1) (2 ^ m - (l + 1))
  rw [show l + 1 + (2 ^ m - (l + 1)) = 2 ^ m by omega, L_w_sum x hx m hm] at h2
  have h3 : L_w x m l ≤ sumN (L_w x m) (l + 1) := Nat.le_add_left _ _
  have := (ten8 m hm).2
  omega
def comp_b (m s : Nat) : Bool := decide (pcn (2 ^ m - 1 - s) 8 = m - pcn s 8) && decide (pcn s 8 ≤ m) && (List.range m).all (fun k => P_bit (nI (2 ^ m - 1 - s)) k == !(P_bit (nI s) k))
theorem comp0 : ∀ m, m < 9 → ∀ s, s < 2 ^ m → comp_b m s = true := by decide +kernel
theorem comp {m s : Nat} (hm : m < 9) (hs : s < 2 ^ m) : pcn (2 ^ m - 1 - s) 8 = m - pcn s 8 ∧ pcn s 8 ≤ m ∧ ∀ k, k < m → P_bit (nI (2 ^ m - 1 - s)) k = !(P_bit (nI s) k) := by
  have h := comp0 m hm s hs
  unfold comp_b at h
  rw [Bool.and_eq_true, Bool.and_eq_true, List.all_eq_true] at h
  exact ⟨of_decide_eq_true h.1.1, of_decide_eq_true h.1.2, fun k hk => eq_of_beq (h.2 k (List.mem_range.mpr hk))⟩
theorem L_w_comp {x m s : Nat} (hm : m < 9) (hs : s < 2 ^ m) : L_w x m (2 ^ m - 1 - s) = x ^ pcn s 8 * (10 - x) ^ (m - pcn s 8) := by
  obtain ⟨c1, c2, -⟩ := comp hm hs
  unfold L_w
  rw [c1, show m - (m - pcn s 8) = pcn s 8 by omega, Nat.mul_comm]
section LP
variable {B : Bd} {p : Pg} {m : Nat}
theorem P_drop_at {k c : Nat} (e : p 80 = nI (c + 1)) (hc : c < 12) (j : Nat) : P_drop p k j = if j = 80 then nI c else if 81 + 7 * k ≤ j ∧ j < 81 + 7 * c then p (j + 7) else p j := by
  unfold P_drop
  have : p 80 - nI 1 = nI c := by rw [e]; exact nI_pred c
  rw [this, nI_clamp (by omega)]
theorem L_pg_OK (hB : BV2 B) (P : POK B m p) (A : AG B m p) (left : Int32) : ∀ j, j ≤ m → POK B (m - j + (kl left (m - j) j).length) (L_pg left m p j) ∧ AG B (m - j + (kl left (m - j) j).length) (L_pg left m p j) ∧ (∀ i, i < 81 + 7 * (m - j) → i ≠ 80 → L_pg left m p j i = p i) ∧ (∀ t v, (kl left (m - j) j)[t]? = some v → ∀ k, k < 7 → L_pg left m p j (81 + 7 * (m - j + t) + k) = p (81 + 7 * v + k)) ∧ ∀ i, 165 ≤ i → L_pg left m p j i = p i
  | 0, _ => ⟨P, A, fun _ _ _ => rfl, fun t v h => by simp [kl] at h, fun _ _ => rfl⟩
  | j + 1, hj => by
    obtain ⟨P1, A1, r1, r2, r3⟩ := L_pg_OK hB P A left j (by omega)
    have hm := P.1
    have e1 : m - j = m - 1 - j + 1 := by omega
    have e2 : m - (j + 1) = m - 1 - j := by omega
    rw [e1] at P1 A1 r1 r2
    rw [e2, kl_s]
    have hl := kl_len left (m - 1 - j + 1) j
    show POK B (m - 1 - j + _) (if P_bit left (m - 1 - j) = true then L_pg left m p j else P_drop (L_pg left m p j) (m - 1 - j)) ∧ _
    generalize hkk : m - 1 - j = k at P1 A1 r1 r2 hl ⊢
    have hk : k + j < m := by omega
    by_cases hb : P_bit left k = true
    · simp only [if_pos hb, L_pg, hkk]
      rw [List.length_cons, show k + ((kl left (k + 1) j).length + 1) = k + 1 + (kl left (k + 1) j).length by omega]
      refine ⟨P1, A1, fun i hi h80 => r1 i (by omega) h80, fun t v hv c hc => ?_, r3⟩
      cases t with
      | zero =>
        rw [List.getElem?_cons_zero, Option.some.injEq] at hv
        subst hv
        exact r1 _ (by omega) (by omega)
      | succ t =>
        rw [List.getElem?_cons_succ] at hv
        rw [show k + (t + 1) = k + 1 + t by omega]
        exact r2 t v hv c hc
    · simp only [if_neg hb, L_pg, hkk]
      rw [show k + 1 + (kl left (k + 1) j).length = k + (kl left (k + 1) j).length + 1 by omega] at P1 A1
      have d0 := P_drop_at (k := k) P1.p80 (by omega)
      obtain ⟨d1, d2, d3⟩ := P_drop_OK P1 hB (k := k) (by omega) (fun i hi _ => A1 i hi)
      refine ⟨d1, d2, fun i hi h80 => ?_, fun t v hv c hc => ?_, fun i hi => ?_⟩
      · rw [d0, if_neg h80, if_neg (by omega)]; exact r1 i (by omega) h80
      · have ht : t < (kl left (k + 1) j).length := (List.getElem?_eq_some_iff.mp hv).1
        rw [d0, if_neg (by omega), if_pos (by omega), show 81 + 7 * (k + t) + c + 7 = 81 + 7 * (k + 1 + t) + c by omega]
        exact r2 t v hv c hc
      · rw [d0, if_neg (by omega), if_neg (by omega)]; exact r3 i hi
end LP
