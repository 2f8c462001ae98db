/-! ===== numbers and pages ===== -/
theorem li (n : Nat) : (OfNat.ofNat n : Int32) = nI n := rfl
theorem nn_lt {a n : Nat} (ha : a < 2 ^ 31) (hn : n < 2 ^ 31) : (nI a < nI n) = (a < n) := propext (nI_ltI ha hn)
theorem nn_le {a n : Nat} (ha : a < 2 ^ 31) (hn : n < 2 ^ 31) : (nI a ≤ nI n) = (a ≤ n) := propext (nI_leI ha hn)
theorem nn_eq {a n : Nat} (ha : a < 2 ^ 31) (hn : n < 2 ^ 31) : (nI a = nI n) = (a = n) := propext (nI_eq ha hn)
theorem vin {n N : Nat} (h : n < N) (hN : N < 2 ^ 31) : vp_in (nI n) N = True := eq_true (vp_in_nI h hN)
theorem or0 (x : Int32) : x ||| nI 0 = x := Int32.or_zero
theorem rm2 (a d : Nat) : nI a - nI (a / d * d) = nI (a % d) := by
  rw [pk_sub (Nat.div_mul_le_self a d)]
  congr 1
  have := Nat.mod_add_div' a d
  omega
theorem sub0 (x : Int32) : x - nI 0 = x := Int32.sub_zero x
abbrev Pg : Type := Nat → Int32
def pu (p : Pg) (k : Nat) (x : Int32) : Pg := fun j => if j = k then x else p j
theorem pu_s (p : Pg) (k : Nat) (x : Int32) : pu p k x k = x := by simp [pu]
theorem pu_n (p : Pg) {j k : Nat} (x : Int32) (h : j ≠ k) : pu p k x j = p j := by simp [pu, h]
/-- a loop's state behind n rounds -/
def itN {α : Type} (f : Nat → α → α) : Nat → α → α
  | 0, a => a
  | n + 1, a => f n (itN f n a)
/-- the memory with a row at cell a -/
def jv_pg (M : jv_Mem) (a : Nat) (p : Pg) : jv_Mem := (fun b j => if b = a then p j else M.1 b j, M.2.1, M.2.2)
theorem pg_at (M : jv_Mem) (a : Nat) (p : Pg) (j : Nat) : (jv_pg M a p).1 a j = p j := by simp [jv_pg]
theorem pg_ne (M : jv_Mem) {a b : Nat} (p : Pg) (j : Nat) (h : b ≠ a) : (jv_pg M a p).1 b j = M.1 b j := by simp [jv_pg, h]
theorem pg_r (M : jv_Mem) (a : Nat) (p : Pg) : (jv_pg M a p).2 = M.2 := rfl
theorem si_pg (M : jv_Mem) (a : Nat) (p : Pg) (k : Nat) (x : Int32) : jv_si (jv_pg M a p) a k x = jv_pg M a (pu p k x) := by
  unfold jv_si jv_pg pu
  congr 1
  funext b j
  by_cases hb : b = a
  · subst hb; by_cases hj : j = k <;> simp [hj]
  · simp [hb]
theorem pg_self (M : jv_Mem) (a : Nat) : jv_pg M a (M.1 a) = M := by
  unfold jv_pg
  obtain ⟨M1, M2⟩ := M
  congr 1
  funext b j
  by_cases hb : b = a
  · subst hb; simp
  · simp [hb]
/-- the memory with a page at cell a and the mark w in the model's field 31 -/
def jv_pw (M : jv_Mem) (a : Nat) (p : Pg) (w : Int32) : jv_Mem := jv_pg (jv_si M 647 31 w) a p
theorem pw_at (M : jv_Mem) (a : Nat) (p : Pg) (w : Int32) (j : Nat) : (jv_pw M a p w).1 a j = p j := pg_at _ _ _ _
theorem pw_m (M : jv_Mem) {a : Nat} (p : Pg) (w : Int32) {j : Nat} (h : 647 ≠ a) (hj : j ≠ 31) : (jv_pw M a p w).1 647 j = M.1 647 j := by simp [jv_pw, jv_pg, jv_si, h, hj]
theorem pw_w (M : jv_Mem) {a : Nat} (p : Pg) (w : Int32) (h : 647 ≠ a) : (jv_pw M a p w).1 647 31 = w := by simp [jv_pw, jv_pg, jv_si, h]
theorem pw_o (M : jv_Mem) {a b : Nat} (p : Pg) (w : Int32) {j : Nat} (h : b ≠ a) (hj : b ≠ 647) : (jv_pw M a p w).1 b j = M.1 b j := by simp [jv_pw, jv_pg, jv_si, h, hj]
theorem pw_r (M : jv_Mem) (a : Nat) (p : Pg) (w : Int32) : (jv_pw M a p w).2 = M.2 := rfl
theorem si_pw (M : jv_Mem) (a : Nat) (p : Pg) (w : Int32) (k : Nat) (x : Int32) : jv_si (jv_pw M a p w) a k x = jv_pw M a (pu p k x) w := si_pg _ _ _ _ _
theorem si_pww (M : jv_Mem) {a : Nat} (p : Pg) (w x : Int32) (h : 647 ≠ a) : jv_si (jv_pw M a p w) 647 31 x = jv_pw M a p x := by
  unfold jv_pw jv_pg jv_si
  congr 1
  funext b j
  by_cases hb : b = a
  · subst hb; simp [Ne.symm h]
  · by_cases hb2 : b = 647
    · subst hb2; by_cases hj : j = 31 <;> simp [hj, hb]
    · simp [hb, hb2]
/-- the model's references -/
def mref (k : Nat) : Option Nat := match k with
  | 1 => some 648
  | 5 => some 649
  | 7 => some 650
  | 8 => some 651
  | 10 => some 652
  | 12 => some 653
  | 14 => some 654
  | 15 => some 655
  | 17 => some 656
  | 18 => some 657
  | 19 => some 658
  | 20 => some 659
  | 21 => some 660
  | 22 => some 661
  | 24 => some 662
  | 25 => some 663
  | 27 => some 664
  | 28 => some 665
  | 29 => some 666
  | 33 => some 667
  | _ => none
theorem mr_1 : mref 1 = some 648 := rfl
theorem mr_5 : mref 5 = some 649 := rfl
theorem mr_7 : mref 7 = some 650 := rfl
theorem mr_8 : mref 8 = some 651 := rfl
theorem mr_10 : mref 10 = some 652 := rfl
theorem mr_12 : mref 12 = some 653 := rfl
theorem mr_14 : mref 14 = some 654 := rfl
theorem mr_15 : mref 15 = some 655 := rfl
theorem mr_17 : mref 17 = some 656 := rfl
theorem mr_18 : mref 18 = some 657 := rfl
theorem mr_19 : mref 19 = some 658 := rfl
theorem mr_20 : mref 20 = some 659 := rfl
theorem mr_21 : mref 21 = some 660 := rfl
theorem mr_22 : mref 22 = some 661 := rfl
theorem mr_24 : mref 24 = some 662 := rfl
theorem mr_25 : mref 25 = some 663 := rfl
theorem mr_27 : mref 27 = some 664 := rfl
theorem mr_28 : mref 28 = some 665 := rfl
theorem mr_29 : mref 29 = some 666 := rfl
theorem mr_33 : mref 33 = some 667 := rfl
theorem tg_m : jv_Tg 10 647 668 := ⟨by decide +kernel, by decide⟩
theorem tg_648 : jv_Tg 11 648 668 := ⟨by decide +kernel, by decide⟩
theorem sl_648 : (jv_sh 648).2 = 150 := by decide +kernel
theorem tg_649 : jv_Tg 11 649 668 := ⟨by decide +kernel, by decide⟩
theorem sl_649 : (jv_sh 649).2 = 16 := by decide +kernel
theorem tg_650 : jv_Tg 11 650 668 := ⟨by decide +kernel, by decide⟩
theorem sl_650 : (jv_sh 650).2 = 4 := by decide +kernel
theorem tg_651 : jv_Tg 11 651 668 := ⟨by decide +kernel, by decide⟩
theorem sl_651 : (jv_sh 651).2 = 4 := by decide +kernel
theorem tg_652 : jv_Tg 11 652 668 := ⟨by decide +kernel, by decide⟩
theorem sl_652 : (jv_sh 652).2 = 6 := by decide +kernel
theorem tg_653 : jv_Tg 11 653 668 := ⟨by decide +kernel, by decide⟩
theorem sl_653 : (jv_sh 653).2 = 16 := by decide +kernel
theorem tg_654 : jv_Tg 11 654 668 := ⟨by decide +kernel, by decide⟩
theorem sl_654 : (jv_sh 654).2 = 4 := by decide +kernel
theorem tg_655 : jv_Tg 11 655 668 := ⟨by decide +kernel, by decide⟩
theorem sl_655 : (jv_sh 655).2 = 4 := by decide +kernel
theorem tg_656 : jv_Tg 11 656 668 := ⟨by decide +kernel, by decide⟩
theorem sl_656 : (jv_sh 656).2 = 6 := by decide +kernel
theorem tg_657 : jv_Tg 11 657 668 := ⟨by decide +kernel, by decide⟩
theorem sl_657 : (jv_sh 657).2 = 165 := by decide +kernel
theorem tg_658 : jv_Tg 11 658 668 := ⟨by decide +kernel, by decide⟩
theorem sl_658 : (jv_sh 658).2 = 165 := by decide +kernel
theorem tg_659 : jv_Tg 11 659 668 := ⟨by decide +kernel, by decide⟩
theorem sl_659 : (jv_sh 659).2 = 165 := by decide +kernel
theorem tg_660 : jv_Tg 11 660 668 := ⟨by decide +kernel, by decide⟩
theorem sl_660 : (jv_sh 660).2 = 165 := by decide +kernel
theorem tg_661 : jv_Tg 11 661 668 := ⟨by decide +kernel, by decide⟩
theorem sl_661 : (jv_sh 661).2 = 2310 := by decide +kernel
theorem tg_662 : jv_Tg 11 662 668 := ⟨by decide +kernel, by decide⟩
theorem sl_662 : (jv_sh 662).2 = 330 := by decide +kernel
theorem tg_663 : jv_Tg 12 663 668 := ⟨by decide +kernel, by decide⟩
theorem sl_663 : (jv_sh 663).2 = 2 := by decide +kernel
theorem tg_664 : jv_Tg 11 664 668 := ⟨by decide +kernel, by decide⟩
theorem sl_664 : (jv_sh 664).2 = 6 := by decide +kernel
theorem tg_665 : jv_Tg 11 665 668 := ⟨by decide +kernel, by decide⟩
theorem sl_665 : (jv_sh 665).2 = 6 := by decide +kernel
theorem tg_666 : jv_Tg 11 666 668 := ⟨by decide +kernel, by decide⟩
theorem sl_666 : (jv_sh 666).2 = 6 := by decide +kernel
theorem tg_667 : jv_Tg 11 667 668 := ⟨by decide +kernel, by decide⟩
theorem sl_667 : (jv_sh 667).2 = 64 := by decide +kernel
theorem tg_pg {a : Nat} (h1 : 657 ≤ a) (h2 : a ≤ 660) : jv_Tg 11 a 668 := by
  rcases (by omega : a = 657 ∨ a = 658 ∨ a = 659 ∨ a = 660) with rfl | rfl | rfl | rfl
  · exact tg_657
  · exact tg_658
  · exact tg_659
  · exact tg_660
theorem sl_pg {a : Nat} (h1 : 657 ≤ a) (h2 : a ≤ 660) : (jv_sh a).2 = 165 := by
  rcases (by omega : a = 657 ∨ a = 658 ∨ a = 659 ∨ a = 660) with rfl | rfl | rfl | rfl
  · exact sl_657
  · exact sl_658
  · exact sl_659
  · exact sl_660
