/-! ===== numbers in a range ===== -/
def bl (x : Int32) (n : Nat) : Bool := decide (0 ≤ x.toInt ∧ x.toInt < n)
def br (x : Int32) (a b : Nat) : Bool := decide ((a : Int) ≤ x.toInt ∧ x.toInt ≤ b)
def nx (x : Int32) : Nat := x.toNatClampNeg
theorem bl_of {x : Int32} {n : Nat} (h : bl x n = true) (hn : n < 2 ^ 31) : ∃ j, j < n ∧ x = nI j := vp_in_of (vp_in_iff.mpr (of_decide_eq_true h)) hn
theorem bl_in {j n : Nat} (h : j < n) (hn : n < 2 ^ 31) : bl (nI j) n = true := by
  unfold bl
  rw [nI_toInt (by omega)]
  exact decide_eq_true (by omega)
theorem bl_out {j n : Nat} (h : ¬ j < n) (hn : j < 2 ^ 31) : bl (nI j) n = false := by
  unfold bl
  rw [nI_toInt (by omega)]
  exact decide_eq_false (by omega)
theorem br_of {x : Int32} {a b : Nat} (h : br x a b = true) (hn : b < 2 ^ 30) : ∃ j, a ≤ j ∧ j ≤ b ∧ x = nI j := by
  have h := of_decide_eq_true h
  have h3 : bl x (b + 1) = true := by
    unfold bl
    exact decide_eq_true (by omega)
  obtain ⟨j, h1, h2⟩ := bl_of h3 (by omega)
  subst h2
  rw [nI_toInt (by omega)] at h
  exact ⟨j, by omega, by omega, rfl⟩
theorem br_in {j a b : Nat} (h : a ≤ j) (h2 : j ≤ b) (hn : b < 2 ^ 31) : br (nI j) a b = true := by
  unfold br
  rw [nI_toInt (by omega)]
  exact decide_eq_true (by omega)
theorem nx_n {n : Nat} (h : n < 2 ^ 31) : nx (nI n) = n := nI_clamp h
theorem lt_i (x y : Int32) : x < y ↔ x.toInt < y.toInt := Int32.lt_iff_toInt_lt
theorem le_i (x y : Int32) : x ≤ y ↔ x.toInt ≤ y.toInt := Int32.le_iff_toInt_le
section NUM
variable {g : jv_G} {d : Nat} {M : jv_Mem} {N : Nat} {Z : Option Value → jv_Mem → Nat → Prop}
theorem c_isBelow {x : Int32} {b : Nat} (hb : b < 2 ^ 31) (hz : Z (some (.int (if bl x b = true then nI 1 else nI 0))) M N) : jv_Ct g d mt_R_isBelow [.int x, .int (nI b)] M N 0 0 Z := by
  refine jv_ct rfl (Nat.le_of_ble_eq_true rfl) (b_R_isBelow_0 ?_)
  have h0 : (0 : Int32).toInt = 0 := rfl
  have hb' := nI_toInt hb
  refine ⟨fun c => ?_, fun c => ⟨fun c2 => ?_, fun c2 => ?_⟩⟩
  · rw [lt_i, h0] at c
    have : bl x b = false := decide_eq_false (by omega)
    rw [this] at hz; exact hz
  · rw [lt_i, h0] at c
    rw [le_i, hb'] at c2
    have : bl x b = false := decide_eq_false (by omega)
    rw [this] at hz; exact hz
  · rw [lt_i, h0] at c
    rw [le_i, hb'] at c2
    have : bl x b = true := decide_eq_true (by omega)
    rw [this] at hz; exact hz
theorem cmp_lt (a b : Int64) : lg_cmp a b < 0 ↔ a.toInt < b.toInt := by
  unfold lg_cmp
  by_cases h1 : b < a
  · have := Int64.lt_iff_toInt_lt.mp h1
    rw [if_pos h1]
    exact ⟨fun z => absurd z (by decide), fun z => by omega⟩
  · have h1' : ¬ b.toInt < a.toInt := fun z => h1 (Int64.lt_iff_toInt_lt.mpr z)
    rw [if_neg h1]
    by_cases h2 : a = b
    · subst h2; rw [if_pos rfl]; exact ⟨fun z => absurd z (by decide), fun z => by omega⟩
    · have : a.toInt ≠ b.toInt := fun z => h2 (Int64.toInt_inj.mp z)
      rw [if_neg h2]
      exact ⟨fun _ => by omega, fun _ => by decide⟩
theorem cmp_gt (a b : Int64) : 0 < lg_cmp a b ↔ b.toInt < a.toInt := by
  unfold lg_cmp
  by_cases h1 : b < a
  · have := Int64.lt_iff_toInt_lt.mp h1
    rw [if_pos h1]
    exact ⟨fun _ => this, fun _ => by decide⟩
  · have h1' : ¬ b.toInt < a.toInt := fun z => h1 (Int64.lt_iff_toInt_lt.mpr z)
    rw [if_neg h1]
    by_cases h2 : a = b
    · subst h2; rw [if_pos rfl]; exact ⟨fun z => absurd z (by decide), fun z => by omega⟩
    · rw [if_neg h2]
      exact ⟨fun z => absurd z (by decide), fun z => by omega⟩
theorem c_in0 {l0 l2 l4 : Int64} (h1 : l2.toInt ≤ l0.toInt ∧ l0.toInt ≤ l4.toInt → Z (some (.int (nI 1))) M N) (h0 : ¬ (l2.toInt ≤ l0.toInt ∧ l0.toInt ≤ l4.toInt) → Z (some (.int (nI 0))) M N) : jv_Ct g d mt_M_in [.long l0, .long l2, .long l4] M N 0 0 Z := by
  refine jv_ct rfl (Nat.le_of_ble_eq_true rfl) (b_M_in_0 ?_)
  refine ⟨fun c => h0 ?_, fun c => ⟨fun c2 => h0 ?_, fun c2 => h1 ?_⟩⟩
  · rw [cmp_lt] at c; omega
  · rw [cmp_gt] at c2; omega
  · rw [cmp_lt] at c
    rw [cmp_gt] at c2
    omega
theorem c_in {x : Int32} {l2 l4 : Int64} (a b : Nat) (e2 : l2 = lN a) (e4 : l4 = lN b) (ha : a < 2 ^ 31) (hb : b < 2 ^ 31) (hz : Z (some (.int (if br x a b = true then nI 1 else nI 0))) M N) : jv_Ct g d mt_M_in [.long (Int32.toInt64 x), .long l2, .long l4] M N 0 0 Z := by
  subst e2 e4
  refine c_in0 (fun h => ?_) (fun h => ?_)
  · rw [Int32.toInt_toInt64, pk_lT (by omega), pk_lT (by omega)] at h
    have : br x a b = true := decide_eq_true h
    rw [this] at hz; exact hz
  · rw [Int32.toInt_toInt64, pk_lT (by omega), pk_lT (by omega)] at h
    have : br x a b = false := decide_eq_false h
    rw [this] at hz; exact hz
/-- from 0 to one less than n -/
theorem c_inb {x : Int32} {l2 : Int64} {n : Nat} (e2 : l2 = lN 0) (hn : n < 1000) (hz : Z (some (.int (if bl x n = true then nI 1 else nI 0))) M N) : jv_Ct g d mt_M_in [.long (Int32.toInt64 x), .long l2, .long (Int32.toInt64 (nI n - nI 1))] M N 0 0 Z := by
  subst e2
  have hs : (nI n - nI 1).toInt = (n : Int) - 1 := pk_sub_toInt (by omega) (by omega)
  refine c_in0 (fun h => ?_) (fun h => ?_)
  · rw [Int32.toInt_toInt64, Int32.toInt_toInt64, pk_lT (by omega), hs] at h
    have : bl x n = true := decide_eq_true (by omega)
    rw [this] at hz; exact hz
  · rw [Int32.toInt_toInt64, Int32.toInt_toInt64, pk_lT (by omega), hs] at h
    have : bl x n = false := decide_eq_false (by omega)
    rw [this] at hz; exact hz
end NUM
/-- how many of the first k bits are set -/
def pcn (a : Nat) : Nat → Nat
  | 0 => 0
  | k + 1 => pcn a k + a / 2 ^ k % 2
theorem pcn_le (a : Nat) : ∀ k, pcn a k ≤ k
  | 0 => Nat.le_refl 0
  | k + 1 => by
    have := pcn_le a k
    show pcn a k + a / 2 ^ k % 2 ≤ k + 1
    omega
theorem bitCount_eq : ∀ a, a < 256 → (((((((((nI a) - (((((nI a)).toUInt32 >>> ((1 : Int32).toUInt32 &&& Int32.toUInt32 31)).toInt32) &&& 1431655765)) &&& 858993459) + ((((((nI a) - (((((nI a)).toUInt32 >>> ((1 : Int32).toUInt32 &&& Int32.toUInt32 31)).toInt32) &&& 1431655765))).toUInt32 >>> ((2 : Int32).toUInt32 &&& Int32.toUInt32 31)).toInt32) &&& 858993459)) + (((((((nI a) - (((((nI a)).toUInt32 >>> ((1 : Int32).toUInt32 &&& Int32.toUInt32 31)).toInt32) &&& 1431655765)) &&& 858993459) + ((((((nI a) - (((((nI a)).toUInt32 >>> ((1 : Int32).toUInt32 &&& Int32.toUInt32 31)).toInt32) &&& 1431655765))).toUInt32 >>> ((2 : Int32).toUInt32 &&& Int32.toUInt32 31)).toInt32) &&& 858993459))).toUInt32 >>> ((4 : Int32).toUInt32 &&& Int32.toUInt32 31)).toInt32)) &&& 252645135) + (((((((((nI a) - (((((nI a)).toUInt32 >>> ((1 : Int32).toUInt32 &&& Int32.toUInt32 31)).toInt32) &&& 1431655765)) &&& 858993459) + ((((((nI a) - (((((nI a)).toUInt32 >>> ((1 : Int32).toUInt32 &&& Int32.toUInt32 31)).toInt32) &&& 1431655765))).toUInt32 >>> ((2 : Int32).toUInt32 &&& Int32.toUInt32 31)).toInt32) &&& 858993459)) + (((((((nI a) - (((((nI a)).toUInt32 >>> ((1 : Int32).toUInt32 &&& Int32.toUInt32 31)).toInt32) &&& 1431655765)) &&& 858993459) + ((((((nI a) - (((((nI a)).toUInt32 >>> ((1 : Int32).toUInt32 &&& Int32.toUInt32 31)).toInt32) &&& 1431655765))).toUInt32 >>> ((2 : Int32).toUInt32 &&& Int32.toUInt32 31)).toInt32) &&& 858993459))).toUInt32 >>> ((4 : Int32).toUInt32 &&& Int32.toUInt32 31)).toInt32)) &&& 252645135)).toUInt32 >>> ((8 : Int32).toUInt32 &&& Int32.toUInt32 31)).toInt32)) + ((((((((((nI a) - (((((nI a)).toUInt32 >>> ((1 : Int32).toUInt32 &&& Int32.toUInt32 31)).toInt32) &&& 1431655765)) &&& 858993459) + ((((((nI a) - (((((nI a)).toUInt32 >>> ((1 : Int32).toUInt32 &&& Int32.toUInt32 31)).toInt32) &&& 1431655765))).toUInt32 >>> ((2 : Int32).toUInt32 &&& Int32.toUInt32 31)).toInt32) &&& 858993459)) + (((((((nI a) - (((((nI a)).toUInt32 >>> ((1 : Int32).toUInt32 &&& Int32.toUInt32 31)).toInt32) &&& 1431655765)) &&& 858993459) + ((((((nI a) - (((((nI a)).toUInt32 >>> ((1 : Int32).toUInt32 &&& Int32.toUInt32 31)).toInt32) &&& 1431655765))).toUInt32 >>> ((2 : Int32).toUInt32 &&& Int32.toUInt32 31)).toInt32) &&& 858993459))).toUInt32 >>> ((4 : Int32).toUInt32 &&& Int32.toUInt32 31)).toInt32)) &&& 252645135) + (((((((((nI a) - (((((nI a)).toUInt32 >>> ((1 : Int32).toUInt32 &&& Int32.toUInt32 31)).toInt32) &&& 1431655765)) &&& 858993459) + ((((((nI a) - (((((nI a)).toUInt32 >>> ((1 : Int32).toUInt32 &&& Int32.toUInt32 31)).toInt32) &&& 1431655765))).toUInt32 >>> ((2 : Int32).toUInt32 &&& Int32.toUInt32 31)).toInt32) &&& 858993459)) + (((((((nI a) - (((((nI a)).toUInt32 >>> ((1 : Int32).toUInt32 &&& Int32.toUInt32 31)).toInt32) &&& 1431655765)) &&& 858993459) + ((((((nI a) - (((((nI a)).toUInt32 >>> ((1 : Int32).toUInt32 &&& Int32.toUInt32 31)).toInt32) &&& 1431655765))).toUInt32 >>> ((2 : Int32).toUInt32 &&& Int32.toUInt32 31)).toInt32) &&& 858993459))).toUInt32 >>> ((4 : Int32).toUInt32 &&& Int32.toUInt32 31)).toInt32)) &&& 252645135)).toUInt32 >>> ((8 : Int32).toUInt32 &&& Int32.toUInt32 31)).toInt32))).toUInt32 >>> ((16 : Int32).toUInt32 &&& Int32.toUInt32 31)).toInt32)) &&& 63) = nI (pcn a 8) := by decide +kernel
section JD
variable {g : jv_G} {d : Nat} {M : jv_Mem} {N : Nat} {Z : Option Value → jv_Mem → Nat → Prop}
theorem c_bitCount {a : Nat} (ha : a < 256) (hz : Z (some (.int (nI (pcn a 8)))) M N) : jv_Ct g d mt_JI_bitCount [.int (nI a)] M N 0 0 Z := by
  refine jv_ct rfl (Nat.le_of_ble_eq_true rfl) (b_JI_bitCount_0 ?_)
  rw [bitCount_eq a ha]
  exact hz
theorem ones_bit : ∀ k, k < 8 → ∀ a, a < 256 → (nI a >>> (nI k &&& nI 31)) &&& nI 1 = nI (a / 2 ^ k % 2) := by decide +kernel
theorem c_M_ones {a : Nat} (ha : a < 256) (hz : Z (some (.int (nI (pcn a 8)))) M N) : jv_Ct g d mt_M_ones [.int (nI a)] M N 0 0 Z := by
  have l : ∀ n i, i + n = 8 → jv_J g d mt_M_ones 4 [some (.int (nI a)), some (.int (nI (pcn a i))), some (.int (nI i))] [] M N 0 0 Z := by
    intro n
    induction n with
    | zero =>
      intro i hi
      have hi : i = 8 := by omega
      subst hi
      refine b_M_ones_4 ?_
      simp (disch := omega) only [li, nn_le, nI_add]
      exact ⟨fun _ => hz, fun c => absurd (Nat.le_refl _) c⟩
    | succ n ih =>
      intro i hi
      refine b_M_ones_4 ?_
      have := ih (i + 1) (by omega)
      have e := ones_bit i (by omega) a ha
      simp (disch := omega) only [li, nn_le, e, nI_add]
      exact ⟨fun c => absurd c (by omega), fun _ => this⟩
  exact jv_ct rfl (Nat.le_of_ble_eq_true rfl) (b_M_ones_0 (l 8 0 rfl))
end JD
