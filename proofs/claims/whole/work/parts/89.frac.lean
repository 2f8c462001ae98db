/-! ===== fractions in lowest terms ===== -/
def frac (u : Int) (lo : Nat) (x : Int32) : Int32 := Int32.ofInt ((if x = nI 0 then (lo : Int) else u).tdiv ((Nat.gcd u.natAbs lo : Nat) : Int))
theorem oI_nI (n : Nat) : Int32.ofInt (n : Int) = nI n := Int32.ofInt_eq_ofNat
theorem oL_lN (n : Nat) : Int64.ofInt (n : Int) = lN n := Int64.ofInt_eq_ofNat
theorem oI_abs (u : Int) (h : 0 ≤ u) : Int32.ofInt u = nI u.natAbs := by rw [← oI_nI, Int.natAbs_of_nonneg h]
theorem oI_neg (u : Int) (h : u ≤ 0) : -Int32.ofInt u = nI u.natAbs := by
  rw [← oI_nI, ← Int32.ofInt_neg]
  congr 1
  omega
theorem oL_abs (u : Int) (h : 0 ≤ u) : Int64.ofInt u = lN u.natAbs := by rw [← oL_lN, Int.natAbs_of_nonneg h]
theorem oL_neg (u : Int) (h : u ≤ 0) : -Int64.ofInt u = lN u.natAbs := by
  rw [← oL_lN, ← Int64.ofInt_neg]
  congr 1
  omega
theorem i32_min : Int32.minValue.toInt = -2147483648 := by decide
theorem i32_max : Int32.maxValue.toInt = 2147483647 := by decide
theorem i64_min : Int64.minValue.toInt = -9223372036854775808 := by decide
theorem i64_max : Int64.maxValue.toInt = 9223372036854775807 := by decide
theorem oI_div {u : Int} {k : Nat} (h1 : -1073741824 < u) (h2 : u < 1073741824) (hk : k < 1073741824) : Int32.ofInt u / nI k = Int32.ofInt (u.tdiv (k : Int)) := by
  rw [← oI_nI]
  exact (Int32.ofInt_tdiv (by rw [i32_min]; omega) (by rw [i32_max]; omega) (by rw [i32_min]; omega) (by rw [i32_max]; omega)).symm
theorem oL_div {u : Int} {k : Nat} (h1 : -1073741824 < u) (h2 : u < 1073741824) (hk : k < 1073741824) : Int64.ofInt u / lN k = Int64.ofInt (u.tdiv (k : Int)) := by
  rw [← oL_lN]
  exact (Int64.ofInt_tdiv (by rw [i64_min]; omega) (by rw [i64_max]; omega) (by rw [i64_min]; omega) (by rw [i64_max]; omega)).symm
theorem gcd_st (p q : Nat) : Nat.gcd q (p % q) = Nat.gcd p q := by
  rw [Nat.gcd_comm p q, Nat.gcd_rec q p, Nat.gcd_comm (p % q) q]
theorem cmp_eq (a b : Int64) : lg_cmp a b = 0 ↔ a = b := by
  unfold lg_cmp
  by_cases h1 : b < a
  · rw [if_pos h1]
    exact ⟨fun z => absurd z (by decide), fun z => by subst z; exact absurd h1 (Int64.lt_irrefl)⟩
  · rw [if_neg h1]
    by_cases h2 : a = b
    · rw [if_pos h2]; exact ⟨fun _ => h2, fun _ => rfl⟩
    · rw [if_neg h2]; exact ⟨fun z => absurd z (by decide), fun z => absurd z h2⟩
section FR
variable {g : jv_G} {d : Nat} {M : jv_Mem} {N : Nat} {Z : Option Value → jv_Mem → Nat → Prop}
theorem c_divisor {u : Int} {lo : Nat} (h1 : -1073741824 < u) (h2 : u < 1073741824) (hl : lo < 1073741824) (hz : Z (some (.int (nI (Nat.gcd u.natAbs lo)))) M N) : jv_Ct g d mt_M_divisor [.int (Int32.ofInt u), .int (nI lo)] M N 0 0 Z := by
  have l : ∀ n q p, q ≤ n → p < 1073741824 → q < 1073741824 → Nat.gcd p q = Nat.gcd u.natAbs lo → jv_J g d mt_M_divisor 13 [none, none, some (.int (nI p)), some (.int (nI q)), none] [] M N 0 0 Z := by
    intro n
    induction n with
    | zero =>
      intro q p hq hp hq2 eg
      have hq : q = 0 := Nat.le_zero.mp hq
      subst hq
      rw [Nat.gcd_zero_right] at eg
      rw [← eg] at hz
      exact b_M_divisor_13 ⟨fun _ => hz, fun c => absurd rfl c⟩
    | succ n ih =>
      intro q p hq hp hq2 eg
      by_cases h0 : q = 0
      · subst h0
        rw [Nat.gcd_zero_right] at eg
        rw [← eg] at hz
        exact b_M_divisor_13 ⟨fun _ => hz, fun c => absurd rfl c⟩
      · refine b_M_divisor_13 ⟨fun c => absurd ((nn_eq (a := q) (n := 0) (by omega) (by omega)).mp c) h0, fun c => ⟨c, ?_⟩⟩
        rw [pk_rem (by omega) (by omega) (by omega)]
        have := Nat.mod_lt p (show q > 0 by omega)
        exact ih (p % q) q (by omega) hq2 (by omega) ((gcd_st p q).trans eg)
  have c0 : (0 : Int32).toInt = 0 := rfl
  refine jv_ct rfl (Nat.le_of_ble_eq_true rfl) (b_M_divisor_0 ⟨fun c => ?_, fun c => ?_⟩)
  · rw [le_i, c0, Int32.toInt_ofInt_of_le (by omega) (by omega)] at c
    rw [oI_abs u c]
    exact l lo lo u.natAbs (Nat.le_refl _) (by omega) hl rfl
  · rw [le_i, c0, Int32.toInt_ofInt_of_le (by omega) (by omega)] at c
    rw [oI_neg u (by omega)]
    exact l lo lo u.natAbs (Nat.le_refl _) (by omega) hl rfl
theorem c_fraction {u : Int} {lo : Nat} {x : Int32} (h1 : -1073741824 < u) (h2 : u < 1073741824) (h0 : 0 < lo) (hl : lo < 1073741824) (hz : Z (some (.int (frac u lo x))) M N) : jv_Ct g (d + 1) mt_M_fraction [.int (Int32.ofInt u), .int (nI lo), .int x] M N 0 0 Z := by
  refine jv_ct rfl (Nat.le_of_ble_eq_true rfl) (b_M_fraction_0 (c_divisor h1 h2 hl (jv_ri_i ?_)))
  unfold frac at hz
  have hg : 0 < Nat.gcd u.natAbs lo := Nat.gcd_pos_of_pos_right _ h0
  have hg2 : Nat.gcd u.natAbs lo ≤ lo := Nat.gcd_le_right _ h0
  generalize Nat.gcd u.natAbs lo = G at hz hg hg2 ⊢
  have ng : ¬ nI G = 0 := fun z => by
    have := (nn_eq (a := G) (n := 0) (by omega) (by omega)).mp z
    omega
  refine ⟨fun c => ⟨ng, ?_⟩, fun c => ⟨ng, ?_⟩⟩
  · rw [if_pos (show x = nI 0 from c), ← oI_div (by omega) (by omega) (by omega), oI_nI] at hz
    exact hz
  · rw [if_neg (show ¬ x = nI 0 from c), ← oI_div h1 h2 (by omega)] at hz
    exact hz
theorem c_part {u : Int} {lo : Nat} {x : Int32} (h1 : -1073741824 < u) (h2 : u < 1073741824) (h0 : 0 < lo) (hl : lo < 1073741824) (hz : Z (some (.int (frac u lo x))) M N) : jv_Ct g (d + 1) mt_R_part [.long (Int64.ofInt u), .long (lN lo), .int x] M N 0 0 Z := by
  unfold frac at hz
  have hg : 0 < Nat.gcd u.natAbs lo := Nat.gcd_pos_of_pos_right _ h0
  have hg2 : Nat.gcd u.natAbs lo ≤ lo := Nat.gcd_le_right _ h0
  have eg : Nat.gcd lo u.natAbs = Nat.gcd u.natAbs lo := Nat.gcd_comm _ _
  generalize Nat.gcd u.natAbs lo = G at hz hg hg2 eg
  have ng : ¬ lN G = 0 := fun z => by
    have := (pk_lEQ (a := G) (b := 0) (by omega) (by omega)).mp z
    omega
  have fin : ((lg_cmp (lN G) 0) ≠ 0 → (x = 0 → ¬ lN G = 0 ∧ Z (some (.int (Int64.toInt32 (lN lo / lN G)))) M N) ∧ (¬ (x = 0) → ¬ lN G = 0 ∧ Z (some (.int (Int64.toInt32 (Int64.ofInt u / lN G)))) M N)) ∧ ((lg_cmp (lN G) 0) = 0 → Z (some (.int 0)) M N) := by
    refine ⟨fun _ => ⟨fun c => ⟨ng, ?_⟩, fun c => ⟨ng, ?_⟩⟩, fun c => absurd ((cmp_eq _ _).mp c) ng⟩
    · rw [if_pos (show x = nI 0 from c)] at hz
      rw [← oL_lN lo, oL_div (by omega) (by omega) (by omega), Int64.toInt32_ofInt]
      exact hz
    · rw [if_neg (show ¬ x = nI 0 from c)] at hz
      rw [oL_div h1 h2 (by omega), Int64.toInt32_ofInt]
      exact hz
  have stop : ∀ dd i, i < 100 → Nat.gcd dd 0 = G → jv_J g (d + 1) mt_R_part 12 [some (.long (Int64.ofInt u)), none, some (.long (lN lo)), none, some (.int x), some (.long (lN dd)), none, some (.long (lN 0)), none, some (.int (nI i)), none, none] [] M N 0 0 Z := by
    intro dd i hi e
    rw [Nat.gcd_zero_right] at e
    subst e
    exact b_R_part_12 ⟨fun c => absurd ((nn_le (a := 100) (n := i) (by omega) (by omega)).mp c) (by omega), fun _ => ⟨fun _ => fin, fun c => absurd ((cmp_eq _ _).mpr rfl) c⟩⟩
  have step : ∀ dd r i, i < 100 → r ≠ 0 → dd < 2 ^ 62 → r < 2 ^ 62 → jv_J g (d + 1) mt_R_part 12 [some (.long (Int64.ofInt u)), none, some (.long (lN lo)), none, some (.int x), some (.long (lN r)), none, some (.long (lN (dd % r))), none, some (.int (nI (i + 1))), none, none] [] M N 0 0 Z → jv_J g (d + 1) mt_R_part 12 [some (.long (Int64.ofInt u)), none, some (.long (lN lo)), none, some (.int x), some (.long (lN dd)), none, some (.long (lN r)), none, some (.int (nI i)), none, none] [] M N 0 0 Z := by
    intro dd r i hi hr hd hr2 J
    have nr : ¬ lN r = 0 := fun z => hr ((pk_lEQ (a := r) (b := 0) (by omega) (by omega)).mp z)
    refine b_R_part_12 ⟨fun c => absurd ((nn_le (a := 100) (n := i) (by omega) (by omega)).mp c) (by omega), fun _ => ⟨fun c => absurd ((cmp_eq _ _).mp c) nr, fun _ => ⟨nr, ?_⟩⟩⟩
    rw [pk_lRem (by omega) (by omega) (by omega), show (nI i + 1 : Int32) = nI (i + 1) from nI_add i 1]
    exact J
  have l : ∀ k dd r i, r < 2 ^ k → i + 2 * k < 90 → dd < 2 ^ 62 → r < 2 ^ 62 → Nat.gcd dd r = G → jv_J g (d + 1) mt_R_part 12 [some (.long (Int64.ofInt u)), none, some (.long (lN lo)), none, some (.int x), some (.long (lN dd)), none, some (.long (lN r)), none, some (.int (nI i)), none, none] [] M N 0 0 Z := by
    intro k
    induction k with
    | zero =>
      intro dd r i hr hi hd hr2 e
      have hr : r = 0 := by omega
      subst hr
      exact stop dd i (by omega) e
    | succ k ih =>
      intro dd r i hr hi hd hr2 e
      by_cases h0 : r = 0
      · subst h0; exact stop dd i (by omega) e
      · have hm := Nat.mod_lt dd (show r > 0 by omega)
        refine step dd r i (by omega) h0 hd hr2 ?_
        have e1 := (gcd_st dd r).trans e
        by_cases h3 : dd % r = 0
        · rw [h3] at e1 ⊢
          exact stop r (i + 1) (by omega) e1
        · refine step r (dd % r) (i + 1) (by omega) h3 hr2 (by omega) ?_
          generalize dd % r = s at hm h3 e1 ⊢
          have hm2 := Nat.mod_lt r (show s > 0 by omega)
          have hhalf : r % s < 2 ^ k := by
            rw [Nat.pow_succ] at hr
            by_cases hs : s ≤ 2 ^ k
            · omega
            · have : r % s = r - s := by
                rw [Nat.mod_eq_sub_mod (by omega), Nat.mod_eq_of_lt (by omega)]
              omega
          exact ih s (r % s) (i + 1 + 1) hhalf (by omega) (by omega) (by omega) ((gcd_st r s).trans e1)
  refine jv_ct rfl (Nat.le_of_ble_eq_true rfl) (b_R_part_0 ?_)
  have ea : (if 0 < Int64.ofInt u then Int64.ofInt u else -Int64.ofInt u) = lN u.natAbs := by
    by_cases hu : 0 < u
    · have : (0 : Int64) < Int64.ofInt u := by
        rw [Int64.lt_iff_toInt_lt, Int64.toInt_ofInt_of_le (by omega) (by omega)]
        exact hu
      rw [if_pos this, oL_abs u (by omega)]
    · have : ¬ (0 : Int64) < Int64.ofInt u := by
        rw [Int64.lt_iff_toInt_lt, Int64.toInt_ofInt_of_le (by omega) (by omega)]
        exact hu
      rw [if_neg this, oL_neg u (by omega)]
  rw [ea]
  exact l 30 lo u.natAbs 0 (by omega) (by omega) (by omega) (by omega) eg
end FR
