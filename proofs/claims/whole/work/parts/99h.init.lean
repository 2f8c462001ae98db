/-! ===== the constructors ===== -/
theorem zr_at (M : jv_Mem) (a j : Nat) : (jv_zero M a).1 a j = 0 := by simp [jv_zero]
theorem zr_ne (M : jv_Mem) {a b : Nat} (j : Nat) (h : b ≠ a) : (jv_zero M a).1 b j = M.1 b j := by simp [jv_zero, h]
theorem zr_ra (M : jv_Mem) (a j : Nat) : (jv_zero M a).2.1 a j = none := by simp [jv_zero]
theorem zr_rn (M : jv_Mem) {a b : Nat} (j : Nat) (h : b ≠ a) : (jv_zero M a).2.1 b j = M.2.1 b j := by simp [jv_zero, h]
theorem zr_la (M : jv_Mem) (a : Nat) : (jv_zero M a).2.2 a = 0 := by simp [jv_zero]
theorem zr_ln (M : jv_Mem) {a b : Nat} (h : b ≠ a) : (jv_zero M a).2.2 b = M.2.2 b := by simp [jv_zero, h]
theorem sr_at (M : jv_Mem) (a k : Nat) (r : Option Nat) : (jv_sr M a k r).2.1 a k = r := by simp [jv_sr]
theorem sr_k (M : jv_Mem) {a k j : Nat} (r : Option Nat) (h : j ≠ k) : (jv_sr M a k r).2.1 a j = M.2.1 a j := by simp [jv_sr, h]
theorem sr_b (M : jv_Mem) {a b k j : Nat} (r : Option Nat) (h : b ≠ a) : (jv_sr M a k r).2.1 b j = M.2.1 b j := by simp [jv_sr, h]
/-- the cells from N on to N' are new, with nothing in them but references -/
def NW (M M' : jv_Mem) (N N' : Nat) : Prop := (∀ b, b < N → (∀ j, M'.1 b j = M.1 b j) ∧ M'.2.2 b = M.2.2 b) ∧ ∀ b, N ≤ b → b < N' → (∀ j, M'.1 b j = 0) ∧ M'.2.2 b = 0
/-- no reference of an older cell is another, but for those of a -/
def RK (M M' : jv_Mem) (N a : Nat) : Prop := ∀ b, b < N → b ≠ a → ∀ j, M'.2.1 b j = M.2.1 b j
section INI
variable {g : jv_G} {d : Nat} {M M' M1 M2 : jv_Mem} {Z : Option Value → jv_Mem → Nat → Prop} {N N' N1 N2 a k σ : Nat} {r : Option Nat}
theorem NW.rf : NW M M N N := ⟨fun _ _ => ⟨fun _ => rfl, rfl⟩, fun b h1 h2 => absurd h2 (by omega)⟩
theorem NW.zero (h : NW M M1 N N1) (hN : N ≤ N1) : NW M (jv_zero M1 N1) N (N1 + 1) := by
  refine ⟨fun b hb => ⟨fun j => ?_, ?_⟩, fun b h1 h2 => ?_⟩
  · rw [zr_ne _ _ (by omega)]; exact (h.1 b hb).1 j
  · rw [zr_ln _ (by omega)]; exact (h.1 b hb).2
  · by_cases hb : b = N1
    · subst hb; exact ⟨fun j => zr_at _ _ _, zr_la _ _⟩
    · exact ⟨fun j => by rw [zr_ne _ _ hb]; exact (h.2 b h1 (by omega)).1 j, by rw [zr_ln _ hb]; exact (h.2 b h1 (by omega)).2⟩
theorem NW.sr (h : NW M M1 N N1) : NW M (jv_sr M1 a k r) N N1 := h
theorem NW.trans (h : NW M M1 N N1) (h' : NW M1 M2 N1 N2) (hN : N ≤ N1) : NW M M2 N N2 := by
  refine ⟨fun b hb => ⟨fun j => ((h'.1 b (by omega)).1 j).trans ((h.1 b hb).1 j), ((h'.1 b (by omega)).2).trans (h.1 b hb).2⟩, fun b h1 h2 => ?_⟩
  by_cases hb : b < N1
  · exact ⟨fun j => ((h'.1 b hb).1 j).trans ((h.2 b h1 hb).1 j), ((h'.1 b hb).2).trans (h.2 b h1 hb).2⟩
  · exact h'.2 b (by omega) h2
theorem tgk {t n : Nat} (hσ : σ ∈ st_bases) (hk : k < 33) (h : st_sh k = (t, n)) (hN : σ + k < N) : jv_Tg t (σ + k) N := ⟨by rw [(st_sh_at σ hσ k hk).1, h], hN⟩
theorem shk {t n : Nat} (hσ : σ ∈ st_bases) (hk : k < 33) (h : st_sh k = (t, n)) : jv_sh (σ + k) = (t, n) := (st_sh_at σ hσ k hk).1.trans h
theorem c_D_init (hσ : σ ∈ st_bases) (hz : ∀ M', NW M M' (σ + 2) (σ + 16) → RK M M' (σ + 2) (σ + 1) → M'.2.1 (σ + 1) 0 = some (σ + 2) → M'.2.1 (σ + 1) 1 = some (σ + 3) → (∀ j, j < 12 → M'.2.1 (σ + 2) j = some (σ + 4 + j)) → Z none M' (σ + 16)) : jv_Ct g (d + 2) mt_D_init [.ref (σ + 1)] M (σ + 2) 14 98 Z := by
  have s2 : jv_sh (σ + 2) = (14, 12) := shk hσ (by omega) (by decide +kernel)
  have s3 : jv_sh (σ + 2 + 1) = (11, 2) := shk (k := 3) hσ (by omega) (by decide +kernel)
  have t1 : ∀ {N}, σ + 1 < N → jv_Tg 0 (σ + 1) N := fun h => ⟨(t_S1 hσ).1, h⟩
  have t2 : ∀ {N}, σ + 2 < N → jv_Tg 14 (σ + 2) N := fun h => ⟨(t_S2 hσ).1, h⟩
  have l : ∀ f i M1, i + f = 12 → NW M M1 (σ + 2) (σ + 4 + i) → RK M M1 (σ + 2) (σ + 1) → M1.2.1 (σ + 1) 0 = some (σ + 2) → M1.2.1 (σ + 1) 1 = some (σ + 3) → (∀ j, j < i → M1.2.1 (σ + 2) j = some (σ + 4 + j)) → jv_J g (d + 2) mt_D_init 22 [some (.ref (σ + 1)), some (.int (nI i))] [] M1 (σ + 4 + i) f (7 * f) Z := by
    intro f
    induction f with
    | zero =>
      intro i M1 hi n1 k1 r0 r1 q
      have hi : i = 12 := by omega
      subst hi
      refine b_D_init_22 ⟨t1 (by omega), σ + 2, r0, t2 (by omega), ?_⟩
      rw [s2]
      exact ⟨fun _ => hz M1 n1 k1 r0 r1 q, fun c => absurd (nI_le (Nat.le_refl 12) (by omega)) c⟩
    | succ f ih =>
      intro i M1 hi n1 k1 r0 r1 q
      have so : jv_sh (σ + 4 + i) = (2, 7) := by rw [Nat.add_assoc]; exact shk hσ (by omega) (st_shO i (by omega))
      refine b_D_init_22 ⟨t1 (by omega), σ + 2, r0, t2 (by omega), ?_⟩
      rw [s2]
      refine ⟨fun c => absurd ((nn_le (a := 12) (n := i) (by omega) (by omega)).mp c) (by omega), fun _ => ⟨t1 (by omega), σ + 2, r0, so, by omega, by omega, 0, 0, by omega, by omega, ?_⟩⟩
      refine jv_ct rfl (Nat.le_of_ble_eq_true rfl) (b_O_init_0 (jv_rv_i ⟨t2 (by omega), by rw [s2]; exact vp_in_nI (by omega) (by omega), ⟨by rw [so], by omega⟩, ?_⟩))
      rw [nI_clamp (by omega), show (nI i + 1 : Int32) = nI (i + 1) from nI_add i 1]
      refine (ih (i + 1) _ (by omega) (NW.zero n1 (by omega)).sr (fun b hb hne j => ?_) ?_ ?_ (fun j hj => ?_)).less (by omega) (by omega)
      · rw [sr_b _ _ (by omega), zr_rn _ _ (by omega)]; exact k1 b hb hne j
      · rw [sr_b _ _ (by omega), zr_rn _ _ (by omega)]; exact r0
      · rw [sr_b _ _ (by omega), zr_rn _ _ (by omega)]; exact r1
      · by_cases hji : j = i
        · subst hji; exact sr_at _ _ _ _
        · rw [sr_k _ _ hji, zr_rn _ _ (by omega)]; exact q j (by omega)
  refine jv_ct rfl (Nat.le_of_ble_eq_true rfl) (b_D_init_0 ⟨s2, by omega, by omega, t1 (by omega), s3, by omega, by omega, t1 (by omega), ?_⟩)
  refine (l 12 0 _ rfl ((NW.zero (NW.zero NW.rf (by omega)).sr (by omega)).sr) (fun b hb hne j => ?_) ?_ ?_ (fun j hj => absurd hj (Nat.not_lt_zero j))).less (by omega) (by omega)
  · rw [sr_b _ _ hne, zr_rn _ _ (by omega), sr_b _ _ hne, zr_rn _ _ (by omega)]
  · rw [sr_k _ _ (by omega), zr_rn _ _ (by omega), sr_at]
  · exact sr_at _ _ _ _
/-- the references of a new State -/
def SI (M : jv_Mem) (σ : Nat) : Prop := (M.2.1 σ 0 = some (σ + 1) ∧ M.2.1 σ 1 = some (σ + 16) ∧ M.2.1 σ 2 = some (σ + 17) ∧ M.2.1 σ 3 = some (σ + 18)) ∧ (M.2.1 (σ + 1) 0 = some (σ + 2) ∧ M.2.1 (σ + 1) 1 = some (σ + 3)) ∧ (∀ j, j < 12 → M.2.1 (σ + 2) j = some (σ + 4 + j)) ∧ (∀ h, h < 4 → M.2.1 (σ + 16) h = some (σ + 19 + 2 * h)) ∧ (∀ t, t < 6 → M.2.1 (σ + 17) t = some (σ + 27 + t)) ∧ ∀ h, h < 4 → M.2.1 (σ + 19 + 2 * h) 0 = some (σ + 20 + 2 * h)
theorem SI.keep (h : SI M σ) (e : ∀ b, σ ≤ b → b < σ + 33 → ∀ j, M'.2.1 b j = M.2.1 b j) : SI M' σ := by
  obtain ⟨⟨a0, a1, a2, a3⟩, ⟨b0, b1⟩, c, d, f, k⟩ := h
  have e0 := e σ (by omega) (by omega)
  have e1 := e (σ + 1) (by omega) (by omega)
  exact ⟨⟨(e0 0).trans a0, (e0 1).trans a1, (e0 2).trans a2, (e0 3).trans a3⟩, ⟨(e1 0).trans b0, (e1 1).trans b1⟩, fun j hj => (e _ (by omega) (by omega) j).trans (c j hj), fun i hi => (e _ (by omega) (by omega) i).trans (d i hi), fun t ht => (e _ (by omega) (by omega) t).trans (f t ht), fun i hi => (e _ (by omega) (by omega) 0).trans (k i hi)⟩
theorem c_S_init (hσ : σ ∈ st_bases) (hz : ∀ M', NW M M' (σ + 1) (σ + 33) → RK M M' (σ + 1) σ → SI M' σ → Z none M' (σ + 33)) : jv_Ct g (d + 3) mt_S_init [.ref σ] M (σ + 1) 32 207 Z := by
  have t0 : ∀ {N}, σ < N → jv_Tg 6 σ N := fun h => ⟨(t_S0 hσ).1, h⟩
  have t16 : ∀ {N}, σ + 16 < N → jv_Tg 13 (σ + 16) N := fun h => ⟨(t_S16 hσ).1, h⟩
  have t17 : ∀ {N}, σ + 17 < N → jv_Tg 16 (σ + 17) N := fun h => ⟨(t_S17 hσ).1, h⟩
  have l68 : ∀ f i M1, i + f = 6 → NW M M1 (σ + 1) (σ + 27 + i) → RK M M1 (σ + 1) σ → ((M1.2.1 σ 0 = some (σ + 1) ∧ M1.2.1 σ 1 = some (σ + 16) ∧ M1.2.1 σ 2 = some (σ + 17) ∧ M1.2.1 σ 3 = some (σ + 18)) ∧ (M1.2.1 (σ + 1) 0 = some (σ + 2) ∧ M1.2.1 (σ + 1) 1 = some (σ + 3)) ∧ (∀ j, j < 12 → M1.2.1 (σ + 2) j = some (σ + 4 + j)) ∧ (∀ h, h < 4 → M1.2.1 (σ + 16) h = some (σ + 19 + 2 * h)) ∧ (∀ h, h < 4 → M1.2.1 (σ + 19 + 2 * h) 0 = some (σ + 20 + 2 * h))) → (∀ t, t < i → M1.2.1 (σ + 17) t = some (σ + 27 + t)) → jv_J g (d + 3) mt_S_init 68 [some (.ref σ), some (.int (nI i))] [] M1 (σ + 27 + i) f (7 * f) Z := by
    intro f
    induction f with
    | zero =>
      intro i M1 hi n1 k1 Q q
      have hi : i = 6 := by omega
      subst hi
      exact b_S_init_68 ⟨fun _ => hz M1 n1 k1 ⟨Q.1, Q.2.1, Q.2.2.1, Q.2.2.2.1, q, Q.2.2.2.2⟩, fun c => absurd (nI_le (Nat.le_refl 6) (by omega)) c⟩
    | succ f ih =>
      intro i M1 hi n1 k1 Q q
      have so : jv_sh (σ + 27 + i) = (8, 7) := by rw [Nat.add_assoc]; exact shk hσ (by omega) (st_shT i (by omega))
      have s17 : (jv_sh (σ + 17)).2 = 6 := l_S17 hσ
      refine b_S_init_68 ⟨fun c => absurd ((nn_le (a := 6) (n := i) (by omega) (by omega)).mp c) (by omega), fun _ => ⟨t0 (by omega), σ + 17, Q.1.2.2.1, so, by omega, by omega, 0, 0, by omega, by omega, ?_⟩⟩
      refine jv_ct rfl (Nat.le_of_ble_eq_true rfl) (b_U_init_0 (jv_rv_i ⟨t17 (by omega), by rw [s17]; exact vp_in_nI (by omega) (by omega), ⟨by rw [so], by omega⟩, ?_⟩))
      rw [nI_clamp (by omega), show (nI i + 1 : Int32) = nI (i + 1) from nI_add i 1]
      have ek : ∀ b, b < σ + 27 + i → b ≠ σ + 17 → ∀ j, (jv_sr (jv_zero M1 (σ + 27 + i)) (σ + 17) i (some (σ + 27 + i))).2.1 b j = M1.2.1 b j := fun b hb hne j => by rw [sr_b _ _ hne, zr_rn _ _ (by omega)]
      obtain ⟨⟨q0, q1, q2, q3⟩, ⟨q4, q5⟩, q6, q7, q8⟩ := Q
      refine (ih (i + 1) _ (by omega) (NW.zero n1 (by omega)).sr (fun b hb hne j => (ek b (by omega) (by omega) j).trans (k1 b hb hne j)) ⟨⟨(ek _ (by omega) (by omega) _).trans q0, (ek _ (by omega) (by omega) _).trans q1, (ek _ (by omega) (by omega) _).trans q2, (ek _ (by omega) (by omega) _).trans q3⟩, ⟨(ek _ (by omega) (by omega) _).trans q4, (ek _ (by omega) (by omega) _).trans q5⟩, fun j hj => (ek _ (by omega) (by omega) _).trans (q6 j hj), fun j hj => (ek _ (by omega) (by omega) _).trans (q7 j hj), fun j hj => (ek _ (by omega) (by omega) _).trans (q8 j hj)⟩ (fun j hj => ?_)).less (by omega) (by omega)
      by_cases hji : j = i
      · subst hji; exact sr_at _ _ _ _
      · rw [sr_k _ _ hji, zr_rn _ _ (by omega)]; exact q j (by omega)
  have l42 : ∀ f i M1, i + f = 4 → NW M M1 (σ + 1) (σ + 19 + 2 * i) → RK M M1 (σ + 1) σ → ((M1.2.1 σ 0 = some (σ + 1) ∧ M1.2.1 σ 1 = some (σ + 16) ∧ M1.2.1 σ 2 = some (σ + 17) ∧ M1.2.1 σ 3 = some (σ + 18)) ∧ (M1.2.1 (σ + 1) 0 = some (σ + 2) ∧ M1.2.1 (σ + 1) 1 = some (σ + 3)) ∧ (∀ j, j < 12 → M1.2.1 (σ + 2) j = some (σ + 4 + j))) → (∀ h, h < i → M1.2.1 (σ + 16) h = some (σ + 19 + 2 * h) ∧ M1.2.1 (σ + 19 + 2 * h) 0 = some (σ + 20 + 2 * h)) → jv_J g (d + 3) mt_S_init 42 [some (.ref σ), some (.int (nI i))] [] M1 (σ + 19 + 2 * i) (2 * f + 6) (11 * f + 42) Z := by
    intro f
    induction f with
    | zero =>
      intro i M1 hi n1 k1 Q q
      have hi : i = 4 := by omega
      subst hi
      refine b_S_init_42 ⟨fun _ => ?_, fun c => absurd (nI_le (Nat.le_refl 4) (by omega)) c⟩
      exact (l68 6 0 M1 rfl n1 k1 ⟨Q.1, Q.2.1, Q.2.2, fun h hh => (q h hh).1, fun h hh => (q h hh).2⟩ (fun j hj => absurd hj (Nat.not_lt_zero j))).less (by omega) (by omega)
    | succ f ih =>
      intro i M1 hi n1 k1 Q q
      have so : jv_sh (σ + 19 + 2 * i) = (1, 7) := by rw [Nat.add_assoc]; exact shk hσ (by omega) (st_shH i (by omega)).1
      have so2 : jv_sh (σ + 19 + 2 * i + 1) = (11, 4) := by rw [show σ + 19 + 2 * i + 1 = σ + (20 + 2 * i) by omega]; exact shk hσ (by omega) (st_shH i (by omega)).2
      have s16 : (jv_sh (σ + 16)).2 = 4 := l_S16 hσ
      refine b_S_init_42 ⟨fun c => absurd ((nn_le (a := 4) (n := i) (by omega) (by omega)).mp c) (by omega), fun _ => ⟨t0 (by omega), σ + 16, Q.1.2.1, so, by omega, by omega, 1, 4, by omega, by omega, ?_⟩⟩
      refine jv_ct rfl (Nat.le_of_ble_eq_true rfl) (b_H_init_0 ⟨so2, by omega, by omega, ⟨by rw [so], by omega⟩, jv_rv_i ⟨t16 (by omega), by rw [s16]; exact vp_in_nI (by omega) (by omega), ⟨by rw [so], by omega⟩, ?_⟩⟩)
      rw [nI_clamp (by omega), show (nI i + 1 : Int32) = nI (i + 1) from nI_add i 1]
      have ek : ∀ b, b < σ + 19 + 2 * i → b ≠ σ + 16 → ∀ j, (jv_sr (jv_sr (jv_zero (jv_zero M1 (σ + 19 + 2 * i)) (σ + 19 + 2 * i + 1)) (σ + 19 + 2 * i) 0 (some (σ + 19 + 2 * i + 1))) (σ + 16) i (some (σ + 19 + 2 * i))).2.1 b j = M1.2.1 b j := fun b hb hne j => by rw [sr_b _ _ hne, sr_b _ _ (by omega), zr_rn _ _ (by omega), zr_rn _ _ (by omega)]
      obtain ⟨⟨q0, q1, q2, q3⟩, ⟨q4, q5⟩, q6⟩ := Q
      refine (ih (i + 1) _ (by omega) (NW.zero (NW.zero n1 (by omega)) (by omega)).sr.sr (fun b hb hne j => (ek b (by omega) (by omega) j).trans (k1 b hb hne j)) ⟨⟨(ek _ (by omega) (by omega) _).trans q0, (ek _ (by omega) (by omega) _).trans q1, (ek _ (by omega) (by omega) _).trans q2, (ek _ (by omega) (by omega) _).trans q3⟩, ⟨(ek _ (by omega) (by omega) _).trans q4, (ek _ (by omega) (by omega) _).trans q5⟩, fun j hj => (ek _ (by omega) (by omega) _).trans (q6 j hj)⟩ (fun j hj => ?_)).less (by omega) (by omega)
      by_cases hji : j = i
      · subst hji
        refine ⟨sr_at _ _ _ _, ?_⟩
        rw [sr_b _ _ (by omega), sr_at]
        congr 1
        omega
      · refine ⟨?_, (ek _ (by omega) (by omega) _).trans (q j (by omega)).2⟩
        rw [sr_k _ _ hji, sr_b _ _ (by omega), zr_rn _ _ (by omega), zr_rn _ _ (by omega)]; exact (q j (by omega)).1
  have s1 : jv_sh (σ + 1) = (0, 5) := shk hσ (by omega) (by decide +kernel)
  have s16 : jv_sh (σ + 16) = (13, 4) := shk hσ (by omega) (by decide +kernel)
  have s17 : jv_sh (σ + 16 + 1) = (16, 6) := shk (k := 17) hσ (by omega) (by decide +kernel)
  have s18 : jv_sh (σ + 16 + 1 + 1) = (11, 8) := shk (k := 18) hσ (by omega) (by decide +kernel)
  refine jv_ct rfl (Nat.le_of_ble_eq_true rfl) (b_S_init_0 ⟨s1, by omega, by omega, 14, 98, by omega, by omega, c_D_init hσ (fun M1 n1 k1 r0 r1 q1 => jv_rv_i ⟨t0 (by omega), s16, by omega, by omega, t0 (by omega), s17, by omega, by omega, t0 (by omega), s18, by omega, by omega, t0 (by omega), ?_⟩)⟩)
  have ek : ∀ b, b < σ + 16 → b ≠ σ → ∀ j, (jv_sr (jv_zero (jv_sr (jv_zero (jv_sr (jv_zero (jv_sr M1 σ 0 (some (σ + 1))) (σ + 16)) σ 1 (some (σ + 16))) (σ + 16 + 1)) σ 2 (some (σ + 16 + 1))) (σ + 16 + 1 + 1)) σ 3 (some (σ + 16 + 1 + 1))).2.1 b j = M1.2.1 b j := fun b hb hne j => by
    rw [sr_b _ _ hne, zr_rn _ _ (by omega), sr_b _ _ hne, zr_rn _ _ (by omega), sr_b _ _ hne, zr_rn _ _ (by omega), sr_b _ _ hne]
  have n2 : NW M M1 (σ + 1) (σ + 16) := NW.trans (NW.zero NW.rf (Nat.le_refl _)) n1 (by omega)
  refine (l42 4 0 _ rfl ((NW.zero (NW.zero (NW.zero n2.sr (by omega)).sr (by omega)).sr (by omega)).sr) (fun b hb hne j => ?_) ⟨⟨?_, ?_, ?_, sr_at _ _ _ _⟩, ⟨(ek _ (by omega) (by omega) _).trans r0, (ek _ (by omega) (by omega) _).trans r1⟩, fun j hj => (ek _ (by omega) (by omega) _).trans (q1 j hj)⟩ (fun j hj => absurd hj (Nat.not_lt_zero j))).less (by omega) (by omega)
  · rw [ek b (by omega) hne j, k1 b (by omega) (by omega) j, zr_rn _ _ (by omega)]
  · rw [sr_k _ _ (by omega), zr_rn _ _ (by omega), sr_k _ _ (by omega), zr_rn _ _ (by omega), sr_k _ _ (by omega), zr_rn _ _ (by omega), sr_at]
  · rw [sr_k _ _ (by omega), zr_rn _ _ (by omega), sr_k _ _ (by omega), zr_rn _ _ (by omega), sr_at]
  · rw [sr_k _ _ (by omega), zr_rn _ _ (by omega), sr_at]
end INI
