section INI
variable {g : jv_G} {d : Nat} {M M' M1 M2 : jv_Mem} {Z : Option Value → jv_Mem → Nat → Prop} {N N' N1 N2 a k σ : Nat} {r : Option Nat}
theorem c_P_init (ta : (jv_sh a).1 = 4) (haN : a < N) (s0 : jv_sh N = (11, 16)) (s1 : jv_sh (N + 1) = (11, 16)) (s2 : jv_sh (N + 1 + 1) = (11, 16)) (hz : ∀ M', NW M M' N (N + 3) → RK M M' N a → M'.2.1 a 0 = some N → M'.2.1 a 1 = some (N + 1) → M'.2.1 a 2 = some (N + 2) → Z none M' (N + 3)) : jv_Ct g (d + 1) mt_P_init [.ref a] M N 3 48 Z := by
  refine jv_ct rfl (Nat.le_of_ble_eq_true rfl) (b_P_init_0 ⟨s0, by omega, by omega, ⟨ta, by omega⟩, s1, by omega, by omega, ⟨ta, by omega⟩, s2, by omega, by omega, ⟨ta, by omega⟩, ?_⟩)
  refine hz _ (NW.zero (NW.zero (NW.zero NW.rf (by omega)).sr (by omega)).sr (by omega)).sr (fun b hb hne j => ?_) ?_ ?_ ?_
  · rw [sr_b _ _ hne, zr_rn _ _ (by omega), sr_b _ _ hne, zr_rn _ _ (by omega), sr_b _ _ hne, zr_rn _ _ (by omega)]
  · rw [sr_k _ _ (by omega), zr_rn _ _ (by omega), sr_k _ _ (by omega), zr_rn _ _ (by omega), sr_at]
  · rw [sr_k _ _ (by omega), zr_rn _ _ (by omega), sr_at]
  · exact sr_at _ _ _ _
theorem c_G_init (ta : (jv_sh a).1 = 5) (haN : a < N) (s0 : jv_sh N = (11, 6)) (s1 : jv_sh (N + 1) = (11, 6)) (s2 : jv_sh (N + 1 + 1) = (11, 6)) (hz : ∀ M', NW M M' N (N + 3) → RK M M' N a → M'.2.1 a 0 = some N → M'.2.1 a 1 = some (N + 1) → M'.2.1 a 2 = some (N + 2) → Z none M' (N + 3)) : jv_Ct g (d + 1) mt_G_init [.ref a] M N 3 18 Z := by
  refine jv_ct rfl (Nat.le_of_ble_eq_true rfl) (b_G_init_0 ⟨s0, by omega, by omega, ⟨ta, by omega⟩, s1, by omega, by omega, ⟨ta, by omega⟩, s2, by omega, by omega, ⟨ta, by omega⟩, ?_⟩)
  refine hz _ (NW.zero (NW.zero (NW.zero NW.rf (by omega)).sr (by omega)).sr (by omega)).sr (fun b hb hne j => ?_) ?_ ?_ ?_
  · rw [sr_b _ _ hne, zr_rn _ _ (by omega), sr_b _ _ hne, zr_rn _ _ (by omega), sr_b _ _ hne, zr_rn _ _ (by omega)]
  · rw [sr_k _ _ (by omega), zr_rn _ _ (by omega), sr_k _ _ (by omega), zr_rn _ _ (by omega), sr_at]
  · rw [sr_k _ _ (by omega), zr_rn _ _ (by omega), sr_at]
  · exact sr_at _ _ _ _
def TX1 (M : jv_Mem) : Prop := (M.2.1 1 0 = some 2 ∧ M.2.1 1 2 = some 3 ∧ M.2.1 1 3 = some 7) ∧ (M.2.1 3 0 = some 4 ∧ M.2.1 3 1 = some 5 ∧ M.2.1 3 2 = some 6) ∧ SI M 7
theorem TX1.keep (h : TX1 M) (e : ∀ b, 1 ≤ b → b < 40 → ∀ j, M'.2.1 b j = M.2.1 b j) : TX1 M' := by
  obtain ⟨⟨a0, a1, a2⟩, ⟨b0, b1, b2⟩, s⟩ := h
  have e1 := e 1 (by omega) (by omega)
  have e3 := e 3 (by omega) (by omega)
  exact ⟨⟨(e1 0).trans a0, (e1 2).trans a1, (e1 3).trans a2⟩, ⟨(e3 0).trans b0, (e3 1).trans b1, (e3 2).trans b2⟩, s.keep (fun b h1 h2 j => e b (by omega) (by omega) j)⟩
theorem c_T_init (hz : ∀ M', NW M M' 2 40 → RK M M' 2 1 → TX1 M' → Z none M' 40) : jv_Ct g (d + 4) mt_T_init [.ref 1] M 2 38 417 Z := by
  have t1 : ∀ {N}, 1 < N → jv_Tg 7 1 N := fun h => ⟨by decide +kernel, h⟩
  refine jv_ct rfl (Nat.le_of_ble_eq_true rfl) (b_T_init_0 ⟨by decide +kernel, by omega, by omega, t1 (by omega), by decide +kernel, by omega, by omega, 3, 48, by omega, by omega, ?_⟩)
  refine c_P_init (a := 3) (N := 4) (by decide +kernel) (by omega) (by decide +kernel) (by decide +kernel) (by decide +kernel) (fun M1 n1 k1 p0 p1 p2 => jv_rv_i ⟨t1 (by omega), by decide +kernel, by omega, by omega, 32, 207, by omega, by omega, ?_⟩)
  refine c_S_init (σ := 7) h7s (fun M2 n2 k2 s2 => jv_rv_i ⟨t1 (by omega), ?_⟩)
  have n3 : NW M M1 2 7 := NW.trans (NW.zero (NW.zero NW.rf (by omega)).sr (by omega)) n1 (by omega)
  have n4 : NW M M2 2 40 := NW.trans (NW.zero n3.sr (by omega)) n2 (by omega)
  have e2 : ∀ b, b < 7 → b ≠ 1 → ∀ j, M2.2.1 b j = M1.2.1 b j := fun b hb hne j => by
    rw [k2 b (by omega) (by omega) j, zr_rn _ _ (by omega), sr_b _ _ hne]
  have e21 : ∀ j, j ≠ 2 → M2.2.1 1 j = M1.2.1 1 j := fun j hj => by
    rw [k2 1 (by omega) (by omega) j, zr_rn _ _ (by omega), sr_k _ _ hj]
  refine hz _ n4.sr (fun b hb hne j => ?_) ⟨⟨?_, ?_, sr_at _ _ _ _⟩, ⟨?_, ?_, ?_⟩, s2.keep (fun b h1 h2 j => sr_b _ _ (by omega))⟩
  · rw [sr_b _ _ hne, e2 b (by omega) hne, k1 b (by omega) (by omega) j, zr_rn _ _ (by omega), sr_b _ _ hne, zr_rn _ _ (by omega)]
  · rw [sr_k _ _ (by omega), e21 0 (by omega), k1 1 (by omega) (by omega) 0, zr_rn _ _ (by omega), sr_at]
  · rw [sr_k _ _ (by omega), k2 1 (by omega) (by omega) 2, zr_rn _ _ (by omega), sr_at]
  · rw [sr_b _ _ (by omega), e2 3 (by omega) (by omega)]; exact p0
  · rw [sr_b _ _ (by omega), e2 3 (by omega) (by omega)]; exact p1
  · rw [sr_b _ _ (by omega), e2 3 (by omega) (by omega)]; exact p2
theorem b14 : ∀ i, i < 14 → 112 + 33 * i ∈ st_bases := by decide
theorem c_A_init (hz : ∀ M', NW M M' 111 574 → RK M M' 111 110 → M'.2.1 110 0 = some 111 → (∀ i, i < 14 → M'.2.1 111 i = some (112 + 33 * i)) → (∀ i, i < 14 → SI M' (112 + 33 * i)) → Z none M' 574) : jv_Ct g (d + 4) mt_A_init [.ref 110] M 111 463 3024 Z := by
  have t110 : ∀ {N}, 110 < N → jv_Tg 3 110 N := fun h => ⟨by decide +kernel, h⟩
  have l : ∀ f i M1, i + f = 14 → NW M M1 111 (112 + 33 * i) → RK M M1 111 110 → M1.2.1 110 0 = some 111 → (∀ j, j < i → M1.2.1 111 j = some (112 + 33 * j)) → (∀ j, j < i → SI M1 (112 + 33 * j)) → jv_J g (d + 4) mt_A_init 15 [some (.ref 110), some (.int (nI i))] [] M1 (112 + 33 * i) (33 * f) (215 * f) Z := by
    intro f
    induction f with
    | zero =>
      intro i M1 hi n1 k1 r0 q s
      have hi : i = 14 := by omega
      subst hi
      exact b_A_init_15 ⟨fun _ => hz M1 n1 k1 r0 q s, fun c => absurd (nI_le (Nat.le_refl 14) (by omega)) c⟩
    | succ f ih =>
      intro i M1 hi n1 k1 r0 q s
      have hσ := b14 i (by omega)
      have so : jv_sh (112 + 33 * i) = (6, 8) := shk (k := 0) hσ (by omega) (by decide +kernel)
      refine b_A_init_15 ⟨fun c => absurd ((nn_le (a := 14) (n := i) (by omega) (by omega)).mp c) (by omega), fun _ => ⟨t110 (by omega), 111, r0, so, by omega, by omega, 32, 207, by omega, by omega, c_S_init hσ (fun M2 n2 k2 s2 => jv_rv_i ⟨⟨tg_111.1, by omega⟩, by rw [sl_111]; exact vp_in_nI (by omega) (by omega), ⟨by rw [so], by omega⟩, ?_⟩)⟩⟩
      rw [nI_clamp (by omega), show (nI i + 1 : Int32) = nI (i + 1) from nI_add i 1]
      have ek : ∀ b, b < 112 + 33 * i → b ≠ 111 → ∀ j, (jv_sr M2 111 i (some (112 + 33 * i))).2.1 b j = M1.2.1 b j := fun b hb hne j => by
        rw [sr_b _ _ hne, k2 b (by omega) (by omega) j, zr_rn _ _ (by omega)]
      have n3 : NW M M2 111 (112 + 33 * i + 33) := NW.trans (NW.zero n1 (by omega)) n2 (by omega)
      refine (ih (i + 1) _ (by omega) n3.sr (fun b hb hne j => (ek b (by omega) (by omega) j).trans (k1 b hb hne j)) ((ek _ (by omega) (by omega) _).trans r0) (fun j hj => ?_) (fun j hj => ?_)).less (by omega) (by omega)
      · by_cases hji : j = i
        · subst hji; exact sr_at _ _ _ _
        · rw [sr_k _ _ hji, k2 111 (by omega) (by omega) j, zr_rn _ _ (by omega)]; exact q j (by omega)
      · by_cases hji : j = i
        · subst hji; exact s2.keep (fun b h1 h2 j => sr_b _ _ (by omega))
        · exact (s j (by omega)).keep (fun b h1 h2 j => ek b (by omega) (by omega) j)
  refine jv_ct rfl (Nat.le_of_ble_eq_true rfl) (b_A_init_0 ⟨by decide +kernel, by omega, by omega, t110 (by omega), ?_⟩)
  refine (l 14 0 _ rfl (NW.zero NW.rf (by omega)).sr (fun b hb hne j => ?_) (sr_at _ _ _ _) (fun j hj => absurd hj (Nat.not_lt_zero j)) (fun j hj => absurd hj (Nat.not_lt_zero j))).less (by omega) (by omega)
  rw [sr_b _ _ hne, zr_rn _ _ (by omega)]
/-- the references of a new HaltRing -/
def RI0 (M : jv_Mem) : Prop := (M.2.1 0 0 = some 1 ∧ M.2.1 0 1 = some 40 ∧ M.2.1 0 2 = some 44 ∧ M.2.1 0 3 = some 77 ∧ M.2.1 0 4 = some 110 ∧ M.2.1 0 5 = some 574 ∧ M.2.1 0 6 = some 575 ∧ M.2.1 0 7 = some 576 ∧ M.2.1 0 8 = some 580) ∧ TX1 M ∧ (M.2.1 40 0 = some 41 ∧ M.2.1 40 1 = some 42 ∧ M.2.1 40 2 = some 43) ∧ (SI M 44 ∧ SI M 77) ∧ (M.2.1 110 0 = some 111 ∧ (∀ i, i < 14 → M.2.1 111 i = some (112 + 33 * i)) ∧ ∀ i, i < 14 → SI M (112 + 33 * i)) ∧ (M.2.1 574 0 = some 581 ∧ M.2.1 574 1 = some 614) ∧ (M.2.1 576 0 = some 577 ∧ M.2.1 576 1 = some 578 ∧ M.2.1 576 2 = some 579) ∧ SI M 581 ∧ SI M 614
theorem c_R_init (hz : ∀ M', NW M M' 1 647 → RI0 M' → Z none M' 647) : jv_Ct g (d + 5) mt_R_init [.ref 0] M 1 646 4452 Z := by
  have t0 : ∀ {N}, 0 < N → jv_Tg 9 0 N := fun h => ⟨by decide +kernel, h⟩
  refine jv_ct rfl (Nat.le_of_ble_eq_true rfl) (b_R_init_0 ⟨by decide +kernel, by omega, by omega, 38, 417, by omega, by omega, c_T_init (fun M1 n1 k1 x1 => jv_rv_i ⟨t0 (by omega), by decide +kernel, by omega, by omega, 3, 48, by omega, by omega, ?_⟩)⟩)
  refine c_P_init (a := 40) (N := 41) (by decide +kernel) (by omega) (by decide +kernel) (by decide +kernel) (by decide +kernel) (fun M2 n2 k2 p0 p1 p2 => jv_rv_i ⟨t0 (by omega), by decide +kernel, by omega, by omega, 32, 207, by omega, by omega, ?_⟩)
  refine c_S_init (σ := 44) (by decide) (fun M3 n3 k3 s3 => jv_rv_i ⟨t0 (by omega), by decide +kernel, by omega, by omega, 32, 207, by omega, by omega, ?_⟩)
  refine c_S_init (σ := 77) (by decide) (fun M4 n4 k4 s4 => jv_rv_i ⟨t0 (by omega), by decide +kernel, by omega, by omega, 463, 3024, by omega, by omega, ?_⟩)
  refine c_A_init (fun M5 n5 k5 a5 b5 c5 => jv_rv_i ⟨t0 (by omega), by decide +kernel, by omega, by omega, t0 (by omega), by decide +kernel, by omega, by omega, t0 (by omega), by decide +kernel, by omega, by omega, 3, 18, by omega, by omega, ?_⟩)
  refine c_G_init (a := 576) (N := 577) (by decide +kernel) (by omega) (by decide +kernel) (by decide +kernel) (by decide +kernel) (fun M6 n6 k6 g0 g1 g2 => jv_rv_i ⟨t0 (by omega), by decide +kernel, by omega, by omega, t0 (by omega), ?_⟩)
  -- what the steps leave alone
  have m1 : NW M M1 1 40 := NW.trans (NW.zero NW.rf (by omega)) n1 (by omega)
  have m2 : NW M M2 1 44 := NW.trans (NW.zero m1.sr (by omega)) n2 (by omega)
  have m3 : NW M M3 1 77 := NW.trans (NW.zero m2.sr (by omega)) n3 (by omega)
  have m4 : NW M M4 1 110 := NW.trans (NW.zero m3.sr (by omega)) n4 (by omega)
  have m5 : NW M M5 1 574 := NW.trans (NW.zero m4.sr (by omega)) n5 (by omega)
  have m6 : NW M M6 1 580 := NW.trans (NW.zero (NW.zero (NW.zero m5.sr (by omega)).sr (by omega)).sr (by omega)) n6 (by omega)
  have e2 : ∀ b, 1 ≤ b → b < 40 → ∀ j, M2.2.1 b j = M1.2.1 b j := fun b h1 h2 j => by rw [k2 b (by omega) (by omega) j, zr_rn _ _ (by omega), sr_b _ _ (by omega)]
  have e3 : ∀ b, 1 ≤ b → b < 44 → ∀ j, M3.2.1 b j = M2.2.1 b j := fun b h1 h2 j => by rw [k3 b (by omega) (by omega) j, zr_rn _ _ (by omega), sr_b _ _ (by omega)]
  have e4 : ∀ b, 1 ≤ b → b < 77 → ∀ j, M4.2.1 b j = M3.2.1 b j := fun b h1 h2 j => by rw [k4 b (by omega) (by omega) j, zr_rn _ _ (by omega), sr_b _ _ (by omega)]
  have e5 : ∀ b, 1 ≤ b → b < 110 → ∀ j, M5.2.1 b j = M4.2.1 b j := fun b h1 h2 j => by rw [k5 b (by omega) (by omega) j, zr_rn _ _ (by omega), sr_b _ _ (by omega)]
  have e6 : ∀ b, 1 ≤ b → b < 574 → ∀ j, M6.2.1 b j = M5.2.1 b j := fun b h1 h2 j => by rw [k6 b (by omega) (by omega) j, zr_rn _ _ (by omega), sr_b _ _ (by omega), zr_rn _ _ (by omega), sr_b _ _ (by omega), zr_rn _ _ (by omega), sr_b _ _ (by omega)]
  -- cell 0
  have z2 : ∀ j, j ≠ 0 → M2.2.1 0 j = M1.2.1 0 j := fun j hj => by rw [k2 0 (by omega) (by omega) j, zr_rn _ _ (by omega), sr_k _ _ hj]
  have y0 : M2.2.1 0 0 = some 1 := by rw [k2 0 (by omega) (by omega) 0, zr_rn _ _ (by omega), sr_at]
  have z3 : ∀ j, j ≠ 1 → M3.2.1 0 j = M2.2.1 0 j := fun j hj => by rw [k3 0 (by omega) (by omega) j, zr_rn _ _ (by omega), sr_k _ _ hj]
  have y1 : M3.2.1 0 1 = some 40 := by rw [k3 0 (by omega) (by omega) 1, zr_rn _ _ (by omega), sr_at]
  have z4 : ∀ j, j ≠ 2 → M4.2.1 0 j = M3.2.1 0 j := fun j hj => by rw [k4 0 (by omega) (by omega) j, zr_rn _ _ (by omega), sr_k _ _ hj]
  have y2 : M4.2.1 0 2 = some 44 := by rw [k4 0 (by omega) (by omega) 2, zr_rn _ _ (by omega), sr_at]
  have z5 : ∀ j, j ≠ 3 → M5.2.1 0 j = M4.2.1 0 j := fun j hj => by rw [k5 0 (by omega) (by omega) j, zr_rn _ _ (by omega), sr_k _ _ hj]
  have y3 : M5.2.1 0 3 = some 77 := by rw [k5 0 (by omega) (by omega) 3, zr_rn _ _ (by omega), sr_at]
  have z6 : ∀ j, j ≠ 4 → j ≠ 5 → j ≠ 6 → M6.2.1 0 j = M5.2.1 0 j := fun j h4 h5 h6 => by rw [k6 0 (by omega) (by omega) j, zr_rn _ _ (by omega), sr_k _ _ h6, zr_rn _ _ (by omega), sr_k _ _ h5, zr_rn _ _ (by omega), sr_k _ _ h4]
  have y4 : M6.2.1 0 4 = some 110 := by rw [k6 0 (by omega) (by omega) 4, zr_rn _ _ (by omega), sr_k _ _ (by omega), zr_rn _ _ (by omega), sr_k _ _ (by omega), zr_rn _ _ (by omega), sr_at]
  have y5 : M6.2.1 0 5 = some 574 := by rw [k6 0 (by omega) (by omega) 5, zr_rn _ _ (by omega), sr_k _ _ (by omega), zr_rn _ _ (by omega), sr_at]
  have y6 : M6.2.1 0 6 = some 575 := by rw [k6 0 (by omega) (by omega) 6, zr_rn _ _ (by omega), sr_at]
  -- the memory ahead of the slots
  obtain ⟨M7, eM7⟩ : ∃ M7, M7 = jv_sr (jv_zero (jv_sr M6 0 7 (some 576)) 580) 0 8 (some 580) := ⟨_, rfl⟩
  have w7 : ∀ b, 1 ≤ b → b < 580 → ∀ j, M7.2.1 b j = M6.2.1 b j := fun b h1 h2 j => by rw [eM7, sr_b _ _ (by omega), zr_rn _ _ (by omega), sr_b _ _ (by omega)]
  have w70 : ∀ j, j ≠ 7 → j ≠ 8 → M7.2.1 0 j = M6.2.1 0 j := fun j h7 h8 => by rw [eM7, sr_k _ _ h8, zr_rn _ _ (by omega), sr_k _ _ h7]
  have y7 : M7.2.1 0 7 = some 576 := by rw [eM7, sr_k _ _ (by omega), zr_rn _ _ (by omega), sr_at]
  have y8 : M7.2.1 0 8 = some 580 := by rw [eM7, sr_at]
  have m7 : NW M M7 1 581 := by rw [eM7]; exact (NW.zero m6.sr (by omega)).sr
  show jv_J g (d + 5) mt_R_init 95 [some (.ref 0), some (.int (nI 0))] [] (jv_sr (jv_zero (jv_sr M6 0 7 (some 576)) 580) 0 8 (some 580)) 581 _ _ Z
  rw [← eM7]
  have f5 : M7.2.1 0 5 = some 574 := (w70 5 (by omega) (by omega)).trans y5
  refine b_R_init_95 ⟨fun c => absurd ((nn_le (a := 2) (n := 0) (by omega) (by omega)).mp c) (by omega), fun _ => ⟨t0 (by omega), 574, f5, by decide +kernel, by omega, by omega, 32, 207, by omega, by omega, c_S_init (σ := 581) (by decide) (fun M8 n8 k8 s8 => jv_rv_i ⟨⟨tg_574.1, by omega⟩, by rw [sl_574]; exact vp_in_nI (n := 0) (by omega) (by omega), ⟨by decide +kernel, by omega⟩, ?_⟩)⟩⟩
  rw [show Int32.toNatClampNeg (nI 0) = 0 from rfl, show (nI 0 + 1 : Int32) = nI 1 from rfl]
  have w8 : ∀ b, b < 581 → ∀ j, M8.2.1 b j = M7.2.1 b j := fun b hb j => by rw [k8 b (by omega) (by omega) j, zr_rn _ _ (by omega)]
  have m8 : NW M M8 1 614 := NW.trans (NW.zero m7 (by omega)) n8 (by omega)
  have f5' : (jv_sr M8 574 0 (some 581)).2.1 0 5 = some 574 := by rw [sr_b _ _ (by omega), w8 0 (by omega)]; exact f5
  refine b_R_init_95 ⟨fun c => absurd ((nn_le (a := 2) (n := 1) (by omega) (by omega)).mp c) (by omega), fun _ => ⟨t0 (by omega), 574, f5', by decide +kernel, by omega, by omega, 32, 207, by omega, by omega, c_S_init (σ := 614) (by decide) (fun M9 n9 k9 s9 => jv_rv_i ⟨⟨tg_574.1, by omega⟩, by rw [sl_574]; exact vp_in_nI (n := 1) (by omega) (by omega), ⟨by decide +kernel, by omega⟩, ?_⟩)⟩⟩
  rw [show Int32.toNatClampNeg (nI 1) = 1 from rfl]
  refine b_R_init_95 ⟨fun _ => ?_, fun c => absurd (show (2 : Int32) ≤ nI 1 + 1 by decide) c⟩
  have m9 : NW M M9 1 647 := NW.trans (NW.zero m8.sr (by omega)) n9 (by omega)
  obtain ⟨MX, eMX⟩ : ∃ MX, MX = jv_sr M9 574 1 (some 614) := ⟨_, rfl⟩
  have wX : ∀ b, b < 614 → b ≠ 574 → ∀ j, MX.2.1 b j = M8.2.1 b j := fun b hb hne j => by rw [eMX, sr_b _ _ hne, k9 b (by omega) (by omega) j, zr_rn _ _ (by omega), sr_b _ _ hne]
  have wX7 : ∀ b, b < 581 → b ≠ 574 → ∀ j, MX.2.1 b j = M7.2.1 b j := fun b hb hne j => (wX b (by omega) hne j).trans (w8 b hb j)
  have w76 : ∀ b, 1 ≤ b → b < 580 → b ≠ 574 → ∀ j, MX.2.1 b j = M6.2.1 b j := fun b h1 hb hne j => (wX7 b (by omega) hne j).trans (w7 b h1 hb j)
  have w75 : ∀ b, 1 ≤ b → b < 574 → ∀ j, MX.2.1 b j = M5.2.1 b j := fun b h1 hb j => (w76 b h1 (by omega) (by omega) j).trans (e6 b h1 hb j)
  have w74 : ∀ b, 1 ≤ b → b < 110 → ∀ j, MX.2.1 b j = M4.2.1 b j := fun b h1 hb j => (w75 b h1 (by omega) j).trans (e5 b h1 hb j)
  have w73 : ∀ b, 1 ≤ b → b < 77 → ∀ j, MX.2.1 b j = M3.2.1 b j := fun b h1 hb j => (w74 b h1 (by omega) j).trans (e4 b h1 hb j)
  have w72 : ∀ b, 1 ≤ b → b < 44 → ∀ j, MX.2.1 b j = M2.2.1 b j := fun b h1 hb j => (w73 b h1 (by omega) j).trans (e3 b h1 hb j)
  have w71 : ∀ b, 1 ≤ b → b < 40 → ∀ j, MX.2.1 b j = M1.2.1 b j := fun b h1 hb j => (w72 b h1 (by omega) j).trans (e2 b h1 hb j)
  have v7 : ∀ j, MX.2.1 0 j = M7.2.1 0 j := fun j => wX7 0 (by omega) (by omega) j
  have v6 : ∀ j, j ≠ 7 → j ≠ 8 → MX.2.1 0 j = M6.2.1 0 j := fun j h7 h8 => (v7 j).trans (w70 j h7 h8)
  have v5 : ∀ j, j < 4 → MX.2.1 0 j = M5.2.1 0 j := fun j hj => (v6 j (by omega) (by omega)).trans (z6 j (by omega) (by omega) (by omega))
  rw [← eMX]
  refine hz MX (by rw [eMX]; exact m9.sr) ⟨⟨?_, ?_, ?_, (v5 3 (by omega)).trans y3, (v6 4 (by omega) (by omega)).trans y4, (v6 5 (by omega) (by omega)).trans y5, (v6 6 (by omega) (by omega)).trans y6, (v7 7).trans y7, (v7 8).trans y8⟩, x1.keep w71, ⟨?_, ?_, ?_⟩, ⟨s3.keep (fun b h1 h2 j => w73 b (by omega) (by omega) j), s4.keep (fun b h1 h2 j => w74 b (by omega) (by omega) j)⟩, ⟨(w75 110 (by omega) (by omega) 0).trans a5, fun i hi => (w75 111 (by omega) (by omega) i).trans (b5 i hi), fun i hi => (c5 i hi).keep (fun b h1 h2 j => w75 b (by omega) (by omega) j)⟩, ⟨?_, ?_⟩, ⟨(w76 576 (by omega) (by omega) (by omega) 0).trans g0, (w76 576 (by omega) (by omega) (by omega) 1).trans g1, (w76 576 (by omega) (by omega) (by omega) 2).trans g2⟩, s8.keep (fun b h1 h2 j => wX b (by omega) (by omega) j), s9.keep (fun b h1 h2 j => by rw [eMX, sr_b _ _ (by omega)])⟩
  · exact ((v5 0 (by omega)).trans (z5 0 (by omega))).trans ((z4 0 (by omega)).trans ((z3 0 (by omega)).trans y0))
  · exact ((v5 1 (by omega)).trans (z5 1 (by omega))).trans ((z4 1 (by omega)).trans y1)
  · exact ((v5 2 (by omega)).trans (z5 2 (by omega))).trans y2
  · exact (w72 40 (by omega) (by omega) 0).trans p0
  · exact (w72 40 (by omega) (by omega) 1).trans p1
  · exact (w72 40 (by omega) (by omega) 2).trans p2
  · rw [eMX, sr_k _ _ (by omega), k9 574 (by omega) (by omega) 0, zr_rn _ _ (by omega), sr_at]
  · rw [eMX, sr_at]
/-! the reference's constructor -/
def fld (i : Nat) : Nat := [1, 5, 7, 8, 10, 12, 14, 15, 17, 18, 19, 20, 21, 22, 24, 25, 27, 28, 29].getD i 0
def mch (M : jv_Mem) : Nat → jv_Mem
  | 0 => M
  | i + 1 => jv_sr (jv_zero (mch M i) (648 + i)) 647 (fld i) (some (648 + i))
def fr : Nat → Nat → Option Nat
  | 0, _ => none
  | i + 1, k => if k = fld i then some (648 + i) else fr i k
theorem fld_lt : ∀ i, i < 19 → fld i < 34 := by decide
theorem fr_hi {k : Nat} (hk : 34 ≤ k) : ∀ i, i ≤ 19 → fr i k = none
  | 0, _ => rfl
  | i + 1, hi => by
    have := fld_lt i (by omega)
    show (if k = fld i then some (648 + i) else fr i k) = none
    rw [if_neg (by omega)]
    exact fr_hi hk i (by omega)
theorem fr_lo : ∀ k, k < 34 → (if k = 33 then some 667 else fr 19 k) = mref k := by decide +kernel
theorem mref_hi {k : Nat} (hk : 34 ≤ k) : mref k = none := by
  unfold mref
  split
  all_goals first | rfl | (exfalso; omega)
theorem mch_ok (hM : ∀ k, M.2.1 647 k = none) : ∀ i, i ≤ 19 → NW M (mch M i) 648 (648 + i) ∧ (∀ k, (mch M i).2.1 647 k = fr i k) ∧ ∀ b, b < 647 → ∀ j, (mch M i).2.1 b j = M.2.1 b j
  | 0, _ => ⟨NW.rf, hM, fun _ _ _ => rfl⟩
  | i + 1, hi => by
    obtain ⟨h1, h2, h3⟩ := mch_ok hM i (by omega)
    refine ⟨(NW.zero h1 (by omega)).sr, fun k => ?_, fun b hb j => ?_⟩
    · show (jv_sr (jv_zero (mch M i) (648 + i)) 647 (fld i) (some (648 + i))).2.1 647 k = if k = fld i then some (648 + i) else fr i k
      by_cases hk : k = fld i
      · rw [if_pos hk, hk, sr_at]
      · rw [if_neg hk, sr_k _ _ hk, zr_rn _ _ (by omega), h2 k]
    · show (jv_sr (jv_zero (mch M i) (648 + i)) 647 (fld i) (some (648 + i))).2.1 b j = _
      rw [sr_b _ _ (by omega), zr_rn _ _ (by omega)]
      exact h3 b hb j
theorem c_M_init (hM : ∀ k, M.2.1 647 k = none) (hI : ∀ k, M.1 647 k = 0) (hl : M.2.2 647 = 0) (hz : ∀ M', (∀ b, b < 647 → (∀ j, M'.1 b j = M.1 b j) ∧ (∀ j, M'.2.1 b j = M.2.1 b j) ∧ M'.2.2 b = M.2.2 b) → (∀ k, M'.2.1 647 k = mref k) → (∀ k, M'.1 647 k = if k = 32 then nI 63 else 0) → M'.2.2 647 = 0 → (∀ b, 648 ≤ b → b < 668 → ∀ j, M'.1 b j = 0) → Z none M' 668) : jv_Ct g (d + 1) mt_M_init [.ref 647] M 648 20 3594 Z := by
  have t : ∀ {N}, 647 < N → jv_Tg 10 647 N := fun h => ⟨by decide +kernel, h⟩
  refine jv_ct rfl (Nat.le_of_ble_eq_true rfl) (b_M_init_0 ?_)
  obtain ⟨n1, r1, k1⟩ := mch_ok hM 19 (Nat.le_refl _)
  have key : Z none (jv_sr (jv_zero (jv_si (mch M 19) 647 32 63) 667) 647 33 (some 667)) 668 := by
    refine hz _ (fun b hb => ⟨fun j => ?_, fun j => ?_, ?_⟩) (fun k => ?_) (fun k => ?_) ?_ (fun b h1 h2 j => ?_)
    · show (jv_zero (jv_si (mch M 19) 647 32 63) 667).1 b j = _
      rw [zr_ne _ _ (by omega), si_b _ _ (by omega)]; exact (n1.1 b (by omega)).1 j
    · rw [sr_b _ _ (by omega), zr_rn _ _ (by omega)]; exact k1 b hb j
    · show (jv_zero (jv_si (mch M 19) 647 32 63) 667).2.2 b = _
      rw [zr_ln _ (by omega)]; exact (n1.1 b (by omega)).2
    · have e : (jv_sr (jv_zero (jv_si (mch M 19) 647 32 63) 667) 647 33 (some 667)).2.1 647 k = if k = 33 then some 667 else fr 19 k := by
        by_cases hk : k = 33
        · rw [if_pos hk, hk, sr_at]
        · rw [if_neg hk, sr_k _ _ hk, zr_rn _ _ (by omega)]; exact r1 k
      rw [e]
      by_cases hk : k < 34
      · exact fr_lo k hk
      · rw [if_neg (by omega), fr_hi (by omega) 19 (Nat.le_refl _), mref_hi (by omega)]
    · show (jv_zero (jv_si (mch M 19) 647 32 63) 667).1 647 k = _
      rw [zr_ne _ _ (by omega), si_if]
      by_cases hk : k = 32
      · rw [if_pos hk, if_pos hk]; rfl
      · rw [if_neg hk, if_neg hk, (n1.1 647 (by omega)).1 k]; exact hI k
    · show (jv_zero (jv_si (mch M 19) 647 32 63) 667).2.2 647 = _
      rw [zr_ln _ (by omega)]; exact ((n1.1 647 (by omega)).2).trans hl
    · show (jv_zero (jv_si (mch M 19) 647 32 63) 667).1 b j = _
      by_cases hb : b = 667
      · subst hb; exact zr_at _ _ _
      · rw [zr_ne _ _ hb, si_b _ _ (by omega)]; exact (n1.2 b h1 (by omega)).1 j
  refine ⟨by decide +kernel, by omega, by omega, t (by omega), by decide +kernel, by omega, by omega, t (by omega), by decide +kernel, by omega, by omega, t (by omega), by decide +kernel, by omega, by omega, t (by omega), by decide +kernel, by omega, by omega, t (by omega), by decide +kernel, by omega, by omega, t (by omega), by decide +kernel, by omega, by omega, t (by omega), by decide +kernel, by omega, by omega, t (by omega), by decide +kernel, by omega, by omega, t (by omega), by decide +kernel, by omega, by omega, t (by omega), by decide +kernel, by omega, by omega, t (by omega), by decide +kernel, by omega, by omega, t (by omega), by decide +kernel, by omega, by omega, t (by omega), by decide +kernel, by omega, by omega, t (by omega), by decide +kernel, by omega, by omega, t (by omega), by decide +kernel, by omega, by omega, t (by omega), by decide +kernel, by omega, by omega, t (by omega), by decide +kernel, by omega, by omega, t (by omega), by decide +kernel, by omega, by omega, t (by omega), t (by omega), by decide +kernel, by omega, by omega, t (by omega), key⟩
end INI
