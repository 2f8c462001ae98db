/-- n places copied into place k -/
def vc (W : SV) (k n : Nat) (f : Nat → Int32) : SV := fun k' j => if k' = k ∧ j < n then f j else W k' j
theorem vc_s (W : SV) {k n : Nat} {f : Nat → Int32} {j : Nat} (h : j < n) : vc W k n f k j = f j := by simp [vc, h]
theorem vc_k (W : SV) {k n k' : Nat} {f : Nat → Int32} {j : Nat} (h : k' ≠ k) : vc W k n f k' j = W k' j := by simp [vc, h]
section CP
variable {M : jv_Mem} {τ : Nat} {W : SV} {ρ : Nat → Nat}
theorem cp_3  (a0 n : Nat) : jv_cp (sw M τ W ρ) a0 (τ + 3) 0 0 n = sw M τ (vc W (3) n ((sw M τ W ρ).1 a0)) ρ := by
  unfold jv_cp
  show (_, _) = (_, _)
  congr 1
  funext b j
  have e : (sw M τ W ρ).1 b j = if τ ≤ b ∧ b < τ + 33 then W (b - τ) j else M.1 b j := rfl
  show (if b = τ + 3 then va_cpy ((sw M τ W ρ).1 a0) ((sw M τ W ρ).1 (τ + 3)) 0 0 n j else (sw M τ W ρ).1 b j) = if τ ≤ b ∧ b < τ + 33 then vc W (3) n ((sw M τ W ρ).1 a0) (b - τ) j else M.1 b j
  unfold vc va_cpy
  by_cases hb : b = τ + 3
  · subst hb
    rw [if_pos rfl, if_pos (show τ ≤ τ + 3 ∧ τ + 3 < τ + 33 by omega)]
    by_cases hj : j < n
    · rw [if_pos (show 0 ≤ j ∧ j < 0 + n by omega), if_pos (show τ + 3 - τ = 3 ∧ j < n by omega), show 0 + (j - 0) = j by omega]
    · rw [if_neg (show ¬ (0 ≤ j ∧ j < 0 + n) by omega), if_neg (show ¬ (τ + 3 - τ = 3 ∧ j < n) by omega), e, if_pos (by omega)]
  · rw [if_neg hb, e]
    by_cases hc : τ ≤ b ∧ b < τ + 33
    · rw [if_pos hc, if_pos hc, if_neg (by omega)]
    · rw [if_neg hc, if_neg hc]
theorem cp_18  (a0 n : Nat) : jv_cp (sw M τ W ρ) a0 (τ + 18) 0 0 n = sw M τ (vc W (18) n ((sw M τ W ρ).1 a0)) ρ := by
  unfold jv_cp
  show (_, _) = (_, _)
  congr 1
  funext b j
  have e : (sw M τ W ρ).1 b j = if τ ≤ b ∧ b < τ + 33 then W (b - τ) j else M.1 b j := rfl
  show (if b = τ + 18 then va_cpy ((sw M τ W ρ).1 a0) ((sw M τ W ρ).1 (τ + 18)) 0 0 n j else (sw M τ W ρ).1 b j) = if τ ≤ b ∧ b < τ + 33 then vc W (18) n ((sw M τ W ρ).1 a0) (b - τ) j else M.1 b j
  unfold vc va_cpy
  by_cases hb : b = τ + 18
  · subst hb
    rw [if_pos rfl, if_pos (show τ ≤ τ + 18 ∧ τ + 18 < τ + 33 by omega)]
    by_cases hj : j < n
    · rw [if_pos (show 0 ≤ j ∧ j < 0 + n by omega), if_pos (show τ + 18 - τ = 18 ∧ j < n by omega), show 0 + (j - 0) = j by omega]
    · rw [if_neg (show ¬ (0 ≤ j ∧ j < 0 + n) by omega), if_neg (show ¬ (τ + 18 - τ = 18 ∧ j < n) by omega), e, if_pos (by omega)]
  · rw [if_neg hb, e]
    by_cases hc : τ ≤ b ∧ b < τ + 33
    · rw [if_pos hc, if_pos hc, if_neg (by omega)]
    · rw [if_neg hc, if_neg hc]
theorem cp_r {q : Nat} (hq : q < 4) (a0 n : Nat) : jv_cp (sw M τ W ρ) a0 (τ + 20 + 2 * q) 0 0 n = sw M τ (vc W (20 + 2 * q) n ((sw M τ W ρ).1 a0)) ρ := by
  unfold jv_cp
  show (_, _) = (_, _)
  congr 1
  funext b j
  have e : (sw M τ W ρ).1 b j = if τ ≤ b ∧ b < τ + 33 then W (b - τ) j else M.1 b j := rfl
  show (if b = τ + 20 + 2 * q then va_cpy ((sw M τ W ρ).1 a0) ((sw M τ W ρ).1 (τ + 20 + 2 * q)) 0 0 n j else (sw M τ W ρ).1 b j) = if τ ≤ b ∧ b < τ + 33 then vc W (20 + 2 * q) n ((sw M τ W ρ).1 a0) (b - τ) j else M.1 b j
  unfold vc va_cpy
  by_cases hb : b = τ + 20 + 2 * q
  · subst hb
    rw [if_pos rfl, if_pos (show τ ≤ τ + 20 + 2 * q ∧ τ + 20 + 2 * q < τ + 33 by omega)]
    by_cases hj : j < n
    · rw [if_pos (show 0 ≤ j ∧ j < 0 + n by omega), if_pos (show τ + 20 + 2 * q - τ = 20 + 2 * q ∧ j < n by omega), show 0 + (j - 0) = j by omega]
    · rw [if_neg (show ¬ (0 ≤ j ∧ j < 0 + n) by omega), if_neg (show ¬ (τ + 20 + 2 * q - τ = 20 + 2 * q ∧ j < n) by omega), e, if_pos (by omega)]
  · rw [if_neg hb, e]
    by_cases hc : τ ≤ b ∧ b < τ + 33
    · rw [if_pos hc, if_pos hc, if_neg (by omega)]
    · rw [if_neg hc, if_neg hc]
end CP
/-- the State at σ, in M, holds V, its queue π; the one at τ is another, its queue ρ -/
def CPX (M : jv_Mem) (σ τ : Nat) (V : SV) (π ρ : Nat → Nat) : Prop := SX M τ ∧ SX M σ ∧ σ ≠ τ ∧ (∀ k j, k < 33 → M.1 (σ + k) j = V k j) ∧ (∀ j, M.2.1 (σ + 2) j = some (σ + 4 + π j)) ∧ PI π ∧ PI ρ
/-- what is copied -/
def CPY (V W : SV) (π ρ : Nat → Nat) (nh nt m : Nat) : Prop := (W 0 4 = nI nh ∧ W 0 5 = nI nt ∧ W 0 6 = V 0 6) ∧ (W 1 2 = nI m ∧ W 1 3 = V 1 3 ∧ W 1 4 = V 1 4) ∧ (∀ i, i < 2 → W 3 i = V 3 i) ∧ (∀ c, c < 8 → W 18 c = V 18 c) ∧ (∀ i f, i < m → f < 7 → W (4 + ρ i) f = V (4 + π i) f) ∧ (∀ h, h < nh → (∀ f, 1 ≤ f → f < 7 → W (19 + 2 * h) f = V (19 + 2 * h) f) ∧ ∀ r, r < 4 → W (20 + 2 * h) r = V (20 + 2 * h) r) ∧ ∀ t f, t < nt → f < 7 → W (27 + t) f = V (27 + t) f
theorem CPY.sr {B : Bd} {pr : Int32} {V W : SV} {π ρ : Nat → Nat} {p : Pg} {m : Nat} (S : SR B pr V π p) (hm : V 1 2 = nI m) (hm2 : m < 13) (J : PI ρ) (c : CPY V W π ρ (bd_nh B) (bd_nt B) m) : SR B pr W ρ p := by
  obtain ⟨m', P, A, R, Q, C, I, ab⟩ := S
  have : m = m' := by
    rw [hm] at C
    have := P.1
    exact nI_inj (by omega) (by omega) C
  subst this
  obtain ⟨⟨c1, c2, c3⟩, ⟨c4, c5, c6⟩, c7, c8, c9, ch, ct⟩ := c
  obtain ⟨⟨a1, a2⟩, a3, a4, a5, ⟨a6, a7⟩, a8⟩ := R
  refine ⟨m, P, A, ⟨⟨c1, c2⟩, fun h hh => ?_, fun i hi => by rw [c8 i hi, a4 i hi], fun t ht => ?_, ⟨by rw [c5, a6], by rw [c6, a7]⟩, fun i hi => by rw [c7 i hi, a8 i hi]⟩, fun i hi => ?_, c4, J, by rw [c3]; exact ab⟩
  · obtain ⟨q1, q2, q3, q4, q5, q6, q7⟩ := a3 h hh
    obtain ⟨w1, w2⟩ := ch h hh
    exact ⟨by rw [w1 _ (by omega) (by omega), q1], by rw [w1 _ (by omega) (by omega), q2], by rw [w1 _ (by omega) (by omega), q3], by rw [w1 _ (by omega) (by omega), q4], by rw [w1 _ (by omega) (by omega), q5], by rw [w1 _ (by omega) (by omega), q6], fun r hr => by rw [w2 r hr, q7 r hr]⟩
  · obtain ⟨q1, q2⟩ := a5 t ht
    exact ⟨by rw [ct t 0 ht (by omega), q1], fun k hk => by rw [ct t _ ht (by omega), q2 k hk]⟩
  · obtain ⟨q0, q1, q2, q3, q4, q5, q6⟩ := Q i hi
    exact ⟨by rw [c9 i _ hi (by omega), q0], by rw [c9 i _ hi (by omega), q1], by rw [c9 i _ hi (by omega), q2], by rw [c9 i _ hi (by omega), q3], by rw [c9 i _ hi (by omega), q4], by rw [c9 i _ hi (by omega), q5], by rw [c9 i _ hi (by omega), q6]⟩
section CF
variable {g : jv_G} {d : Nat} {M : jv_Mem} {Z : Option Value → jv_Mem → Nat → Prop} {σ τ : Nat} {V W : SV} {π ρ : Nat → Nat}
theorem cc_O (C : CPX M σ τ V π ρ) {a b : Nat} (ha : a < 12) (hb : b < 12) (hz : ∀ W', (∀ f, f < 7 → W' (4 + a) f = V (4 + b) f) → (∀ k f, k ≠ 4 + a → W' k f = W k f) → Z none (sw M τ W' ρ) 668) : jv_Ct g d mt_O_copyFrom [.ref (τ + 4 + a), .ref (σ + 4 + b)] (sw M τ W ρ) 668 0 0 Z := by
  have C0 := C
  obtain ⟨X, Y, hne, zV, zq0, I, J⟩ := C
  obtain ⟨hσ, y0, y1, y2, y3, y4, y5, y6, y7, y8⟩ := Y
  obtain ⟨hτ, r0, r1, r2, r3, r4, r5, r6, r7, r8⟩ := X
  have hd := st_pair σ hσ τ hτ hne
  have z0 : ∀ (W : SV) j, (sw M τ W ρ).1 σ j = V 0 j := fun W j => (sw_out (by omega) j).trans (zV 0 j (by omega))
  have z1 : ∀ (W : SV) j, (sw M τ W ρ).1 (σ + 1) j = V 1 j := fun W j => (sw_out (by omega) j).trans (zV 1 j (by omega))
  have z3 : ∀ (W : SV) j, (sw M τ W ρ).1 (σ + 3) j = V 3 j := fun W j => (sw_out (by omega) j).trans (zV 3 j (by omega))
  have z18 : ∀ (W : SV) j, (sw M τ W ρ).1 (σ + 18) j = V 18 j := fun W j => (sw_out (by omega) j).trans (zV 18 j (by omega))
  have zo : ∀ (W : SV) q j, q < 12 → (sw M τ W ρ).1 (σ + 4 + q) j = V (4 + q) j := fun W q j hq => (sw_out (by omega) j).trans (by rw [Nat.add_assoc]; exact zV (4 + q) j (by omega))
  have zh : ∀ (W : SV) q j, q < 4 → (sw M τ W ρ).1 (σ + 19 + 2 * q) j = V (19 + 2 * q) j := fun W q j hq => (sw_out (by omega) j).trans (by rw [Nat.add_assoc]; exact zV (19 + 2 * q) j (by omega))
  have zr : ∀ (W : SV) q j, q < 4 → (sw M τ W ρ).1 (σ + 20 + 2 * q) j = V (20 + 2 * q) j := fun W q j hq => (sw_out (by omega) j).trans (by rw [Nat.add_assoc]; exact zV (20 + 2 * q) j (by omega))
  have zt : ∀ (W : SV) q j, q < 6 → (sw M τ W ρ).1 (σ + 27 + q) j = V (27 + q) j := fun W q j hq => (sw_out (by omega) j).trans (by rw [Nat.add_assoc]; exact zV (27 + q) j (by omega))
  have zq : ∀ (W : SV) j, (sw M τ W ρ).2.1 (σ + 2) j = some (σ + 4 + π j) := fun W j => (sw_ref (by omega) j).trans (zq0 j)
  have tS0 := t_S0 hτ
  have tS1 := t_S1 hτ
  have tS2 := t_S2 hτ
  have tS3 := t_S3 hτ
  have tS16 := t_S16 hτ
  have tS17 := t_S17 hτ
  have tS18 := t_S18 hτ
  have lS2 := l_S2 hτ
  have lS3 := l_S3 hτ
  have lS16 := l_S16 hτ
  have lS17 := l_S17 hτ
  have lS18 := l_S18 hτ
  have uS0 := t_S0 hσ
  have uS1 := t_S1 hσ
  have uS2 := t_S2 hσ
  have uS3 := t_S3 hσ
  have uS16 := t_S16 hσ
  have uS17 := t_S17 hσ
  have uS18 := t_S18 hσ
  have mS2 := l_S2 hσ
  have mS3 := l_S3 hσ
  have mS16 := l_S16 hσ
  have mS17 := l_S17 hσ
  have mS18 := l_S18 hσ
  have tO := t_SO hτ ha
  have uO := t_SO hσ hb
  refine jv_ct rfl (Nat.le_of_ble_eq_true rfl) (b_O_copyFrom_0 ?_)
  simp (disch := omega) only [li, ne_eq, nI_add, nI_clamp, vin, true_and, nn_eq, nn_le, nn_lt, sw_0, sw_1, sw_3, sw_18, sw_o, sw_h, sw_r, sw_t, wi_0, wi_1, wi_3, wi_18, wi_o, wi_h, wi_r, wi_t, cp_3, cp_18, cp_r, sw_q, sw_ref, z0, z1, z3, z18, zo, zh, zr, zt, zq, zq0, tS0, tS1, tS2, lS2, tS3, lS3, tS16, lS16, tS17, lS17, tS18, lS18, uS0, uS1, uS2, mS2, uS3, mS3, uS16, mS16, uS17, mS17, uS18, mS18, r0, r1, r2, r3, r4, r5, y0, y1, y2, y3, y4, y5, Option.some.injEq, exists_eq_left', Nat.le_refl, tO, uO]
  refine hz _ (fun f hf => ?_) (fun k f hk => ?_)
  · rcases (by omega : f = 0 ∨ f = 1 ∨ f = 2 ∨ f = 3 ∨ f = 4 ∨ f = 5 ∨ f = 6) with rfl | rfl | rfl | rfl | rfl | rfl | rfl <;> simp (disch := omega) only [vu_s, vu_j]
  · simp (disch := omega) only [vu_k]

theorem cc_H (C : CPX M σ τ V π ρ) {h : Nat} (hh : h < 4) (hmk : V (19 + 2 * h) 6 = nI 0 ∨ V (19 + 2 * h) 6 = nI 1) (hz : ∀ W', (∀ f, 1 ≤ f → f < 7 → W' (19 + 2 * h) f = V (19 + 2 * h) f) → (∀ r, r < 4 → W' (20 + 2 * h) r = V (20 + 2 * h) r) → (∀ k f, k ≠ 19 + 2 * h → k ≠ 20 + 2 * h → W' k f = W k f) → Z none (sw M τ W' ρ) 668) : jv_Ct g (d + 1) mt_H_copyFrom [.ref (τ + 19 + 2 * h), .ref (σ + 19 + 2 * h)] (sw M τ W ρ) 668 0 0 Z := by
  have C0 := C
  obtain ⟨X, Y, hne, zV, zq0, I, J⟩ := C
  obtain ⟨hσ, y0, y1, y2, y3, y4, y5, y6, y7, y8⟩ := Y
  obtain ⟨hτ, r0, r1, r2, r3, r4, r5, r6, r7, r8⟩ := X
  have hd := st_pair σ hσ τ hτ hne
  have z0 : ∀ (W : SV) j, (sw M τ W ρ).1 σ j = V 0 j := fun W j => (sw_out (by omega) j).trans (zV 0 j (by omega))
  have z1 : ∀ (W : SV) j, (sw M τ W ρ).1 (σ + 1) j = V 1 j := fun W j => (sw_out (by omega) j).trans (zV 1 j (by omega))
  have z3 : ∀ (W : SV) j, (sw M τ W ρ).1 (σ + 3) j = V 3 j := fun W j => (sw_out (by omega) j).trans (zV 3 j (by omega))
  have z18 : ∀ (W : SV) j, (sw M τ W ρ).1 (σ + 18) j = V 18 j := fun W j => (sw_out (by omega) j).trans (zV 18 j (by omega))
  have zo : ∀ (W : SV) q j, q < 12 → (sw M τ W ρ).1 (σ + 4 + q) j = V (4 + q) j := fun W q j hq => (sw_out (by omega) j).trans (by rw [Nat.add_assoc]; exact zV (4 + q) j (by omega))
  have zh : ∀ (W : SV) q j, q < 4 → (sw M τ W ρ).1 (σ + 19 + 2 * q) j = V (19 + 2 * q) j := fun W q j hq => (sw_out (by omega) j).trans (by rw [Nat.add_assoc]; exact zV (19 + 2 * q) j (by omega))
  have zr : ∀ (W : SV) q j, q < 4 → (sw M τ W ρ).1 (σ + 20 + 2 * q) j = V (20 + 2 * q) j := fun W q j hq => (sw_out (by omega) j).trans (by rw [Nat.add_assoc]; exact zV (20 + 2 * q) j (by omega))
  have zt : ∀ (W : SV) q j, q < 6 → (sw M τ W ρ).1 (σ + 27 + q) j = V (27 + q) j := fun W q j hq => (sw_out (by omega) j).trans (by rw [Nat.add_assoc]; exact zV (27 + q) j (by omega))
  have zq : ∀ (W : SV) j, (sw M τ W ρ).2.1 (σ + 2) j = some (σ + 4 + π j) := fun W j => (sw_ref (by omega) j).trans (zq0 j)
  have tS0 := t_S0 hτ
  have tS1 := t_S1 hτ
  have tS2 := t_S2 hτ
  have tS3 := t_S3 hτ
  have tS16 := t_S16 hτ
  have tS17 := t_S17 hτ
  have tS18 := t_S18 hτ
  have lS2 := l_S2 hτ
  have lS3 := l_S3 hτ
  have lS16 := l_S16 hτ
  have lS17 := l_S17 hτ
  have lS18 := l_S18 hτ
  have uS0 := t_S0 hσ
  have uS1 := t_S1 hσ
  have uS2 := t_S2 hσ
  have uS3 := t_S3 hσ
  have uS16 := t_S16 hσ
  have uS17 := t_S17 hσ
  have uS18 := t_S18 hσ
  have mS2 := l_S2 hσ
  have mS3 := l_S3 hσ
  have mS16 := l_S16 hσ
  have mS17 := l_S17 hσ
  have mS18 := l_S18 hσ
  have tH := t_SH hτ hh
  have uH := t_SH hσ hh
  have tR := t_SR hτ hh
  have uR := t_SR hσ hh
  have lR := l_SR hτ hh
  have mR := l_SR hσ hh
  have e8 := r8 h hh
  have y8' := y8 h hh
  refine jv_ct rfl (Nat.le_of_ble_eq_true rfl) (b_H_copyFrom_0 ?_)
  simp (disch := omega) only [li, ne_eq, nI_add, nI_clamp, vin, true_and, nn_eq, nn_le, nn_lt, sw_0, sw_1, sw_3, sw_18, sw_o, sw_h, sw_r, sw_t, wi_0, wi_1, wi_3, wi_18, wi_o, wi_h, wi_r, wi_t, cp_3, cp_18, cp_r, sw_q, sw_ref, z0, z1, z3, z18, zo, zh, zr, zt, zq, zq0, tS0, tS1, tS2, lS2, tS3, lS3, tS16, lS16, tS17, lS17, tS18, lS18, uS0, uS1, uS2, mS2, uS3, mS3, uS16, mS16, uS17, mS17, uS18, mS18, r0, r1, r2, r3, r4, r5, y0, y1, y2, y3, y4, y5, Option.some.injEq, exists_eq_left', Nat.le_refl, tH, uH, tR, uR, lR, mR, e8, y8']
  refine ⟨hmk, hz _ (fun f h1 hf => ?_) (fun r hr => ?_) (fun k f hk hk2 => ?_)⟩
  · rcases (by omega : f = 1 ∨ f = 2 ∨ f = 3 ∨ f = 4 ∨ f = 5 ∨ f = 6) with rfl | rfl | rfl | rfl | rfl | rfl <;> simp (disch := omega) only [vu_s, vu_j]
  · simp (disch := omega) only [vu_k, vc_s, zr]
  · simp (disch := omega) only [vu_k, vc_k]

theorem cc_U (C : CPX M σ τ V π ρ) {t : Nat} (ht : t < 6) (hmk : V (27 + t) 6 = nI 0 ∨ V (27 + t) 6 = nI 1) (hz : ∀ W', (∀ f, f < 7 → W' (27 + t) f = V (27 + t) f) → (∀ k f, k ≠ 27 + t → W' k f = W k f) → Z none (sw M τ W' ρ) 668) : jv_Ct g d mt_U_copyFrom [.ref (τ + 27 + t), .ref (σ + 27 + t)] (sw M τ W ρ) 668 0 0 Z := by
  have C0 := C
  obtain ⟨X, Y, hne, zV, zq0, I, J⟩ := C
  obtain ⟨hσ, y0, y1, y2, y3, y4, y5, y6, y7, y8⟩ := Y
  obtain ⟨hτ, r0, r1, r2, r3, r4, r5, r6, r7, r8⟩ := X
  have hd := st_pair σ hσ τ hτ hne
  have z0 : ∀ (W : SV) j, (sw M τ W ρ).1 σ j = V 0 j := fun W j => (sw_out (by omega) j).trans (zV 0 j (by omega))
  have z1 : ∀ (W : SV) j, (sw M τ W ρ).1 (σ + 1) j = V 1 j := fun W j => (sw_out (by omega) j).trans (zV 1 j (by omega))
  have z3 : ∀ (W : SV) j, (sw M τ W ρ).1 (σ + 3) j = V 3 j := fun W j => (sw_out (by omega) j).trans (zV 3 j (by omega))
  have z18 : ∀ (W : SV) j, (sw M τ W ρ).1 (σ + 18) j = V 18 j := fun W j => (sw_out (by omega) j).trans (zV 18 j (by omega))
  have zo : ∀ (W : SV) q j, q < 12 → (sw M τ W ρ).1 (σ + 4 + q) j = V (4 + q) j := fun W q j hq => (sw_out (by omega) j).trans (by rw [Nat.add_assoc]; exact zV (4 + q) j (by omega))
  have zh : ∀ (W : SV) q j, q < 4 → (sw M τ W ρ).1 (σ + 19 + 2 * q) j = V (19 + 2 * q) j := fun W q j hq => (sw_out (by omega) j).trans (by rw [Nat.add_assoc]; exact zV (19 + 2 * q) j (by omega))
  have zr : ∀ (W : SV) q j, q < 4 → (sw M τ W ρ).1 (σ + 20 + 2 * q) j = V (20 + 2 * q) j := fun W q j hq => (sw_out (by omega) j).trans (by rw [Nat.add_assoc]; exact zV (20 + 2 * q) j (by omega))
  have zt : ∀ (W : SV) q j, q < 6 → (sw M τ W ρ).1 (σ + 27 + q) j = V (27 + q) j := fun W q j hq => (sw_out (by omega) j).trans (by rw [Nat.add_assoc]; exact zV (27 + q) j (by omega))
  have zq : ∀ (W : SV) j, (sw M τ W ρ).2.1 (σ + 2) j = some (σ + 4 + π j) := fun W j => (sw_ref (by omega) j).trans (zq0 j)
  have tS0 := t_S0 hτ
  have tS1 := t_S1 hτ
  have tS2 := t_S2 hτ
  have tS3 := t_S3 hτ
  have tS16 := t_S16 hτ
  have tS17 := t_S17 hτ
  have tS18 := t_S18 hτ
  have lS2 := l_S2 hτ
  have lS3 := l_S3 hτ
  have lS16 := l_S16 hτ
  have lS17 := l_S17 hτ
  have lS18 := l_S18 hτ
  have uS0 := t_S0 hσ
  have uS1 := t_S1 hσ
  have uS2 := t_S2 hσ
  have uS3 := t_S3 hσ
  have uS16 := t_S16 hσ
  have uS17 := t_S17 hσ
  have uS18 := t_S18 hσ
  have mS2 := l_S2 hσ
  have mS3 := l_S3 hσ
  have mS16 := l_S16 hσ
  have mS17 := l_S17 hσ
  have mS18 := l_S18 hσ
  have tT := t_ST hτ ht
  have uT := t_ST hσ ht
  refine jv_ct rfl (Nat.le_of_ble_eq_true rfl) (b_U_copyFrom_0 ?_)
  simp (disch := omega) only [li, ne_eq, nI_add, nI_clamp, vin, true_and, nn_eq, nn_le, nn_lt, sw_0, sw_1, sw_3, sw_18, sw_o, sw_h, sw_r, sw_t, wi_0, wi_1, wi_3, wi_18, wi_o, wi_h, wi_r, wi_t, cp_3, cp_18, cp_r, sw_q, sw_ref, z0, z1, z3, z18, zo, zh, zr, zt, zq, zq0, tS0, tS1, tS2, lS2, tS3, lS3, tS16, lS16, tS17, lS17, tS18, lS18, uS0, uS1, uS2, mS2, uS3, mS3, uS16, mS16, uS17, mS17, uS18, mS18, r0, r1, r2, r3, r4, r5, y0, y1, y2, y3, y4, y5, Option.some.injEq, exists_eq_left', Nat.le_refl, tT, uT]
  refine ⟨hmk, hz _ (fun f hf => ?_) (fun k f hk => ?_)⟩
  · rcases (by omega : f = 0 ∨ f = 1 ∨ f = 2 ∨ f = 3 ∨ f = 4 ∨ f = 5 ∨ f = 6) with rfl | rfl | rfl | rfl | rfl | rfl | rfl <;> simp (disch := omega) only [vu_s, vu_j]
  · simp (disch := omega) only [vu_k]

theorem cc_D (C : CPX M σ τ V π ρ) {m : Nat} (hm : m < 13) (em : V 1 2 = nI m) (hz : ∀ W', (W' 1 2 = nI m ∧ W' 1 3 = V 1 3 ∧ W' 1 4 = V 1 4) → (∀ i, i < 2 → W' 3 i = V 3 i) → (∀ i f, i < m → f < 7 → W' (4 + ρ i) f = V (4 + π i) f) → (∀ k f, k ≠ 1 → k ≠ 3 → (k < 4 ∨ 16 ≤ k) → W' k f = W k f) → Z none (sw M τ W' ρ) 668) : jv_Ct g (d + 1) mt_D_copyFrom [.ref (τ + 1), .ref (σ + 1)] (sw M τ W ρ) 668 0 0 Z := by
  have C0 := C
  obtain ⟨X, Y, hne, zV, zq0, I, J⟩ := C
  obtain ⟨hσ, y0, y1, y2, y3, y4, y5, y6, y7, y8⟩ := Y
  obtain ⟨hτ, r0, r1, r2, r3, r4, r5, r6, r7, r8⟩ := X
  have hd := st_pair σ hσ τ hτ hne
  have z0 : ∀ (W : SV) j, (sw M τ W ρ).1 σ j = V 0 j := fun W j => (sw_out (by omega) j).trans (zV 0 j (by omega))
  have z1 : ∀ (W : SV) j, (sw M τ W ρ).1 (σ + 1) j = V 1 j := fun W j => (sw_out (by omega) j).trans (zV 1 j (by omega))
  have z3 : ∀ (W : SV) j, (sw M τ W ρ).1 (σ + 3) j = V 3 j := fun W j => (sw_out (by omega) j).trans (zV 3 j (by omega))
  have z18 : ∀ (W : SV) j, (sw M τ W ρ).1 (σ + 18) j = V 18 j := fun W j => (sw_out (by omega) j).trans (zV 18 j (by omega))
  have zo : ∀ (W : SV) q j, q < 12 → (sw M τ W ρ).1 (σ + 4 + q) j = V (4 + q) j := fun W q j hq => (sw_out (by omega) j).trans (by rw [Nat.add_assoc]; exact zV (4 + q) j (by omega))
  have zh : ∀ (W : SV) q j, q < 4 → (sw M τ W ρ).1 (σ + 19 + 2 * q) j = V (19 + 2 * q) j := fun W q j hq => (sw_out (by omega) j).trans (by rw [Nat.add_assoc]; exact zV (19 + 2 * q) j (by omega))
  have zr : ∀ (W : SV) q j, q < 4 → (sw M τ W ρ).1 (σ + 20 + 2 * q) j = V (20 + 2 * q) j := fun W q j hq => (sw_out (by omega) j).trans (by rw [Nat.add_assoc]; exact zV (20 + 2 * q) j (by omega))
  have zt : ∀ (W : SV) q j, q < 6 → (sw M τ W ρ).1 (σ + 27 + q) j = V (27 + q) j := fun W q j hq => (sw_out (by omega) j).trans (by rw [Nat.add_assoc]; exact zV (27 + q) j (by omega))
  have zq : ∀ (W : SV) j, (sw M τ W ρ).2.1 (σ + 2) j = some (σ + 4 + π j) := fun W j => (sw_ref (by omega) j).trans (zq0 j)
  have tS0 := t_S0 hτ
  have tS1 := t_S1 hτ
  have tS2 := t_S2 hτ
  have tS3 := t_S3 hτ
  have tS16 := t_S16 hτ
  have tS17 := t_S17 hτ
  have tS18 := t_S18 hτ
  have lS2 := l_S2 hτ
  have lS3 := l_S3 hτ
  have lS16 := l_S16 hτ
  have lS17 := l_S17 hτ
  have lS18 := l_S18 hτ
  have uS0 := t_S0 hσ
  have uS1 := t_S1 hσ
  have uS2 := t_S2 hσ
  have uS3 := t_S3 hσ
  have uS16 := t_S16 hσ
  have uS17 := t_S17 hσ
  have uS18 := t_S18 hσ
  have mS2 := l_S2 hσ
  have mS3 := l_S3 hσ
  have mS16 := l_S16 hσ
  have mS17 := l_S17 hσ
  have mS18 := l_S18 hσ
  have l : ∀ n i W1, i + n = m → (∀ l f, l < i → f < 7 → W1 (4 + ρ l) f = V (4 + π l) f) → (∀ k f, k < 4 ∨ 16 ≤ k → W1 k f = W k f) → jv_J g (d + 1) mt_D_copyFrom 2 [some (.ref (τ + 1)), some (.ref (σ + 1)), some (.int (nI i))] [] (sw M τ W1 ρ) 668 0 0 Z := by
    intro n
    induction n with
    | zero =>
      intro i W1 hi h1 h2
      have hi : i = m := by omega
      subst hi
      refine b_D_copyFrom_2 ?_
      simp (disch := omega) only [li, ne_eq, nI_add, nI_clamp, vin, true_and, nn_eq, nn_le, nn_lt, sw_0, sw_1, sw_3, sw_18, sw_o, sw_h, sw_r, sw_t, wi_0, wi_1, wi_3, wi_18, wi_o, wi_h, wi_r, wi_t, cp_3, cp_18, cp_r, sw_q, sw_ref, z0, z1, z3, z18, zo, zh, zr, zt, zq, zq0, tS0, tS1, tS2, lS2, tS3, lS3, tS16, lS16, tS17, lS17, tS18, lS18, uS0, uS1, uS2, mS2, uS3, mS3, uS16, mS16, uS17, mS17, uS18, mS18, r0, r1, r2, r3, r4, r5, y0, y1, y2, y3, y4, y5, Option.some.injEq, exists_eq_left', Nat.le_refl, em]
      refine ⟨fun _ => hz _ ⟨?_, ?_, ?_⟩ (fun j hj => ?_) (fun j f hj hf => ?_) (fun k f hk1 hk3 hk => ?_), fun c => absurd trivial c⟩
      · simp (disch := omega) only [vu_s, vu_j]
      · simp (disch := omega) only [vu_s, vu_j]
      · simp (disch := omega) only [vu_s, vu_j]
      · simp (disch := omega) only [vu_k, vc_s, z3]
      · have := J.1 j (by omega)
        simp (disch := omega) only [vu_k, vc_k]
        exact h1 j f hj hf
      · simp (disch := omega) only [vu_k, vc_k]
        exact h2 k f hk
    | succ n ih =>
      intro i W1 hi h1 h2
      have ha := J.1 i (by omega)
      have hb := I.1 i (by omega)
      have tO := t_SO hτ ha
      refine b_D_copyFrom_2 ?_
      simp (disch := omega) only [li, ne_eq, nI_add, nI_clamp, vin, true_and, nn_eq, nn_le, nn_lt, sw_0, sw_1, sw_3, sw_18, sw_o, sw_h, sw_r, sw_t, wi_0, wi_1, wi_3, wi_18, wi_o, wi_h, wi_r, wi_t, cp_3, cp_18, cp_r, sw_q, sw_ref, z0, z1, z3, z18, zo, zh, zr, zt, zq, zq0, tS0, tS1, tS2, lS2, tS3, lS3, tS16, lS16, tS17, lS17, tS18, lS18, uS0, uS1, uS2, mS2, uS3, mS3, uS16, mS16, uS17, mS17, uS18, mS18, r0, r1, r2, r3, r4, r5, y0, y1, y2, y3, y4, y5, Option.some.injEq, exists_eq_left', Nat.le_refl, em, tO]
      refine ⟨fun c => absurd c (by omega), fun _ => cc_O C0 ha hb (fun W2 q1 q2 => jv_rv_i (ih (i + 1) W2 (by omega) (fun l f hl hf => ?_) (fun k f hk => ?_)))⟩
      · by_cases hli : l = i
        · subst hli; exact q1 f hf
        · rw [q2 _ _ (fun z => hli (J.2 l i (by omega) (by omega) (by omega)))]
          exact h1 l f (by omega) hf
      · rw [q2 _ _ (by omega)]; exact h2 k f hk
  exact jv_ct rfl (Nat.le_of_ble_eq_true rfl) (b_D_copyFrom_0 (l m 0 W (by omega) (fun l f hl => absurd hl (by omega)) (fun _ _ _ => rfl)))

theorem cc_S (C : CPX M σ τ V π ρ) {nh nt m : Nat} (hm : m < 13) (em : V 1 2 = nI m) (hnh : nh < 5) (enh : V 0 4 = nI nh) (hnt : nt < 7) (ent : V 0 5 = nI nt) (mk1 : ∀ h, h < nh → V (19 + 2 * h) 6 = nI 0 ∨ V (19 + 2 * h) 6 = nI 1) (mk2 : ∀ t, t < nt → V (27 + t) 6 = nI 0 ∨ V (27 + t) 6 = nI 1) (hz : ∀ W', CPY V W' π ρ nh nt m → Z none (sw M τ W' ρ) 668) : jv_Ct g (d + 2) mt_S_copyFrom [.ref τ, .ref σ] (sw M τ W ρ) 668 0 0 Z := by
  have C0 := C
  obtain ⟨X, Y, hne, zV, zq0, I, J⟩ := C
  obtain ⟨hσ, y0, y1, y2, y3, y4, y5, y6, y7, y8⟩ := Y
  obtain ⟨hτ, r0, r1, r2, r3, r4, r5, r6, r7, r8⟩ := X
  have hd := st_pair σ hσ τ hτ hne
  have z0 : ∀ (W : SV) j, (sw M τ W ρ).1 σ j = V 0 j := fun W j => (sw_out (by omega) j).trans (zV 0 j (by omega))
  have z1 : ∀ (W : SV) j, (sw M τ W ρ).1 (σ + 1) j = V 1 j := fun W j => (sw_out (by omega) j).trans (zV 1 j (by omega))
  have z3 : ∀ (W : SV) j, (sw M τ W ρ).1 (σ + 3) j = V 3 j := fun W j => (sw_out (by omega) j).trans (zV 3 j (by omega))
  have z18 : ∀ (W : SV) j, (sw M τ W ρ).1 (σ + 18) j = V 18 j := fun W j => (sw_out (by omega) j).trans (zV 18 j (by omega))
  have zo : ∀ (W : SV) q j, q < 12 → (sw M τ W ρ).1 (σ + 4 + q) j = V (4 + q) j := fun W q j hq => (sw_out (by omega) j).trans (by rw [Nat.add_assoc]; exact zV (4 + q) j (by omega))
  have zh : ∀ (W : SV) q j, q < 4 → (sw M τ W ρ).1 (σ + 19 + 2 * q) j = V (19 + 2 * q) j := fun W q j hq => (sw_out (by omega) j).trans (by rw [Nat.add_assoc]; exact zV (19 + 2 * q) j (by omega))
  have zr : ∀ (W : SV) q j, q < 4 → (sw M τ W ρ).1 (σ + 20 + 2 * q) j = V (20 + 2 * q) j := fun W q j hq => (sw_out (by omega) j).trans (by rw [Nat.add_assoc]; exact zV (20 + 2 * q) j (by omega))
  have zt : ∀ (W : SV) q j, q < 6 → (sw M τ W ρ).1 (σ + 27 + q) j = V (27 + q) j := fun W q j hq => (sw_out (by omega) j).trans (by rw [Nat.add_assoc]; exact zV (27 + q) j (by omega))
  have zq : ∀ (W : SV) j, (sw M τ W ρ).2.1 (σ + 2) j = some (σ + 4 + π j) := fun W j => (sw_ref (by omega) j).trans (zq0 j)
  have tS0 := t_S0 hτ
  have tS1 := t_S1 hτ
  have tS2 := t_S2 hτ
  have tS3 := t_S3 hτ
  have tS16 := t_S16 hτ
  have tS17 := t_S17 hτ
  have tS18 := t_S18 hτ
  have lS2 := l_S2 hτ
  have lS3 := l_S3 hτ
  have lS16 := l_S16 hτ
  have lS17 := l_S17 hτ
  have lS18 := l_S18 hτ
  have uS0 := t_S0 hσ
  have uS1 := t_S1 hσ
  have uS2 := t_S2 hσ
  have uS3 := t_S3 hσ
  have uS16 := t_S16 hσ
  have uS17 := t_S17 hσ
  have uS18 := t_S18 hσ
  have mS2 := l_S2 hσ
  have mS3 := l_S3 hσ
  have mS16 := l_S16 hσ
  have mS17 := l_S17 hσ
  have mS18 := l_S18 hσ
  have l2 : ∀ n t W1, t + n = nt → (W1 1 2 = nI m ∧ W1 1 3 = V 1 3 ∧ W1 1 4 = V 1 4) → (∀ i, i < 2 → W1 3 i = V 3 i) → (∀ i f, i < m → f < 7 → W1 (4 + ρ i) f = V (4 + π i) f) → (∀ h, h < nh → (∀ f, 1 ≤ f → f < 7 → W1 (19 + 2 * h) f = V (19 + 2 * h) f) ∧ ∀ r, r < 4 → W1 (20 + 2 * h) r = V (20 + 2 * h) r) → (∀ t' f, t' < t → f < 7 → W1 (27 + t') f = V (27 + t') f) → jv_J g (d + 2) mt_S_copyFrom 44 [some (.ref τ), some (.ref σ), some (.int (nI t))] [] (sw M τ W1 ρ) 668 0 0 Z := by
    intro n
    induction n with
    | zero =>
      intro t W1 ht h1 h2 h3 h4 h5
      have ht : t = nt := by omega
      subst ht
      refine b_S_copyFrom_44 ?_
      simp (disch := omega) only [li, ne_eq, nI_add, nI_clamp, vin, true_and, nn_eq, nn_le, nn_lt, sw_0, sw_1, sw_3, sw_18, sw_o, sw_h, sw_r, sw_t, wi_0, wi_1, wi_3, wi_18, wi_o, wi_h, wi_r, wi_t, cp_3, cp_18, cp_r, sw_q, sw_ref, z0, z1, z3, z18, zo, zh, zr, zt, zq, zq0, tS0, tS1, tS2, lS2, tS3, lS3, tS16, lS16, tS17, lS17, tS18, lS18, uS0, uS1, uS2, mS2, uS3, mS3, uS16, mS16, uS17, mS17, uS18, mS18, r0, r1, r2, r3, r4, r5, y0, y1, y2, y3, y4, y5, Option.some.injEq, exists_eq_left', Nat.le_refl, ent, enh]
      refine ⟨fun _ => hz _ ⟨⟨?_, ?_, ?_⟩, ⟨?_, ?_, ?_⟩, fun i hi => ?_, fun c hc => ?_, fun i f hi hf => ?_, fun h hh => ⟨fun f hf1 hf2 => ?_, fun r hr => ?_⟩, fun t' f ht' hf => ?_⟩, fun c => absurd trivial c⟩
      · simp (disch := omega) only [vu_s, vu_j]
      · simp (disch := omega) only [vu_s, vu_j]
      · simp (disch := omega) only [vu_s, vu_j]
      · simp (disch := omega) only [vu_k, vc_k]; exact h1.1
      · simp (disch := omega) only [vu_k, vc_k]; exact h1.2.1
      · simp (disch := omega) only [vu_k, vc_k]; exact h1.2.2
      · simp (disch := omega) only [vu_k, vc_k]; exact h2 i hi
      · simp (disch := omega) only [vu_k, vc_s, z18]
      · have := J.1 i (by omega)
        simp (disch := omega) only [vu_k, vc_k]; exact h3 i f hi hf
      · simp (disch := omega) only [vu_k, vc_k]; exact (h4 h hh).1 f hf1 hf2
      · simp (disch := omega) only [vu_k, vc_k]; exact (h4 h hh).2 r hr
      · simp (disch := omega) only [vu_k, vc_k]; exact h5 t' f ht' hf
    | succ n ih =>
      intro t W1 ht h1 h2 h3 h4 h5
      have tT := t_ST hτ (show t < 6 by omega)
      have e7 := r7 t (by omega)
      have y7' := y7 t (by omega)
      refine b_S_copyFrom_44 ?_
      simp (disch := omega) only [li, ne_eq, nI_add, nI_clamp, vin, true_and, nn_eq, nn_le, nn_lt, sw_0, sw_1, sw_3, sw_18, sw_o, sw_h, sw_r, sw_t, wi_0, wi_1, wi_3, wi_18, wi_o, wi_h, wi_r, wi_t, cp_3, cp_18, cp_r, sw_q, sw_ref, z0, z1, z3, z18, zo, zh, zr, zt, zq, zq0, tS0, tS1, tS2, lS2, tS3, lS3, tS16, lS16, tS17, lS17, tS18, lS18, uS0, uS1, uS2, mS2, uS3, mS3, uS16, mS16, uS17, mS17, uS18, mS18, r0, r1, r2, r3, r4, r5, y0, y1, y2, y3, y4, y5, Option.some.injEq, exists_eq_left', Nat.le_refl, ent, tT, e7, y7']
      refine ⟨fun c => absurd c (by omega), fun _ => cc_U C0 (show t < 6 by omega) (mk2 t (by omega)) (fun W2 q1 q2 => jv_rv_i (ih (t + 1) W2 (by omega) ⟨?_, ?_, ?_⟩ (fun i hi => ?_) (fun i f hi hf => ?_) (fun h hh => ⟨fun f hf1 hf2 => ?_, fun r hr => ?_⟩) (fun t' f ht' hf => ?_)))⟩
      · rw [q2 _ _ (by omega)]; exact h1.1
      · rw [q2 _ _ (by omega)]; exact h1.2.1
      · rw [q2 _ _ (by omega)]; exact h1.2.2
      · rw [q2 _ _ (by omega)]; exact h2 i hi
      · have := J.1 i (by omega)
        rw [q2 _ _ (by omega)]; exact h3 i f hi hf
      · rw [q2 _ _ (by omega)]; exact (h4 h hh).1 f hf1 hf2
      · rw [q2 _ _ (by omega)]; exact (h4 h hh).2 r hr
      · by_cases htt : t' = t
        · subst htt; exact q1 f hf
        · rw [q2 _ _ (by omega)]; exact h5 t' f (by omega) hf
  have l1 : ∀ n h W1, h + n = nh → (W1 1 2 = nI m ∧ W1 1 3 = V 1 3 ∧ W1 1 4 = V 1 4) → (∀ i, i < 2 → W1 3 i = V 3 i) → (∀ i f, i < m → f < 7 → W1 (4 + ρ i) f = V (4 + π i) f) → (∀ h', h' < h → (∀ f, 1 ≤ f → f < 7 → W1 (19 + 2 * h') f = V (19 + 2 * h') f) ∧ ∀ r, r < 4 → W1 (20 + 2 * h') r = V (20 + 2 * h') r) → jv_J g (d + 2) mt_S_copyFrom 13 [some (.ref τ), some (.ref σ), some (.int (nI h))] [] (sw M τ W1 ρ) 668 0 0 Z := by
    intro n
    induction n with
    | zero =>
      intro h W1 hh h1 h2 h3 h4
      have hh : h = nh := by omega
      subst hh
      refine b_S_copyFrom_13 ?_
      simp (disch := omega) only [li, ne_eq, nI_add, nI_clamp, vin, true_and, nn_eq, nn_le, nn_lt, sw_0, sw_1, sw_3, sw_18, sw_o, sw_h, sw_r, sw_t, wi_0, wi_1, wi_3, wi_18, wi_o, wi_h, wi_r, wi_t, cp_3, cp_18, cp_r, sw_q, sw_ref, z0, z1, z3, z18, zo, zh, zr, zt, zq, zq0, tS0, tS1, tS2, lS2, tS3, lS3, tS16, lS16, tS17, lS17, tS18, lS18, uS0, uS1, uS2, mS2, uS3, mS3, uS16, mS16, uS17, mS17, uS18, mS18, r0, r1, r2, r3, r4, r5, y0, y1, y2, y3, y4, y5, Option.some.injEq, exists_eq_left', Nat.le_refl, enh]
      exact ⟨fun _ => l2 nt 0 W1 (by omega) h1 h2 h3 h4 (fun t' f ht' => absurd ht' (by omega)), fun c => absurd trivial c⟩
    | succ n ih =>
      intro h W1 hh h1 h2 h3 h4
      have tH := t_SH hτ (show h < 4 by omega)
      have e6 := r6 h (by omega)
      have y6' := y6 h (by omega)
      refine b_S_copyFrom_13 ?_
      simp (disch := omega) only [li, ne_eq, nI_add, nI_clamp, vin, true_and, nn_eq, nn_le, nn_lt, sw_0, sw_1, sw_3, sw_18, sw_o, sw_h, sw_r, sw_t, wi_0, wi_1, wi_3, wi_18, wi_o, wi_h, wi_r, wi_t, cp_3, cp_18, cp_r, sw_q, sw_ref, z0, z1, z3, z18, zo, zh, zr, zt, zq, zq0, tS0, tS1, tS2, lS2, tS3, lS3, tS16, lS16, tS17, lS17, tS18, lS18, uS0, uS1, uS2, mS2, uS3, mS3, uS16, mS16, uS17, mS17, uS18, mS18, r0, r1, r2, r3, r4, r5, y0, y1, y2, y3, y4, y5, Option.some.injEq, exists_eq_left', Nat.le_refl, enh, tH, e6, y6']
      refine ⟨fun c => absurd c (by omega), fun _ => cc_H C0 (show h < 4 by omega) (mk1 h (by omega)) (fun W2 q1 q2 q3 => jv_rv_i (ih (h + 1) W2 (by omega) ⟨?_, ?_, ?_⟩ (fun i hi => ?_) (fun i f hi hf => ?_) (fun h' hh' => ⟨fun f hf1 hf2 => ?_, fun r hr => ?_⟩)))⟩
      · rw [q3 _ _ (by omega) (by omega)]; exact h1.1
      · rw [q3 _ _ (by omega) (by omega)]; exact h1.2.1
      · rw [q3 _ _ (by omega) (by omega)]; exact h1.2.2
      · rw [q3 _ _ (by omega) (by omega)]; exact h2 i hi
      · have := J.1 i (by omega)
        rw [q3 _ _ (by omega) (by omega)]; exact h3 i f hi hf
      · by_cases hhh : h' = h
        · subst hhh; exact q1 f hf1 hf2
        · rw [q3 _ _ (by omega) (by omega)]; exact (h4 h' (by omega)).1 f hf1 hf2
      · by_cases hhh : h' = h
        · subst hhh; exact q2 r hr
        · rw [q3 _ _ (by omega) (by omega)]; exact (h4 h' (by omega)).2 r hr
  refine jv_ct rfl (Nat.le_of_ble_eq_true rfl) (b_S_copyFrom_0 ?_)
  simp (disch := omega) only [li, ne_eq, nI_add, nI_clamp, vin, true_and, nn_eq, nn_le, nn_lt, sw_0, sw_1, sw_3, sw_18, sw_o, sw_h, sw_r, sw_t, wi_0, wi_1, wi_3, wi_18, wi_o, wi_h, wi_r, wi_t, cp_3, cp_18, cp_r, sw_q, sw_ref, z0, z1, z3, z18, zo, zh, zr, zt, zq, zq0, tS0, tS1, tS2, lS2, tS3, lS3, tS16, lS16, tS17, lS17, tS18, lS18, uS0, uS1, uS2, mS2, uS3, mS3, uS16, mS16, uS17, mS17, uS18, mS18, r0, r1, r2, r3, r4, r5, y0, y1, y2, y3, y4, y5, Option.some.injEq, exists_eq_left', Nat.le_refl]
  refine cc_D C0 hm em (fun W1 h1 h2 h3 _ => jv_rv_i (l1 nh 0 W1 (by omega) h1 h2 h3 (fun h' hh' => absurd hh' (by omega))))

end CF
