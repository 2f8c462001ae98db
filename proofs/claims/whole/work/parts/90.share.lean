/-! ===== share ===== -/
def sumN (f : Nat → Nat) : Nat → Nat
  | 0 => 0
  | n + 1 => sumN f n + f n
def sumZ (f : Nat → Int) : Nat → Int
  | 0 => 0
  | n + 1 => sumZ f n + f n
def fa (n : Nat) : Nat := [1, 1, 2, 6, 24, 120, 720].getD n 0
def sh_f (B : Bd) (p : Pg) (s i : Nat) : Nat := ones (P_hset (PT B (nI s) (i + 1) p) (bd_nh B))
def sh_w (B : Bd) (p : Pg) (s : Nat) : Nat := sumN (sh_f B p s) 20
def sh_t (B : Bd) (p : Pg) (t s : Nat) : Int := if P_bit (nI s) t = true then 0 else ((fa (pcn s 8) * fa (bd_nt B - 1 - pcn s 8) : Nat) : Int) * ((sh_w B p (s + 2 ^ t) : Int) - (sh_w B p s : Int))
def s_share (B : Bd) (p : Pg) (x y : Int32) : Int32 := if bl x (bd_nt B) = true then frac (sumZ (sh_t B p (nx x)) (2 ^ bd_nt B)) (fa (bd_nt B)) y else -1
theorem sumN_le {f : Nat → Nat} {b : Nat} (h : ∀ i, f i ≤ b) : ∀ n, sumN f n ≤ b * n
  | 0 => Nat.zero_le _
  | n + 1 => by
    have := sumN_le h n
    have := h n
    show sumN f n + f n ≤ b * (n + 1)
    rw [Nat.mul_add]
    omega
theorem sumZ_le {f : Nat → Int} {b : Int} {m : Nat} (h : ∀ i, i < m → -b ≤ f i ∧ f i ≤ b) : ∀ n, n ≤ m → -(b * n) ≤ sumZ f n ∧ sumZ f n ≤ b * n
  | 0, _ => by show -(b * ((0 : Nat) : Int)) ≤ 0 ∧ (0 : Int) ≤ b * ((0 : Nat) : Int); simp
  | n + 1, hn => by
    have h1 := sumZ_le h n (by omega)
    have h2 := h n (by omega)
    show -(b * ((n + 1 : Nat) : Int)) ≤ sumZ f n + f n ∧ sumZ f n + f n ≤ b * ((n + 1 : Nat) : Int)
    rw [show b * ((n + 1 : Nat) : Int) = b * (n : Int) + b by rw [Int.natCast_add, Int.mul_add]; simp]
    omega
theorem ones_le (x : Int32) : ones x ≤ 8 := pcn_le _ 8
theorem sh_w_le (B : Bd) (p : Pg) (s : Nat) : sh_w B p s ≤ 160 := sumN_le (b := 8) (fun i => ones_le _) 20
theorem fa_fact : ∀ k, k < 7 → jv_fact k = nI (fa k) := by decide +kernel
theorem fa_two : ∀ n, n < 7 → ∀ a, a < n → fa a * fa (n - 1 - a) ≤ 120 := by decide +kernel
theorem fa_b : ∀ n, n < 7 → 0 < fa n ∧ fa n ≤ 720 := by decide +kernel
theorem fa_s : ∀ k, 2 ≤ k → k < 7 → fa (k - 1) * k = fa k := by
  intro k h1 h2
  rcases (by omega : k = 2 ∨ k = 3 ∨ k = 4 ∨ k = 5 ∨ k = 6) with rfl | rfl | rfl | rfl | rfl <;> decide
theorem bit8 : ∀ s, s < 256 → ∀ h, h < 8 → ((nI s >>> (nI h &&& nI 31)) &&& nI 1 = nI 0 ↔ P_bit (nI s) h = false) := by decide +kernel
def sh_orb (n t s : Nat) : Bool := P_bit (nI s) t || (decide (nI s ||| (nI 1 <<< (nI t &&& nI 31)) = nI (s + 2 ^ t)) && decide (s + 2 ^ t < 2 ^ n) && decide (pcn s 8 < n))
theorem sh_or0 : ∀ n, n < 7 → ∀ t, t < n → ∀ s, s < 2 ^ n → sh_orb n t s = true := by decide +kernel
theorem sh_or (n : Nat) (hn : n < 7) (t : Nat) (ht : t < n) (s : Nat) (hs : s < 2 ^ n) (hb : P_bit (nI s) t = false) : nI s ||| (nI 1 <<< (nI t &&& nI 31)) = nI (s + 2 ^ t) ∧ s + 2 ^ t < 2 ^ n ∧ pcn s 8 < n := by
  have h := sh_or0 n hn t ht s hs
  unfold sh_orb at h
  rw [hb, Bool.false_or, Bool.and_eq_true, Bool.and_eq_true] at h
  exact ⟨of_decide_eq_true h.1.1, of_decide_eq_true h.1.2, of_decide_eq_true h.2⟩
theorem pw64 : ∀ n, n < 9 → nI 1 <<< (nI n &&& nI 31) = nI (2 ^ n) ∧ 2 ^ n ≤ 256 ∧ (n < 7 → 2 ^ n ≤ 64) := by decide +kernel
theorem ab_not : ∀ s, s < 64 → ∀ t, t < 6 → (((nI s ^^^ (-1)) >>> (nI t &&& nI 31)) &&& nI 1 = nI 0 ↔ P_bit (nI s) t = true) := by decide +kernel
theorem sh_t_le (B : Bd) (hB : BV2 B) (p : Pg) {t : Nat} (ht : t < bd_nt B) : ∀ s, s < 2 ^ bd_nt B → -19200 ≤ sh_t B p t s ∧ sh_t B p t s ≤ 19200 := by
  intro s hs
  have b6 := hB.1.2.2.1
  unfold sh_t
  by_cases hb : P_bit (nI s) t = true
  · rw [if_pos hb]; omega
  · rw [if_neg hb]
    rw [Bool.not_eq_true] at hb
    obtain ⟨-, -, h3⟩ := sh_or (bd_nt B) (by omega) t ht s hs hb
    have h4 := fa_two (bd_nt B) (by omega) (pcn s 8) h3
    have w1 := sh_w_le B p (s + 2 ^ t)
    have w0 := sh_w_le B p s
    generalize fa (pcn s 8) * fa (bd_nt B - 1 - pcn s 8) = F at h4 ⊢
    generalize sh_w B p (s + 2 ^ t) = A at w1 ⊢
    generalize sh_w B p s = C at w0 ⊢
    have hF : (0 : Int) ≤ (F : Int) ∧ (F : Int) ≤ 120 := by omega
    have e1 : (F : Int) * ((A : Int) - (C : Int)) = (F : Int) * (A : Int) - (F : Int) * (C : Int) := Int.mul_sub _ _ _
    have u1 : F * A ≤ 120 * 160 := Nat.mul_le_mul h4 w1
    have u0 : F * C ≤ 120 * 160 := Nat.mul_le_mul h4 w0
    rw [e1, ← Int.natCast_mul, ← Int.natCast_mul]
    omega
theorem sh_sum_le (B : Bd) (hB : BV2 B) (p : Pg) {t : Nat} (ht : t < bd_nt B) {n : Nat} (hn : n ≤ 2 ^ bd_nt B) : -1073741824 < sumZ (sh_t B p t) n ∧ sumZ (sh_t B p t) n < 1073741824 := by
  have b6 := hB.1.2.2.1
  have h := sumZ_le (f := sh_t B p t) (b := 19200) (m := 2 ^ bd_nt B) (sh_t_le B hB p ht) n hn
  have h2 := (pw64 (bd_nt B) (by omega)).2.2 (by omega)
  omega
theorem sh_term (B : Bd) (p : Pg) {t s : Nat} (hb : P_bit (nI s) t = false) (k : Nat) (hk : k = s) : sumZ (sh_t B p t) (k + 1) = sumZ (sh_t B p t) k + ((fa (pcn s 8) * fa (bd_nt B - 1 - pcn s 8) : Nat) : Int) * ((sh_w B p (s + 2 ^ t) : Int) - (sh_w B p s : Int)) := by
  subst hk
  show sumZ (sh_t B p t) k + sh_t B p t k = _
  unfold sh_t
  rw [if_neg (by rw [hb]; decide)]
theorem sh_skip (B : Bd) (p : Pg) {t k : Nat} (hb : P_bit (nI k) t = true) : sumZ (sh_t B p t) (k + 1) = sumZ (sh_t B p t) k := by
  show sumZ (sh_t B p t) k + sh_t B p t k = _
  unfold sh_t
  rw [if_pos hb, Int.add_zero]
section RO
variable {g : jv_G} {d : Nat} {M M' : jv_Mem} {Z : Option Value → jv_Mem → Nat → Prop} {T T' : Tt} {B : Bd} {p p' q : Pg} {U : Ut} {K : Kt} {S S' : St} {e e' : Int64} {ab pr : Int32} {σ : Nat}
theorem SQ.absent (H : SHP M) (Q : SQ M 77 B pr ab q) {x pr' : Int32} (hx : AB B x pr') (hB : BV2 B) : EXC M (jv_si M 77 6 x) 77 ∧ SQ (jv_si M 77 6 x) 77 B pr' x q := by
  obtain ⟨V, π, v1, v2, S1, a6⟩ := Q
  have e := sw_self v1 v2
  have w := wi_0 (M := M) (σ := 77) (V := V) (π := π) 6 x
  rw [e] at w
  rw [w]
  refine ⟨EXC.sw S1.pi, SQ.mk ?_ (vu_s _ _ _ _)⟩
  obtain ⟨m, P, A, R, Qo, C, I, AB1⟩ := S1
  exact ⟨m, P, A, R.free hB.1 x (Or.inl ⟨rfl, Nat.le_refl 6⟩), fun i hi => (Qo i hi).same (fun f => vu_k _ _ (by omega)) (fun _ _ _ => rfl), by rw [vu_k _ _ (by omega)]; exact C, I, by rw [vu_s]; exact hx⟩
theorem RC.w580 (h : RC M T B p U K S e) (k : Nat) (x : Int32) : RC (jv_si M 580 k x) T B p U K S e := by
  obtain ⟨⟨o1, o2⟩, ⟨o3, o4⟩, o5, o6, ⟨o7, o8⟩, o9⟩ := h.2.1
  have n : ∀ c, c ≠ 580 → ∀ j, (jv_si M 580 k x).1 c j = M.1 c j := fun c hc j => si_b _ _ hc
  exact h.ns (NS.si (by decide)) (n 110 (by omega) 1) ⟨⟨(n 1 (by omega) 1).trans o1, fun i hi => (n 2 (by omega) i).trans (o2 i hi)⟩, ⟨(n 40 (by omega) 3).trans o3, fun i hi => ⟨(n 41 (by omega) i).trans (o4 i hi).1, (n 42 (by omega) i).trans (o4 i hi).2.1, (n 43 (by omega) i).trans (o4 i hi).2.2⟩⟩, (n 110 (by omega) 2).trans o5, fun i hi => (n 575 (by omega) i).trans (o6 i hi), ⟨(n 576 (by omega) 3).trans o7, fun i hi => ⟨(n 577 (by omega) i).trans (o8 i hi).1, (n 578 (by omega) i).trans (o8 i hi).2.1, (n 579 (by omega) i).trans (o8 i hi).2.2⟩⟩, o9⟩
theorem c_worth (h : RC M T B p U K S e) (hB : BV2 B) {s : Nat} (hs : s < 64) (hz : ∀ M', EXC M M' 77 → Z (some (.int (nI (sh_w B p s)))) M' 668) : jv_Ct g (d + 6) mt_R_worth [.ref 0, .int (nI s)] M 668 0 0 Z := by
  have h77 : 77 ∈ st_bases := by decide
  have t77 : jv_Tg 6 77 668 := t_S0 h77
  have f02 := h.1.1.2.2.1
  have f03 := h.1.1.2.2.2.1
  have b6 := hB.1.2.2.1
  have l : ∀ k n M1, n + k = 20 → EXC M M1 77 → SQ M1 77 B (nI s) (nI s ^^^ (-1)) (PT B (nI s) n p) → jv_J g (d + 6) mt_R_worth 25 [some (.ref 0), none, some (.int (nI (sumN (sh_f B p s) n))), some (.int (nI n))] [] M1 668 0 0 Z := by
    intro k
    induction k with
    | zero =>
      intro n M1 hn E1 Q1
      have hn : n = 20 := by omega
      subst hn
      exact b_R_worth_25 ⟨fun _ => hz M1 E1, fun c => absurd (nI_le (Nat.le_refl 20) (by omega)) c⟩
    | succ k ih =>
      intro n M1 hn E1 Q1
      have h1 := h.trial E1
      refine b_R_worth_25 ⟨fun c => absurd ((nn_le (a := 20) (n := n) (by omega) (by omega)).mp c) (by omega), fun _ => ⟨tg_0, 77, h1.1.1.2.2.2.1, tg_0, 40, h1.1.1.2.1, t77, q_pass h1.1 h1.prg hB h77 Q1 (show 1 < 1000 by omega) (fun M2 E2 Q2 => jv_rv_i ?_)⟩⟩
      have h2 := h1.trial E2
      have Q3 : SQ M2 77 B (nI s) (nI s ^^^ (-1)) (PT B (nI s) (n + 1) p) := by
        rw [PT_succ]; exact Q2
      refine ⟨tg_0, 77, h2.1.1.2.2.2.1, t77, q_hcount h2.1 hB h77 Q3 (jv_ri_i ?_)⟩
      rw [nI_add, show (nI n + 1 : Int32) = nI (n + 1) from nI_add n 1]
      exact ih (n + 1) M2 (by omega) (E1.trans E2) Q3
  refine jv_ct rfl (Nat.le_of_ble_eq_true rfl) (b_R_worth_0 ⟨tg_0, 77, f03, tg_0, 44, f02, t77, c_trial h hB (fun M1 E1 Q1 => jv_rv_i ?_)⟩)
  have h1 := h.trial E1
  obtain ⟨E2, Q2⟩ := Q1.absent h1.1 (x := nI s ^^^ (-1)) (pr' := nI s) (fun t ht => ab_not s hs t (by omega)) hB
  exact ⟨tg_0, 77, h1.1.1.2.2.2.1, t77, l 20 0 _ rfl (E1.trans E2) Q2⟩
theorem R_share (h : RC M T B p U K S e) (hB : BV2 B) {x y : Int32} (hz : ∀ M', RC M' T B p U K S e → FRm M M' → Z (some (.int (s_share B p x y))) M' 668) : jv_Ct g (d + 9) mt_R_share [.ref 0, .int x, .int y] M 668 0 0 Z := by
  have h44 : 44 ∈ st_bases := by decide
  have h77 : 77 ∈ st_bases := by decide
  have b6 := hB.1.2.2.1
  unfold s_share at hz
  refine jv_ct rfl (Nat.le_of_ble_eq_true rfl) (b_R_share_0 ⟨tg_0, c_isTrigger h hB (jv_ri_i ?_)⟩)
  by_cases hb : bl x (bd_nt B) = true
  · rw [if_pos hb] at hz ⊢
    refine rn1 ⟨tg_0, 44, h.1.1.2.2.1, t_S0 h44, ?_⟩
    rw [h.nh.2]
    obtain ⟨t, ht, ex⟩ := bl_of hb (by omega)
    subst ex
    rw [nx_n (by omega)] at hz
    obtain ⟨pw, pw2, pw3⟩ := pw64 (bd_nt B) (by omega)
    have pw3 := pw3 (by omega)
    have pw' : ((1 : Int32) <<< (nI (bd_nt B) &&& 31)) = nI (2 ^ bd_nt B) := pw
    have l54 : ∀ M1, RC M1 T B p U K S e → FRm M M1 → (∀ i, i < 2 ^ bd_nt B → M1.1 580 i = nI (sh_w B p i)) → ∀ f k, k + f = 2 ^ bd_nt B → jv_J g (d + 9) mt_R_share 54 [some (.ref 0), some (.int (nI t)), some (.int y), some (.int (nI (bd_nt B))), some (.long (Int64.ofInt (sumZ (sh_t B p t) k))), none, some (.int (nI k)), none, none] [] M1 668 0 0 Z := by
      intro M1 h1 F1 w1 f
      have f08 := h1.1.1.2.2.2.2.2.2.2.2
      induction f with
      | zero =>
        intro k hk
        have hk : k = 2 ^ bd_nt B := by omega
        subst hk
        obtain ⟨s1, s2⟩ := sh_sum_le B hB p ht (Nat.le_refl _)
        obtain ⟨q1, q2⟩ := fa_b (bd_nt B) (by omega)
        refine b_R_share_54 ?_
        rw [pw']
        refine ⟨fun _ => ⟨vp_in_nI (by omega) (by omega), ?_⟩, fun c => absurd (nI_le (Nat.le_refl _) (by omega)) c⟩
        rw [nI_clamp (by omega), fa_fact _ (by omega), nI_l (by omega)]
        exact c_part s1 s2 q1 (by omega) (jv_ri_i (hz M1 h1 F1))
      | succ f ih =>
        intro k hk
        have ih := ih (k + 1) (by omega)
        refine b_R_share_54 ?_
        rw [pw']
        refine ⟨fun c => absurd ((nn_le (a := 2 ^ bd_nt B) (n := k) (by omega) (by omega)).mp c) (by omega), fun _ => ⟨fun c => ?_, fun c => ?_⟩⟩
        · have hbt : P_bit (nI k) t = true := by
            cases hh : P_bit (nI k) t with
            | true => rfl
            | false => exact absurd ((bit8 k (by omega) t (by omega)).mpr hh) c
          rw [sh_skip B p hbt] at ih
          rw [show (nI k + 1 : Int32) = nI (k + 1) from nI_add k 1]
          exact ih
        · have hbt : P_bit (nI k) t = false := (bit8 k (by omega) t (by omega)).mp c
          obtain ⟨o1, o2, o3⟩ := sh_or (bd_nt B) (by omega) t ht k (by omega) hbt
          have o1' : nI k ||| ((1 : Int32) <<< (nI t &&& 31)) = nI (k + 2 ^ t) := o1
          rw [sh_term B p hbt k rfl] at ih
          refine c_bitCount (by omega) (jv_ri_i ⟨vp_in_nI (by omega) (by omega), ?_⟩)
          have es : (nI (bd_nt B) - 1 - nI (pcn k 8) : Int32) = nI (bd_nt B - 1 - pcn k 8) := by
            rw [show (nI (bd_nt B) - 1 : Int32) = nI (bd_nt B - 1) from pk_sub (a := bd_nt B) (b := 1) (by omega), pk_sub (by omega)]
          rw [es, o1']
          have v64 : ∀ i, i < 64 → vp_in (nI i) (jv_sh 580).2 := fun i hi => by rw [sl_580]; exact vp_in_nI hi (by omega)
          refine ⟨vp_in_nI (by omega) (by omega), tg_0, 580, f08, tg_580, v64 _ (by omega), tg_0, 580, f08, tg_580, v64 _ (by omega), ?_⟩
          have w1' := sh_w_le B p (k + 2 ^ t)
          have w0' := sh_w_le B p k
          have f2 := fa_two (bd_nt B) (by omega) (pcn k 8) o3
          rw [nI_clamp (by omega), nI_clamp (by omega), nI_clamp (by omega), nI_clamp (by omega), fa_fact _ (by omega), fa_fact _ (by omega), pk_mul, w1 _ o2, w1 _ (by omega), nI_l (by omega), show (nI k + 1 : Int32) = nI (k + 1) from nI_add k 1]
          have ed : Int32.toInt64 (nI (sh_w B p (k + 2 ^ t)) - nI (sh_w B p k)) = Int64.ofInt ((sh_w B p (k + 2 ^ t) : Int) - (sh_w B p k : Int)) := by
            rw [← oI_nI, ← oI_nI, ← Int32.ofInt_sub]
            exact Int32.toInt64_ofInt (by rw [i32_min]; omega) (by rw [i32_max]; omega)
          rw [ed, ← oL_lN, ← Int64.ofInt_mul, ← Int64.ofInt_add]
          exact ih
    have l21 : ∀ f k M1, k + f = 2 ^ bd_nt B → RC M1 T B p U K S e → FRm M M1 → (∀ i, i < k → M1.1 580 i = nI (sh_w B p i)) → jv_J g (d + 9) mt_R_share 21 [some (.ref 0), some (.int (nI t)), some (.int y), some (.int (nI (bd_nt B))), some (.int (nI k)), none, none, none, none] [] M1 668 0 0 Z := by
      intro f
      induction f with
      | zero =>
        intro k M1 hk h1 F1 w1
        have hk : k = 2 ^ bd_nt B := by omega
        subst hk
        refine b_R_share_21 ?_
        rw [pw']
        exact ⟨fun _ => l54 M1 h1 F1 w1 (2 ^ bd_nt B) 0 (by omega), fun c => absurd (nI_le (Nat.le_refl _) (by omega)) c⟩
      | succ f ih =>
        intro k M1 hk h1 F1 w1
        have f08 := h1.1.1.2.2.2.2.2.2.2.2
        refine b_R_share_21 ?_
        rw [pw']
        refine ⟨fun c => absurd ((nn_le (a := 2 ^ bd_nt B) (n := k) (by omega) (by omega)).mp c) (by omega), fun _ => ⟨tg_0, 580, f08, tg_0, c_worth h1 hB (by omega) (fun M2 E2 => jv_ri_i ⟨tg_580, by rw [sl_580]; exact vp_in_nI (by omega) (by omega), ?_⟩)⟩⟩
        rw [nI_clamp (by omega), show (nI k + 1 : Int32) = nI (k + 1) from nI_add k 1]
        refine ih (k + 1) _ (by omega) ((h1.trial E2).w580 k _) ((F1.trans (E2.frm h77)).trans (NS.si (by decide)).frm) (fun i hi => ?_)
        by_cases hik : i = k
        · subst hik; exact si_at _ _ _ _
        · rw [si_k _ _ hik, E2.1 580 (by omega)]
          exact w1 i (by omega)
    exact l21 (2 ^ bd_nt B) 0 M (by omega) h FRm.rf (fun i hi => absurd hi (by omega))
  · rw [if_neg hb] at hz ⊢
    exact rn0 (hz M h FRm.rf)
end RO
