/-! ===== the reference's share ===== -/
section MC
variable {g : jv_G} {d : Nat} {M M' : jv_Mem} {Z : Option Value → jv_Mem → Nat → Prop} {N : Nat} {T T' : Tt} {B : Bd} {p p' q : Pg} {U U' : Ut} {K K' : Kt} {S S' : St} {e e' : Int64} {D : Dt} {a : Nat} {f : Pg} {pr : Int32}
theorem c_factorial {n : Nat} (hn : n < 7) (hz : Z (some (.int (nI (fa n)))) M N) : jv_Ct g d mt_M_factorial [.int (nI n)] M N 0 0 Z := by
  have l : ∀ f k, 2 ≤ k → (k = n + 1 ∨ (n < 2 ∧ k = 2) ∨ k + f = n + 1) → k < 8 → jv_J g d mt_M_factorial 4 [some (.int (nI n)), some (.int (nI (fa (k - 1)))), some (.int (nI k))] [] M N 0 0 Z := by
    intro f
    induction f with
    | zero =>
      intro k h2 hk h8
      have hf : fa (k - 1) = fa n := by
        rcases hk with h | ⟨h, h'⟩ | h
        · rw [h, Nat.add_sub_cancel]
        · subst h'
          rcases (by omega : n = 0 ∨ n = 1) with rfl | rfl <;> rfl
        · rw [show k - 1 = n by omega]
      rw [hf]
      exact b_M_factorial_4 ⟨fun _ => hz, fun c => absurd (nI_lt (show n < k by omega) (by omega)) c⟩
    | succ f ih =>
      intro k h2 hk h8
      by_cases hnk : n < k
      · have hf : fa (k - 1) = fa n := by
          rcases hk with h | ⟨h, h'⟩ | h
          · rw [h, Nat.add_sub_cancel]
          · subst h'
            rcases (by omega : n = 0 ∨ n = 1) with rfl | rfl <;> rfl
          · omega
        rw [hf]
        exact b_M_factorial_4 ⟨fun _ => hz, fun c => absurd (nI_lt hnk (by omega)) c⟩
      · refine b_M_factorial_4 ⟨fun c => absurd ((nn_lt (a := n) (n := k) (by omega) (by omega)).mp c) hnk, fun _ => ?_⟩
        rw [pk_mul, fa_s k h2 (by omega), show (nI k + 1 : Int32) = nI (k + 1) from nI_add k 1]
        have := ih (k + 1) (by omega) (by omega) (by omega)
        rw [Nat.add_sub_cancel] at this
        exact this
  exact jv_ct rfl (Nat.le_of_ble_eq_true rfl) (b_M_factorial_0 (l (n - 1) 2 (by omega) (by omega) (by omega)))
theorem si_self (M : jv_Mem) {b k : Nat} {x : Int32} (h : M.1 b k = x) : jv_si M b k x = M := by
  obtain ⟨M1, M2⟩ := M
  unfold jv_si
  congr 1
  funext c j
  by_cases hc : c = b ∧ j = k
  · rw [if_pos hc, hc.1, hc.2]; exact h.symm
  · rw [if_neg hc]
theorem si_si (M : jv_Mem) (b k : Nat) (x y : Int32) : jv_si (jv_si M b k x) b k y = jv_si M b k y := by
  unfold jv_si
  congr 1
  funext c j
  show (if c = b ∧ j = k then y else if c = b ∧ j = k then x else _) = _
  split <;> rfl
theorem SCR.si2 (E : SCR M M') (x : Int32) : SCR (jv_si M 647 32 x) (jv_si M' 647 32 x) := by
  refine ⟨E.1, fun k h1 h2 h3 h4 h5 h6 => ?_, fun b h1 h2 h3 h4 h5 j => ?_, fun b hb j hj => ?_⟩
  · by_cases hk : k = 32
    · subst hk; rw [si_at, si_at]
    · rw [si_k _ _ hk, si_k _ _ hk]; exact E.2.1 k h1 h2 h3 h4 h5 h6
  · rw [si_b _ _ h1, si_b _ _ h1]; exact E.2.2.1 b h1 h2 h3 h4 h5 j
  · rw [si_b _ _ (by omega), si_b _ _ (by omega)]; exact E.2.2.2 b hb j hj
/-- the reference's cells while other triggers are there than all -/
def MS (M : jv_Mem) (T : Tt) (B : Bd) (p : Pg) (U : Ut) (K : Kt) (S : St) (e : Int64) (D : Dt) (pr : Int32) : Prop := RM (jv_si M 647 32 (nI 63)) T B p U K S e D ∧ M.1 647 32 = pr
theorem MS.scr (h : MS M T B p U K S e D pr) (E : SCR M M') : MS M' T B p U K S e D pr := ⟨h.1.scr (E.si2 _), (E.2.1 32 (by omega) (by omega) (by omega) (by omega) (by omega) (by omega)).trans h.2⟩
theorem MS.mb (h : MS M T B p U K S e D pr) : MB M B pr := by
  obtain ⟨⟨a0, a1, a2, a3, a4, a5, a6, a7, a8⟩, -⟩ := h.1
  have n : ∀ c, c ≠ 647 → ∀ j, M.1 c j = (jv_si M 647 32 (nI 63)).1 c j := fun c hc j => (si_b _ _ hc).symm
  have m : ∀ k, k ≠ 32 → M.1 647 k = (jv_si M 647 32 (nI 63)).1 647 k := fun k hk => (si_k _ _ hk).symm
  exact ⟨a0, (m 4 (by omega)).trans a1, (m 6 (by omega)).trans a2, (m 9 (by omega)).trans a3, h.2, fun k => (n 649 (by omega) k).trans (a5 k), fun k => (n 650 (by omega) k).trans (a6 k), fun k => (n 651 (by omega) k).trans (a7 k), fun k => (n 652 (by omega) k).trans (a8 k)⟩
theorem MS.mx (h : MS M T B p U K S e D pr) (hB : BV2 B) (h1 : 657 ≤ a) (h2 : a ≤ 660) : MX M B pr a := ⟨h.mb, hB.1, h1, h2⟩
theorem MS.lay (h : MS M T B p U K S e D pr) (hp : PZ p) (hz : ∀ M', SCR M M' → M'.1 659 = p → M'.1 667 = M.1 667 → Z none M' 668) : jv_Ct g d mt_M_lay [.ref 659, .ref 658] M 668 0 0 Z := by
  refine c_lay0 tg_659 sl_659 tg_658 sl_658 (by omega) (hz _ (SCR.pg (by omega) (fun j hj => if_neg (by omega))) (funext fun j => ?_) (funext fun j => pg_ne _ _ _ (by omega)))
  rw [pg_at]
  have hpg : M.1 658 j = p j := (si_b M (nI 63) (b := 647) (c := 658) (k := 32) (j := j) (by omega)).symm.trans (h.1.2.2.1 j)
  by_cases hj : j < 165
  · rw [if_pos hj, hpg]
  · rw [if_neg hj, hp j (by omega)]
    obtain ⟨z1, z2, z3⟩ := h.1.2.2.2.2.2.2.2.2.1 j (by omega)
    exact (si_b M (nI 63) (b := 647) (c := 659) (k := 32) (j := j) (by omega)).symm.trans z2
theorem MS.tick (h : MS M T B p U K S e D pr) (hB : BV2 B) (P : POA B 12 (M.1 659)) (hz : ∀ M', SCR M M' → M'.1 659 = (P_tick B pr (M.1 659)).1 → M'.1 667 = M.1 667 → Z none M' 668) : jv_Ct g (d + 4) mt_M_tickOn [.ref 647, .ref 659] M 668 0 0 Z :=
  q_tickOn (h.mx hB (by omega) (by omega)) hB P (fun w => hz _ (SCR.pw (by omega) (fun _ hj => P_tick_hi P hB _ hj)) (funext fun _ => pw_at _ _ _ _ _) (funext fun _ => pw_o _ _ _ (by omega) (by omega)))
theorem SCR.s667 {k : Nat} {x : Int32} : SCR M (jv_si M 667 k x) := by
  refine ⟨rfl, fun j _ _ _ _ _ _ => si_b _ _ (by omega), fun b _ _ _ _ h5 j => si_b _ _ h5, fun b hb j _ => si_b _ _ (by omega)⟩
theorem M_share (h : RM M T B p U K S e D) (hB : BV2 B) (P8 : POA B 8 p) (hp : PZ p) {x y : Int32} (hz : ∀ M', RM M' T B p U K S e D → FRc M M' → Z (some (.int (s_share B p x y))) M' 668) : jv_Ct g (d + 9) mt_M_share [.ref 647, .int x, .int y] M 668 0 0 Z := by
  unfold s_share at hz
  have b4 := hB.1.2.1
  have b6 := hB.1.2.2.1
  have h3 := h.t0 0
  have F3 : FRc M (jv_si M 647 0 0) := FRc.si (by omega)
  refine jv_ct rfl (Nat.le_of_ble_eq_true rfl) (b_M_share_0 ⟨tg_m, tg_m, ?_⟩)
  generalize jv_si M 647 0 0 = M3 at h3 F3 ⊢
  rw [h3.1.2.2.2.1]
  refine c_inb1 rfl (by omega) (fun hb => jv_ri_i (rn1 ?_)) (fun hb => jv_ri_i (rn0 ?_))
  · rw [if_pos hb] at hz
    obtain ⟨t, ht, ex⟩ := bl_of hb (by omega)
    subst ex
    rw [nx_n (by omega)] at hz
    obtain ⟨pw, pw2, pw3⟩ := pw64 (bd_nt B) (by omega)
    have pw3 := pw3 (by omega)
    have pw' : ((1 : Int32) <<< (nI (bd_nt B) &&& 31)) = nI (2 ^ bd_nt B) := pw
    have l122 : ∀ M1, RM M1 T B p U K S e D → FRc M M1 → (∀ i, i < 2 ^ bd_nt B → M1.1 667 i = nI (sh_w B p i)) → ∀ f k, k + f = 2 ^ bd_nt B → jv_J g (d + 9) mt_M_share 122 [some (.ref 647), some (.int (nI t)), some (.int y), some (.int (Int32.ofInt (sumZ (sh_t B p t) k))), some (.int (nI k)), none] [] M1 668 0 0 Z := by
      intro M1 h1 F1 w1 f
      have r := h1.1.1
      have nt := h1.1.2.2.2.1
      induction f with
      | zero =>
        intro k hk
        have hk : k = 2 ^ bd_nt B := by omega
        subst hk
        obtain ⟨s1, s2⟩ := sh_sum_le B hB p ht (Nat.le_refl _)
        obtain ⟨q1, q2⟩ := fa_b (bd_nt B) (by omega)
        refine b_M_share_122 ⟨tg_m, ?_⟩
        rw [nt, pw']
        exact ⟨fun _ => ⟨tg_m, c_factorial (by omega) (jv_ri_i (c_fraction s1 s2 q1 (by omega) (jv_ri_i (hz M1 h1 F1))))⟩, fun c => absurd (nI_le (Nat.le_refl _) (by omega)) c⟩
      | succ f ih =>
        intro k hk
        have ih := ih (k + 1) (by omega)
        refine b_M_share_122 ⟨tg_m, ?_⟩
        rw [nt, pw']
        refine ⟨fun c => absurd ((nn_le (a := 2 ^ bd_nt B) (n := k) (by omega) (by omega)).mp c) (by omega), fun _ => c_M_ones (by omega) (jv_ri_i (c_M_has (jv_ri_i ?_)))⟩
        rw [show (nI k + 1 : Int32) = nI (k + 1) from nI_add k 1]
        cases hbt : P_bit (nI k) t with
        | true =>
          rw [if_pos rfl]
          rw [sh_skip B p hbt] at ih
          refine re1 ?_
          rw [show ∀ z : Int32, z + 0 = z from fun z => Int32.add_zero z]
          exact ih
        | false =>
          rw [if_neg (by decide)]
          obtain ⟨o1, o2, o3⟩ := sh_or (bd_nt B) (by omega) t ht k (by omega) hbt
          have o1' : nI k ||| ((1 : Int32) <<< (nI t &&& 31)) = nI (k + 2 ^ t) := o1
          rw [sh_term B p hbt k rfl] at ih
          have es : (nI (bd_nt B) - 1 - nI (pcn k 8) : Int32) = nI (bd_nt B - 1 - pcn k 8) := by
            rw [show (nI (bd_nt B) - 1 : Int32) = nI (bd_nt B - 1) from pk_sub (a := bd_nt B) (b := 1) (by omega), pk_sub (by omega)]
          refine re0 (c_factorial (by omega) (jv_ri_i ⟨tg_m, ?_⟩))
          rw [nt, es]
          refine c_factorial (by omega) (jv_ri_i ?_)
          rw [o1']
          have v64 : ∀ i, i < 64 → vp_in (nI i) (jv_sh 667).2 := fun i hi => by rw [sl_667]; exact vp_in_nI hi (by omega)
          refine ⟨tg_m, 667, (r 33).trans mr_33, tg_667, v64 _ (by omega), tg_m, 667, (r 33).trans mr_33, tg_667, v64 _ (by omega), ?_⟩
          rw [nI_clamp (by omega), nI_clamp (by omega), pk_mul, w1 _ o2, w1 _ (by omega)]
          have ed : nI (sh_w B p (k + 2 ^ t)) - nI (sh_w B p k) = Int32.ofInt ((sh_w B p (k + 2 ^ t) : Int) - (sh_w B p k : Int)) := by
            rw [← oI_nI, ← oI_nI, ← Int32.ofInt_sub]
          rw [ed, ← oI_nI (fa (pcn k 8) * fa (bd_nt B - 1 - pcn k 8)), ← Int32.ofInt_mul, ← Int32.ofInt_add]
          exact ih
    have l61 : ∀ k, k < 2 ^ bd_nt B → (∀ M2, MS M2 T B p U K S e D (nI k) → FRc M M2 → (∀ i, i < k + 1 → M2.1 667 i = nI (sh_w B p i)) → jv_J g (d + 9) mt_M_share 25 [some (.ref 647), some (.int (nI t)), some (.int y), some (.int (nI (k + 1))), none, none] [] M2 668 0 0 Z) → ∀ f n M1, n + f = 20 → MS M1 T B p U K S e D (nI k) → FRc M M1 → M1.1 659 = PT B (nI k) n p → (∀ i, i < k → M1.1 667 i = nI (sh_w B p i)) → M1.1 667 k = nI (sumN (sh_f B p k) n) → jv_J g (d + 9) mt_M_share 61 [some (.ref 647), some (.int (nI t)), some (.int y), some (.int (nI k)), some (.int (nI n)), none] [] M1 668 0 0 Z := by
      intro k hk nxt f
      induction f with
      | zero =>
        intro n M1 hn h1 F1 e1 w1 w2
        have hn : n = 20 := by omega
        subst hn
        refine b_M_share_61 ⟨fun _ => ?_, fun c => absurd (nI_le (Nat.le_refl 20) (by omega)) c⟩
        rw [show (nI k + 1 : Int32) = nI (k + 1) from nI_add k 1]
        refine nxt M1 h1 F1 (fun i hi => ?_)
        by_cases hik : i = k
        · subst hik; exact w2
        · exact w1 i (by omega)
      | succ f ih =>
        intro n M1 hn h1 F1 e1 w1 w2
        have r := h1.mb.1
        refine b_M_share_61 ⟨fun c => absurd ((nn_le (a := 20) (n := n) (by omega) (by omega)).mp c) (by omega), fun _ => ⟨tg_m, 659, (r 20).trans mr_20, tg_m, h1.tick hB (by rw [e1]; exact (PT_OK hB _ _ _ P8).le (by omega)) (fun M6 E6 e6 w6 => jv_rv_i ?_)⟩⟩
        have h6 := h1.scr E6
        have r6 := h6.mb.1
        have e7 : M6.1 659 = PT B (nI k) (n + 1) p := by rw [e6, e1, PT_succ]
        have v64 : vp_in (nI k) (jv_sh 667).2 := by rw [sl_667]; exact vp_in_nI (by omega) (by omega)
        refine ⟨tg_m, 667, (r6 33).trans mr_33, tg_667, v64, tg_m, 659, (r6 20).trans mr_20, tg_m, ?_⟩
        rw [h6.mb.2.2.1]
        refine q_hof (h6.mx hB (by omega) (by omega)) b4 (jv_ri_i ?_)
        rw [e7]
        obtain ⟨a, ha, ea, eo⟩ := ones_hset (PT B (nI k) (n + 1) p) hB
        rw [ea]
        refine c_M_ones (by omega) (jv_ri_i ⟨tg_667, v64, ?_⟩)
        rw [nI_clamp (by omega), w6, w2, nI_add, ← eo, show (nI n + 1 : Int32) = nI (n + 1) from nI_add n 1]
        have E8 : SCR M6 (jv_si M6 667 k (nI (sumN (sh_f B p k) n + ones (P_hset (PT B (nI k) (n + 1) p) (bd_nh B))))) := SCR.s667
        refine ih (n + 1) _ (by omega) (h6.scr E8) ((F1.trans E6.frc).trans E8.frc) ?_ (fun i hi => ?_) ?_
        · funext j; rw [si_b _ _ (by omega)]; exact congrFun e7 j
        · rw [si_k _ _ (by omega), w6]; exact w1 i hi
        · exact si_at _ _ _ _
    have l25 : ∀ f k M1 pr, k + f = 2 ^ bd_nt B → MS M1 T B p U K S e D pr → FRc M M1 → (∀ i, i < k → M1.1 667 i = nI (sh_w B p i)) → jv_J g (d + 9) mt_M_share 25 [some (.ref 647), some (.int (nI t)), some (.int y), some (.int (nI k)), none, none] [] M1 668 0 0 Z := by
      intro f
      induction f with
      | zero =>
        intro k M1 pr hk h1 F1 w1
        have hk : k = 2 ^ bd_nt B := by omega
        subst hk
        refine b_M_share_25 ⟨tg_m, ?_⟩
        rw [h1.mb.2.2.2.1, pw']
        refine ⟨fun _ => ⟨tg_m, ?_⟩, fun c => absurd (nI_le (Nat.le_refl _) (by omega)) c⟩
        exact l122 (jv_si M1 647 32 (nI 63)) h1.1 (F1.trans (FRc.si (by omega))) (fun i hi => by rw [si_b _ _ (by omega)]; exact w1 i hi) (2 ^ bd_nt B) 0 (by omega)
      | succ f ih =>
        intro k M1 pr hk h1 F1 w1
        refine b_M_share_25 ⟨tg_m, ?_⟩
        rw [h1.mb.2.2.2.1, pw']
        refine ⟨fun c => absurd ((nn_le (a := 2 ^ bd_nt B) (n := k) (by omega) (by omega)).mp c) (by omega), fun _ => ?_⟩
        have h5 : MS (jv_si M1 647 32 (nI k)) T B p U K S e D (nI k) := ⟨by rw [si_si]; exact h1.1, si_at _ _ _ _⟩
        have F5 : FRc M1 (jv_si M1 647 32 (nI k)) := FRc.si (by omega)
        have w5 : ∀ i, i < k → (jv_si M1 647 32 (nI k)).1 667 i = nI (sh_w B p i) := fun i hi => by rw [si_b _ _ (by omega)]; exact w1 i hi
        generalize jv_si M1 647 32 (nI k) = M5 at h5 F5 w5 ⊢
        have r := h5.mb.1
        refine ⟨tg_m, tg_m, 659, (r 20).trans mr_20, tg_m, 658, (r 19).trans mr_19, h5.lay hp (fun M6 E6 e6 w6 => jv_rv_i ?_)⟩
        have h6 := h5.scr E6
        refine ⟨tg_m, 667, (h6.mb.1 33).trans mr_33, tg_667, by rw [sl_667]; exact vp_in_nI (by omega) (by omega), ?_⟩
        rw [nI_clamp (by omega)]
        have E8 : SCR M6 (jv_si M6 667 k 0) := SCR.s667
        refine l61 k (by omega) (fun M2 h2 F2 w2 => ih (k + 1) M2 (nI k) (by omega) h2 F2 w2) 20 0 _ rfl (h6.scr E8) (((F1.trans F5).trans E6.frc).trans E8.frc) ?_ (fun i hi => ?_) ?_
        · funext j; rw [si_b _ _ (by omega)]; exact congrFun e6 j
        · rw [si_k _ _ (by omega), w6]; exact w5 i hi
        · exact si_at _ _ _ _
    exact l25 (2 ^ bd_nt B) 0 M3 (nI 63) (by omega) ⟨by rw [si_self M3 h3.1.2.2.2.2.1]; exact h3, h3.1.2.2.2.2.1⟩ F3 (fun i hi => absurd hi (by omega))
  · rw [if_neg hb] at hz
    exact hz _ h3 F3
end MC
