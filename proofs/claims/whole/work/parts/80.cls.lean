/-- the least so far: where, and how many ticks -/
def soonR (f : Nat → Option Nat) : Nat → Option (Nat × Nat)
  | 0 => none
  | k + 1 => match f k with
    | none => soonR f k
    | some n => match soonR f k with
      | none => some (k, n)
      | some r => if n < r.2 then some (k, n) else some r
def crewR (f : Nat → Option Nat) : Nat → Option (Nat × Nat)
  | 0 => none
  | k + 1 => match f k with
    | none => crewR f k
    | some n => match crewR f k with
      | none => some (k, n)
      | some r => if n < r.2 ∨ (n = r.2 ∧ pcn k 8 < pcn r.1 8) then some (k, n) else some r
def oi1 (r : Option (Nat × Nat)) : Int32 := match r with
  | none => -9
  | some q => nI q.1
def P_alls (B : Bd) (p : Pg) (x : Int32) (n : Nat) : Pg := itN (fun h p => if P_bit x h = true then P_app p (nI 0) (nI h) (nI 0) (nI 0) else p) n p
def s_soon (B : Bd) (p : Pg) (x : Int32) : Int32 := if bl x (bd_nt B) = true then oi1 (soonR (fun k => FI B (nI 1 <<< (nI (bd_whose B (nx x)) &&& nI 31)) 60 (P_set p (nx x) (nI 0) (nI k) (nI 0) (nI 1) (nI 0))) 16) else -1
def s_all (B : Bd) (p : Pg) (x : Int32) : Int32 := if bl x (2 ^ bd_nh B) = true then oi (FI B (nI (2 ^ bd_nh B - 1)) 60 (P_alls B p x (bd_nh B))) else -2
def s_crew (B : Bd) (p : Pg) : Int32 := oi1 (crewR (fun k => FI B (nI (2 ^ bd_nh B - 1)) 60 (P_alls B p (nI k) (bd_nh B))) (2 ^ bd_nh B))
theorem n9 : ∀ n, n < 100 → nI n ≠ -9 := by decide
theorem soonR_le {f : Nat → Option Nat} (hf : ∀ k n, f k = some n → n ≤ 60) : ∀ k r, soonR f k = some r → r.1 < k ∧ r.2 ≤ 60
  | 0, _, h => by cases h
  | k + 1, r, h => by
    unfold soonR at h
    cases hk : f k with
    | none =>
      rw [hk] at h
      have := soonR_le hf k r h
      omega
    | some n =>
      rw [hk] at h
      have hn := hf k n hk
      cases hr : soonR f k with
      | none => rw [hr] at h; cases h; exact ⟨by omega, hn⟩
      | some r' =>
        rw [hr] at h
        have := soonR_le hf k r' hr
        by_cases hc : n < r'.2
        · simp only [if_pos hc] at h; cases h; exact ⟨by omega, hn⟩
        · simp only [if_neg hc] at h; cases h; exact ⟨by omega, this.2⟩
theorem soonR_zero {f : Nat → Option Nat} {k b : Nat} (h : soonR f k = some (b, 0)) : ∀ n, soonR f (k + n) = some (b, 0)
  | 0 => h
  | n + 1 => by
    show soonR f (k + n + 1) = _
    unfold soonR
    rw [soonR_zero h n]
    cases f (k + n) with
    | none => rfl
    | some m => rfl
theorem crewR_le {f : Nat → Option Nat} (hf : ∀ k n, f k = some n → n ≤ 60) : ∀ k r, crewR f k = some r → r.1 < k ∧ r.2 ≤ 60
  | 0, _, h => by cases h
  | k + 1, r, h => by
    unfold crewR at h
    cases hk : f k with
    | none =>
      rw [hk] at h
      have := crewR_le hf k r h
      omega
    | some n =>
      rw [hk] at h
      have hn := hf k n hk
      cases hr : crewR f k with
      | none => rw [hr] at h; cases h; exact ⟨by omega, hn⟩
      | some r' =>
        rw [hr] at h
        have := crewR_le hf k r' hr
        by_cases hc : n < r'.2 ∨ (n = r'.2 ∧ pcn k 8 < pcn r'.1 8)
        · simp only [if_pos hc] at h; cases h; exact ⟨by omega, hn⟩
        · simp only [if_neg hc] at h; cases h; exact ⟨by omega, this.2⟩
theorem soonR_none {f : Nat → Option Nat} {k : Nat} (hk : f k = none) : soonR f (k + 1) = soonR f k := by
  show (match f k with | none => soonR f k | some n => match soonR f k with | none => some (k, n) | some r => if n < r.2 then some (k, n) else some r) = _
  rw [hk]
theorem soonR_new {f : Nat → Option Nat} {k n : Nat} (hk : f k = some n) (hr : soonR f k = none) : soonR f (k + 1) = some (k, n) := by
  show (match f k with | none => soonR f k | some n => match soonR f k with | none => some (k, n) | some r => if n < r.2 then some (k, n) else some r) = _
  rw [hk, hr]
theorem soonR_some {f : Nat → Option Nat} {k n b l : Nat} (hk : f k = some n) (hr : soonR f k = some (b, l)) : soonR f (k + 1) = if n < l then some (k, n) else some (b, l) := by
  show (match f k with | none => soonR f k | some n => match soonR f k with | none => some (k, n) | some r => if n < r.2 then some (k, n) else some r) = _
  rw [hk, hr]
theorem crewR_none {f : Nat → Option Nat} {k : Nat} (hk : f k = none) : crewR f (k + 1) = crewR f k := by
  show (match f k with | none => crewR f k | some n => match crewR f k with | none => some (k, n) | some r => if n < r.2 ∨ (n = r.2 ∧ pcn k 8 < pcn r.1 8) then some (k, n) else some r) = _
  rw [hk]
theorem crewR_new {f : Nat → Option Nat} {k n : Nat} (hk : f k = some n) (hr : crewR f k = none) : crewR f (k + 1) = some (k, n) := by
  show (match f k with | none => crewR f k | some n => match crewR f k with | none => some (k, n) | some r => if n < r.2 ∨ (n = r.2 ∧ pcn k 8 < pcn r.1 8) then some (k, n) else some r) = _
  rw [hk, hr]
theorem crewR_some {f : Nat → Option Nat} {k n b l : Nat} (hk : f k = some n) (hr : crewR f k = some (b, l)) : crewR f (k + 1) = if n < l ∨ (n = l ∧ pcn k 8 < pcn b 8) then some (k, n) else some (b, l) := by
  show (match f k with | none => crewR f k | some n => match crewR f k with | none => some (k, n) | some r => if n < r.2 ∨ (n = r.2 ∧ pcn k 8 < pcn r.1 8) then some (k, n) else some r) = _
  rw [hk, hr]
theorem every : ∀ n, n ≤ 4 → (nI 1 <<< (nI n &&& nI 31)) - nI 1 = nI (2 ^ n - 1) := by decide +kernel
theorem bit01 : ∀ s, s < 16 → ∀ h, h < 4 → ((nI s >>> (nI h &&& nI 31)) &&& nI 1 = nI 0 ↔ P_bit (nI s) h = false) := by decide +kernel
section RO
variable {g : jv_G} {d : Nat} {M M' : jv_Mem} {Z : Option Value → jv_Mem → Nat → Prop} {T T' : Tt} {B : Bd} {p p' q : Pg} {U : Ut} {K : Kt} {S S' : St} {e e' : Int64} {ab pr : Int32} {σ : Nat}
theorem q_append (H : SHP M) (hB : BV2 B) (hσ : σ ∈ st_bases) (Q : SQ M σ B pr ab p) {m : Nat} (em : p 80 = nI m) (hm : m < 12) {k h r v : Nat} (hk : k ≤ 5) (hh : h < bd_nh B) (hr : r < 4) (hv : v < 1000) (hz : ∀ M', EXC M M' σ → SQ M' σ B pr ab (P_app p (nI k) (nI h) (nI r) (nI v)) → Z none M' 668) : jv_Ct g d mt_D_append [.ref (σ + 1), .int (nI k), .int (nI h), .int (nI r), .int (nI v)] M 668 0 0 Z := by
  obtain ⟨V, π, v1, v2, S1, a6⟩ := Q
  have e := sw_self v1 v2
  have c := c_append (g := g) (d := d) (Z := Z) (H.2.2.2.2.2.2 σ hσ).1 hB S1 em hm hk hh hr hv (fun V' S' a' => hz _ (EXC.sw S'.pi) (SQ.mk S' (a'.trans a6)))
  rw [e] at c
  exact c
theorem q_become (H : SHP M) (hB : BV2 B) (hσ : σ ∈ st_bases) (Q : SQ M σ B pr ab p) {t a b c n ch : Nat} (ht : t < bd_nt B) (ha : a ≤ 1) (hb : b < 16) (hab : a = 1 → b < 4) (hc : c < 1000) (hn : 1 ≤ n ∧ n ≤ 9) (hch : ch ≤ 1) (hz : ∀ M', EXC M M' σ → SQ M' σ B pr ab (P_set p t (nI a) (nI b) (nI c) (nI n) (nI ch)) → Z none M' 668) : jv_Ct g d mt_U_become [.ref (σ + 27 + t), .int (nI a), .int (nI b), .int (nI c), .int (nI n), .int (nI ch)] M 668 0 0 Z := by
  obtain ⟨V, π, v1, v2, S1, a6⟩ := Q
  have e := sw_self v1 v2
  have b6 := hB.1.2.2.1
  have tSt := t_ST hσ (show t < 6 by omega)
  rw [← e]
  refine jv_ct rfl (Nat.le_of_ble_eq_true rfl) (b_U_become_0 ?_)
  simp (disch := omega) only [wi_t, tSt, true_and]
  refine ⟨?_, hz _ (EXC.sw S1.pi) (SQ.mk (S1.become hB ht ha hb hab hc hn hch) ?_)⟩
  · rcases (by omega : ch = 0 ∨ ch = 1) with rfl | rfl
    · exact Or.inl rfl
    · exact Or.inr rfl
  · simp (disch := omega) only [vu_k]; exact a6
theorem EXC.rf (H : SHP M) (hσ : σ ∈ st_bases) : EXC M M σ := ⟨fun _ _ _ => rfl, fun _ _ _ => rfl, (H.2.2.2.2.2.2 σ hσ).2, rfl⟩
theorem R_soonest (h : RC M T B p U K S e) (hB : BV2 B) {x : Int32} (hz : ∀ M', RC M' T B p U K S e → FRm M M' → Z (some (.int (s_soon B p x))) M' 668) : jv_Ct g (d + 9) mt_R_soonest [.ref 0, .int x] M 668 0 0 Z := by
  have h77 : 77 ∈ st_bases := by decide
  have h44 : 44 ∈ st_bases := by decide
  have t77 : jv_Tg 6 77 668 := t_S0 h77
  have f02 := h.1.1.2.2.1
  have b6 := hB.1.2.2.1
  unfold s_soon at hz
  refine jv_ct rfl (Nat.le_of_ble_eq_true rfl) (b_R_soonest_0 ⟨tg_0, c_isTrigger h hB (jv_ri_i ?_)⟩)
  by_cases hb : bl x (bd_nt B) = true
  · rw [if_pos hb] at hz ⊢
    obtain ⟨t, ht, ex⟩ := bl_of hb (by omega)
    subst ex
    rw [nx_n (by omega)] at hz
    refine ⟨fun _ => ?_, fun c => absurd c (by decide)⟩
    obtain ⟨f, ef⟩ : ∃ f : Nat → Option Nat, f = fun k => FI B (nI 1 <<< (nI (bd_whose B t) &&& nI 31)) 60 (P_set p t (nI 0) (nI k) (nI 0) (nI 1) (nI 0)) := ⟨_, rfl⟩
    rw [← ef] at hz
    have hf : ∀ k n, f k = some n → n ≤ 60 := fun k n hk => by rw [ef] at hk; exact FI_le hk
    have l : ∀ n k M1 (x3 x4 : Int32), k + n = 16 → RC M1 T B p U K S e → EXC M M1 77 → (soonR f k = none → x3 = -9 ∧ x4 = nI 60) → (∀ r, soonR f k = some r → x3 = nI r.1 ∧ x4 = nI r.2 - nI 1) → jv_J g (d + 9) mt_R_soonest 35 [some (.ref 0), some (.int (nI t)), some (.int (nI 1 <<< (nI (bd_whose B t) &&& nI 31))), some (.int x3), some (.int x4), some (.int (nI k)), none] [] M1 668 0 0 Z := by
      intro n
      induction n with
      | zero =>
        intro k M1 x3 x4 hk h1 E1 c1 c2
        have hk : k = 16 := by omega
        subst hk
        refine b_R_soonest_35 ⟨fun _ => ?_, fun c => absurd ((nn_le (by omega) (by omega)).mpr (Nat.le_refl 16)) c⟩
        have := hz M1 h1 (E1.frm h77)
        cases hr : soonR f 16 with
        | none => rw [hr] at this; rw [(c1 hr).1]; exact this
        | some r => rw [hr] at this; rw [(c2 r hr).1]; exact this
      | succ n ih =>
        intro k M1 x3 x4 hk h1 E1 c1 c2
        have g03 := h1.1.1.2.2.2.1
        have g02 := h1.1.1.2.2.1
        -- one place tried, with a limit
        have try_ : ∀ L, L ≤ 60 → x4 = nI L → (∀ n, f k = some n → n ≤ L → soonR f (k + 1) = some (k, n)) → ((f k = none ∨ ∃ n, f k = some n ∧ L < n) → soonR f (k + 1) = soonR f k) → jv_J g (d + 9) mt_R_soonest 35 [some (.ref 0), some (.int (nI t)), some (.int (nI 1 <<< (nI (bd_whose B t) &&& nI 31))), some (.int x3), some (.int x4), some (.int (nI k)), none] [] M1 668 0 0 Z := by
          intro L hL hx4 a1 a2
          subst hx4
          refine b_R_soonest_35 ⟨fun c => absurd ((nn_le (a := 16) (n := k) (by omega) (by omega)).mp c) (by omega), fun _ => ⟨fun c => absurd ((nn_lt (a := L) (n := 0) (by omega) (by omega)).mp c) (by omega), fun _ => ?_⟩⟩
          simp (disch := omega) only [li, tg_0, g03, g02, t77, true_and, Option.some.injEq, exists_eq_left']
          refine c_trial h1 hB (fun M2 E2 Q2 => jv_rv_i ?_)
          have h2 := h1.trial E2
          have k03 := h2.1.1.2.2.2.1
          have X2 := (h2.1.2.2.2.2.2.2 77 h77).1
          have k2 := X2.2.2.2.1
          have k7 := X2.2.2.2.2.2.2.2.2.1 t (by omega)
          refine ⟨tg_0, 77, k03, t77, 77 + 17, k2, t_S17 h77, by rw [l_S17 h77]; exact vp_in_nI (by omega) (by omega), 77 + 27 + t, by rw [nI_clamp (by omega)]; exact k7, t_ST h77 (by omega), ?_⟩
          refine q_become h2.1 hB h77 Q2 (c := 0) (ch := 0) ht (Nat.zero_le 1) (show k < 16 by omega) (by omega) (by omega) ⟨Nat.le_refl 1, by omega⟩ (by omega) (fun M3 E3 Q3 => jv_rv_i ⟨tg_0, ?_⟩)
          have h3 := h2.trial E3
          refine c_tuh h3 hB Q3 (show L < 900 by omega) (fun M4 E4 => jv_ri_i ?_)
          have h4 := h3.trial E4
          have E5 := ((E1.trans E2).trans E3).trans E4
          have hFI : FI B (nI 1 <<< (nI (bd_whose B t) &&& nI 31)) L (P_set p t (nI 0) (nI k) (nI 0) (nI 1) (nI 0)) = (match f k with | none => none | some n => if n ≤ L then some n else none) := by
            rw [ef]; exact FI_lim (by omega)
          rw [hFI]
          cases hk : f k with
          | none =>
            refine ⟨fun _ => ?_, fun c => absurd rfl c⟩
            rw [nI_add]
            exact ih (k + 1) M4 x3 _ (by omega) h4 E5 (fun z => c1 ((a2 (Or.inl hk)).symm.trans z)) (fun r z => c2 r ((a2 (Or.inl hk)).symm.trans z))
          | some n =>
            by_cases hn : n ≤ L
            · simp only [if_pos hn]
              refine ⟨fun c => absurd c (n9 n (by omega)), fun _ => ?_⟩
              rw [nI_add]
              refine ih (k + 1) M4 _ _ (by omega) h4 E5 (fun z => ?_) (fun r z => ?_)
              · rw [a1 n hk hn] at z; cases z
              · rw [a1 n hk hn] at z; cases z; exact ⟨rfl, rfl⟩
            · simp only [if_neg hn]
              refine ⟨fun _ => ?_, fun c => absurd rfl c⟩
              rw [nI_add]
              have a3 := a2 (Or.inr ⟨n, hk, by omega⟩)
              exact ih (k + 1) M4 x3 _ (by omega) h4 E5 (fun z => c1 (a3.symm.trans z)) (fun r z => c2 r (a3.symm.trans z))
        cases hr : soonR f k with
        | none =>
          refine try_ 60 (by omega) (c1 hr).2 (fun n hk _ => ?_) (fun hk => ?_)
          · exact soonR_new hk hr
          · rcases hk with hk | ⟨n, hk, hn⟩
            · rw [soonR_none hk, hr]
            · have := hf k n hk; omega
        | some r =>
          obtain ⟨b, l⟩ := r
          obtain ⟨d1, d2⟩ := c2 (b, l) hr
          have hl := (soonR_le hf k (b, l) hr).2
          by_cases hl0 : l = 0
          · subst hl0
            have hend := soonR_zero hr (n + 1)
            rw [hk] at hend
            refine b_R_soonest_35 ⟨fun c => absurd ((nn_le (a := 16) (n := k) (by omega) (by omega)).mp c) (by omega), fun _ => ⟨fun _ => ?_, fun c => absurd (show x4 < 0 by rw [show x4 = nI 0 - nI 1 from d2]; decide) c⟩⟩
            have := hz M1 h1 (E1.frm h77)
            rw [hend] at this
            rw [d1]
            exact this
          · have hl : l ≤ 60 := hl
            have d2 : x4 = nI l - nI 1 := d2
            refine try_ (l - 1) (by omega) (by rw [d2, pk_sub (by omega)]) (fun n hk hn => ?_) (fun hk => ?_)
            · rw [soonR_some hk hr, if_pos (by omega)]
            · rcases hk with hk | ⟨n, hk, hn⟩
              · exact soonR_none hk
              · rw [soonR_some hk hr, if_neg (by omega), hr]
    have X2 := (h.1.2.2.2.2.2.2 44 h44).1
    have k7 := X2.2.2.2.2.2.2.2.2.1 t (by omega)
    have hw : M.1 (44 + 27 + t) 0 = nI (bd_whose B t) := by
      obtain ⟨V, π, v1, v2, ⟨m, P, A, R, -⟩, a6⟩ := h.2.2.1
      have := v1 (27 + t) 0 (by omega)
      rw [← Nat.add_assoc] at this
      rw [this]
      exact (R.2.2.2.1 t ht).1
    refine ⟨tg_0, 44, f02, t_S0 h44, 44 + 17, X2.2.2.2.1, t_S17 h44, by rw [l_S17 h44]; exact vp_in_nI (by omega) (by omega), 44 + 27 + t, by rw [nI_clamp (by omega)]; exact k7, t_ST h44 (by omega), ?_⟩
    rw [hw]
    exact l 16 0 M _ _ (by omega) h (EXC.rf h.1 h77) (fun _ => ⟨rfl, rfl⟩) (fun r z => by cases z)
  · rw [if_neg hb] at hz ⊢
    exact ⟨fun c => absurd rfl c, fun _ => hz M h FRm.rf⟩
theorem c_everyHart (h4 : M.1 σ 4 = nI (bd_nh B)) (hB : BV2 B) (hσ : σ ∈ st_bases) (hz : Z (some (.int (nI (2 ^ bd_nh B - 1)))) M 668) : jv_Ct g d mt_S_everyHart [.ref σ] M 668 0 0 Z := by
  refine jv_ct rfl (Nat.le_of_ble_eq_true rfl) (b_S_everyHart_0 ⟨t_S0 hσ, ?_⟩)
  rw [h4, li, li, every _ hB.1.2.1]
  exact hz
theorem c_twh (h : RC M T B p U K S e) (hB : BV2 B) (P8 : POA B 8 p) {s : Nat} (hs : s < 16) {x : Int32} (hx : nx x < 900) (hz : ∀ M', EXC M M' 77 → Z (some (.int (oi (FX B (nI (2 ^ bd_nh B - 1)) x (P_alls B p (nI s) (bd_nh B)))))) M' 668) : jv_Ct g (d + 6) mt_R_ticksWithHalts [.ref 0, .int (nI s), .int x] M 668 0 0 Z := by
  have h77 : 77 ∈ st_bases := by decide
  have t77 : jv_Tg 6 77 668 := t_S0 h77
  have f02 := h.1.1.2.2.1
  have f03 := h.1.1.2.2.2.1
  have b4 := hB.1.2.1
  obtain ⟨m8, hm8, Pm, Am⟩ := P8
  have l : ∀ n i M1 q m, i + n = bd_nh B → q = P_alls B p (nI s) i → q 80 = nI m → m ≤ 8 + i → RC M1 T B p U K S e → EXC M M1 77 → SQ M1 77 B (nI 63) (nI 0) q → jv_J g (d + 6) mt_R_ticksWithHalts 13 [some (.ref 0), some (.int (nI s)), some (.int x), some (.int (nI i))] [] M1 668 0 0 Z := by
    intro n
    induction n with
    | zero =>
      intro i M1 q m hi eq em hm h1 E1 Q1
      have hi : i = bd_nh B := by omega
      subst hi
      have g03 := h1.1.1.2.2.2.1
      have h4 : M1.1 77 4 = nI (bd_nh B) := by
        obtain ⟨V, π, v1, v2, ⟨m, P, A, R, -⟩, a6⟩ := Q1
        exact (v1 0 4 (by omega)).trans R.1.1
      refine b_R_ticksWithHalts_13 ?_
      simp (disch := omega) only [tg_0, g03, t77, h4, nn_le, true_and, Option.some.injEq, exists_eq_left']
      refine ⟨fun _ => c_everyHart h4 hB h77 (jv_ri_i ⟨tg_0, ?_⟩), fun c => absurd (Nat.le_refl _) c⟩
      subst eq
      unfold FX at hz
      by_cases hx0 : x < nI 0
      · rw [if_pos hx0] at hz
        exact c_tuh0 h1 hx0 (jv_ri_i (hz M1 E1))
      · rw [if_neg hx0] at hz
        obtain ⟨L, hL, ex⟩ := nI_of hx0
        subst ex
        rw [nx_n hL] at hz hx
        exact c_tuh h1 hB Q1 hx (fun M2 E2 => jv_ri_i (hz M2 (E1.trans E2)))
    | succ n ih =>
      intro i M1 q m hi eq em hm h1 E1 Q1
      have g03 := h1.1.1.2.2.2.1
      have X1 := (h1.1.2.2.2.2.2.2 77 h77).1
      have h4 : M1.1 77 4 = nI (bd_nh B) := by
        obtain ⟨V, π, v1, v2, ⟨m, P, A, R, -⟩, a6⟩ := Q1
        exact (v1 0 4 (by omega)).trans R.1.1
      have hbit := bit01 s hs i (by omega)
      refine b_R_ticksWithHalts_13 ?_
      simp (disch := omega) only [li, tg_0, g03, t77, h4, nn_le, nI_add, true_and, Option.some.injEq, exists_eq_left']
      refine ⟨fun c => absurd c (by omega), fun _ => ⟨fun c => ?_, fun c => ?_⟩⟩
      · refine ih (i + 1) M1 q m (by omega) ?_ em (by omega) h1 E1 Q1
        show q = (if P_bit (nI s) i = true then _ else P_alls B p (nI s) i)
        rw [hbit.mp c, if_neg (by decide)]
        exact eq
      · have hb : P_bit (nI s) i = true := by rw [← Bool.not_eq_false]; exact fun z => c (hbit.mpr z)
        refine ⟨77 + 1, X1.2.1, t_S1 h77, ?_⟩
        refine q_append h1.1 hB h77 Q1 em (by omega) (Nat.zero_le 5) (show i < bd_nh B by omega) (show 0 < 4 by omega) (show 0 < 1000 by omega) (fun M2 E2 Q2 => jv_rv_i ?_)
        refine ih (i + 1) M2 _ (m + 1) (by omega) ?_ ?_ (by omega) (h1.trial E2) (E1.trans E2) Q2
        · show _ = (if P_bit (nI s) i = true then P_app (P_alls B p (nI s) i) _ _ _ _ else _)
          rw [if_pos hb, ← eq]
        · rw [P_app_at em (by omega), if_pos rfl]
  refine jv_ct rfl (Nat.le_of_ble_eq_true rfl) (b_R_ticksWithHalts_0 ?_)
  simp (disch := omega) only [tg_0, f03, f02, t77, true_and, Option.some.injEq, exists_eq_left']
  refine c_trial h hB (fun M1 E1 Q1 => jv_rv_i ?_)
  exact l (bd_nh B) 0 M1 p m8 (by omega) rfl Pm.p80 (by omega) (h.trial E1) E1 Q1
theorem R_all (h : RC M T B p U K S e) (hB : BV2 B) (P8 : POA B 8 p) {x : Int32} (hz : ∀ M', RC M' T B p U K S e → FRm M M' → Z (some (.int (s_all B p x))) M' 668) : jv_Ct g (d + 9) mt_R_all [.ref 0, .int x] M 668 0 0 Z := by
  have h77 : 77 ∈ st_bases := by decide
  have h44 : 44 ∈ st_bases := by decide
  have f02 := h.1.1.2.2.1
  have b4 := hB.1.2.1
  have h16 : 2 ^ bd_nh B ≤ 16 := Nat.pow_le_pow_right (by omega) b4
  have h1 : 1 ≤ 2 ^ bd_nh B := Nat.one_le_two_pow
  unfold s_all at hz
  refine jv_ct rfl (Nat.le_of_ble_eq_true rfl) (b_R_all_0 ⟨tg_0, 44, f02, t_S0 h44, c_everyHart h.nh.1 hB h44 (jv_ri_i ?_)⟩)
  rw [li, nI_add, show 2 ^ bd_nh B - 1 + 1 = 2 ^ bd_nh B by omega]
  refine c_isBelow (by omega) (jv_ri_i ?_)
  by_cases hb : bl x (2 ^ bd_nh B) = true
  · rw [if_pos hb] at hz ⊢
    obtain ⟨s, hs, ex⟩ := bl_of hb (by omega)
    subst ex
    refine ⟨fun c => absurd c (by decide), fun _ => ⟨tg_0, ?_⟩⟩
    refine c_twh h hB P8 (show s < 16 by omega) (x := nI 60) (by rw [nx_n (by omega)]; omega) (fun M1 E1 => jv_ri_i ?_)
    unfold FX
    rw [if_neg (by decide), nx_n (by omega)]
    exact hz M1 (h.trial E1) (E1.frm h77)
  · rw [if_neg hb] at hz ⊢
    exact ⟨fun _ => hz M h FRm.rf, fun c => absurd rfl c⟩
theorem R_crew (h : RC M T B p U K S e) (hB : BV2 B) (P8 : POA B 8 p) (hz : ∀ M', RC M' T B p U K S e → FRm M M' → Z (some (.int (s_crew B p))) M' 668) : jv_Ct g (d + 9) mt_R_crew [.ref 0] M 668 0 0 Z := by
  have h77 : 77 ∈ st_bases := by decide
  have h44 : 44 ∈ st_bases := by decide
  have b4 := hB.1.2.1
  have h16 : 2 ^ bd_nh B ≤ 16 := Nat.pow_le_pow_right (by omega) b4
  have h1 : 1 ≤ 2 ^ bd_nh B := Nat.one_le_two_pow
  unfold s_crew at hz
  obtain ⟨N, eN⟩ : ∃ N, N = 2 ^ bd_nh B := ⟨_, rfl⟩
  obtain ⟨f, ef⟩ : ∃ f : Nat → Option Nat, f = fun k => FI B (nI (2 ^ bd_nh B - 1)) 60 (P_alls B p (nI k) (bd_nh B)) := ⟨_, rfl⟩
  rw [← ef, ← eN] at hz
  rw [← eN] at h16 h1
  have hf : ∀ k n, f k = some n → n ≤ 60 := fun k n hk => by rw [ef] at hk; exact FI_le hk
  have l : ∀ n k M1 (x1 x2 : Int32), k + n = N → RC M1 T B p U K S e → EXC M M1 77 → (crewR f k = none → x1 = -9 ∧ x2 = nI 60) → (∀ r, crewR f k = some r → x1 = nI r.1 ∧ x2 = nI r.2) → jv_J g (d + 9) mt_R_crew 8 [some (.ref 0), some (.int x1), some (.int x2), some (.int (nI k)), none, none] [] M1 668 0 0 Z := by
    intro n
    induction n with
    | zero =>
      intro k M1 x1 x2 hk h1' E1 c1 c2
      have hk : k = N := by omega
      subst hk
      have f02 := h1'.1.1.2.2.1
      refine b_R_crew_8 ⟨tg_0, 44, f02, t_S0 h44, c_everyHart h1'.nh.1 hB h44 (jv_ri_i ?_)⟩
      rw [← eN]
      refine ⟨fun _ => ?_, fun c => absurd ((nn_lt (by omega) (by omega)).mpr (by omega)) c⟩
      have := hz M1 h1' (E1.frm h77)
      cases hr : crewR f k with
      | none => rw [hr] at this; rw [(c1 hr).1]; exact this
      | some r => rw [hr] at this; rw [(c2 r hr).1]; exact this
    | succ n ih =>
      intro k M1 x1 x2 hk h1' E1 c1 c2
      have f02 := h1'.1.1.2.2.1
      have l57 : ∀ y : Int32, nx y < 900 → (∀ M2 r, EXC M1 M2 77 → r = oi (FX B (nI (2 ^ bd_nh B - 1)) y (P_alls B p (nI k) (bd_nh B))) → (r = -9 → jv_J g (d + 9) mt_R_crew 8 [some (.ref 0), some (.int x1), some (.int x2), some (.int (nI k + 1)), none, none] [] M2 668 0 0 Z) ∧ (¬ r = -9 → jv_J g (d + 9) mt_R_crew 8 [some (.ref 0), some (.int (nI k)), some (.int r), some (.int (nI k + 1)), none, none] [] M2 668 0 0 Z)) → jv_J g (d + 9) mt_R_crew 57 [some (.ref 0), some (.int x1), some (.int x2), some (.int (nI k)), none, none] [.int y, .int (nI k), .ref 0] M1 668 0 0 Z := by
        intro y hy hc
        refine b_R_crew_57 ⟨tg_0, c_twh h1' hB P8 (show k < 16 by omega) hy (fun M2 E2 => jv_ri_i (hc M2 _ E2 rfl))⟩
      -- with a limit, as a number or below 0
      have go : ∀ (y : Int32) (L : Nat) (neg : Bool), L ≤ 60 → (neg = true → y = nI 0 - nI 1) → (neg = false → y = nI L) → (∀ n, f k = some n → n ≤ L → neg = false → crewR f (k + 1) = some (k, n)) → ((f k = none ∨ neg = true ∨ ∃ n, f k = some n ∧ L < n) → crewR f (k + 1) = crewR f k) → jv_J g (d + 9) mt_R_crew 57 [some (.ref 0), some (.int x1), some (.int x2), some (.int (nI k)), none, none] [.int y, .int (nI k), .ref 0] M1 668 0 0 Z := by
        intro y L neg hL hn hp a1 a2
        have hr : FX B (nI (2 ^ bd_nh B - 1)) y (P_alls B p (nI k) (bd_nh B)) = if neg = true then none else (match f k with | none => none | some n => if n ≤ L then some n else none) := by
          unfold FX
          cases neg with
          | true => rw [hn rfl, if_pos (by decide), if_pos rfl]
          | false =>
            rw [hp rfl, if_neg (fun z => absurd ((nn_lt (by omega) (by omega)).mp z) (by omega)), nx_n (by omega), if_neg (by decide), ef]
            exact FI_lim (by omega)
        refine l57 y ?_ (fun M2 r E2 er => ?_)
        · cases neg with
          | true => rw [hn rfl]; decide
          | false => rw [hp rfl, nx_n (by omega)]; omega
        · rw [hr] at er
          have h2 := h1'.trial E2
          have E3 := E1.trans E2
          have keep : r = -9 → crewR f (k + 1) = crewR f k → (r = -9 → jv_J g (d + 9) mt_R_crew 8 [some (.ref 0), some (.int x1), some (.int x2), some (.int (nI k + 1)), none, none] [] M2 668 0 0 Z) ∧ (¬ r = -9 → jv_J g (d + 9) mt_R_crew 8 [some (.ref 0), some (.int (nI k)), some (.int r), some (.int (nI k + 1)), none, none] [] M2 668 0 0 Z) := by
            intro e9 a3
            refine ⟨fun _ => ?_, fun c => absurd e9 c⟩
            rw [li, nI_add]
            exact ih (k + 1) M2 x1 x2 (by omega) h2 E3 (fun z => c1 (a3.symm.trans z)) (fun r z => c2 r (a3.symm.trans z))
          cases neg with
          | true => exact keep er (a2 (Or.inr (Or.inl rfl)))
          | false =>
            cases hk : f k with
            | none =>
              rw [hk] at er
              exact keep er (a2 (Or.inl hk))
            | some n =>
              rw [hk] at er
              by_cases hn' : n ≤ L
              · simp only [if_pos hn'] at er
                have er : r = nI n := er
                subst er
                refine ⟨fun c => absurd c (n9 n (by omega)), fun _ => ?_⟩
                rw [li, nI_add]
                refine ih (k + 1) M2 _ _ (by omega) h2 E3 (fun z => ?_) (fun r z => ?_)
                · rw [a1 n hk hn' rfl] at z; cases z
                · rw [a1 n hk hn' rfl] at z; cases z; exact ⟨rfl, rfl⟩
              · simp only [if_neg hn'] at er
                exact keep er (a2 (Or.inr (Or.inr ⟨n, hk, by omega⟩)))
      refine b_R_crew_8 ⟨tg_0, 44, f02, t_S0 h44, c_everyHart h1'.nh.1 hB h44 (jv_ri_i ?_)⟩
      rw [← eN]
      refine ⟨fun c => absurd ((nn_lt (by omega) (by omega)).mp c) (by omega), fun _ => ?_⟩
      cases hr : crewR f k with
      | none =>
        obtain ⟨d1, d2⟩ := c1 hr
        refine ⟨fun _ => b_R_crew_41 ⟨fun c => absurd c (by decide), fun _ => ?_⟩, fun c => absurd d1 c⟩
        rw [d2]
        have := go (nI 60) 60 false (by omega) (fun z => by cases z) (fun _ => rfl) (fun n hk _ _ => crewR_new hk hr) (fun hk => by
          rcases hk with hk | hk | ⟨n, hk, hn⟩
          · exact crewR_none hk
          · cases hk
          · have := hf k n hk; omega)
        rw [d2] at this
        exact this
      | some r =>
        obtain ⟨b, L⟩ := r
        obtain ⟨d1, d2⟩ := c2 (b, L) hr
        obtain ⟨hb, hL⟩ := crewR_le hf k (b, L) hr
        have hb : b < k := hb
        have hL : L ≤ 60 := hL
        have d1 : x1 = nI b := d1
        have d2 : x2 = nI L := d2
        refine ⟨fun c => absurd (d1.symm.trans c) (n9 b (by omega)), fun _ => ?_⟩
        refine c_bitCount (by omega) (jv_ri_i ?_)
        rw [d1]
        refine c_bitCount (by omega) (jv_ri_i ?_)
        rw [← d1]
        have p1 := pcn_le b 8
        have p2 := pcn_le k 8
        rw [nn_le (by omega) (by omega)]
        refine ⟨fun c => b_R_crew_41 ⟨fun _ => ?_, fun z => absurd rfl z⟩, fun c => b_R_crew_41 ⟨fun z => absurd z (by decide), fun _ => ?_⟩⟩
        · by_cases hL0 : L = 0
          · refine go _ 0 true (by omega) (fun _ => by rw [d2, hL0]; rfl) (fun z => by cases z) (fun n _ _ z => by cases z) (fun _ => ?_)
            cases hk : f k with
            | none => exact crewR_none hk
            | some n => rw [crewR_some hk hr, if_neg (by omega), hr]
          · refine go _ (L - 1) false (by omega) (fun z => by cases z) (fun _ => by rw [d2]; exact pk_sub (b := 1) (by omega)) (fun n hk hn _ => ?_) (fun hk => ?_)
            · rw [crewR_some hk hr, if_pos (by omega)]
            · rcases hk with hk | hk | ⟨n, hk, hn⟩
              · exact crewR_none hk
              · cases hk
              · rw [crewR_some hk hr, if_neg (by omega), hr]
        · refine go _ L false hL (fun z => by cases z) (fun _ => d2) (fun n hk hn _ => ?_) (fun hk => ?_)
          · rw [crewR_some hk hr, if_pos (by omega)]
          · rcases hk with hk | hk | ⟨n, hk, hn⟩
            · exact crewR_none hk
            · cases hk
            · rw [crewR_some hk hr, if_neg (by omega), hr]
  exact jv_ct rfl (Nat.le_of_ble_eq_true rfl) (b_R_crew_0 (l N 0 M _ _ (by omega) h (EXC.rf h.1 h77) (fun _ => ⟨rfl, rfl⟩) (fun r z => by cases z)))
end RO
