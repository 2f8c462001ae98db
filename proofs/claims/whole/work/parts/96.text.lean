/-! ===== the class reads a text: frames, one letter ===== -/
theorem tgx_3 : jv_Tg 4 3 668 := ⟨by decide +kernel, by decide⟩
theorem tgx_4 : jv_Tg 11 4 668 := ⟨by decide +kernel, by decide⟩
theorem slx_4 : (jv_sh 4).2 = 16 := by decide +kernel
theorem tgx_5 : jv_Tg 11 5 668 := ⟨by decide +kernel, by decide⟩
theorem slx_5 : (jv_sh 5).2 = 16 := by decide +kernel
theorem tgx_6 : jv_Tg 11 6 668 := ⟨by decide +kernel, by decide⟩
theorem slx_6 : (jv_sh 6).2 = 16 := by decide +kernel
theorem h7s : 7 ∈ st_bases := by decide
def tfx (b j : Nat) : Prop := (b = 1 ∧ (j = 4 ∨ j = 5)) ∨ (3 ≤ b ∧ b ≤ 6) ∨ (b = 7 ∧ (j = 4 ∨ j = 5)) ∨ (26 ≤ b ∧ b ≤ 39)
/-- what reading a text changes -/
def TXF (M M' : jv_Mem) : Prop := M'.2 = M.2 ∧ ∀ b j, ¬ tfx b j → M'.1 b j = M.1 b j
def TA (M : jv_Mem) (a f : Nat) : Prop := M.1 1 4 = nI a ∧ M.1 1 5 = nI f
def TS (V : SV) (B : Bd) (p : Pg) : Prop := (V 0 4 = nI (bd_nh B) ∧ V 0 5 = nI (bd_nt B)) ∧ (∀ h, h < bd_nh B → RHh B V p h) ∧ ∀ t, t < bd_nt B → RTt B V p t
def TP (M : jv_Mem) (B : Bd) : Prop := M.1 3 3 = nI (bd_nc B) ∧ ∀ k, k < bd_nc B → M.1 4 k = nI (bd_code B k / 1000) ∧ M.1 5 k = nI (bd_code B k / 100 % 10) ∧ M.1 6 k = nI (bd_code B k % 100)
def V7 (M : jv_Mem) : SV := fun k j => M.1 (7 + k) j
/-- what was read so far, as the class has it -/
def TB (M : jv_Mem) (B : Bd) (p : Pg) : Prop := TP M B ∧ TS (V7 M) B p
section TX
variable {g : jv_G} {d : Nat} {M M' M1 : jv_Mem} {Z : Option Value → jv_Mem → Nat → Prop} {N : Nat} {T : Tt} {B B' : Bd} {p p' q : Pg} {U : Ut} {K : Kt} {S : St} {e : Int64}
theorem TXF.rf : TXF M M := ⟨rfl, fun _ _ _ => rfl⟩
theorem TXF.trans (a : TXF M M1) (b : TXF M1 M') : TXF M M' := ⟨b.1.trans a.1, fun c j h => (b.2 c j h).trans (a.2 c j h)⟩
theorem TXF.si {b k : Nat} {x : Int32} (h : tfx b k) : TXF M (jv_si M b k x) := by
  refine ⟨rfl, fun c j hc => ?_⟩
  show (if c = b ∧ j = k then x else _) = _
  rw [if_neg (fun z => hc (by rw [z.1, z.2]; exact h))]
theorem TXF.frm (h : TXF M M') : FRm M M' := fun b hb => ⟨fun j => h.2 b j (by unfold tfx; omega), fun j => by rw [h.1], by rw [h.1]⟩
theorem RC.txf (h : RC M T B p U K S e) (F : TXF M M') : RC M' T B p U K S e := by
  obtain ⟨H, ⟨⟨o1, o2⟩, ⟨o3, o4⟩, o5, o6, ⟨o7, o8⟩, o9⟩, q1, ⟨k, hk, q2, q3⟩, kq, z1, z2, z3, z4, z5, z6⟩ := h
  have n : ∀ c, 40 ≤ c → ∀ j, M'.1 c j = M.1 c j := fun c hc j => F.2 c j (by unfold tfx; omega)
  have sp : ∀ σ, σ ∈ st_bases → σ ≠ 7 → ∀ {q : Pg}, SP M σ B q → SP M' σ B q := fun σ hσ h7 q Q => by
    have : 40 ≤ σ := (by decide : ∀ σ ∈ st_bases, σ ≠ 7 → 40 ≤ σ) σ hσ h7
    exact Q.congr (fun k j _ => n _ (by omega) j) (fun j => by rw [F.1])
  refine ⟨H.refs (fun b _ j => by rw [F.1]), ⟨⟨(F.2 1 1 (by unfold tfx; omega)).trans o1, fun i hi => (F.2 2 i (by unfold tfx; omega)).trans (o2 i hi)⟩, ⟨(n 40 (by omega) 3).trans o3, fun i hi => ⟨(n 41 (by omega) i).trans (o4 i hi).1, (n 42 (by omega) i).trans (o4 i hi).2.1, (n 43 (by omega) i).trans (o4 i hi).2.2⟩⟩, (n 110 (by omega) 2).trans o5, fun i hi => (n 575 (by omega) i).trans (o6 i hi), ⟨(n 576 (by omega) 3).trans o7, fun i hi => ⟨(n 577 (by omega) i).trans (o8 i hi).1, (n 578 (by omega) i).trans (o8 i hi).2.1, (n 579 (by omega) i).trans (o8 i hi).2.2⟩⟩, by rw [F.1]; exact o9⟩, sp 44 (by decide) (by decide) q1, ⟨k, hk, (n 110 (by omega) 1).trans q2, fun i hi => sp _ (pst_in _ _ _) (by have := pst_ne 7 (by omega) U.1 k i; omega) (q3 i hi)⟩, fun i hi hq => sp _ (sl_in i hi) (by omega) (kq i hi hq), fun c hc => (F.2 25 c (by unfold tfx; omega)).trans (z1 c hc), fun i hi => (F.2 10 i (by unfold tfx; omega)).trans (z2 i hi), (F.2 8 2 (by unfold tfx; omega)).trans z3, (F.2 8 3 (by unfold tfx; omega)).trans z4, (F.2 8 4 (by unfold tfx; omega)).trans z5, (F.2 7 6 (by unfold tfx; omega)).trans z6⟩
theorem TS.congr {V V' : SV} (h : TS V B p) (h4 : bd_nh B ≤ 4) (h6 : bd_nt B ≤ 6) (e : ∀ k j, k < 33 → V' k j = V k j) : TS V' B p := by
  obtain ⟨⟨a1, a2⟩, a3, a4⟩ := h
  exact ⟨⟨(e 0 4 (by omega)).trans a1, (e 0 5 (by omega)).trans a2⟩, fun h hh => (a3 h hh).same (fun j => e _ j (by omega)) (fun j => e _ j (by omega)) (fun _ _ _ => rfl), fun t ht => (a4 t ht).same (fun j => e _ j (by omega)) (fun _ _ _ => rfl)⟩
theorem TB.congr (h : TB M B p) (e : ∀ b, 3 ≤ b → ∀ j, M'.1 b j = M.1 b j) : TB M' B p := by
  obtain ⟨⟨a1, a2⟩, a3⟩ := h
  have ev : V7 M' = V7 M := by
    funext k j
    exact e _ (by omega) j
  exact ⟨⟨(e 3 (by omega) 3).trans a1, fun k hk => ⟨(e 4 (by omega) k).trans (a2 k hk).1, (e 5 (by omega) k).trans (a2 k hk).2.1, (e 6 (by omega) k).trans (a2 k hk).2.2⟩⟩, by rw [ev]; exact a3⟩
theorem TB.s1 {k : Nat} {x : Int32} (h : TB M B p) : TB (jv_si M 1 k x) B p := h.congr (fun b hb j => si_b _ _ (by omega))
theorem TXF.a4 {x : Int32} : TXF M (jv_si M 1 4 x) := TXF.si (by unfold tfx; omega)
theorem TXF.a5 {x : Int32} : TXF M (jv_si M 1 5 x) := TXF.si (by unfold tfx; omega)
theorem TA.a4 {a f a' : Nat} (h : TA M a f) : TA (jv_si M 1 4 (nI a')) a' f := ⟨si_at _ _ _ _, by rw [si_k _ _ (by omega)]; exact h.2⟩
theorem TA.a5 {a f : Nat} (h : TA M a f) : TA (jv_si M 1 5 (nI 1)) a 1 := ⟨by rw [si_k _ _ (by omega)]; exact h.1, si_at _ _ _ _⟩
theorem bl9 (n : Nat) : bl (-9) n = false := by
  unfold bl
  refine decide_eq_false (fun z => ?_)
  have : (-9 : Int32).toInt = -9 := by decide
  omega
theorem c_take (h : RC M T B p U K S e) (hT : TOK T) {a lo n : Nat} (ta : TA M a 0) (ha : a < 1000) (hlo : lo < 1000) (hn : n < 1000) (hy : ∀ v, v < n → a < T.1 → tk T lo n a = (a + 1, some v) → Z (some (.int (nI v))) (jv_si M 1 4 (nI (a + 1))) 668) (hno : tk T lo n a = (a, none) → Z (some (.int (nI 0))) (jv_si M 1 5 (nI 1)) 668) : jv_Ct g (d + 1) mt_T_take [.ref 1, .int (nI lo), .int (nI n)] M 668 0 0 Z := by
  obtain ⟨t1, t2⟩ := h.2.1.1
  have hT1 := hT.1
  refine jv_ct rfl (Nat.le_of_ble_eq_true rfl) (b_T_take_0 ⟨tg_1, ?_⟩)
  rw [ta.2]
  refine rn0 ⟨tg_1, tg_1, ?_⟩
  rw [t1, ta.1]
  refine ⟨fun c => c_isBelow (by omega) (jv_ri_i ?_), fun c => ⟨tg_1, 2, h.1.2.1.1, tg_1, tg_2, ?_, ?_⟩⟩
  · have c := (nn_le (a := T.1) (n := a) (by omega) (by omega)).mp c
    rw [bl9, if_neg (by decide)]
    exact rn0 ⟨tg_1, hno (tk_n (by omega))⟩
  · have c : ¬ T.1 ≤ a := fun z => c ((nn_le (a := T.1) (n := a) (by omega) (by omega)).mpr z)
    rw [sl_2]; exact vp_in_nI (by omega) (by omega)
  · have c : ¬ T.1 ≤ a := fun z => c ((nn_le (a := T.1) (n := a) (by omega) (by omega)).mpr z)
    obtain ⟨l, hl, el⟩ := hT.2 a (by omega)
    have nl : nx (T.2 a) = l := by rw [el]; exact nx_n (by omega)
    rw [nI_clamp (by omega), t2 a (by omega), el]
    refine c_isBelow (by omega) (jv_ri_i ?_)
    have hs : (nI l - nI lo).toInt = (l : Int) - lo := pk_sub_toInt (by omega) (by omega)
    by_cases hb : lo ≤ l ∧ l < lo + n
    · have : bl (nI l - nI lo) n = true := by
        unfold bl
        rw [hs]
        exact decide_eq_true (by omega)
      rw [this, if_pos rfl]
      refine rn1 ⟨tg_1, tg_1, ?_⟩
      rw [ta.1, show (nI a + 1 : Int32) = nI (a + 1) from nI_add a 1, pk_sub hb.1]
      exact hy (l - lo) (by omega) (by omega) (tk_y (by omega) (by omega) (by omega))
    · have : bl (nI l - nI lo) n = false := by
        unfold bl
        rw [hs]
        exact decide_eq_false (by omega)
      rw [this, if_neg (by decide)]
      exact rn0 ⟨tg_1, hno (tk_n (by omega))⟩
theorem c_takeF {a n : Nat} {x : Int32} (ta : TA M a 1) (hn : n < 1000) (hz : Z (some (.int (nI 0))) M 668) : jv_Ct g (d + 1) mt_T_take [.ref 1, .int x, .int (nI n)] M 668 0 0 Z := by
  refine jv_ct rfl (Nat.le_of_ble_eq_true rfl) (b_T_take_0 ⟨tg_1, ?_⟩)
  rw [ta.2]
  refine rn1 (c_isBelow (by omega) (jv_ri_i ?_))
  rw [bl9, if_neg (by decide)]
  refine rn0 ⟨tg_1, ?_⟩
  rw [show jv_si M 1 5 1 = M from si_self M ta.2]
  exact hz
def kd_b (c k : Nat) : Bool := decide (jv_txt k = Int8.toInt32 (Int32.toInt8 (nI c))) == decide (kd c = k + 1)
theorem kd_0 : ∀ c, c < 256 → ∀ k, k < 8 → kd_b c k = true := by decide +kernel
theorem kd_txt {c k : Nat} (hc : c < 256) (hk : k < 8) : jv_txt k = Int8.toInt32 (Int32.toInt8 (nI c)) ↔ kd c = k + 1 := by
  have := eq_of_beq (kd_0 c hc k hk)
  constructor
  · intro h
    rw [decide_eq_true h] at this
    exact of_decide_eq_true this.symm
  · intro h
    rw [decide_eq_true h] at this
    exact of_decide_eq_true this
theorem kd_le (c : Nat) : kd c ≤ 8 := by
  unfold kd
  repeat' split
  all_goals omega
theorem c_iOC {c : Nat} (hc : c < 256) (hz : Z (some (.int (nI (kd c) - nI 1))) M N) : jv_Ct g d mt_JL_indexOfChar [.retAddr 4, .int (nI c), .int (nI 0), .int (nI 8)] M N 0 0 Z := by
  have hk8 := kd_le c
  have l : ∀ f i, i + f = 8 → (kd c = 0 ∨ i < kd c) → jv_J g d mt_JL_indexOfChar 7 [some (.retAddr 4), none, none, some (.int (nI 8)), some (.int (Int8.toInt32 (Int32.toInt8 (nI c)))), some (.int (nI i))] [] M N 0 0 Z := by
    intro f
    induction f with
    | zero =>
      intro i hi hk
      have hi : i = 8 := by omega
      subst hi
      have h0 : kd c = 0 := by omega
      rw [h0] at hz
      exact b_JL_indexOfChar_7 ⟨fun _ => hz, fun c => absurd (nI_le (Nat.le_refl 8) (by omega)) c⟩
    | succ f ih =>
      intro i hi hk
      refine b_JL_indexOfChar_7 ⟨fun c => absurd ((nn_le (a := 8) (n := i) (by omega) (by omega)).mp c) (by omega), fun _ => ⟨vp_in_nI (by omega) (by omega), ?_⟩⟩
      rw [nI_clamp (by omega)]
      refine ⟨fun c2 => ?_, fun c2 => ?_⟩
      · rw [show (nI i + 1 : Int32) = nI (i + 1) from nI_add i 1]
        have c2 : ¬ kd c = i + 1 := fun z => c2 ((kd_txt hc (by omega)).mpr z)
        exact ih (i + 1) (by omega) (by omega)
      · have c2 := (kd_txt hc (by omega)).mp c2
        rw [c2, show nI (i + 1) - nI 1 = nI i from nI_pred i] at hz
        exact hz
  exact jv_ct rfl (Nat.le_of_ble_eq_true rfl) (b_JL_indexOfChar_0 (l 8 0 rfl (by omega)))
theorem c_indexOf {c : Nat} (hc : c < 256) (hz : Z (some (.int (nI (kd c) - nI 1))) M N) : jv_Ct g (d + 3) mt_JS_indexOf [.retAddr 3, .int (nI c)] M N 0 0 Z := by
  refine jv_ct rfl (Nat.le_of_ble_eq_true rfl) (b_JS_indexOf_0 ?_)
  refine jv_ct rfl (Nat.le_of_ble_eq_true rfl) (b_JS_indexOf_5_0 ?_)
  refine jv_ct rfl (Nat.le_of_ble_eq_true rfl) (b_JS_isLatin1_0 (jv_ri_i ⟨fun c => absurd c (by decide), fun _ => ?_⟩))
  refine jv_ct rfl (Nat.le_of_ble_eq_true rfl) (b_JS_length_0 ?_)
  refine jv_ct rfl (Nat.le_of_ble_eq_true rfl) (b_JS_coder_0 (jv_ri_i (jv_ri_i ?_)))
  have e8 : ((8 : Int32) >>> ((0 : Int32) &&& 31)) = nI 8 := by decide
  rw [e8]
  refine jv_ct rfl (Nat.le_of_ble_eq_true rfl) (b_JL_indexOf_0 ?_)
  refine jv_ct rfl (Nat.le_of_ble_eq_true rfl) (b_JL_canEncode_0 ⟨fun c1 => absurd ((nn_lt (a := c) (n := 0) (by omega) (by omega)).mp c1) (by omega), fun _ => ⟨fun c1 => absurd ((nn_lt (a := 255) (n := c) (by omega) (by omega)).mp c1) (by omega), fun _ => jv_ri_i (rn1 ?_)⟩⟩)
  have e0 : (if (0 : Int32) < 0 then (0 : Int32) else 0) = nI 0 := by decide
  have e1 : (if (8 : Int32) < nI 8 then (8 : Int32) else nI 8) = nI 8 := by decide
  rw [e0, e1]
  refine ⟨fun _ => ?_, fun c1 => absurd (nI_lt (show 0 < 8 by omega) (by omega)) c1⟩
  exact c_iOC hc (jv_ri_i (jv_ri_i (jv_ri_i hz)))
theorem c_takeCode (h : RC M T B p U K S e) (hT : TOK T) {a : Nat} (ta : TA M a 0) (ha : a < 1000) (hy : ∀ k, 1 ≤ k → k ≤ 8 → a < T.1 → tkd T a = (a + 1, some k) → Z (some (.int (nI k))) (jv_si M 1 4 (nI (a + 1))) 668) (hno : tkd T a = (a, none) → Z (some (.int (nI 0))) (jv_si M 1 5 (nI 1)) 668) : jv_Ct g (d + 4) mt_T_takeCode [.ref 1] M 668 0 0 Z := by
  obtain ⟨t1, t2⟩ := h.2.1.1
  have hT1 := hT.1
  refine jv_ct rfl (Nat.le_of_ble_eq_true rfl) (b_T_takeCode_0 ⟨tg_1, tg_1, ?_⟩)
  rw [t1, ta.1]
  refine ⟨fun c => ⟨tg_1, ?_⟩, fun c => ⟨tg_1, 2, h.1.2.1.1, tg_1, tg_2, ?_, ?_⟩⟩
  · have c := (nn_le (a := T.1) (n := a) (by omega) (by omega)).mp c
    refine hno ?_
    unfold tkd
    rw [if_neg (by omega)]
  · have c : ¬ T.1 ≤ a := fun z => c ((nn_le (a := T.1) (n := a) (by omega) (by omega)).mpr z)
    rw [sl_2]; exact vp_in_nI (by omega) (by omega)
  · have c : ¬ T.1 ≤ a := fun z => c ((nn_le (a := T.1) (n := a) (by omega) (by omega)).mpr z)
    obtain ⟨l, hl, el⟩ := hT.2 a (by omega)
    have nl : nx (T.2 a) = l := by rw [el]; exact nx_n (by omega)
    have hk8 := kd_le l
    rw [nI_clamp (by omega), t2 a (by omega), el, pk_char, pk_tn (by omega), Nat.mod_eq_of_lt (by omega)]
    refine c_indexOf hl (jv_ri_i ?_)
    have ek : (nI (kd l) - nI 1 + 1 : Int32) = nI (kd l) := Int32.sub_add_cancel _ _
    rw [ek]
    refine ⟨fun c1 => ⟨tg_1, tg_1, ?_⟩, fun c1 => ⟨tg_1, ?_⟩⟩
    · have c1 : kd l ≠ 0 := fun z => c1 (by rw [z]; rfl)
      rw [ta.1, show (nI a + 1 : Int32) = nI (a + 1) from nI_add a 1]
      refine hy (kd l) (by omega) hk8 (by omega) ?_
      unfold tkd
      rw [if_pos ⟨by omega, by rw [nl]; exact c1⟩, nl]
    · have c1 : kd l = 0 := (nn_eq (a := kd l) (n := 0) (by omega) (by omega)).mp c1
      rw [c1]
      refine hno ?_
      unfold tkd
      rw [if_neg (fun z => z.2 (by rw [nl]; exact c1))]
end TX
