/-! ===== the class's calls ===== -/
theorem tg_0 : jv_Tg 9 0 668 := ⟨by decide +kernel, by decide⟩
theorem tg_1 : jv_Tg 7 1 668 := ⟨by decide +kernel, by decide⟩
theorem tg_2 : jv_Tg 11 2 668 := ⟨by decide +kernel, by decide⟩
theorem sl_2 : (jv_sh 2).2 = 150 := by decide +kernel
theorem tg_110 : jv_Tg 3 110 668 := ⟨by decide +kernel, by decide⟩
theorem tg_111 : jv_Tg 15 111 668 := ⟨by decide +kernel, by decide⟩
theorem sl_111 : (jv_sh 111).2 = 14 := by decide +kernel
theorem tg_574 : jv_Tg 15 574 668 := ⟨by decide +kernel, by decide⟩
theorem sl_574 : (jv_sh 574).2 = 2 := by decide +kernel
theorem tg_575 : jv_Tg 12 575 668 := ⟨by decide +kernel, by decide⟩
theorem sl_575 : (jv_sh 575).2 = 2 := by decide +kernel
theorem tg_576 : jv_Tg 5 576 668 := ⟨by decide +kernel, by decide⟩
theorem tg_577 : jv_Tg 11 577 668 := ⟨by decide +kernel, by decide⟩
theorem sl_577 : (jv_sh 577).2 = 6 := by decide +kernel
theorem tg_578 : jv_Tg 11 578 668 := ⟨by decide +kernel, by decide⟩
theorem sl_578 : (jv_sh 578).2 = 6 := by decide +kernel
theorem tg_579 : jv_Tg 11 579 668 := ⟨by decide +kernel, by decide⟩
theorem sl_579 : (jv_sh 579).2 = 6 := by decide +kernel
theorem tg_580 : jv_Tg 11 580 668 := ⟨by decide +kernel, by decide⟩
theorem sl_580 : (jv_sh 580).2 = 64 := by decide +kernel
/-- memories that differ in the class's other cells alone -/
def NS (M M' : jv_Mem) : Prop := (∀ b, b ∉ nsc → ∀ j, M'.1 b j = M.1 b j) ∧ M'.2.1 = M.2.1 ∧ ∀ b, b ≠ 0 → M'.2.2 b = M.2.2 b
theorem st_nn : ∀ σ ∈ st_bases, ∀ k, k < 33 → σ + k ∉ nsc := by decide +kernel
theorem NS.rf {M : jv_Mem} : NS M M := ⟨fun _ _ _ => rfl, rfl, fun _ _ => rfl⟩
theorem NS.trans {M M1 M2 : jv_Mem} (a : NS M M1) (b : NS M1 M2) : NS M M2 := ⟨fun c hc j => (b.1 c hc j).trans (a.1 c hc j), b.2.1.trans a.2.1, fun c hc => (b.2.2 c hc).trans (a.2.2 c hc)⟩
theorem NS.si {M : jv_Mem} {b k : Nat} {x : Int32} (hb : b ∈ nsc) : NS M (jv_si M b k x) := ⟨fun c hc j => by
  show (if c = b ∧ j = k then x else _) = _
  rw [if_neg (show ¬ (c = b ∧ j = k) from fun z => hc (z.1 ▸ hb))], rfl, fun _ _ => rfl⟩
theorem NS.frm {M M' : jv_Mem} (h : NS M M') : FRm M M' := fun b hb => ⟨fun j => h.1 b (fun z => by have := (by decide : ∀ b ∈ nsc, b < 647) b z; omega) j, fun j => by rw [h.2.1], h.2.2 b (by omega)⟩
theorem SP.ns {M M' : jv_Mem} {σ : Nat} {B : Bd} {p : Pg} (h : SP M σ B p) (n : NS M M') (hσ : σ ∈ st_bases) : SP M' σ B p := h.congr (fun k j hk => n.1 _ (st_nn σ hσ k hk) j) (fun j => by rw [n.2.1])
theorem TZ.ns {M M' : jv_Mem} (h : TZ M) (n : NS M M') : TZ M' := h.congr (fun b h1 h2 j => n.1 b ((by decide : ∀ b, b < 40 → 7 ≤ b → b ∉ nsc) b h2 h1) j)
theorem SHP.ns {M M' : jv_Mem} (h : SHP M) (n : NS M M') : SHP M' := h.refs (fun b _ j => by rw [n.2.1])
theorem si_at (M : jv_Mem) (b k : Nat) (x : Int32) : (jv_si M b k x).1 b k = x := by simp [jv_si]
theorem si_k (M : jv_Mem) {b k j : Nat} (x : Int32) (h : j ≠ k) : (jv_si M b k x).1 b j = M.1 b j := by simp [jv_si, h]
theorem si_b (M : jv_Mem) {b c k j : Nat} (x : Int32) (h : c ≠ b) : (jv_si M b k x).1 c j = M.1 c j := by simp [jv_si, h]
theorem si_r (M : jv_Mem) (b k : Nat) (x : Int32) : (jv_si M b k x).2 = M.2 := rfl
/-- an act noted, so that it can be undone -/
def U_note (U : Ut) (p : Pg) : Ut := if U.1 = 14 then (14, fun i => if i < 13 then U.2 (i + 1) else p) else (U.1 + 1, fun i => if i = U.1 then p else U.2 i)
section RO
variable {g : jv_G} {d : Nat} {M M' : jv_Mem} {Z : Option Value → jv_Mem → Nat → Prop} {T : Tt} {B : Bd} {p p' : Pg} {U : Ut} {K : Kt} {S : St} {e : Int64}
theorem RC.prg (h : RC M T B p U K S e) : PRG M B := ⟨h.1.2.2.2.1.1, h.1.2.2.2.1.2.1, h.1.2.2.2.1.2.2, h.2.1.2.1.1, h.2.1.2.1.2⟩
theorem RC.pres (h : RC M T B p U K S e) : ∃ σ, σ = 44 ∧ σ ∈ st_bases ∧ M.2.1 0 2 = some σ ∧ SX M σ ∧ ∃ V π, sw M σ V π = M ∧ SR B (nI 63) V π p ∧ V 0 6 = nI 0 := by
  obtain ⟨V, π, v1, v2, S1, a6⟩ := h.2.2.1
  exact ⟨44, rfl, by decide, h.1.1.2.2.1, (h.1.2.2.2.2.2.2 44 (by decide)).1, V, π, sw_self v1 v2, S1, a6⟩
theorem RC.past (h : RC M T B p U K S e) (hB : BV2 B) (hU : U.1 ≤ 14) (hz : ∀ M', RC M' T B p (U_note U p) K S e → FRm M M' → Z none M' 668) : jv_Ct g (d + 3) mt_A_push [.ref 110, .ref 44] M 668 0 0 Z := by
  obtain ⟨H, o, q1, ⟨n, hn, q2, q3⟩, kq, z⟩ := h
  have h44 : 44 ∈ st_bases := by decide
  have hτ0 : 112 + 33 * n ∈ st_bases := (by decide : ∀ n, n < 14 → 112 + 33 * n ∈ st_bases) n hn
  have f0 := H.2.2.2.2.1.1
  have f1 := H.2.2.2.2.1.2.1 n hn
  have t3 := tg_110
  have t15 := tg_111
  have hs := o.2.2.1
  obtain ⟨τ, eτ⟩ : ∃ τ, τ = 112 + 33 * n := ⟨_, rfl⟩
  rw [← eτ] at f1 hτ0
  refine jv_ct rfl (Nat.le_of_ble_eq_true rfl) (b_A_push_0 ?_)
  simp (disch := omega) only [li, nI_add, nI_clamp, vin, true_and, f0, f1, q2, sl_111, t3, t15, t_S0 hτ0, Option.some.injEq, exists_eq_left']
  refine q_copy H hB h44 hτ0 (by omega) q1 (fun M1 E1 Q1 => jv_rv_i ?_)
  have hτx := st_nsc τ hτ0
  have a1 : M1.1 110 1 = nI n := by rw [E1.1 110 (hτx 110 (by decide)), q2]
  have a2 : M1.1 110 2 = nI U.1 := by rw [E1.1 110 (hτx 110 (by decide)), hs]
  simp (disch := omega) only [li, nI_add, nI_clamp, true_and, t3, a1, a2, si_k, pk_div, pk_mul, rm2, nn_lt]
  obtain ⟨M2, eM2⟩ : ∃ M2, M2 = jv_si (jv_si M1 110 1 (nI ((n + 1) % 14))) 110 2 (if 14 < U.1 + 1 then nI 14 else nI (U.1 + 1)) := ⟨_, rfl⟩
  rw [← eM2]
  have N2 : NS M1 M2 := by rw [eM2]; exact (NS.si (by decide)).trans (NS.si (by decide))
  have b1 : M2.1 110 1 = nI ((n + 1) % 14) := by rw [eM2, si_k _ _ (by omega), si_at]
  have b2 : M2.1 110 2 = nI (U_note U p).1 := by
    rw [eM2, si_at]
    unfold U_note
    by_cases h14 : U.1 = 14
    · rw [if_pos h14, if_pos (by omega)]
    · rw [if_neg h14, if_neg (by omega)]
  have bo : ∀ b ∈ nsc, b ≠ 110 → ∀ j, M2.1 b j = M.1 b j := fun b hb hne j => by rw [eM2, si_b _ _ hne, si_b _ _ hne, E1.1 b (hτx b hb)]
  have tr : ∀ σ ∈ st_bases, σ ≠ τ → ∀ {q : Pg}, SP M σ B q → SP M2 σ B q := fun σ hσ hne q Q => (Q.exc E1 hτ0 hσ (Ne.symm hne)).ns N2 hσ
  have hself : SP M2 τ B p := SP.ns (SP_SQ.mpr Q1) N2 hτ0
  refine hz M2 ⟨(H.exc E1 hτ0).ns N2, ?_, tr 44 h44 (by omega) q1, ⟨(n + 1) % 14, Nat.mod_lt _ (by omega), b1, fun i hi => ?_⟩, fun i hi q => tr _ (sl_in i hi) (by omega) (kq i hi q), TZ.ns (z.congr (fun b h1 h2 j => E1.1 b (by omega) j)) N2⟩ ((E1.frm hτ0).trans N2.frm)
  · obtain ⟨⟨o1, o2⟩, ⟨o3, o4⟩, o5, o6, ⟨o7, o8⟩, o9⟩ := o
    refine ⟨⟨by rw [bo 1 (by decide) (by omega), o1], fun i hi => by rw [bo 2 (by decide) (by omega), o2 i hi]⟩, ⟨by rw [bo 40 (by decide) (by omega), o3], fun k hk => by rw [bo 41 (by decide) (by omega), bo 42 (by decide) (by omega), bo 43 (by decide) (by omega)]; exact o4 k hk⟩, b2, fun i hi => by rw [bo 575 (by decide) (by omega), o6 i hi], ⟨by rw [bo 576 (by decide) (by omega), o7], fun i hi => by rw [bo 577 (by decide) (by omega), bo 578 (by decide) (by omega), bo 579 (by decide) (by omega)]; exact o8 i hi⟩, ?_⟩
    rw [eM2]
    show M1.2.2 0 = e
    rw [E1.2.2.2, o9]
  · unfold U_note at hi ⊢
    by_cases h14 : U.1 = 14
    · rw [if_pos h14] at hi ⊢
      have hi : i < 14 := hi
      show SP M2 (pst 14 ((n + 1) % 14) i) B (if i < 13 then U.2 (i + 1) else p)
      by_cases h13 : i < 13
      · rw [if_pos h13, show pst 14 ((n + 1) % 14) i = pst U.1 n (i + 1) by unfold pst; omega]
        exact tr _ (pst_in _ _ _) (by unfold pst; omega) (q3 (i + 1) (by omega))
      · rw [if_neg h13, show pst 14 ((n + 1) % 14) i = τ by unfold pst; omega]
        exact hself
    · rw [if_neg h14] at hi ⊢
      have hi : i < U.1 + 1 := hi
      show SP M2 (pst (U.1 + 1) ((n + 1) % 14) i) B (if i = U.1 then p else U.2 i)
      by_cases hs : i = U.1
      · rw [if_pos hs, show pst (U.1 + 1) ((n + 1) % 14) i = τ by unfold pst; omega]
        exact hself
      · rw [if_neg hs, show pst (U.1 + 1) ((n + 1) % 14) i = pst U.1 n i by unfold pst; omega]
        exact tr _ (pst_in _ _ _) (by unfold pst; omega) (q3 i (by omega))
/-- the latest act undone -/
theorem RC.pop (h : RC M T B p U K S e) (hB : BV2 B) (hU : U.1 ≤ 14) (h0 : U.1 = 0 → Z (some (.int (nI 0))) M 668) (hz : U.1 ≠ 0 → ∀ M', RC M' T B (U.2 (U.1 - 1)) (U.1 - 1, U.2) K S e → FRm M M' → Z (some (.int (nI 1))) M' 668) : jv_Ct g (d + 3) mt_A_popInto [.ref 110, .ref 44] M 668 0 0 Z := by
  obtain ⟨H, o, q1, ⟨n, hn, q2, q3⟩, kq, z⟩ := h
  have h44 : 44 ∈ st_bases := by decide
  have f0 := H.2.2.2.2.1.1
  have t3 := tg_110
  have t15 := tg_111
  have hs := o.2.2.1
  refine jv_ct rfl (Nat.le_of_ble_eq_true rfl) (b_A_popInto_0 ?_)
  have hsub : ∀ a, nI (a + 14) - nI 1 = nI (a + 13) := fun a => by rw [pk_sub (by omega)]; rfl
  have hsub2 : U.1 ≠ 0 → nI U.1 - nI 1 = nI (U.1 - 1) := fun h => pk_sub (by omega)
  have f1 := H.2.2.2.2.1.2.1 ((n + 13) % 14) (Nat.mod_lt _ (by omega))
  have hτ0 : 112 + 33 * ((n + 13) % 14) ∈ st_bases := (by decide : ∀ n, n < 14 → 112 + 33 * n ∈ st_bases) _ (Nat.mod_lt _ (by omega))
  obtain ⟨τ, eτ⟩ : ∃ τ, τ = 112 + 33 * ((n + 13) % 14) := ⟨_, rfl⟩
  rw [← eτ] at f1 hτ0
  simp (disch := omega) only [li, ne_eq, nI_add, nI_clamp, vin, true_and, si_r, si_at, si_k, hsub, f0, f1, q2, hs, sl_111, t3, t15, tg_0, pk_div, pk_mul, rm2, nn_eq, t_S0 h44, Option.some.injEq, exists_eq_left']
  refine ⟨fun c => ?_, fun c => h0 c⟩
  have hτx := st_nsc τ hτ0
  obtain ⟨M2, eM2⟩ : ∃ M2, M2 = jv_si (jv_si M 110 1 (nI ((n + 13) % 14))) 110 2 (nI (U.1 - 1)) := ⟨_, rfl⟩
  rw [hsub2 c, ← eM2]
  have N2 : NS M M2 := by rw [eM2]; exact (NS.si (by decide)).trans (NS.si (by decide))
  have b1 : M2.1 110 1 = nI ((n + 13) % 14) := by rw [eM2, si_k _ _ (by omega), si_at]
  have b2 : M2.1 110 2 = nI (U.1 - 1) := by rw [eM2, si_at]
  have bo : ∀ b ∈ nsc, b ≠ 110 → ∀ j, M2.1 b j = M.1 b j := fun b hb hne j => by rw [eM2, si_b _ _ hne, si_b _ _ hne]
  have hlast := q3 (U.1 - 1) (by omega)
  rw [show pst U.1 n (U.1 - 1) = τ by unfold pst; omega] at hlast
  refine q_copy (H.ns N2) hB hτ0 h44 (by omega) (SP_SQ.mp (hlast.ns N2 hτ0)) (fun M3 E3 Q3 => jv_rv_i (hz c M3 ?_ (N2.frm.trans (E3.frm h44))))
  have h44x := st_nsc 44 h44
  have b3 : ∀ b ∈ nsc, ∀ j, M3.1 b j = M2.1 b j := fun b hb j => E3.1 b (h44x b hb) j
  refine ⟨(H.ns N2).exc E3 h44, ?_, Q3, ⟨(n + 13) % 14, Nat.mod_lt _ (by omega), by rw [b3 110 (by decide), b1], fun i hi => ?_⟩, fun i hi q => SP.exc ((kq i hi q).ns N2 (sl_in i hi)) E3 h44 (sl_in i hi) (by omega), TZ.congr (z.ns N2) (fun b h1 h2 j => E3.1 b (by omega) j)⟩
  · obtain ⟨⟨o1, o2⟩, ⟨o3, o4⟩, o5, o6, ⟨o7, o8⟩, o9⟩ := o
    refine ⟨⟨by rw [b3 1 (by decide), bo 1 (by decide) (by omega), o1], fun i hi => by rw [b3 2 (by decide), bo 2 (by decide) (by omega), o2 i hi]⟩, ⟨by rw [b3 40 (by decide), bo 40 (by decide) (by omega), o3], fun k hk => by rw [b3 41 (by decide), b3 42 (by decide), b3 43 (by decide), bo 41 (by decide) (by omega), bo 42 (by decide) (by omega), bo 43 (by decide) (by omega)]; exact o4 k hk⟩, by rw [b3 110 (by decide), b2], fun i hi => by rw [b3 575 (by decide), bo 575 (by decide) (by omega), o6 i hi], ⟨by rw [b3 576 (by decide), bo 576 (by decide) (by omega), o7], fun i hi => by rw [b3 577 (by decide), b3 578 (by decide), b3 579 (by decide), bo 577 (by decide) (by omega), bo 578 (by decide) (by omega), bo 579 (by decide) (by omega)]; exact o8 i hi⟩, ?_⟩
    rw [E3.2.2.2, eM2]
    exact o9
  · have hi : i < U.1 - 1 := hi
    show SP M3 (pst (U.1 - 1) ((n + 13) % 14) i) B (U.2 i)
    rw [show pst (U.1 - 1) ((n + 13) % 14) i = pst U.1 n i by unfold pst; omega]
    exact SP.exc ((q3 i (by omega)).ns N2 (pst_in _ _ _)) E3 h44 (pst_in _ _ _) (by unfold pst; omega)
end RO
