/-! ===== the class reads a text: all of it; fault ===== -/
theorem kb_le {α β : Type} {n : Nat} {r : Nat × Option α} {f : Nat → α → Nat × Option β} (h : r.1 ≤ n) (hf : ∀ a v, a ≤ n → (f a v).1 ≤ n) : (kbind r f).1 ≤ n := by
  obtain ⟨a, o⟩ := r
  cases o with
  | none => exact h
  | some v => exact hf a v h
theorem tk_le {T : Tt} {lo n a : Nat} (h : a ≤ T.1) : (tk T lo n a).1 ≤ T.1 := by
  unfold tk
  split
  · rename_i c; exact c.1
  · exact h
theorem tkd_le {T : Tt} {a : Nat} (h : a ≤ T.1) : (tkd T a).1 ≤ T.1 := by
  unfold tkd
  split
  · rename_i c; exact c.1
  · exact h
theorem rd_i_le {T : Tt} {a : Nat} {B : Bd} {p : Pg} (h : a < T.1) : (rd_i T a B p).1 ≤ T.1 := by
  unfold rd_i
  split
  · exact Nat.le_of_lt h
  · refine kb_le (tkd_le h) (fun a k ha => kb_le ?_ (fun a f ha => kb_le ?_ (fun a v ha => ha)))
    · split
      · exact tk_le ha
      · exact ha
    · split
      · exact tk_le ha
      · exact ha
theorem rd_h_le {T : Tt} {a : Nat} {B : Bd} {p : Pg} (h : a < T.1) : (rd_h T a B p).1 ≤ T.1 := by
  unfold rd_h
  split
  · exact Nat.le_of_lt h
  · exact kb_le (tk_le h) (fun a k ha => kb_le (tk_le ha) (fun a f ha => ha))
theorem rd_t_le {T : Tt} {a ch : Nat} {B : Bd} {p : Pg} (h : a < T.1) : (rd_t T ch a B p).1 ≤ T.1 := by
  unfold rd_t
  split
  · exact Nat.le_of_lt h
  · refine kb_le (tk_le h) (fun a o ha => kb_le (tk_le ha) (fun a k ha => kb_le ?_ (fun a x ha => kb_le ?_ (fun a v ha => kb_le (tk_le ha) (fun a c ha => ha)))))
    · split
      · exact tk_le ha
      · exact tk_le ha
    · split
      · exact ha
      · exact kb_le (tk_le ha) (fun a v ha => kb_le (tk_le ha) (fun a v ha => kb_le (tk_le ha) (fun a v ha => ha)))
theorem rd_p_le {T : Tt} {a : Nat} {B : Bd} {p : Pg} (h : a < T.1) : (rd_p T a B p).1 ≤ T.1 := by
  unfold rd_p
  split
  · exact rd_i_le h
  · split
    · exact rd_h_le h
    · split
      · exact rd_t_le h
      · split
        · exact rd_t_le h
        · exact Nat.le_of_lt h
theorem rd_l_le {T : Tt} : ∀ (f a : Nat) (B : Bd) (p : Pg), a ≤ T.1 → (rd_l T f a B p).1 ≤ T.1
  | 0, _, _, _, h => h
  | f + 1, a, B, p, h => by
    unfold rd_l
    split
    · rename_i c
      exact kb_le (rd_p_le c) (fun a q ha => rd_l_le f a q.1 q.2 ha)
    · exact h
theorem rd_le (T : Tt) (D : Dt) : (rd T D).1 ≤ T.1 := kb_le (tk_le (Nat.zero_le _)) (fun a _ ha => rd_l_le 150 a (B0 D) p0 ha)
theorem BV_0 : BV 0 := by unfold BV; omega
theorem RI_0 {D : Dt} (h : DOK D) : RI (B0 D) p0 := by
  obtain ⟨h1, h2, h3, h4⟩ := h
  refine ⟨⟨⟨Nat.zero_le _, Nat.zero_le _, Nat.zero_le _, h4, h1⟩, fun k hk => absurd hk (Nat.not_lt_zero k), h2, h3, fun t ht => absurd ht (Nat.not_lt_zero t)⟩, ⟨Nat.zero_le _, fun j => ⟨0, rfl, ?_⟩, fun i hi => absurd hi (Nat.not_lt_zero i), fun t ht => absurd ht (Nat.not_lt_zero t), fun i hi => absurd hi (Nat.not_lt_zero i)⟩, fun _ _ => rfl, fun i hi => absurd hi (Nat.not_lt_zero i)⟩
  refine ⟨by omega, fun _ => ⟨fun _ => by omega, fun _ => by omega, fun _ => by omega, fun _ => by omega⟩, fun h40 hlt => ?_, fun _ => by omega, fun _ => BV_0, fun _ => rfl, fun h81 hlt => absurd hlt (by omega)⟩
  have hlt : j < 40 + 6 * 0 := hlt
  omega
section TX
variable {g : jv_G} {d : Nat} {M M' M1 : jv_Mem} {Z : Option Value → jv_Mem → Nat → Prop} {N : Nat} {T : Tt} {B B' : Bd} {p p' q : Pg} {U : Ut} {K : Kt} {S : St} {e : Int64} {D : Dt}
theorem c_readP (h : RC M T B p U K S e) (hT : TOK T) {a : Nat} (ha : a < T.1) (ta : TA M a 0) (tb : TB M B' p') (ri : RI B' p') (hz : PO Z M T a (rd_p T a B' p')) : jv_Ct g (d + 7) mt_T_readPart [.ref 1, .int (T.2 a)] M 668 0 0 Z := by
  obtain ⟨l, hl, el⟩ := hT.2 a ha
  have nl : nx (T.2 a) = l := by rw [el]; exact nx_n (by omega)
  unfold rd_p at hz
  rw [nl] at hz
  have w : ∀ {r}, PO Z M T a r → PO (fun v M5 N5 => jv_rv v (Z none M5 N5)) M T a r := fun hz => ⟨fun M' a' e1 F t => jv_rv_i (hz.1 M' a' e1 F t), fun M' a' B' p' e1 F t tb ri l u => jv_rv_i (hz.2 M' a' B' p' e1 F t tb ri l u)⟩
  refine jv_ct rfl (Nat.le_of_ble_eq_true rfl) (b_T_readPart_0 ?_)
  rw [el]
  simp (disch := omega) only [li, ne_eq, nn_eq]
  refine ⟨fun c => ⟨tg_1, ?_⟩, fun c => ⟨tg_1, ?_⟩, fun c => ⟨tg_1, ?_⟩, fun c => ⟨tg_1, ?_⟩, fun c => ⟨tg_1, ?_⟩⟩
  · rw [if_neg (by omega), if_neg (by omega), if_neg (by omega), if_pos c] at hz
    exact c_readT h hT (Or.inr rfl) ha ta tb ri (w hz)
  · rw [if_neg (by omega), if_pos c] at hz
    exact c_readH h hT ha ta tb ri (w hz)
  · rw [if_pos c] at hz
    exact c_readI h hT ha ta tb ri (w hz)
  · rw [if_neg (by omega), if_neg (by omega), if_pos c] at hz
    exact c_readT h hT (Or.inl rfl) ha ta tb ri (w hz)
  · rw [if_neg c.2.2.1, if_neg c.2.1, if_neg c.2.2.2, if_neg c.1] at hz
    exact hz.1 _ a rfl TXF.a5 ta.a5
theorem c_findFault (h : RC M T B p U K S e) (hT : TOK T) (hD : DOK D) (hz0 : ∀ M' a', rd T D = (a', none) → TXF M M' → Z (some (.int (nI a'))) M' 668) (hz1 : ∀ M' a' B' p', rd T D = (a', some (B', p')) → TXF M M' → TB M' B' p' → RI B' p' → Z (some (.int (-9))) M' 668) : jv_Ct g (d + 8) mt_T_findFault [.ref 1] M 668 0 0 Z := by
  have hT1 := hT.1
  have f12 := h.1.2.1.2.1
  have f13 := h.1.2.1.2.2
  have lF : ∀ M1 a (x : Int32), TA M1 a 1 → Z (some (.int (nI a))) M1 668 → jv_J g (d + 8) mt_T_findFault 44 [some (.ref 1), some (.int x)] [] M1 668 0 0 Z := by
    intro M1 a x t1 z1
    refine b_T_findFault_44 ?_
    rw [t1.1, t1.2]
    exact ⟨fun _ => ⟨tg_1, re1 ⟨tg_1, z1⟩⟩, fun _ => ⟨tg_1, fun _ => ⟨tg_1, re1 ⟨tg_1, z1⟩⟩, fun c => absurd c (by decide)⟩⟩
  have l : ∀ f k M1 a B1 p1, k + f = 150 → k < a → a ≤ T.1 → TXF M M1 → TA M1 a 0 → TB M1 B1 p1 → RI B1 p1 → rd T D = rd_l T f a B1 p1 → jv_J g (d + 8) mt_T_findFault 44 [some (.ref 1), some (.int (nI k))] [] M1 668 0 0 Z := by
    intro f
    induction f with
    | zero =>
      intro k M1 a B1 p1 hk hka hal F1 t1 tb1 ri1 er
      exfalso; omega
    | succ f ih =>
      intro k M1 a B1 p1 hk hka hal F1 t1 tb1 ri1 er
      have h1 := h.txf F1
      obtain ⟨o1, o2⟩ := h1.2.1.1
      refine b_T_findFault_44 ⟨fun c => absurd ((nn_le (a := 150) (n := k) (by omega) (by omega)).mp c) (by omega), fun _ => ⟨tg_1, ?_⟩⟩
      rw [t1.1, t1.2, o1]
      refine rn0 ⟨tg_1, tg_1, fun c => ⟨tg_1, re0 ?_⟩, fun c => ?_⟩
      · have c := (nn_le (a := T.1) (n := a) (by omega) (by omega)).mp c
        refine hz1 M1 a B1 p1 ?_ F1 tb1 ri1
        rw [er]
        unfold rd_l
        rw [if_neg (by omega)]
      · have c : ¬ T.1 ≤ a := fun z => c ((nn_le (a := T.1) (n := a) (by omega) (by omega)).mpr z)
        have er2 : rd T D = kbind (rd_p T a B1 p1) (fun a q => rd_l T f a q.1 q.2) := by
          rw [er]
          show (if a < T.1 then _ else _) = _
          rw [if_pos (by omega)]
        refine ⟨tg_1, 2, h1.1.2.1.1, tg_1, tg_2, by rw [sl_2]; exact vp_in_nI (by omega) (by omega), tg_1, ?_⟩
        rw [nI_clamp (by omega), o2 a (by omega), show (nI k + 1 : Int32) = nI (k + 1) from nI_add k 1]
        refine c_readP h1 hT (by omega) t1 tb1 ri1 ⟨fun M2 a2 e2 F2 t2 => jv_rv_i ?_, fun M2 a2 B2 p2 e2 F2 t2 tb2 ri2 l2 u2 => jv_rv_i ?_⟩
        · rw [e2, kb_n] at er2
          exact lF M2 a2 _ t2 (hz0 M2 a2 er2 (F1.trans F2))
        · rw [e2, kb_s] at er2
          exact ih (k + 1) M2 a2 B2 p2 (by omega) (by omega) u2 (F1.trans F2) t2 tb2 ri2 er2
  refine jv_ct rfl (Nat.le_of_ble_eq_true rfl) (b_T_findFault_0 ⟨tg_1, tg_1, tg_1, 3, f12, tgx_3, tg_1, 7, f13, t_S0 h7s, tg_1, 7, f13, t_S0 h7s, tg_1, ?_⟩)
  have F1 : TXF M (jv_si (jv_si (jv_si (jv_si (jv_si M 1 4 0) 1 5 0) 3 3 0) 7 4 0) 7 5 0) := ((((TXF.a4).trans TXF.a5).trans (TXF.si (by unfold tfx; omega))).trans (TXF.si (by unfold tfx; omega))).trans (TXF.si (by unfold tfx; omega))
  have t1 : TA (jv_si (jv_si (jv_si (jv_si (jv_si M 1 4 0) 1 5 0) 3 3 0) 7 4 0) 7 5 0) 0 0 := ⟨by rw [si_b _ _ (by omega), si_b _ _ (by omega), si_b _ _ (by omega), si_k _ _ (by omega), si_at]; rfl, by rw [si_b _ _ (by omega), si_b _ _ (by omega), si_b _ _ (by omega), si_at]; rfl⟩
  have tb1 : TB (jv_si (jv_si (jv_si (jv_si (jv_si M 1 4 0) 1 5 0) 3 3 0) 7 4 0) 7 5 0) (B0 D) p0 := ⟨⟨by rw [si_b _ _ (by omega), si_b _ _ (by omega), si_at]; rfl, fun k hk => absurd hk (Nat.not_lt_zero k)⟩, ⟨by show (jv_si _ 7 5 0).1 7 4 = _; rw [si_k _ _ (by omega), si_at]; rfl, by show (jv_si _ 7 5 0).1 7 5 = _; rw [si_at]; rfl⟩, fun k hk => absurd hk (Nat.not_lt_zero k), fun k hk => absurd hk (Nat.not_lt_zero k)⟩
  generalize jv_si (jv_si (jv_si (jv_si (jv_si M 1 4 0) 1 5 0) 3 3 0) 7 4 0) 7 5 0 = M1 at F1 t1 tb1 ⊢
  have h1 := h.txf F1
  have er : rd T D = kbind (tk T 82 1 0) (fun a _ => rd_l T 150 a (B0 D) p0) := rfl
  refine c_take h1 hT t1 (lo := 82) (n := 1) (by omega) (by omega) (by omega) (fun v hv hlt e1 => jv_ri_i ?_) (fun e1 => jv_ri_i ?_)
  · rw [e1, kb_s] at er
    exact l 150 0 _ (0 + 1) (B0 D) p0 rfl (by omega) (by omega) (F1.trans TXF.a4) t1.a4 tb1.s1 (RI_0 hD) er
  · rw [e1, kb_n] at er
    exact lF _ 0 _ t1.a5 (hz0 _ 0 er (F1.trans TXF.a5))
theorem R_fault (h : RC M T B p U K S e) (hT : TOK T) (hD : DOK D) (hz : ∀ M', RC M' T B p U K S e → FRm M M' → Z (some (.int (s_fault T D))) M' 668) : jv_Ct g (d + 9) mt_R_fault [.ref 0] M 668 0 0 Z := by
  unfold s_fault at hz
  refine jv_ct rfl (Nat.le_of_ble_eq_true rfl) (b_R_fault_0 ⟨tg_0, 1, h.1.1.1, tg_1, c_findFault h hT hD (fun M1 a1 e1 F1 => jv_ri_i ?_) (fun M1 a1 B1 p1 e1 F1 tb1 ri1 => jv_ri_i ?_)⟩)
  · rw [e1] at hz
    exact hz M1 (h.txf F1) F1.frm
  · rw [e1] at hz
    exact hz M1 (h.txf F1) F1.frm
end TX
