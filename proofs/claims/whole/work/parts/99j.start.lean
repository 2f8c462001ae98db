/-! ===== what a new pair of objects tells ===== -/
theorem jv_J.rep {g : jv_G} {d : Nat} {κ : jv_Mt} {pc : Nat} {L : List (Option Value)} {st : List Value} {M M' : jv_Mem} {N cr sr : Nat} {Z : Option Value → jv_Mem → Nat → Prop} (h : jv_J g d κ pc L st M' N cr sr Z) (e : ∀ H, jv_Rep g M N H → jv_Rep g M' N H) : jv_J g d κ pc L st M N cr sr Z := by
  intro p ev R s m args below meth c H ls locs cells slots cm sm Q X hR hS hL h1 h2 h3 h4 hE
  exact h p ev R s m args below meth c H ls locs cells slots cm sm Q X (e H hR) hS hL h1 h2 h3 h4 hE
def isq (b : Nat) : Bool := decide (2 ≤ b) && decide (b - 2 ∈ st_bases)
/-- the queues' places behind their ends, which no heap shows, filled -/
def fillq (M : jv_Mem) : jv_Mem := (M.1, fun b j => if isq b = true then (if j < 12 then M.2.1 b j else some (b + 2 + j)) else M.2.1 b j, M.2.2)
theorem isq_sh : ∀ b, b < 668 → isq b = true → jv_sh b = (14, 12) := by decide +kernel
theorem fillq_rep {g : jv_G} {M : jv_Mem} {H : Heap} (h : jv_Rep g M 668 H) : jv_Rep g (fillq M) 668 H := by
  refine ⟨h.1, fun a ha => ?_⟩
  have h1 := h.2 a ha
  by_cases hq : isq a = true
  · have sh := isq_sh a ha hq
    unfold jv_F at h1 ⊢
    rw [sh] at h1 ⊢
    rw [if_neg (by decide), if_neg (by decide)] at h1 ⊢
    have h1 : H[jv_base g + a]? = some (vp_cell (jv_cA g 14) (12, .inr (.inr (.inr (.inr (fun i => (M.2.1 a i).map (jv_base g + ·))))))) := h1
    show H[jv_base g + a]? = some (vp_cell (jv_cA g 14) (12, .inr (.inr (.inr (.inr (fun i => ((fillq M).2.1 a i).map (jv_base g + ·)))))))
    rw [h1, vp_cell_q, vp_cell_q]
    unfold arrV
    congr 2
    congr 1
    funext j
    have hj := j.isLt
    show va_rf ((M.2.1 a j.val).map _) = va_rf ((if isq a = true then (if j.val < 12 then M.2.1 a j.val else some (a + 2 + j.val)) else M.2.1 a j.val).map _)
    rw [if_pos hq, if_pos hj]
  · rw [jv_F_congr (M := M) (M' := fillq M) (fun _ => rfl) (fun k => by show (if isq a = true then _ else M.2.1 a k) = _; rw [if_neg hq]) rfl]
    exact h1
def D00 : Dt := (fun _ => 0, fun _ => nI 0, fun _ => nI 0, fun _ => 0)
theorem D00_ok : DOK D00 := ⟨fun _ => (by decide : (0 : Nat) < 10000), fun _ => ⟨0, by omega, rfl⟩, fun _ => ⟨0, by omega, rfl⟩, fun _ => (by decide : (0 : Nat) < 4)⟩
theorem bases_all : ∀ σ ∈ st_bases, σ = 7 ∨ σ = 44 ∨ σ = 77 ∨ (112 ≤ σ ∧ σ < 574 ∧ (σ - 112) % 33 = 0) ∨ σ = 581 ∨ σ = 614 := by decide
theorem PI_id : PI (fun j => j) := ⟨fun _ h => h, fun _ _ _ _ h => h⟩
theorem RI0.all {M : jv_Mem} (h : RI0 M) : ∀ σ ∈ st_bases, SI M σ := by
  obtain ⟨-, t, -, ⟨s1, s2⟩, ⟨-, -, s3⟩, -, -, s4, s5⟩ := h
  intro σ hσ
  rcases bases_all σ hσ with rfl | rfl | rfl | ⟨h1, h2, h3⟩ | rfl | rfl
  · exact t.2.2
  · exact s1
  · exact s2
  · have := s3 ((σ - 112) / 33) (by omega)
    rw [show 112 + 33 * ((σ - 112) / 33) = σ by omega] at this
    exact this
  · exact s4
  · exact s5
theorem isq_b : ∀ b ∈ ([0, 1, 3, 40, 110, 111, 574, 576, 647] : List Nat), isq b = false := by decide +kernel
theorem isq_s : ∀ σ ∈ st_bases, isq (σ + 2) = true ∧ ∀ k, k < 33 → k ≠ 2 → isq (σ + k) = false := by decide +kernel
theorem start_inv {M : jv_Mem} (ri : RI0 M) (hr : ∀ k, M.2.1 647 k = mref k) (hi : ∀ b, b < 647 → ∀ j, M.1 b j = 0) (hm : ∀ k, M.1 647 k = if k = 32 then nI 63 else 0) (hc : ∀ b, 648 ≤ b → b < 668 → ∀ j, M.1 b j = 0) (hl0 : M.2.2 0 = 0) (hl : M.2.2 647 = 0) : INV (fillq M) := by
  have r0 := RI_0 D00_ok
  have zi : ∀ b, b < 647 → ∀ j, (fillq M).1 b j = nI 0 := hi
  have zc : ∀ b, 648 ≤ b → b < 668 → ∀ j, (fillq M).1 b j = nI 0 := hc
  have rn : ∀ b ∈ ([0, 1, 3, 40, 110, 111, 574, 576, 647] : List Nat), ∀ j, (fillq M).2.1 b j = M.2.1 b j := fun b hb j => by
    show (if isq b = true then _ else M.2.1 b j) = _
    rw [if_neg (by rw [isq_b b hb]; decide)]
  have n0 := rn 0 (by decide)
  have n1 := rn 1 (by decide)
  have n3 := rn 3 (by decide)
  have n40 := rn 40 (by decide)
  have n110 := rn 110 (by decide)
  have n111 := rn 111 (by decide)
  have n574 := rn 574 (by decide)
  have n576 := rn 576 (by decide)
  have n647 := rn 647 (by decide)
  have sall := ri.all
  obtain ⟨⟨a0, a1, a2, a3, a4, a5, a6, a7, a8⟩, ⟨⟨b0, b1, b2⟩, ⟨c0, c1, c2⟩, -⟩, ⟨d0, d1, d2⟩, -, ⟨e0, e1, -⟩, ⟨f0, f1⟩, ⟨g0, g1, g2⟩, -, -⟩ := ri
  have hsx : ∀ σ ∈ st_bases, SX (fillq M) σ ∧ ∃ π, PI π ∧ ∀ j, (fillq M).2.1 (σ + 2) j = some (σ + 4 + π j) := by
    intro σ hσ
    obtain ⟨⟨q0, q1, q2, q3⟩, ⟨q4, q5⟩, q6, q7, q8, q9⟩ := sall σ hσ
    obtain ⟨w1, w2⟩ := isq_s σ hσ
    have ne : ∀ k, k < 33 → k ≠ 2 → ∀ j, (fillq M).2.1 (σ + k) j = M.2.1 (σ + k) j := fun k hk h2 j => by
      show (if isq (σ + k) = true then _ else M.2.1 (σ + k) j) = _
      rw [if_neg (by rw [w2 k hk h2]; decide)]
    have ne0 := ne 0 (by omega) (by omega)
    rw [Nat.add_zero] at ne0
    refine ⟨⟨hσ, (ne0 0).trans q0, (ne0 1).trans q1, (ne0 2).trans q2, (ne0 3).trans q3, (ne 1 (by omega) (by omega) 0).trans q4, (ne 1 (by omega) (by omega) 1).trans q5, fun i hi => (ne 16 (by omega) (by omega) i).trans (q7 i hi), fun t ht => (ne 17 (by omega) (by omega) t).trans (q8 t ht), fun i hi => ?_⟩, fun j => j, PI_id, fun j => ?_⟩
    · have := ne (19 + 2 * i) (by omega) (by omega) 0
      rw [← Nat.add_assoc] at this
      exact this.trans (q9 i hi)
    · show (if isq (σ + 2) = true then (if j < 12 then M.2.1 (σ + 2) j else some (σ + 2 + 2 + j)) else _) = _
      rw [if_pos w1]
      by_cases hj : j < 12
      · rw [if_pos hj]; exact q6 j hj
      · rw [if_neg hj]
  have H : SHP (fillq M) := ⟨⟨(n0 0).trans a0, (n0 1).trans a1, (n0 2).trans a2, (n0 3).trans a3, (n0 4).trans a4, (n0 5).trans a5, (n0 6).trans a6, (n0 7).trans a7, (n0 8).trans a8⟩, ⟨(n1 0).trans b0, (n1 2).trans b1, (n1 3).trans b2⟩, ⟨(n3 0).trans c0, (n3 1).trans c1, (n3 2).trans c2⟩, ⟨(n40 0).trans d0, (n40 1).trans d1, (n40 2).trans d2⟩, ⟨(n110 0).trans e0, fun i hi => (n111 i).trans (e1 i hi), fun i hi => by
      rcases (by omega : i = 0 ∨ i = 1) with rfl | rfl
      · exact (n574 0).trans f0
      · exact (n574 1).trans f1⟩, ⟨(n576 0).trans g0, (n576 1).trans g1, (n576 2).trans g2⟩, hsx⟩
  have hP : SP (fillq M) 44 (B0 D00) p0 := by
    obtain ⟨-, π, I, hq⟩ := hsx 44 (by decide)
    refine ⟨fun k j => (fillq M).1 (44 + k) j, π, fun _ _ _ => rfl, hq, ⟨0, r0.2.1, fun i hi => absurd hi (Nat.not_lt_zero i), ⟨⟨zi 44 (by omega) 4, zi 44 (by omega) 5⟩, fun i hi => absurd hi (Nat.not_lt_zero i), fun c _ => zi 62 (by omega) c, fun t ht => absurd ht (Nat.not_lt_zero t), ⟨zi 45 (by omega) 3, zi 45 (by omega) 4⟩, fun i _ => zi 47 (by omega) i⟩, fun i hi => absurd hi (Nat.not_lt_zero i), zi 45 (by omega) 2, I, fun t ht => absurd ht (Nat.not_lt_zero t)⟩, zi 44 (by omega) 6⟩
  refine ⟨(0, fun _ => nI 0), B0 D00, p0, (0, fun _ => p0), (fun _ => false, fun _ => p0), (0, fun _ => nI 0, fun _ => nI 0, fun _ => nI 0), 0, D00, ⟨H, ⟨⟨zi 1 (by omega) 1, fun i hi => absurd hi (Nat.not_lt_zero i)⟩, ⟨zi 40 (by omega) 3, fun i hi => absurd hi (Nat.not_lt_zero i)⟩, zi 110 (by omega) 2, fun i _ => ?_, ⟨zi 576 (by omega) 3, fun i hi => absurd hi (Nat.not_lt_zero i)⟩, hl0⟩, hP, ⟨0, by omega, zi 110 (by omega) 1, fun i hi => absurd hi (Nat.not_lt_zero i)⟩, fun i _ hq => absurd hq Bool.false_ne_true, fun c _ => zi 25 (by omega) c, fun i _ => zi 10 (by omega) i, zi 8 (by omega) 2, zi 8 (by omega) 3, zi 8 (by omega) 4, zi 7 (by omega) 6⟩, ⟨⟨fun k => (n647 k).trans (hr k), ?_, ?_, ?_, ?_, fun k => zc 649 (by omega) (by omega) k, fun k => zc 650 (by omega) (by omega) k, fun k => zc 651 (by omega) (by omega) k, fun k => zc 652 (by omega) (by omega) k⟩, ⟨?_, fun i hi => absurd hi (Nat.not_lt_zero i)⟩, fun j => zc 658 (by omega) (by omega) j, ⟨?_, fun i k hi _ => absurd hi (Nat.not_lt_zero i)⟩, fun i _ => ?_, fun i k _ hq _ => absurd hq Bool.false_ne_true, ⟨?_, fun i hi => absurd hi (Nat.not_lt_zero i)⟩, hl, fun j _ => ⟨zc 657 (by omega) (by omega) j, zc 659 (by omega) (by omega) j, zc 660 (by omega) (by omega) j⟩, fun k => zc 653 (by omega) (by omega) k, fun k => zc 654 (by omega) (by omega) k, fun k => zc 655 (by omega) (by omega) k, fun k => zc 656 (by omega) (by omega) k⟩, ⟨r0.1, ⟨⟨0, Nat.zero_le _, r0.2.1, fun i hi => absurd hi (Nat.not_lt_zero i)⟩, fun _ _ => rfl⟩, ⟨Nat.zero_le _, fun i hi => absurd hi (Nat.not_lt_zero i)⟩, ⟨Nat.zero_le _, fun i hi => absurd hi (Nat.not_lt_zero i)⟩, fun i _ hq => absurd hq Bool.false_ne_true, ⟨Nat.zero_le _, fun i hi => absurd hi (Nat.not_lt_zero i)⟩, D00_ok⟩⟩
  · rw [zi 575 (by omega) i]; rfl
  · show M.1 647 4 = _; rw [hm]; rfl
  · show M.1 647 6 = _; rw [hm]; rfl
  · show M.1 647 9 = _; rw [hm]; rfl
  · show M.1 647 32 = _; rw [hm]; rfl
  · show M.1 647 2 = _; rw [hm]; rfl
  · show M.1 647 23 = _; rw [hm]; rfl
  · rw [zc 663 (by omega) (by omega) i]; rfl
  · show M.1 647 26 = _; rw [hm]; rfl
theorem law_all {g : jv_G} {cr sr : Nat} (hL : jv_L g ≤ 3584) (hcr : 1000 ≤ cr) (hsr : 20000 ≤ sr) (M : jv_Mem) : jv_J g 10 mt_L_law 0 [some (.retAddr 0), none, none, none] [] M 0 cr sr (fun v _ _ => v = some (.int 1)) := by
  refine b_L_law_0 ⟨by decide +kernel, by omega, by omega, 646, 4452, by omega, by omega, c_R_init (d := 4) (fun M1 n1 ri => jv_rv_i ⟨by decide +kernel, by omega, by omega, 20, 3594, by omega, by omega, ?_⟩)⟩
  refine c_M_init (d := 8) (fun k => zr_ra _ _ _) (fun k => zr_at _ _ _) (zr_la _ _) (fun M2 e2 r2 i2 l2 z2 => jv_rv_i ?_)
  have z1 : ∀ b, b < 647 → ∀ j, M1.1 b j = 0 := fun b hb j => by
    by_cases h0 : b = 0
    · subst h0
      rw [(n1.1 0 (by omega)).1 j]; exact zr_at _ _ _
    · exact (n1.2 b (by omega) hb).1 j
  have y2 : ∀ b, b < 647 → ∀ j, M2.2.1 b j = M1.2.1 b j := fun b hb j => by rw [(e2 b hb).2.1 j, zr_rn _ _ (by omega)]
  have ri2 : RI0 M2 := by
    obtain ⟨⟨a0, a1, a2, a3, a4, a5, a6, a7, a8⟩, t, ⟨d0, d1, d2⟩, ⟨s1, s2⟩, ⟨e0, e1, s3⟩, ⟨f0, f1⟩, ⟨g0, g1, g2⟩, s4, s5⟩ := ri
    have y0 := y2 0 (by omega)
    have y40 := y2 40 (by omega)
    have y574 := y2 574 (by omega)
    have y576 := y2 576 (by omega)
    exact ⟨⟨(y0 0).trans a0, (y0 1).trans a1, (y0 2).trans a2, (y0 3).trans a3, (y0 4).trans a4, (y0 5).trans a5, (y0 6).trans a6, (y0 7).trans a7, (y0 8).trans a8⟩, t.keep (fun b _ h2 j => y2 b (by omega) j), ⟨(y40 0).trans d0, (y40 1).trans d1, (y40 2).trans d2⟩, ⟨s1.keep (fun b _ h2 j => y2 b (by omega) j), s2.keep (fun b _ h2 j => y2 b (by omega) j)⟩, ⟨(y2 110 (by omega) 0).trans e0, fun i hi => (y2 111 (by omega) i).trans (e1 i hi), fun i hi => (s3 i hi).keep (fun b _ h2 j => y2 b (by omega) j)⟩, ⟨(y574 0).trans f0, (y574 1).trans f1⟩, ⟨(y576 0).trans g0, (y576 1).trans g1, (y576 2).trans g2⟩, s4.keep (fun b _ h2 j => y2 b (by omega) j), s5.keep (fun b _ h2 j => y2 b (by omega) j)⟩
  have inv := start_inv ri2 r2 (fun b hb j => by rw [(e2 b hb).1 j, zr_ne _ _ (by omega)]; exact z1 b hb j) i2 z2 (by rw [(e2 0 (by omega)).2.2, zr_ln _ (by omega), (n1.1 0 (by omega)).2]; exact zr_la _ _) l2
  refine jv_J.rep (M' := fillq M2) ?_ (fun H h => fillq_rep h)
  exact law_loop (d := 0) hL (fun _ => rfl) (jv_L g) 0 (fillq M2) (by omega) (by omega) inv
