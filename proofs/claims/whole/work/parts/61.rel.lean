/-! ===== a State and a page tell the same ===== -/
def RHh (B : Bd) (V : SV) (p : Pg) (h : Nat) : Prop := V (19 + 2 * h) 1 = bd_first B h ∧ V (19 + 2 * h) 2 = bd_group B h ∧ V (19 + 2 * h) 3 = p (8 * h) ∧ V (19 + 2 * h) 4 = p (8 * h + 1) ∧ V (19 + 2 * h) 5 = p (8 * h + 3) ∧ V (19 + 2 * h) 6 = (if p (8 * h + 1) = nI 1 then nI 1 else p (8 * h + 2)) ∧ ∀ r, r < 4 → V (20 + 2 * h) r = p (8 * h + 4 + r)
def RTt (B : Bd) (V : SV) (p : Pg) (t : Nat) : Prop := V (27 + t) 0 = nI (bd_whose B t) ∧ ∀ k, k < 6 → V (27 + t) (1 + k) = p (40 + 6 * t + k)
def RL (B : Bd) (V : SV) (p : Pg) : Prop := (V 0 4 = nI (bd_nh B) ∧ V 0 5 = nI (bd_nt B)) ∧ (∀ h, h < bd_nh B → RHh B V p h) ∧ (∀ c, c < 8 → V 18 c = p (32 + c)) ∧ (∀ t, t < bd_nt B → RTt B V p t) ∧ (V 1 3 = p 76 ∧ V 1 4 = p 77) ∧ ∀ i, i < 2 → V 3 i = p (78 + i)
/-- order number i of a page, and an Order -/
def RQi (V : SV) (j : Nat) (p : Pg) (i : Nat) : Prop := V (4 + j) 0 = p (81 + 7 * i) ∧ V (4 + j) 1 = p (81 + 7 * i + 1) ∧ V (4 + j) 4 = p (81 + 7 * i + 2) ∧ V (4 + j) 5 = p (81 + 7 * i + 3) ∧ V (4 + j) 2 = p (81 + 7 * i + 4) ∧ V (4 + j) 3 = p (81 + 7 * i + 5) ∧ V (4 + j) 6 = p (81 + 7 * i + 6)
def RQ (V : SV) (q : Nat → Nat) (m : Nat) (p : Pg) : Prop := ∀ i, i < m → RQi V (q i) p i
section REL
variable {B : Bd} {V V' : SV} {p p' : Pg}
theorem RHh.same {h : Nat} (H : RHh B V p h) (h1 : ∀ j, V' (19 + 2 * h) j = V (19 + 2 * h) j) (h2 : ∀ j, V' (20 + 2 * h) j = V (20 + 2 * h) j) (h3 : ∀ j, 8 * h ≤ j → j < 8 * h + 8 → p' j = p j) : RHh B V' p' h := by
  obtain ⟨a1, a2, a3, a4, a5, a6, a7⟩ := H
  refine ⟨by rw [h1, a1], by rw [h1, a2], ?_, ?_, ?_, ?_, fun r hr => ?_⟩
  · rw [h1, a3, h3 _ (by omega) (by omega)]
  · rw [h1, a4, h3 _ (by omega) (by omega)]
  · rw [h1, a5, h3 _ (by omega) (by omega)]
  · rw [h1, a6, h3 _ (by omega) (by omega), h3 _ (by omega) (by omega)]
  · rw [h2, a7 r hr, h3 _ (by omega) (by omega)]
theorem RTt.same {t : Nat} (H : RTt B V p t) (h1 : ∀ j, V' (27 + t) j = V (27 + t) j) (h3 : ∀ j, 40 + 6 * t ≤ j → j < 40 + 6 * t + 6 → p' j = p j) : RTt B V' p' t := by
  obtain ⟨a1, a2⟩ := H
  exact ⟨by rw [h1, a1], fun k hk => by rw [h1, a2 k hk, h3 _ (by omega) (by omega)]⟩
theorem RL.same (H : RL B V p) (hB : BOK B) (h0 : V' 0 4 = V 0 4 ∧ V' 0 5 = V 0 5) (h1 : ∀ k j, 16 ≤ k → V' k j = V k j) (h2 : ∀ j, V' 3 j = V 3 j) (h3 : V' 1 3 = V 1 3 ∧ V' 1 4 = V 1 4) (h4 : ∀ j, j < 80 → p' j = p j) : RL B V' p' := by
  obtain ⟨⟨a1, a2⟩, a3, a4, a5, ⟨a6, a7⟩, a8⟩ := H
  have b4 := hB.2.1
  have b6 := hB.2.2.1
  exact ⟨⟨by rw [h0.1, a1], by rw [h0.2, a2]⟩, fun h hh => (a3 h hh).same (fun j => h1 _ j (by omega)) (fun j => h1 _ j (by omega)) (fun j _ _ => h4 j (by omega)), fun c hc => by rw [h1 _ _ (by omega), a4 c hc, h4 _ (by omega)], fun t ht => (a5 t ht).same (fun j => h1 _ j (by omega)) (fun j _ _ => h4 j (by omega)), ⟨by rw [h3.1, a6, h4 _ (by omega)], by rw [h3.2, a7, h4 _ (by omega)]⟩, fun i hi => by rw [h2, a8 i hi, h4 _ (by omega)]⟩
/-- one hart changed -/
theorem RL.hart (H : RL B V p) (hB : BOK B) {h : Nat} (hh : h < 4) (h1 : ∀ k j, k ≠ 19 + 2 * h → k ≠ 20 + 2 * h → V' k j = V k j) (h4 : ∀ j, j < 8 * h ∨ 8 * h + 8 ≤ j → p' j = p j) (hr : h < bd_nh B → RHh B V' p' h) : RL B V' p' := by
  obtain ⟨⟨a1, a2⟩, a3, a4, a5, ⟨a6, a7⟩, a8⟩ := H
  have b4 := hB.2.1
  have b6 := hB.2.2.1
  refine ⟨⟨by rw [h1 _ _ (by omega) (by omega), a1], by rw [h1 _ _ (by omega) (by omega), a2]⟩, fun i hi => ?_, fun c hc => by rw [h1 _ _ (by omega) (by omega), a4 c hc, h4 _ (by omega)], fun t ht => (a5 t ht).same (fun j => h1 _ j (by omega) (by omega)) (fun j _ _ => h4 j (by omega)), ⟨by rw [h1 _ _ (by omega) (by omega), a6, h4 _ (by omega)], by rw [h1 _ _ (by omega) (by omega), a7, h4 _ (by omega)]⟩, fun i hi => by rw [h1 _ _ (by omega) (by omega), a8 i hi, h4 _ (by omega)]⟩
  by_cases hih : i = h
  · subst hih; exact hr hi
  · exact (a3 i hi).same (fun j => h1 _ j (by omega) (by omega)) (fun j => h1 _ j (by omega) (by omega)) (fun j _ _ => h4 j (by omega))
theorem RL.reg (H : RL B V p) (hB : BOK B) {h r : Nat} (hh : h < 4) (hr : r < 4) (x : Int32) : RL B (vu V (20 + 2 * h) r x) (pu p (8 * h + 4 + r) x) := by
  refine H.hart hB hh (fun k j _ h2 => vu_k _ _ h2) (fun j hj => pu_n _ _ (by omega)) (fun hn => ?_)
  obtain ⟨a1, a2, a3, a4, a5, a6, a7⟩ := H.2.1 h hn
  refine ⟨by rw [vu_k _ _ (by omega), a1], by rw [vu_k _ _ (by omega), a2], by rw [vu_k _ _ (by omega), a3, pu_n _ _ (by omega)], by rw [vu_k _ _ (by omega), a4, pu_n _ _ (by omega)], by rw [vu_k _ _ (by omega), a5, pu_n _ _ (by omega)], by rw [vu_k _ _ (by omega), a6, pu_n _ _ (by omega), pu_n _ _ (by omega)], fun r' hr' => ?_⟩
  by_cases hrr : r' = r
  · subst hrr; rw [vu_s, pu_s]
  · rw [vu_j _ _ hrr, a7 r' hr', pu_n _ _ (by omega)]
theorem RL.cell (H : RL B V p) (hB : BOK B) {c : Nat} (hc : c < 8) (x : Int32) : RL B (vu V 18 c x) (pu p (32 + c) x) := by
  obtain ⟨⟨a1, a2⟩, a3, a4, a5, ⟨a6, a7⟩, a8⟩ := H
  have b4 := hB.2.1
  have b6 := hB.2.2.1
  refine ⟨⟨by rw [vu_k _ _ (by omega), a1], by rw [vu_k _ _ (by omega), a2]⟩, fun h hh => (a3 h hh).same (fun j => vu_k _ _ (by omega)) (fun j => vu_k _ _ (by omega)) (fun j _ _ => pu_n _ _ (by omega)), fun c' hc' => ?_, fun t ht => (a5 t ht).same (fun j => vu_k _ _ (by omega)) (fun j _ _ => pu_n _ _ (by omega)), ⟨by rw [vu_k _ _ (by omega), a6, pu_n _ _ (by omega)], by rw [vu_k _ _ (by omega), a7, pu_n _ _ (by omega)]⟩, fun i hi => by rw [vu_k _ _ (by omega), a8 i hi, pu_n _ _ (by omega)]⟩
  by_cases hcc : c' = c
  · subst hcc; rw [vu_s, pu_s]
  · rw [vu_j _ _ hcc, a4 c' hc', pu_n _ _ (by omega)]
theorem RL.trig (H : RL B V p) (hB : BOK B) {t k : Nat} (ht : t < 6) (hk : k < 6) (x : Int32) : RL B (vu V (27 + t) (1 + k) x) (pu p (40 + 6 * t + k) x) := by
  obtain ⟨⟨a1, a2⟩, a3, a4, a5, ⟨a6, a7⟩, a8⟩ := H
  have b4 := hB.2.1
  have b6 := hB.2.2.1
  refine ⟨⟨by rw [vu_k _ _ (by omega), a1], by rw [vu_k _ _ (by omega), a2]⟩, fun h hh => (a3 h hh).same (fun j => vu_k _ _ (by omega)) (fun j => vu_k _ _ (by omega)) (fun j _ _ => pu_n _ _ (by omega)), fun c hc => by rw [vu_k _ _ (by omega), a4 c hc, pu_n _ _ (by omega)], fun t' ht' => ?_, ⟨by rw [vu_k _ _ (by omega), a6, pu_n _ _ (by omega)], by rw [vu_k _ _ (by omega), a7, pu_n _ _ (by omega)]⟩, fun i hi => by rw [vu_k _ _ (by omega), a8 i hi, pu_n _ _ (by omega)]⟩
  by_cases htt : t' = t
  · subst htt
    obtain ⟨c1, c2⟩ := a5 t' ht'
    refine ⟨by rw [vu_j _ _ (by omega), c1], fun k' hk' => ?_⟩
    by_cases hkk : k' = k
    · subst hkk; rw [vu_s, pu_s]
    · rw [vu_j _ _ (by omega), c2 k' hk', pu_n _ _ (by omega)]
  · exact (a5 t' ht').same (fun j => vu_k _ _ (by omega)) (fun j _ _ => pu_n _ _ (by omega))
theorem RL.err (H : RL B V p) (hB : BOK B) (x : Int32) : RL B (vu V 1 3 x) (pu p 76 x) := by
  obtain ⟨⟨a1, a2⟩, a3, a4, a5, ⟨a6, a7⟩, a8⟩ := H
  have b4 := hB.2.1
  have b6 := hB.2.2.1
  exact ⟨⟨by rw [vu_k _ _ (by omega), a1], by rw [vu_k _ _ (by omega), a2]⟩, fun h hh => (a3 h hh).same (fun j => vu_k _ _ (by omega)) (fun j => vu_k _ _ (by omega)) (fun j _ _ => pu_n _ _ (by omega)), fun c hc => by rw [vu_k _ _ (by omega), a4 c hc, pu_n _ _ (by omega)], fun t ht => (a5 t ht).same (fun j => vu_k _ _ (by omega)) (fun j _ _ => pu_n _ _ (by omega)), ⟨by rw [vu_s, pu_s], by rw [vu_j _ _ (by omega), a7, pu_n _ _ (by omega)]⟩, fun i hi => by rw [vu_k _ _ (by omega), a8 i hi, pu_n _ _ (by omega)]⟩
theorem RL.data (H : RL B V p) (hB : BOK B) (x : Int32) : RL B (vu V 1 4 x) (pu p 77 x) := by
  obtain ⟨⟨a1, a2⟩, a3, a4, a5, ⟨a6, a7⟩, a8⟩ := H
  have b4 := hB.2.1
  have b6 := hB.2.2.1
  exact ⟨⟨by rw [vu_k _ _ (by omega), a1], by rw [vu_k _ _ (by omega), a2]⟩, fun h hh => (a3 h hh).same (fun j => vu_k _ _ (by omega)) (fun j => vu_k _ _ (by omega)) (fun j _ _ => pu_n _ _ (by omega)), fun c hc => by rw [vu_k _ _ (by omega), a4 c hc, pu_n _ _ (by omega)], fun t ht => (a5 t ht).same (fun j => vu_k _ _ (by omega)) (fun j _ _ => pu_n _ _ (by omega)), ⟨by rw [vu_j _ _ (by omega), a6, pu_n _ _ (by omega)], by rw [vu_s, pu_s]⟩, fun i hi => by rw [vu_k _ _ (by omega), a8 i hi, pu_n _ _ (by omega)]⟩
theorem RL.buf (H : RL B V p) (hB : BOK B) {i : Nat} (hi : i < 2) (x : Int32) : RL B (vu V 3 i x) (pu p (78 + i) x) := by
  obtain ⟨⟨a1, a2⟩, a3, a4, a5, ⟨a6, a7⟩, a8⟩ := H
  have b4 := hB.2.1
  have b6 := hB.2.2.1
  refine ⟨⟨by rw [vu_k _ _ (by omega), a1], by rw [vu_k _ _ (by omega), a2]⟩, fun h hh => (a3 h hh).same (fun j => vu_k _ _ (by omega)) (fun j => vu_k _ _ (by omega)) (fun j _ _ => pu_n _ _ (by omega)), fun c hc => by rw [vu_k _ _ (by omega), a4 c hc, pu_n _ _ (by omega)], fun t ht => (a5 t ht).same (fun j => vu_k _ _ (by omega)) (fun j _ _ => pu_n _ _ (by omega)), ⟨by rw [vu_k _ _ (by omega), a6, pu_n _ _ (by omega)], by rw [vu_k _ _ (by omega), a7, pu_n _ _ (by omega)]⟩, fun i' hi' => ?_⟩
  by_cases hii : i' = i
  · subst hii; rw [vu_s, pu_s]
  · rw [vu_j _ _ hii, a8 i' hi', pu_n _ _ (by omega)]
/-- what is no page's matter: the queue's length, the absent ones, the waking mark, the orders' objects -/
theorem RL.free (H : RL B V p) (hB : BOK B) {k j : Nat} (x : Int32) (hk : (k = 0 ∧ 6 ≤ j) ∨ (k = 1 ∧ j ≤ 2) ∨ k = 2 ∨ (4 ≤ k ∧ k < 16)) : RL B (vu V k j x) p := by
  refine H.same hB ?_ (fun k' j' hk' => vu_k _ _ (by omega)) (fun j' => vu_k _ _ (by omega)) ?_ (fun _ _ => rfl)
  · by_cases h0 : k = 0
    · exact ⟨vu_j _ _ (by omega), vu_j _ _ (by omega)⟩
    · exact ⟨vu_k _ _ (by omega), vu_k _ _ (by omega)⟩
  · by_cases h0 : k = 1
    · exact ⟨vu_j _ _ (by omega), vu_j _ _ (by omega)⟩
    · exact ⟨vu_k _ _ (by omega), vu_k _ _ (by omega)⟩
theorem RL.page (H : RL B V p) (hB : BOK B) (h : ∀ j, j < 80 → p' j = p j) : RL B V p' := H.same hB ⟨rfl, rfl⟩ (fun _ _ _ => rfl) (fun _ => rfl) ⟨rfl, rfl⟩ h
theorem RQi.same {j i : Nat} (H : RQi V j p i) (h1 : ∀ f, V' (4 + j) f = V (4 + j) f) (h2 : ∀ k, 81 + 7 * i ≤ k → k < 81 + 7 * i + 7 → p' k = p k) : RQi V' j p' i := by
  obtain ⟨a0, a1, a2, a3, a4, a5, a6⟩ := H
  refine ⟨?_, ?_, ?_, ?_, ?_, ?_, ?_⟩
  · rw [h1, a0, h2 _ (by omega) (by omega)]
  · rw [h1, a1, h2 _ (by omega) (by omega)]
  · rw [h1, a2, h2 _ (by omega) (by omega)]
  · rw [h1, a3, h2 _ (by omega) (by omega)]
  · rw [h1, a4, h2 _ (by omega) (by omega)]
  · rw [h1, a5, h2 _ (by omega) (by omega)]
  · rw [h1, a6, h2 _ (by omega) (by omega)]
end REL
