/-! ===== the law's loop ===== -/
def INV (M : jv_Mem) : Prop := ∃ T B p U K S e D, RC M T B p U K S e ∧ RM M T B p U K S e D ∧ IV T B p U K S D
theorem law_loop {g : jv_G} {d cr sr : Nat} {Z : Option Value → jv_Mem → Nat → Prop} (hL : jv_L g ≤ 3584) (hz : ∀ M, Z (some (.int 1)) M 668) : ∀ n i M, jv_L g ≤ i + n → i ≤ 3600 → INV M → jv_J g (d + 10) mt_L_law 18 [some (.retAddr 0), some (.ref 0), some (.ref 647), some (.int (nI i))] [] M 668 cr sr Z := by
  intro n
  induction n with
  | zero =>
    intro i M hi hi2 inv
    have hs : (nI (jv_L g) - nI 7).toInt = (jv_L g : Int) - (7 : Nat) := pk_sub_toInt (by omega) (by omega)
    have hlt : (Int32.ofNat (jv_L g) - 7 : Int32) < nI i := by
      rw [lt_i, nI_toInt (by omega)]
      show (nI (jv_L g) - nI 7).toInt < _
      rw [hs]; omega
    exact b_L_law_18 ⟨fun _ => hz M, fun c => absurd hlt c⟩
  | succ n ih =>
    intro i M hi hi2 inv
    have hs : (nI (jv_L g) - nI 7).toInt = (jv_L g : Int) - (7 : Nat) := pk_sub_toInt (by omega) (by omega)
    by_cases hend : jv_L g < i + 7
    · have hlt : (Int32.ofNat (jv_L g) - 7 : Int32) < nI i := by
        rw [lt_i, nI_toInt (by omega)]
        show (nI (jv_L g) - nI 7).toInt < _
        rw [hs]; omega
      exact b_L_law_18 ⟨fun _ => hz M, fun c => absurd hlt c⟩
    · have hnlt : ¬ (Int32.ofNat (jv_L g) - 7 : Int32) < nI i := by
        rw [lt_i, nI_toInt (by omega)]
        show ¬ (nI (jv_L g) - nI 7).toInt < _
        rw [hs]; omega
      have vp : ∀ k, k < 7 → vp_in (nI i + nI k) (jv_L g) := fun k hk => by
        rw [nI_add]; exact vp_in_nI (by omega) (by omega)
      have vp0 : vp_in (nI i) (jv_L g) := vp_in_nI (by omega) (by omega)
      have v1 := vp 1 (by omega)
      have v2 := vp 2 (by omega)
      have v3 := vp 3 (by omega)
      have v4 := vp 4 (by omega)
      have v5 := vp 5 (by omega)
      have v6 := vp 6 (by omega)
      have nxt : ∀ M', INV M' → jv_J g (d + 10) mt_L_law 18 [some (.retAddr 0), some (.ref 0), some (.ref 647), some (.int (nI i + 7))] [] M' 668 cr sr Z := fun M' inv' => by
        rw [show (nI i + 7 : Int32) = nI (i + 7) from nI_add i 7]
        exact ih (i + 7) M' (by omega) (by omega) inv'
      obtain ⟨T, B, p, U, K, S, e, D, h, hm, iv⟩ := id inv
      obtain ⟨hB, ⟨P8, hp⟩, hT, ⟨hU, hu⟩, hk, ⟨hS, hs2⟩, hD⟩ := id iv
      have hs := hs2
      refine b_L_law_18 ⟨fun c => absurd c hnlt, fun _ => ⟨vp0, fun _ => ?_, fun _ => ?_, fun _ => ?_, fun _ => ?_, fun _ => ?_, fun _ => ?_, fun _ => ?_, fun _ => ?_, fun _ => ?_, fun _ => ?_, fun _ => ?_, fun _ => ?_, fun _ => ?_, fun _ => ?_, fun _ => ?_, fun _ => ?_, fun _ => ?_, fun _ => ?_, fun _ => ?_, fun _ => ?_, fun _ => ?_, fun _ => ?_, fun _ => ?_, fun _ => ?_, fun _ => ?_, fun _ => ?_, fun _ => ?_, fun _ => ?_, fun _ => ?_, fun _ => ?_, fun _ => ?_, fun _ => nxt M inv⟩⟩
      · exact ⟨v1, tg_0, R_write h hT.1 (fun M1 h1 F1 => jv_ri_i ⟨v1, tg_m, M_write (hm.frm F1) hT.1 (fun M2 h2 F2 => jv_ri_i ⟨fun _ => nxt M2 ⟨_, _, _, _, _, _, _, _, h1.frc F2, h2, iv_write iv _⟩, fun z => absurd rfl z⟩)⟩)⟩
      · exact ⟨tg_0, R_wipe h  (fun M1 h1 F1 => jv_ri_i ⟨tg_m, M_wipe (hm.frm F1)  (fun M2 h2 F2 => jv_ri_i ⟨fun _ => nxt M2 ⟨_, _, _, _, _, _, _, _, h1.frc F2, h2, iv_wipe iv⟩, fun z => absurd rfl z⟩)⟩)⟩
      · exact ⟨tg_0, R_fault h hT hD (fun M1 h1 F1 => jv_ri_i ⟨tg_m, M_fault (hm.frm F1) hT hD (fun M2 D2 h2 k2 F2 => jv_ri_i ⟨fun _ => nxt M2 ⟨_, _, _, _, _, _, _, _, h1.frc F2, h2, iv_D iv k2⟩, fun z => absurd rfl z⟩)⟩)⟩
      · exact ⟨tg_0, R_board h hB hT hD (fun M1 h1 F1 => jv_ri_i ⟨tg_m, M_board (hm.frm F1) hp hT hD (fun M2 D2 h2 k2 F2 => jv_ri_i ⟨fun _ => nxt M2 ⟨_, _, _, _, _, _, _, _, h1.frc F2, h2, iv_board iv k2⟩, fun z => absurd rfl z⟩)⟩)⟩
      · exact ⟨v1, v2, tg_0, R_hart h hB (jv_ri_i ⟨v1, v2, tg_m, M_hart hm hB (fun M2 h2 F2 => jv_ri_i ⟨fun _ => nxt M2 ⟨_, _, _, _, _, _, _, _, h.frc F2, h2, iv⟩, fun z => absurd rfl z⟩)⟩)⟩
      · exact ⟨v1, v2, tg_0, R_trigger h hB (jv_ri_i ⟨v1, v2, tg_m, M_trigger hm hB (fun M2 h2 F2 => jv_ri_i ⟨fun _ => nxt M2 ⟨_, _, _, _, _, _, _, _, h.frc F2, h2, iv⟩, fun z => absurd rfl z⟩)⟩)⟩
      · exact ⟨v1, tg_0, R_cell h hB (jv_ri_i ⟨v1, tg_m, M_cell hm  (fun M2 h2 F2 => jv_ri_i ⟨fun _ => nxt M2 ⟨_, _, _, _, _, _, _, _, h.frc F2, h2, iv⟩, fun z => absurd rfl z⟩)⟩)⟩
      · exact ⟨v1, v2, tg_0, R_order h hB (jv_ri_i ⟨v1, v2, tg_m, M_order hm P8 (fun M2 h2 F2 => jv_ri_i ⟨fun _ => nxt M2 ⟨_, _, _, _, _, _, _, _, h.frc F2, h2, iv⟩, fun z => absurd rfl z⟩)⟩)⟩
      · exact ⟨v1, tg_0, R_tick h hB hU (fun M1 h1 F1 => jv_ri_i ⟨v1, tg_m, M_tick (hm.frm F1) hB P8 hU (fun M2 h2 F2 => jv_ri_i ⟨fun _ => nxt M2 ⟨_, _, _, _, _, _, _, _, h1.frc F2, h2, iv_tick iv _⟩, fun z => absurd rfl z⟩)⟩)⟩
      · exact ⟨v1, v2, v3, v4, tg_0, R_send h hB P8 hU (fun M1 h1 F1 => jv_ri_i ⟨v1, v2, v3, v4, tg_m, M_send (hm.frm F1) hB P8 hU (fun M2 h2 F2 => jv_ri_i ⟨fun _ => nxt M2 ⟨_, _, _, _, _, _, _, _, h1.frc F2, h2, iv_send iv _ _ _ _⟩, fun z => absurd rfl z⟩)⟩)⟩
      · refine ⟨v1, v2, v3, v4, v5, v6, fun c => ?_, fun c => ?_⟩
        · exact ⟨tg_0, R_set h hB hU (Or.inl rfl) (fun M1 h1 F1 => jv_ri_i ⟨v1, v2, v3, v4, v5, v6, fun _ => ⟨tg_m, M_set (hm.frm F1) hB hU (Or.inl rfl) (fun M2 h2 F2 => jv_ri_i ⟨fun _ => nxt M2 ⟨_, _, _, _, _, _, _, _, h1.frc F2, h2, iv_set iv _ _ _ _ _ _ (Or.inl rfl)⟩, fun z => absurd rfl z⟩)⟩, fun z => absurd c z⟩)⟩
        · exact ⟨tg_0, R_set h hB hU (Or.inr rfl) (fun M1 h1 F1 => jv_ri_i ⟨v1, v2, v3, v4, v5, v6, fun z => absurd z c, fun _ => ⟨tg_m, M_set (hm.frm F1) hB hU (Or.inr rfl) (fun M2 h2 F2 => jv_ri_i ⟨fun _ => nxt M2 ⟨_, _, _, _, _, _, _, _, h1.frc F2, h2, iv_set iv _ _ _ _ _ _ (Or.inr rfl)⟩, fun z => absurd rfl z⟩)⟩⟩)⟩
      · exact ⟨v1, v2, tg_0, R_buffer h hB hU (fun M1 h1 F1 => jv_ri_i ⟨v1, v2, tg_m, M_buffer (hm.frm F1) hU (fun M2 h2 F2 => jv_ri_i ⟨fun _ => nxt M2 ⟨_, _, _, _, _, _, _, _, h1.frc F2, h2, iv_buf iv _ _⟩, fun z => absurd rfl z⟩)⟩)⟩
      · exact ⟨tg_0, R_clear h hB hU (fun M1 h1 F1 => jv_ri_i ⟨tg_m, M_clear (hm.frm F1) hU (fun M2 h2 F2 => jv_ri_i ⟨fun _ => nxt M2 ⟨_, _, _, _, _, _, _, _, h1.frc F2, h2, iv_clear iv⟩, fun z => absurd rfl z⟩)⟩)⟩
      · exact ⟨v1, v2, tg_0, R_poke h hB hU (fun M1 h1 F1 => jv_ri_i ⟨v1, v2, tg_m, M_poke (hm.frm F1) hU (fun M2 h2 F2 => jv_ri_i ⟨fun _ => nxt M2 ⟨_, _, _, _, _, _, _, _, h1.frc F2, h2, iv_poke iv _ _⟩, fun z => absurd rfl z⟩)⟩)⟩
      · exact ⟨tg_0, R_undo h hB hU (fun M1 h1 F1 => jv_ri_i ⟨tg_m, M_undo (hm.frm F1) hp hU (fun i hi => (hu i hi).2) (fun M2 h2 F2 => jv_ri_i ⟨fun _ => nxt M2 ⟨_, _, _, _, _, _, _, _, h1.frc F2, h2, iv_undo iv⟩, fun z => absurd rfl z⟩)⟩)⟩
      · exact ⟨v1, v2, v3, tg_0, R_ahead h hB (fun M1 h1 F1 => jv_ri_i ⟨v1, v2, v3, tg_m, M_ahead (hm.frm F1) hB P8 hp (fun M2 h2 F2 => jv_ri_i ⟨fun _ => nxt M2 ⟨_, _, _, _, _, _, _, _, h1.frc F2, h2, iv⟩, fun z => absurd rfl z⟩)⟩)⟩
      · exact ⟨v1, tg_0, R_halts h hB (fun M1 h1 F1 => jv_ri_i ⟨v1, tg_m, M_halts (hm.frm F1) hB P8 hp (fun M2 h2 F2 => jv_ri_i ⟨fun _ => nxt M2 ⟨_, _, _, _, _, _, _, _, h1.frc F2, h2, iv⟩, fun z => absurd rfl z⟩)⟩)⟩
      · exact ⟨v1, tg_0, R_soonest h hB (fun M1 h1 F1 => jv_ri_i ⟨v1, tg_m, M_soonest (hm.frm F1) hB P8 hp (fun M2 h2 F2 => jv_ri_i ⟨fun _ => nxt M2 ⟨_, _, _, _, _, _, _, _, h1.frc F2, h2, iv⟩, fun z => absurd rfl z⟩)⟩)⟩
      · exact ⟨v1, tg_0, R_all h hB P8 (fun M1 h1 F1 => jv_ri_i ⟨v1, tg_m, M_all (hm.frm F1) hB P8 hp (fun M2 h2 F2 => jv_ri_i ⟨fun _ => nxt M2 ⟨_, _, _, _, _, _, _, _, h1.frc F2, h2, iv⟩, fun z => absurd rfl z⟩)⟩)⟩
      · exact ⟨tg_0, R_crew h hB P8 (fun M1 h1 F1 => jv_ri_i ⟨tg_m, M_crew (hm.frm F1) hB P8 hp (fun M2 h2 F2 => jv_ri_i ⟨fun _ => nxt M2 ⟨_, _, _, _, _, _, _, _, h1.frc F2, h2, iv⟩, fun z => absurd rfl z⟩)⟩)⟩
      · exact ⟨v1, v2, v3, tg_0, R_judge h hB P8 (fun M1 h1 F1 => jv_ri_i ⟨v1, v2, v3, tg_m, M_judge (hm.frm F1) hB P8 hp (fun M2 h2 F2 => jv_ri_i ⟨fun _ => nxt M2 ⟨_, _, _, _, _, _, _, _, h1.frc F2, h2, iv⟩, fun z => absurd rfl z⟩)⟩)⟩
      · exact ⟨v1, v2, v3, tg_0, R_see h hS (fun M1 h1 F1 => jv_ri_i ⟨v1, v2, v3, tg_m, M_see (hm.frm F1) hS (fun M2 h2 F2 => jv_ri_i ⟨fun _ => nxt M2 ⟨_, _, _, _, _, _, _, _, h1.frc F2, h2, iv_see iv _ _ _⟩, fun z => absurd rfl z⟩)⟩)⟩
      · exact ⟨tg_0, R_unsee h  (fun M1 h1 F1 => jv_ri_i ⟨tg_m, M_unsee (hm.frm F1)  (fun M2 h2 F2 => jv_ri_i ⟨fun _ => nxt M2 ⟨_, _, _, _, _, _, _, _, h1.frc F2, h2, iv_unsee iv⟩, fun z => absurd rfl z⟩)⟩)⟩
      · exact ⟨tg_0, R_which h hB hS (fun M1 h1 F1 => jv_ri_i ⟨tg_m, M_which (hm.frm F1) hB P8 hp hS (fun i hi => (hs i hi).2) (fun M2 h2 F2 => jv_ri_i ⟨fun _ => nxt M2 ⟨_, _, _, _, _, _, _, _, h1.frc F2, h2, iv⟩, fun z => absurd rfl z⟩)⟩)⟩
      · refine ⟨v1, v2, fun c => ?_, fun c => ?_⟩
        · exact ⟨tg_0, R_share h hB (fun M1 h1 F1 => jv_ri_i ⟨v1, v2, fun _ => ⟨tg_m, M_share (hm.frm F1) hB P8 hp (fun M2 h2 F2 => jv_ri_i ⟨fun _ => nxt M2 ⟨_, _, _, _, _, _, _, _, h1.frc F2, h2, iv⟩, fun z => absurd rfl z⟩)⟩, fun z => absurd c z⟩)⟩
        · exact ⟨tg_0, R_share h hB (fun M1 h1 F1 => jv_ri_i ⟨v1, v2, fun z => absurd z c, fun _ => ⟨tg_m, M_share (hm.frm F1) hB P8 hp (fun M2 h2 F2 => jv_ri_i ⟨fun _ => nxt M2 ⟨_, _, _, _, _, _, _, _, h1.frc F2, h2, iv⟩, fun z => absurd rfl z⟩)⟩⟩)⟩
      · refine ⟨v1, v2, fun c => ?_, fun c => ?_⟩
        · exact ⟨tg_0, R_lost h hB P8 (fun M1 h1 F1 => jv_ri_i ⟨v1, v2, fun _ => ⟨tg_m, M_lost (hm.frm F1) hB P8 hp (fun M2 h2 F2 => jv_ri_i ⟨fun _ => nxt M2 ⟨_, _, _, _, _, _, _, _, h1.frc F2, h2, iv⟩, fun z => absurd rfl z⟩)⟩, fun z => absurd c z⟩)⟩
        · exact ⟨tg_0, R_lost h hB P8 (fun M1 h1 F1 => jv_ri_i ⟨v1, v2, fun z => absurd z c, fun _ => ⟨tg_m, M_lost (hm.frm F1) hB P8 hp (fun M2 h2 F2 => jv_ri_i ⟨fun _ => nxt M2 ⟨_, _, _, _, _, _, _, _, h1.frc F2, h2, iv⟩, fun z => absurd rfl z⟩)⟩⟩)⟩
      · exact ⟨v1, v2, tg_0, R_seed h  (fun M1 h1 F1 => jv_rl_i ⟨v1, v2, tg_m, M_seed (hm.frm F1)  (fun M2 h2 F2 => jv_rl_i ⟨fun _ => nxt M2 ⟨_, _, _, _, _, _, _, _, h1.frc F2, h2, iv⟩, fun z => absurd ((cmp_eq _ _).mpr rfl) z⟩)⟩)⟩
      · exact ⟨v1, tg_0, R_drawn h hB P8 (fun M1 h1 F1 => jv_ri_i ⟨v1, tg_m, M_drawn (hm.frm F1) hB P8 hp (fun M2 h2 F2 => jv_ri_i ⟨fun _ => nxt M2 ⟨_, _, _, _, _, _, _, _, h1.frc F2, h2, iv⟩, fun z => absurd rfl z⟩)⟩)⟩
      · exact ⟨v1, tg_0, R_keep h hB (fun M1 h1 F1 => jv_ri_i ⟨v1, tg_m, M_keep (hm.frm F1)  (fun M2 h2 F2 => jv_ri_i ⟨fun _ => nxt M2 ⟨_, _, _, _, _, _, _, _, h1.frc F2, h2, iv_keep iv _⟩, fun z => absurd rfl z⟩)⟩)⟩
      · exact ⟨v1, tg_0, R_again h hB (fun M1 h1 F1 => jv_ri_i ⟨v1, tg_m, M_again (hm.frm F1) hp (fun i hi q => (hk i hi q).2) (fun M2 h2 F2 => jv_ri_i ⟨fun _ => nxt M2 ⟨_, _, _, _, _, _, _, _, h1.frc F2, h2, iv_again iv _⟩, fun z => absurd rfl z⟩)⟩)⟩
      · exact ⟨v1, tg_0, R_count h hB (jv_ri_i ⟨v1, tg_m, M_count hm hB (fun M2 h2 F2 => jv_ri_i ⟨fun _ => nxt M2 ⟨_, _, _, _, _, _, _, _, h.frc F2, h2, iv⟩, fun z => absurd rfl z⟩)⟩)⟩
