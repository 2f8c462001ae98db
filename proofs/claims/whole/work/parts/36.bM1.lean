/-! ===== blocks ===== -/
theorem b_M_goRound_0 {g : jv_G} {d : Nat} {M : jv_Mem} {N cr sr : Nat} {Z : Option Value → jv_Mem → Nat → Prop} {a0 : Nat} {a1 : Nat} (h : jv_J g (d + 1) mt_M_goRound 2 [some (.ref a0), some (.ref a1), some (.int 0), none] [] M N cr sr Z) : jv_J g (d + 1) mt_M_goRound 0 [some (.ref a0), some (.ref a1), none, none] [] M N cr sr Z := by
  refine jv_iconst (v := 0) d_M_goRound_0 (by decide) ?_
  refine jv_istore_n (L' := [some (.ref a0), some (.ref a1), some (.int 0), none]) d_M_goRound_1 rfl (Nat.le_of_ble_eq_true rfl) rfl ?_
  exact h
theorem b_M_goRound_2 {g : jv_G} {d : Nat} {M : jv_Mem} {N cr sr : Nat} {Z : Option Value → jv_Mem → Nat → Prop} {a0 : Nat} {a1 : Nat} {x2 : Int32} (h : jv_Tg 11 a1 N ∧ vp_in 80 (jv_sh a1).2 ∧ ((Prod.fst M a1 (Int32.toNatClampNeg 80)) ≤ x2 → Z none M N) ∧ (¬ ((Prod.fst M a1 (Int32.toNatClampNeg 80)) ≤ x2) → jv_Tg 11 a1 N ∧ vp_in ((81 + (7 * x2)) + 2) (jv_sh a1).2 ∧ jv_Tg 11 a1 N ∧ vp_in ((81 + (7 * x2)) + 2) (jv_sh a1).2 ∧ jv_Tg 11 a1 N ∧ vp_in ((81 + (7 * x2)) + 2) (jv_sh a1).2 ∧ jv_Tg 11 a1 N ∧ vp_in ((81 + (7 * x2)) + 1) (jv_sh a1).2 ∧ ((Prod.fst (jv_si M a1 (Int32.toNatClampNeg ((81 + (7 * x2)) + 2)) ((Prod.fst M a1 (Int32.toNatClampNeg ((81 + (7 * x2)) + 2))) + 1)) a1 (Int32.toNatClampNeg ((81 + (7 * x2)) + 2))) ≠ ((Prod.fst (jv_si M a1 (Int32.toNatClampNeg ((81 + (7 * x2)) + 2)) ((Prod.fst M a1 (Int32.toNatClampNeg ((81 + (7 * x2)) + 2))) + 1)) a1 (Int32.toNatClampNeg ((81 + (7 * x2)) + 1))) + 1) → jv_Tg 11 a1 N ∧ vp_in ((81 + (7 * x2)) + 2) (jv_sh a1).2 ∧ jv_Tg 10 a0 N ∧ ((Prod.fst (jv_si M a1 (Int32.toNatClampNeg ((81 + (7 * x2)) + 2)) ((Prod.fst M a1 (Int32.toNatClampNeg ((81 + (7 * x2)) + 2))) + 1)) a1 (Int32.toNatClampNeg ((81 + (7 * x2)) + 2))) ≠ ((Prod.fst (jv_si M a1 (Int32.toNatClampNeg ((81 + (7 * x2)) + 2)) ((Prod.fst M a1 (Int32.toNatClampNeg ((81 + (7 * x2)) + 2))) + 1)) a0 6) + 1) → jv_J g (d + 1) mt_M_goRound 2 [some (.ref a0), some (.ref a1), some (.int (x2 + 1)), none] [] (jv_si M a1 (Int32.toNatClampNeg ((81 + (7 * x2)) + 2)) ((Prod.fst M a1 (Int32.toNatClampNeg ((81 + (7 * x2)) + 2))) + 1)) N cr sr Z) ∧ ((Prod.fst (jv_si M a1 (Int32.toNatClampNeg ((81 + (7 * x2)) + 2)) ((Prod.fst M a1 (Int32.toNatClampNeg ((81 + (7 * x2)) + 2))) + 1)) a1 (Int32.toNatClampNeg ((81 + (7 * x2)) + 2))) = ((Prod.fst (jv_si M a1 (Int32.toNatClampNeg ((81 + (7 * x2)) + 2)) ((Prod.fst M a1 (Int32.toNatClampNeg ((81 + (7 * x2)) + 2))) + 1)) a0 6) + 1) → jv_Tg 11 a1 N ∧ vp_in (81 + (7 * x2)) (jv_sh a1).2 ∧ ((Prod.fst (jv_si M a1 (Int32.toNatClampNeg ((81 + (7 * x2)) + 2)) ((Prod.fst M a1 (Int32.toNatClampNeg ((81 + (7 * x2)) + 2))) + 1)) a1 (Int32.toNatClampNeg (81 + (7 * x2)))) ≠ 3 → jv_Tg 11 a1 N ∧ vp_in 77 (jv_sh a1).2 ∧ jv_Tg 11 a1 N ∧ vp_in 77 (jv_sh a1).2 ∧ jv_Tg 11 a1 N ∧ vp_in (81 + (7 * x2)) (jv_sh a1).2 ∧ ((Prod.fst (jv_si (jv_si M a1 (Int32.toNatClampNeg ((81 + (7 * x2)) + 2)) ((Prod.fst M a1 (Int32.toNatClampNeg ((81 + (7 * x2)) + 2))) + 1)) a1 (Int32.toNatClampNeg 77) (Prod.fst (jv_si M a1 (Int32.toNatClampNeg ((81 + (7 * x2)) + 2)) ((Prod.fst M a1 (Int32.toNatClampNeg ((81 + (7 * x2)) + 2))) + 1)) a1 (Int32.toNatClampNeg 77))) a1 (Int32.toNatClampNeg (81 + (7 * x2)))) ≤ 2 → jv_Tg 11 a1 N ∧ vp_in 76 (jv_sh a1).2 ∧ jv_Tg 11 a1 N ∧ vp_in 76 (jv_sh a1).2 ∧ jv_Ct g d mt_M_dropOrder [.ref a1, .int x2] (jv_si (jv_si (jv_si M a1 (Int32.toNatClampNeg ((81 + (7 * x2)) + 2)) ((Prod.fst M a1 (Int32.toNatClampNeg ((81 + (7 * x2)) + 2))) + 1)) a1 (Int32.toNatClampNeg 77) (Prod.fst (jv_si M a1 (Int32.toNatClampNeg ((81 + (7 * x2)) + 2)) ((Prod.fst M a1 (Int32.toNatClampNeg ((81 + (7 * x2)) + 2))) + 1)) a1 (Int32.toNatClampNeg 77))) a1 (Int32.toNatClampNeg 76) (Prod.fst (jv_si (jv_si M a1 (Int32.toNatClampNeg ((81 + (7 * x2)) + 2)) ((Prod.fst M a1 (Int32.toNatClampNeg ((81 + (7 * x2)) + 2))) + 1)) a1 (Int32.toNatClampNeg 77) (Prod.fst (jv_si M a1 (Int32.toNatClampNeg ((81 + (7 * x2)) + 2)) ((Prod.fst M a1 (Int32.toNatClampNeg ((81 + (7 * x2)) + 2))) + 1)) a1 (Int32.toNatClampNeg 77))) a1 (Int32.toNatClampNeg 76))) N 0 0 (fun v M27 N27 => jv_rv v (jv_J g (d + 1) mt_M_goRound 2 [some (.ref a0), some (.ref a1), some (.int x2), none] [] M27 N27 cr sr Z))) ∧ (¬ ((Prod.fst (jv_si (jv_si M a1 (Int32.toNatClampNeg ((81 + (7 * x2)) + 2)) ((Prod.fst M a1 (Int32.toNatClampNeg ((81 + (7 * x2)) + 2))) + 1)) a1 (Int32.toNatClampNeg 77) (Prod.fst (jv_si M a1 (Int32.toNatClampNeg ((81 + (7 * x2)) + 2)) ((Prod.fst M a1 (Int32.toNatClampNeg ((81 + (7 * x2)) + 2))) + 1)) a1 (Int32.toNatClampNeg 77))) a1 (Int32.toNatClampNeg (81 + (7 * x2)))) ≤ 2) → jv_Tg 11 a1 N ∧ vp_in 76 (jv_sh a1).2 ∧ ((Prod.fst (jv_si (jv_si M a1 (Int32.toNatClampNeg ((81 + (7 * x2)) + 2)) ((Prod.fst M a1 (Int32.toNatClampNeg ((81 + (7 * x2)) + 2))) + 1)) a1 (Int32.toNatClampNeg 77) (Prod.fst (jv_si M a1 (Int32.toNatClampNeg ((81 + (7 * x2)) + 2)) ((Prod.fst M a1 (Int32.toNatClampNeg ((81 + (7 * x2)) + 2))) + 1)) a1 (Int32.toNatClampNeg 77))) a1 (Int32.toNatClampNeg 76)) ≠ 0 → jv_Tg 11 a1 N ∧ vp_in 76 (jv_sh a1).2 ∧ jv_Tg 11 a1 N ∧ vp_in 76 (jv_sh a1).2 ∧ jv_Ct g d mt_M_dropOrder [.ref a1, .int x2] (jv_si (jv_si (jv_si M a1 (Int32.toNatClampNeg ((81 + (7 * x2)) + 2)) ((Prod.fst M a1 (Int32.toNatClampNeg ((81 + (7 * x2)) + 2))) + 1)) a1 (Int32.toNatClampNeg 77) (Prod.fst (jv_si M a1 (Int32.toNatClampNeg ((81 + (7 * x2)) + 2)) ((Prod.fst M a1 (Int32.toNatClampNeg ((81 + (7 * x2)) + 2))) + 1)) a1 (Int32.toNatClampNeg 77))) a1 (Int32.toNatClampNeg 76) (Prod.fst (jv_si (jv_si M a1 (Int32.toNatClampNeg ((81 + (7 * x2)) + 2)) ((Prod.fst M a1 (Int32.toNatClampNeg ((81 + (7 * x2)) + 2))) + 1)) a1 (Int32.toNatClampNeg 77) (Prod.fst (jv_si M a1 (Int32.toNatClampNeg ((81 + (7 * x2)) + 2)) ((Prod.fst M a1 (Int32.toNatClampNeg ((81 + (7 * x2)) + 2))) + 1)) a1 (Int32.toNatClampNeg 77))) a1 (Int32.toNatClampNeg 76))) N 0 0 (fun v M35 N35 => jv_rv v (jv_J g (d + 1) mt_M_goRound 2 [some (.ref a0), some (.ref a1), some (.int x2), none] [] M35 N35 cr sr Z))) ∧ ((Prod.fst (jv_si (jv_si M a1 (Int32.toNatClampNeg ((81 + (7 * x2)) + 2)) ((Prod.fst M a1 (Int32.toNatClampNeg ((81 + (7 * x2)) + 2))) + 1)) a1 (Int32.toNatClampNeg 77) (Prod.fst (jv_si M a1 (Int32.toNatClampNeg ((81 + (7 * x2)) + 2)) ((Prod.fst M a1 (Int32.toNatClampNeg ((81 + (7 * x2)) + 2))) + 1)) a1 (Int32.toNatClampNeg 77))) a1 (Int32.toNatClampNeg 76)) = 0 → jv_Tg 11 a1 N ∧ vp_in ((81 + (7 * x2)) + 3) (jv_sh a1).2 ∧ jv_Tg 11 a1 N ∧ vp_in 76 (jv_sh a1).2 ∧ jv_Ct g d mt_M_dropOrder [.ref a1, .int x2] (jv_si (jv_si (jv_si M a1 (Int32.toNatClampNeg ((81 + (7 * x2)) + 2)) ((Prod.fst M a1 (Int32.toNatClampNeg ((81 + (7 * x2)) + 2))) + 1)) a1 (Int32.toNatClampNeg 77) (Prod.fst (jv_si M a1 (Int32.toNatClampNeg ((81 + (7 * x2)) + 2)) ((Prod.fst M a1 (Int32.toNatClampNeg ((81 + (7 * x2)) + 2))) + 1)) a1 (Int32.toNatClampNeg 77))) a1 (Int32.toNatClampNeg 76) (Prod.fst (jv_si (jv_si M a1 (Int32.toNatClampNeg ((81 + (7 * x2)) + 2)) ((Prod.fst M a1 (Int32.toNatClampNeg ((81 + (7 * x2)) + 2))) + 1)) a1 (Int32.toNatClampNeg 77) (Prod.fst (jv_si M a1 (Int32.toNatClampNeg ((81 + (7 * x2)) + 2)) ((Prod.fst M a1 (Int32.toNatClampNeg ((81 + (7 * x2)) + 2))) + 1)) a1 (Int32.toNatClampNeg 77))) a1 (Int32.toNatClampNeg ((81 + (7 * x2)) + 3)))) N 0 0 (fun v M41 N41 => jv_rv v (jv_J g (d + 1) mt_M_goRound 2 [some (.ref a0), some (.ref a1), some (.int x2), none] [] M41 N41 cr sr Z))))) ∧ ((Prod.fst (jv_si M a1 (Int32.toNatClampNeg ((81 + (7 * x2)) + 2)) ((Prod.fst M a1 (Int32.toNatClampNeg ((81 + (7 * x2)) + 2))) + 1)) a1 (Int32.toNatClampNeg (81 + (7 * x2)))) = 3 → jv_Tg 11 a1 N ∧ vp_in ((81 + (7 * x2)) + 3) (jv_sh a1).2 ∧ ((Prod.fst (jv_si M a1 (Int32.toNatClampNeg ((81 + (7 * x2)) + 2)) ((Prod.fst M a1 (Int32.toNatClampNeg ((81 + (7 * x2)) + 2))) + 1)) a1 (Int32.toNatClampNeg ((81 + (7 * x2)) + 3))) ≠ 0 → jv_Tg 11 a1 N ∧ vp_in 77 (jv_sh a1).2 ∧ jv_Tg 11 a1 N ∧ vp_in 77 (jv_sh a1).2 ∧ jv_Tg 11 a1 N ∧ vp_in (81 + (7 * x2)) (jv_sh a1).2 ∧ ((Prod.fst (jv_si (jv_si M a1 (Int32.toNatClampNeg ((81 + (7 * x2)) + 2)) ((Prod.fst M a1 (Int32.toNatClampNeg ((81 + (7 * x2)) + 2))) + 1)) a1 (Int32.toNatClampNeg 77) (Prod.fst (jv_si M a1 (Int32.toNatClampNeg ((81 + (7 * x2)) + 2)) ((Prod.fst M a1 (Int32.toNatClampNeg ((81 + (7 * x2)) + 2))) + 1)) a1 (Int32.toNatClampNeg 77))) a1 (Int32.toNatClampNeg (81 + (7 * x2)))) ≤ 2 → jv_Tg 11 a1 N ∧ vp_in 76 (jv_sh a1).2 ∧ jv_Tg 11 a1 N ∧ vp_in 76 (jv_sh a1).2 ∧ jv_Ct g d mt_M_dropOrder [.ref a1, .int x2] (jv_si (jv_si (jv_si M a1 (Int32.toNatClampNeg ((81 + (7 * x2)) + 2)) ((Prod.fst M a1 (Int32.toNatClampNeg ((81 + (7 * x2)) + 2))) + 1)) a1 (Int32.toNatClampNeg 77) (Prod.fst (jv_si M a1 (Int32.toNatClampNeg ((81 + (7 * x2)) + 2)) ((Prod.fst M a1 (Int32.toNatClampNeg ((81 + (7 * x2)) + 2))) + 1)) a1 (Int32.toNatClampNeg 77))) a1 (Int32.toNatClampNeg 76) (Prod.fst (jv_si (jv_si M a1 (Int32.toNatClampNeg ((81 + (7 * x2)) + 2)) ((Prod.fst M a1 (Int32.toNatClampNeg ((81 + (7 * x2)) + 2))) + 1)) a1 (Int32.toNatClampNeg 77) (Prod.fst (jv_si M a1 (Int32.toNatClampNeg ((81 + (7 * x2)) + 2)) ((Prod.fst M a1 (Int32.toNatClampNeg ((81 + (7 * x2)) + 2))) + 1)) a1 (Int32.toNatClampNeg 77))) a1 (Int32.toNatClampNeg 76))) N 0 0 (fun v M55 N55 => jv_rv v (jv_J g (d + 1) mt_M_goRound 2 [some (.ref a0), some (.ref a1), some (.int x2), none] [] M55 N55 cr sr Z))) ∧ (¬ ((Prod.fst (jv_si (jv_si M a1 (Int32.toNatClampNeg ((81 + (7 * x2)) + 2)) ((Prod.fst M a1 (Int32.toNatClampNeg ((81 + (7 * x2)) + 2))) + 1)) a1 (Int32.toNatClampNeg 77) (Prod.fst (jv_si M a1 (Int32.toNatClampNeg ((81 + (7 * x2)) + 2)) ((Prod.fst M a1 (Int32.toNatClampNeg ((81 + (7 * x2)) + 2))) + 1)) a1 (Int32.toNatClampNeg 77))) a1 (Int32.toNatClampNeg (81 + (7 * x2)))) ≤ 2) → jv_Tg 11 a1 N ∧ vp_in 76 (jv_sh a1).2 ∧ ((Prod.fst (jv_si (jv_si M a1 (Int32.toNatClampNeg ((81 + (7 * x2)) + 2)) ((Prod.fst M a1 (Int32.toNatClampNeg ((81 + (7 * x2)) + 2))) + 1)) a1 (Int32.toNatClampNeg 77) (Prod.fst (jv_si M a1 (Int32.toNatClampNeg ((81 + (7 * x2)) + 2)) ((Prod.fst M a1 (Int32.toNatClampNeg ((81 + (7 * x2)) + 2))) + 1)) a1 (Int32.toNatClampNeg 77))) a1 (Int32.toNatClampNeg 76)) ≠ 0 → jv_Tg 11 a1 N ∧ vp_in 76 (jv_sh a1).2 ∧ jv_Tg 11 a1 N ∧ vp_in 76 (jv_sh a1).2 ∧ jv_Ct g d mt_M_dropOrder [.ref a1, .int x2] (jv_si (jv_si (jv_si M a1 (Int32.toNatClampNeg ((81 + (7 * x2)) + 2)) ((Prod.fst M a1 (Int32.toNatClampNeg ((81 + (7 * x2)) + 2))) + 1)) a1 (Int32.toNatClampNeg 77) (Prod.fst (jv_si M a1 (Int32.toNatClampNeg ((81 + (7 * x2)) + 2)) ((Prod.fst M a1 (Int32.toNatClampNeg ((81 + (7 * x2)) + 2))) + 1)) a1 (Int32.toNatClampNeg 77))) a1 (Int32.toNatClampNeg 76) (Prod.fst (jv_si (jv_si M a1 (Int32.toNatClampNeg ((81 + (7 * x2)) + 2)) ((Prod.fst M a1 (Int32.toNatClampNeg ((81 + (7 * x2)) + 2))) + 1)) a1 (Int32.toNatClampNeg 77) (Prod.fst (jv_si M a1 (Int32.toNatClampNeg ((81 + (7 * x2)) + 2)) ((Prod.fst M a1 (Int32.toNatClampNeg ((81 + (7 * x2)) + 2))) + 1)) a1 (Int32.toNatClampNeg 77))) a1 (Int32.toNatClampNeg 76))) N 0 0 (fun v M63 N63 => jv_rv v (jv_J g (d + 1) mt_M_goRound 2 [some (.ref a0), some (.ref a1), some (.int x2), none] [] M63 N63 cr sr Z))) ∧ ((Prod.fst (jv_si (jv_si M a1 (Int32.toNatClampNeg ((81 + (7 * x2)) + 2)) ((Prod.fst M a1 (Int32.toNatClampNeg ((81 + (7 * x2)) + 2))) + 1)) a1 (Int32.toNatClampNeg 77) (Prod.fst (jv_si M a1 (Int32.toNatClampNeg ((81 + (7 * x2)) + 2)) ((Prod.fst M a1 (Int32.toNatClampNeg ((81 + (7 * x2)) + 2))) + 1)) a1 (Int32.toNatClampNeg 77))) a1 (Int32.toNatClampNeg 76)) = 0 → jv_Tg 11 a1 N ∧ vp_in ((81 + (7 * x2)) + 3) (jv_sh a1).2 ∧ jv_Tg 11 a1 N ∧ vp_in 76 (jv_sh a1).2 ∧ jv_Ct g d mt_M_dropOrder [.ref a1, .int x2] (jv_si (jv_si (jv_si M a1 (Int32.toNatClampNeg ((81 + (7 * x2)) + 2)) ((Prod.fst M a1 (Int32.toNatClampNeg ((81 + (7 * x2)) + 2))) + 1)) a1 (Int32.toNatClampNeg 77) (Prod.fst (jv_si M a1 (Int32.toNatClampNeg ((81 + (7 * x2)) + 2)) ((Prod.fst M a1 (Int32.toNatClampNeg ((81 + (7 * x2)) + 2))) + 1)) a1 (Int32.toNatClampNeg 77))) a1 (Int32.toNatClampNeg 76) (Prod.fst (jv_si (jv_si M a1 (Int32.toNatClampNeg ((81 + (7 * x2)) + 2)) ((Prod.fst M a1 (Int32.toNatClampNeg ((81 + (7 * x2)) + 2))) + 1)) a1 (Int32.toNatClampNeg 77) (Prod.fst (jv_si M a1 (Int32.toNatClampNeg ((81 + (7 * x2)) + 2)) ((Prod.fst M a1 (Int32.toNatClampNeg ((81 + (7 * x2)) + 2))) + 1)) a1 (Int32.toNatClampNeg 77))) a1 (Int32.toNatClampNeg ((81 + (7 * x2)) + 3)))) N 0 0 (fun v M69 N69 => jv_rv v (jv_J g (d + 1) mt_M_goRound 2 [some (.ref a0), some (.ref a1), some (.int x2), none] [] M69 N69 cr sr Z))))) ∧ ((Prod.fst (jv_si M a1 (Int32.toNatClampNeg ((81 + (7 * x2)) + 2)) ((Prod.fst M a1 (Int32.toNatClampNeg ((81 + (7 * x2)) + 2))) + 1)) a1 (Int32.toNatClampNeg ((81 + (7 * x2)) + 3))) = 0 → jv_Tg 11 a1 N ∧ vp_in ((81 + (7 * x2)) + 6) (jv_sh a1).2 ∧ jv_Tg 11 a1 N ∧ vp_in 77 (jv_sh a1).2 ∧ jv_Tg 11 a1 N ∧ vp_in (81 + (7 * x2)) (jv_sh a1).2 ∧ ((Prod.fst (jv_si (jv_si M a1 (Int32.toNatClampNeg ((81 + (7 * x2)) + 2)) ((Prod.fst M a1 (Int32.toNatClampNeg ((81 + (7 * x2)) + 2))) + 1)) a1 (Int32.toNatClampNeg 77) (Prod.fst (jv_si M a1 (Int32.toNatClampNeg ((81 + (7 * x2)) + 2)) ((Prod.fst M a1 (Int32.toNatClampNeg ((81 + (7 * x2)) + 2))) + 1)) a1 (Int32.toNatClampNeg ((81 + (7 * x2)) + 6)))) a1 (Int32.toNatClampNeg (81 + (7 * x2)))) ≤ 2 → jv_Tg 11 a1 N ∧ vp_in 76 (jv_sh a1).2 ∧ jv_Tg 11 a1 N ∧ vp_in 76 (jv_sh a1).2 ∧ jv_Ct g d mt_M_dropOrder [.ref a1, .int x2] (jv_si (jv_si (jv_si M a1 (Int32.toNatClampNeg ((81 + (7 * x2)) + 2)) ((Prod.fst M a1 (Int32.toNatClampNeg ((81 + (7 * x2)) + 2))) + 1)) a1 (Int32.toNatClampNeg 77) (Prod.fst (jv_si M a1 (Int32.toNatClampNeg ((81 + (7 * x2)) + 2)) ((Prod.fst M a1 (Int32.toNatClampNeg ((81 + (7 * x2)) + 2))) + 1)) a1 (Int32.toNatClampNeg ((81 + (7 * x2)) + 6)))) a1 (Int32.toNatClampNeg 76) (Prod.fst (jv_si (jv_si M a1 (Int32.toNatClampNeg ((81 + (7 * x2)) + 2)) ((Prod.fst M a1 (Int32.toNatClampNeg ((81 + (7 * x2)) + 2))) + 1)) a1 (Int32.toNatClampNeg 77) (Prod.fst (jv_si M a1 (Int32.toNatClampNeg ((81 + (7 * x2)) + 2)) ((Prod.fst M a1 (Int32.toNatClampNeg ((81 + (7 * x2)) + 2))) + 1)) a1 (Int32.toNatClampNeg ((81 + (7 * x2)) + 6)))) a1 (Int32.toNatClampNeg 76))) N 0 0 (fun v M81 N81 => jv_rv v (jv_J g (d + 1) mt_M_goRound 2 [some (.ref a0), some (.ref a1), some (.int x2), none] [] M81 N81 cr sr Z))) ∧ (¬ ((Prod.fst (jv_si (jv_si M a1 (Int32.toNatClampNeg ((81 + (7 * x2)) + 2)) ((Prod.fst M a1 (Int32.toNatClampNeg ((81 + (7 * x2)) + 2))) + 1)) a1 (Int32.toNatClampNeg 77) (Prod.fst (jv_si M a1 (Int32.toNatClampNeg ((81 + (7 * x2)) + 2)) ((Prod.fst M a1 (Int32.toNatClampNeg ((81 + (7 * x2)) + 2))) + 1)) a1 (Int32.toNatClampNeg ((81 + (7 * x2)) + 6)))) a1 (Int32.toNatClampNeg (81 + (7 * x2)))) ≤ 2) → jv_Tg 11 a1 N ∧ vp_in 76 (jv_sh a1).2 ∧ ((Prod.fst (jv_si (jv_si M a1 (Int32.toNatClampNeg ((81 + (7 * x2)) + 2)) ((Prod.fst M a1 (Int32.toNatClampNeg ((81 + (7 * x2)) + 2))) + 1)) a1 (Int32.toNatClampNeg 77) (Prod.fst (jv_si M a1 (Int32.toNatClampNeg ((81 + (7 * x2)) + 2)) ((Prod.fst M a1 (Int32.toNatClampNeg ((81 + (7 * x2)) + 2))) + 1)) a1 (Int32.toNatClampNeg ((81 + (7 * x2)) + 6)))) a1 (Int32.toNatClampNeg 76)) ≠ 0 → jv_Tg 11 a1 N ∧ vp_in 76 (jv_sh a1).2 ∧ jv_Tg 11 a1 N ∧ vp_in 76 (jv_sh a1).2 ∧ jv_Ct g d mt_M_dropOrder [.ref a1, .int x2] (jv_si (jv_si (jv_si M a1 (Int32.toNatClampNeg ((81 + (7 * x2)) + 2)) ((Prod.fst M a1 (Int32.toNatClampNeg ((81 + (7 * x2)) + 2))) + 1)) a1 (Int32.toNatClampNeg 77) (Prod.fst (jv_si M a1 (Int32.toNatClampNeg ((81 + (7 * x2)) + 2)) ((Prod.fst M a1 (Int32.toNatClampNeg ((81 + (7 * x2)) + 2))) + 1)) a1 (Int32.toNatClampNeg ((81 + (7 * x2)) + 6)))) a1 (Int32.toNatClampNeg 76) (Prod.fst (jv_si (jv_si M a1 (Int32.toNatClampNeg ((81 + (7 * x2)) + 2)) ((Prod.fst M a1 (Int32.toNatClampNeg ((81 + (7 * x2)) + 2))) + 1)) a1 (Int32.toNatClampNeg 77) (Prod.fst (jv_si M a1 (Int32.toNatClampNeg ((81 + (7 * x2)) + 2)) ((Prod.fst M a1 (Int32.toNatClampNeg ((81 + (7 * x2)) + 2))) + 1)) a1 (Int32.toNatClampNeg ((81 + (7 * x2)) + 6)))) a1 (Int32.toNatClampNeg 76))) N 0 0 (fun v M89 N89 => jv_rv v (jv_J g (d + 1) mt_M_goRound 2 [some (.ref a0), some (.ref a1), some (.int x2), none] [] M89 N89 cr sr Z))) ∧ ((Prod.fst (jv_si (jv_si M a1 (Int32.toNatClampNeg ((81 + (7 * x2)) + 2)) ((Prod.fst M a1 (Int32.toNatClampNeg ((81 + (7 * x2)) + 2))) + 1)) a1 (Int32.toNatClampNeg 77) (Prod.fst (jv_si M a1 (Int32.toNatClampNeg ((81 + (7 * x2)) + 2)) ((Prod.fst M a1 (Int32.toNatClampNeg ((81 + (7 * x2)) + 2))) + 1)) a1 (Int32.toNatClampNeg ((81 + (7 * x2)) + 6)))) a1 (Int32.toNatClampNeg 76)) = 0 → jv_Tg 11 a1 N ∧ vp_in ((81 + (7 * x2)) + 3) (jv_sh a1).2 ∧ jv_Tg 11 a1 N ∧ vp_in 76 (jv_sh a1).2 ∧ jv_Ct g d mt_M_dropOrder [.ref a1, .int x2] (jv_si (jv_si (jv_si M a1 (Int32.toNatClampNeg ((81 + (7 * x2)) + 2)) ((Prod.fst M a1 (Int32.toNatClampNeg ((81 + (7 * x2)) + 2))) + 1)) a1 (Int32.toNatClampNeg 77) (Prod.fst (jv_si M a1 (Int32.toNatClampNeg ((81 + (7 * x2)) + 2)) ((Prod.fst M a1 (Int32.toNatClampNeg ((81 + (7 * x2)) + 2))) + 1)) a1 (Int32.toNatClampNeg ((81 + (7 * x2)) + 6)))) a1 (Int32.toNatClampNeg 76) (Prod.fst (jv_si (jv_si M a1 (Int32.toNatClampNeg ((81 + (7 * x2)) + 2)) ((Prod.fst M a1 (Int32.toNatClampNeg ((81 + (7 * x2)) + 2))) + 1)) a1 (Int32.toNatClampNeg 77) (Prod.fst (jv_si M a1 (Int32.toNatClampNeg ((81 + (7 * x2)) + 2)) ((Prod.fst M a1 (Int32.toNatClampNeg ((81 + (7 * x2)) + 2))) + 1)) a1 (Int32.toNatClampNeg ((81 + (7 * x2)) + 6)))) a1 (Int32.toNatClampNeg ((81 + (7 * x2)) + 3)))) N 0 0 (fun v M95 N95 => jv_rv v (jv_J g (d + 1) mt_M_goRound 2 [some (.ref a0), some (.ref a1), some (.int x2), none] [] M95 N95 cr sr Z)))))))) ∧ ((Prod.fst (jv_si M a1 (Int32.toNatClampNeg ((81 + (7 * x2)) + 2)) ((Prod.fst M a1 (Int32.toNatClampNeg ((81 + (7 * x2)) + 2))) + 1)) a1 (Int32.toNatClampNeg ((81 + (7 * x2)) + 2))) = ((Prod.fst (jv_si M a1 (Int32.toNatClampNeg ((81 + (7 * x2)) + 2)) ((Prod.fst M a1 (Int32.toNatClampNeg ((81 + (7 * x2)) + 2))) + 1)) a1 (Int32.toNatClampNeg ((81 + (7 * x2)) + 1))) + 1) → jv_Tg 10 a0 N ∧ jv_Ct g d mt_M_reach [.ref a0, .ref a1, .int x2] (jv_si M a1 (Int32.toNatClampNeg ((81 + (7 * x2)) + 2)) ((Prod.fst M a1 (Int32.toNatClampNeg ((81 + (7 * x2)) + 2))) + 1)) N 0 0 (fun v M98 N98 => jv_rv v (jv_Tg 11 a1 N98 ∧ vp_in ((81 + (7 * x2)) + 2) (jv_sh a1).2 ∧ jv_Tg 10 a0 N98 ∧ ((Prod.fst M98 a1 (Int32.toNatClampNeg ((81 + (7 * x2)) + 2))) ≠ ((Prod.fst M98 a0 6) + 1) → jv_J g (d + 1) mt_M_goRound 2 [some (.ref a0), some (.ref a1), some (.int (x2 + 1)), none] [] M98 N98 cr sr Z) ∧ ((Prod.fst M98 a1 (Int32.toNatClampNeg ((81 + (7 * x2)) + 2))) = ((Prod.fst M98 a0 6) + 1) → jv_Tg 11 a1 N98 ∧ vp_in (81 + (7 * x2)) (jv_sh a1).2 ∧ ((Prod.fst M98 a1 (Int32.toNatClampNeg (81 + (7 * x2)))) ≠ 3 → jv_Tg 11 a1 N98 ∧ vp_in 77 (jv_sh a1).2 ∧ jv_Tg 11 a1 N98 ∧ vp_in 77 (jv_sh a1).2 ∧ jv_Tg 11 a1 N98 ∧ vp_in (81 + (7 * x2)) (jv_sh a1).2 ∧ ((Prod.fst (jv_si M98 a1 (Int32.toNatClampNeg 77) (Prod.fst M98 a1 (Int32.toNatClampNeg 77))) a1 (Int32.toNatClampNeg (81 + (7 * x2)))) ≤ 2 → jv_Tg 11 a1 N98 ∧ vp_in 76 (jv_sh a1).2 ∧ jv_Tg 11 a1 N98 ∧ vp_in 76 (jv_sh a1).2 ∧ jv_Ct g d mt_M_dropOrder [.ref a1, .int x2] (jv_si (jv_si M98 a1 (Int32.toNatClampNeg 77) (Prod.fst M98 a1 (Int32.toNatClampNeg 77))) a1 (Int32.toNatClampNeg 76) (Prod.fst (jv_si M98 a1 (Int32.toNatClampNeg 77) (Prod.fst M98 a1 (Int32.toNatClampNeg 77))) a1 (Int32.toNatClampNeg 76))) N98 0 0 (fun v M115 N115 => jv_rv v (jv_J g (d + 1) mt_M_goRound 2 [some (.ref a0), some (.ref a1), some (.int x2), none] [] M115 N115 cr sr Z))) ∧ (¬ ((Prod.fst (jv_si M98 a1 (Int32.toNatClampNeg 77) (Prod.fst M98 a1 (Int32.toNatClampNeg 77))) a1 (Int32.toNatClampNeg (81 + (7 * x2)))) ≤ 2) → jv_Tg 11 a1 N98 ∧ vp_in 76 (jv_sh a1).2 ∧ ((Prod.fst (jv_si M98 a1 (Int32.toNatClampNeg 77) (Prod.fst M98 a1 (Int32.toNatClampNeg 77))) a1 (Int32.toNatClampNeg 76)) ≠ 0 → jv_Tg 11 a1 N98 ∧ vp_in 76 (jv_sh a1).2 ∧ jv_Tg 11 a1 N98 ∧ vp_in 76 (jv_sh a1).2 ∧ jv_Ct g d mt_M_dropOrder [.ref a1, .int x2] (jv_si (jv_si M98 a1 (Int32.toNatClampNeg 77) (Prod.fst M98 a1 (Int32.toNatClampNeg 77))) a1 (Int32.toNatClampNeg 76) (Prod.fst (jv_si M98 a1 (Int32.toNatClampNeg 77) (Prod.fst M98 a1 (Int32.toNatClampNeg 77))) a1 (Int32.toNatClampNeg 76))) N98 0 0 (fun v M123 N123 => jv_rv v (jv_J g (d + 1) mt_M_goRound 2 [some (.ref a0), some (.ref a1), some (.int x2), none] [] M123 N123 cr sr Z))) ∧ ((Prod.fst (jv_si M98 a1 (Int32.toNatClampNeg 77) (Prod.fst M98 a1 (Int32.toNatClampNeg 77))) a1 (Int32.toNatClampNeg 76)) = 0 → jv_Tg 11 a1 N98 ∧ vp_in ((81 + (7 * x2)) + 3) (jv_sh a1).2 ∧ jv_Tg 11 a1 N98 ∧ vp_in 76 (jv_sh a1).2 ∧ jv_Ct g d mt_M_dropOrder [.ref a1, .int x2] (jv_si (jv_si M98 a1 (Int32.toNatClampNeg 77) (Prod.fst M98 a1 (Int32.toNatClampNeg 77))) a1 (Int32.toNatClampNeg 76) (Prod.fst (jv_si M98 a1 (Int32.toNatClampNeg 77) (Prod.fst M98 a1 (Int32.toNatClampNeg 77))) a1 (Int32.toNatClampNeg ((81 + (7 * x2)) + 3)))) N98 0 0 (fun v M129 N129 => jv_rv v (jv_J g (d + 1) mt_M_goRound 2 [some (.ref a0), some (.ref a1), some (.int x2), none] [] M129 N129 cr sr Z))))) ∧ ((Prod.fst M98 a1 (Int32.toNatClampNeg (81 + (7 * x2)))) = 3 → jv_Tg 11 a1 N98 ∧ vp_in ((81 + (7 * x2)) + 3) (jv_sh a1).2 ∧ ((Prod.fst M98 a1 (Int32.toNatClampNeg ((81 + (7 * x2)) + 3))) ≠ 0 → jv_Tg 11 a1 N98 ∧ vp_in 77 (jv_sh a1).2 ∧ jv_Tg 11 a1 N98 ∧ vp_in 77 (jv_sh a1).2 ∧ jv_Tg 11 a1 N98 ∧ vp_in (81 + (7 * x2)) (jv_sh a1).2 ∧ ((Prod.fst (jv_si M98 a1 (Int32.toNatClampNeg 77) (Prod.fst M98 a1 (Int32.toNatClampNeg 77))) a1 (Int32.toNatClampNeg (81 + (7 * x2)))) ≤ 2 → jv_Tg 11 a1 N98 ∧ vp_in 76 (jv_sh a1).2 ∧ jv_Tg 11 a1 N98 ∧ vp_in 76 (jv_sh a1).2 ∧ jv_Ct g d mt_M_dropOrder [.ref a1, .int x2] (jv_si (jv_si M98 a1 (Int32.toNatClampNeg 77) (Prod.fst M98 a1 (Int32.toNatClampNeg 77))) a1 (Int32.toNatClampNeg 76) (Prod.fst (jv_si M98 a1 (Int32.toNatClampNeg 77) (Prod.fst M98 a1 (Int32.toNatClampNeg 77))) a1 (Int32.toNatClampNeg 76))) N98 0 0 (fun v M143 N143 => jv_rv v (jv_J g (d + 1) mt_M_goRound 2 [some (.ref a0), some (.ref a1), some (.int x2), none] [] M143 N143 cr sr Z))) ∧ (¬ ((Prod.fst (jv_si M98 a1 (Int32.toNatClampNeg 77) (Prod.fst M98 a1 (Int32.toNatClampNeg 77))) a1 (Int32.toNatClampNeg (81 + (7 * x2)))) ≤ 2) → jv_Tg 11 a1 N98 ∧ vp_in 76 (jv_sh a1).2 ∧ ((Prod.fst (jv_si M98 a1 (Int32.toNatClampNeg 77) (Prod.fst M98 a1 (Int32.toNatClampNeg 77))) a1 (Int32.toNatClampNeg 76)) ≠ 0 → jv_Tg 11 a1 N98 ∧ vp_in 76 (jv_sh a1).2 ∧ jv_Tg 11 a1 N98 ∧ vp_in 76 (jv_sh a1).2 ∧ jv_Ct g d mt_M_dropOrder [.ref a1, .int x2] (jv_si (jv_si M98 a1 (Int32.toNatClampNeg 77) (Prod.fst M98 a1 (Int32.toNatClampNeg 77))) a1 (Int32.toNatClampNeg 76) (Prod.fst (jv_si M98 a1 (Int32.toNatClampNeg 77) (Prod.fst M98 a1 (Int32.toNatClampNeg 77))) a1 (Int32.toNatClampNeg 76))) N98 0 0 (fun v M151 N151 => jv_rv v (jv_J g (d + 1) mt_M_goRound 2 [some (.ref a0), some (.ref a1), some (.int x2), none] [] M151 N151 cr sr Z))) ∧ ((Prod.fst (jv_si M98 a1 (Int32.toNatClampNeg 77) (Prod.fst M98 a1 (Int32.toNatClampNeg 77))) a1 (Int32.toNatClampNeg 76)) = 0 → jv_Tg 11 a1 N98 ∧ vp_in ((81 + (7 * x2)) + 3) (jv_sh a1).2 ∧ jv_Tg 11 a1 N98 ∧ vp_in 76 (jv_sh a1).2 ∧ jv_Ct g d mt_M_dropOrder [.ref a1, .int x2] (jv_si (jv_si M98 a1 (Int32.toNatClampNeg 77) (Prod.fst M98 a1 (Int32.toNatClampNeg 77))) a1 (Int32.toNatClampNeg 76) (Prod.fst (jv_si M98 a1 (Int32.toNatClampNeg 77) (Prod.fst M98 a1 (Int32.toNatClampNeg 77))) a1 (Int32.toNatClampNeg ((81 + (7 * x2)) + 3)))) N98 0 0 (fun v M157 N157 => jv_rv v (jv_J g (d + 1) mt_M_goRound 2 [some (.ref a0), some (.ref a1), some (.int x2), none] [] M157 N157 cr sr Z))))) ∧ ((Prod.fst M98 a1 (Int32.toNatClampNeg ((81 + (7 * x2)) + 3))) = 0 → jv_Tg 11 a1 N98 ∧ vp_in ((81 + (7 * x2)) + 6) (jv_sh a1).2 ∧ jv_Tg 11 a1 N98 ∧ vp_in 77 (jv_sh a1).2 ∧ jv_Tg 11 a1 N98 ∧ vp_in (81 + (7 * x2)) (jv_sh a1).2 ∧ ((Prod.fst (jv_si M98 a1 (Int32.toNatClampNeg 77) (Prod.fst M98 a1 (Int32.toNatClampNeg ((81 + (7 * x2)) + 6)))) a1 (Int32.toNatClampNeg (81 + (7 * x2)))) ≤ 2 → jv_Tg 11 a1 N98 ∧ vp_in 76 (jv_sh a1).2 ∧ jv_Tg 11 a1 N98 ∧ vp_in 76 (jv_sh a1).2 ∧ jv_Ct g d mt_M_dropOrder [.ref a1, .int x2] (jv_si (jv_si M98 a1 (Int32.toNatClampNeg 77) (Prod.fst M98 a1 (Int32.toNatClampNeg ((81 + (7 * x2)) + 6)))) a1 (Int32.toNatClampNeg 76) (Prod.fst (jv_si M98 a1 (Int32.toNatClampNeg 77) (Prod.fst M98 a1 (Int32.toNatClampNeg ((81 + (7 * x2)) + 6)))) a1 (Int32.toNatClampNeg 76))) N98 0 0 (fun v M169 N169 => jv_rv v (jv_J g (d + 1) mt_M_goRound 2 [some (.ref a0), some (.ref a1), some (.int x2), none] [] M169 N169 cr sr Z))) ∧ (¬ ((Prod.fst (jv_si M98 a1 (Int32.toNatClampNeg 77) (Prod.fst M98 a1 (Int32.toNatClampNeg ((81 + (7 * x2)) + 6)))) a1 (Int32.toNatClampNeg (81 + (7 * x2)))) ≤ 2) → jv_Tg 11 a1 N98 ∧ vp_in 76 (jv_sh a1).2 ∧ ((Prod.fst (jv_si M98 a1 (Int32.toNatClampNeg 77) (Prod.fst M98 a1 (Int32.toNatClampNeg ((81 + (7 * x2)) + 6)))) a1 (Int32.toNatClampNeg 76)) ≠ 0 → jv_Tg 11 a1 N98 ∧ vp_in 76 (jv_sh a1).2 ∧ jv_Tg 11 a1 N98 ∧ vp_in 76 (jv_sh a1).2 ∧ jv_Ct g d mt_M_dropOrder [.ref a1, .int x2] (jv_si (jv_si M98 a1 (Int32.toNatClampNeg 77) (Prod.fst M98 a1 (Int32.toNatClampNeg ((81 + (7 * x2)) + 6)))) a1 (Int32.toNatClampNeg 76) (Prod.fst (jv_si M98 a1 (Int32.toNatClampNeg 77) (Prod.fst M98 a1 (Int32.toNatClampNeg ((81 + (7 * x2)) + 6)))) a1 (Int32.toNatClampNeg 76))) N98 0 0 (fun v M177 N177 => jv_rv v (jv_J g (d + 1) mt_M_goRound 2 [some (.ref a0), some (.ref a1), some (.int x2), none] [] M177 N177 cr sr Z))) ∧ ((Prod.fst (jv_si M98 a1 (Int32.toNatClampNeg 77) (Prod.fst M98 a1 (Int32.toNatClampNeg ((81 + (7 * x2)) + 6)))) a1 (Int32.toNatClampNeg 76)) = 0 → jv_Tg 11 a1 N98 ∧ vp_in ((81 + (7 * x2)) + 3) (jv_sh a1).2 ∧ jv_Tg 11 a1 N98 ∧ vp_in 76 (jv_sh a1).2 ∧ jv_Ct g d mt_M_dropOrder [.ref a1, .int x2] (jv_si (jv_si M98 a1 (Int32.toNatClampNeg 77) (Prod.fst M98 a1 (Int32.toNatClampNeg ((81 + (7 * x2)) + 6)))) a1 (Int32.toNatClampNeg 76) (Prod.fst (jv_si M98 a1 (Int32.toNatClampNeg 77) (Prod.fst M98 a1 (Int32.toNatClampNeg ((81 + (7 * x2)) + 6)))) a1 (Int32.toNatClampNeg ((81 + (7 * x2)) + 3)))) N98 0 0 (fun v M183 N183 => jv_rv v (jv_J g (d + 1) mt_M_goRound 2 [some (.ref a0), some (.ref a1), some (.int x2), none] [] M183 N183 cr sr Z)))))))))))) : jv_J g (d + 1) mt_M_goRound 2 [some (.ref a0), some (.ref a1), some (.int x2), none] [] M N cr sr Z := by
  refine jv_iload_n d_M_goRound_2 rfl rfl ?_
  refine jv_aload_n d_M_goRound_3 rfl rfl ?_
  refine jv_bipush (v := 80) d_M_goRound_4 (by decide) ?_
  obtain ⟨q1, q2, h⟩ := h
  refine jv_iald d_M_goRound_6 q1 q2 ?_
  refine jv_icmp_ge (tgt := 138) d_M_goRound_7 (by decide) ⟨fun c => ?_, fun c => ?_⟩
  · replace h := h.1 c
    exact jv_ret d_M_goRound_138 rfl h
  · replace h := h.2 c
    refine jv_bipush (v := 81) d_M_goRound_10 (by decide) ?_
    refine jv_bipush (v := 7) d_M_goRound_12 (by decide) ?_
    refine jv_iload_n d_M_goRound_14 rfl rfl ?_
    refine jv_imul d_M_goRound_15 ?_
    refine jv_iadd d_M_goRound_16 ?_
    refine jv_istore_n (L' := [some (.ref a0), some (.ref a1), some (.int x2), some (.int (81 + (7 * x2)))]) d_M_goRound_17 rfl (Nat.le_of_ble_eq_true rfl) rfl ?_
    refine jv_aload_n d_M_goRound_18 rfl rfl ?_
    refine jv_iload_n d_M_goRound_19 rfl rfl ?_
    refine jv_iconst (v := 2) d_M_goRound_20 (by decide) ?_
    refine jv_iadd d_M_goRound_21 ?_
    refine jv_dup2 d_M_goRound_22 rfl rfl ?_
    obtain ⟨q3, q4, h⟩ := h
    refine jv_iald d_M_goRound_23 q3 q4 ?_
    refine jv_iconst (v := 1) d_M_goRound_24 (by decide) ?_
    refine jv_iadd d_M_goRound_25 ?_
    obtain ⟨q5, q6, h⟩ := h
    refine jv_iast d_M_goRound_26 q5 q6 ?_
    refine jv_aload_n d_M_goRound_27 rfl rfl ?_
    refine jv_iload_n d_M_goRound_28 rfl rfl ?_
    refine jv_iconst (v := 2) d_M_goRound_29 (by decide) ?_
    refine jv_iadd d_M_goRound_30 ?_
    obtain ⟨q7, q8, h⟩ := h
    refine jv_iald d_M_goRound_31 q7 q8 ?_
    refine jv_aload_n d_M_goRound_32 rfl rfl ?_
    refine jv_iload_n d_M_goRound_33 rfl rfl ?_
    refine jv_iconst (v := 1) d_M_goRound_34 (by decide) ?_
    refine jv_iadd d_M_goRound_35 ?_
    obtain ⟨q9, q10, h⟩ := h
    refine jv_iald d_M_goRound_36 q9 q10 ?_
    refine jv_iconst (v := 1) d_M_goRound_37 (by decide) ?_
    refine jv_iadd d_M_goRound_38 ?_
    refine jv_icmp_ne (tgt := 48) d_M_goRound_39 (by decide) ⟨fun c => ?_, fun c => ?_⟩
    · replace h := h.1 c
      refine jv_aload_n d_M_goRound_48 rfl rfl ?_
      refine jv_iload_n d_M_goRound_49 rfl rfl ?_
      refine jv_iconst (v := 2) d_M_goRound_50 (by decide) ?_
      refine jv_iadd d_M_goRound_51 ?_
      obtain ⟨q11, q12, h⟩ := h
      refine jv_iald d_M_goRound_52 q11 q12 ?_
      refine jv_aload_n d_M_goRound_53 rfl rfl ?_
      obtain ⟨q13, h⟩ := h
      refine jv_getI d_M_goRound_54 fl_M_78 rfl q13 ?_
      refine jv_iconst (v := 1) d_M_goRound_57 (by decide) ?_
      refine jv_iadd d_M_goRound_58 ?_
      refine jv_icmp_ne (tgt := 132) d_M_goRound_59 (by decide) ⟨fun c => ?_, fun c => ?_⟩
      · replace h := h.1 c
        refine jv_iinc (v := (x2 + 1)) (L' := [some (.ref a0), some (.ref a1), some (.int (x2 + 1)), some (.int (81 + (7 * x2)))]) d_M_goRound_132 rfl rfl (Nat.le_of_ble_eq_true rfl) rfl ?_
        refine jv_goto (tgt := 2) d_M_goRound_135 (by decide) ?_
        refine jv_weak (L' := [some (.ref a0), some (.ref a1), some (.int (x2 + 1)), none]) (by simp [jv_le]) ?_
        exact h
      · replace h := h.2 c
        refine jv_aload_n d_M_goRound_62 rfl rfl ?_
        refine jv_bipush (v := 77) d_M_goRound_63 (by decide) ?_
        refine jv_aload_n d_M_goRound_65 rfl rfl ?_
        refine jv_iload_n d_M_goRound_66 rfl rfl ?_
        obtain ⟨q14, q15, h⟩ := h
        refine jv_iald d_M_goRound_67 q14 q15 ?_
        refine jv_iconst (v := 3) d_M_goRound_68 (by decide) ?_
        refine jv_icmp_ne (tgt := 89) d_M_goRound_69 (by decide) ⟨fun c => ?_, fun c => ?_⟩
        · replace h := h.1 c
          refine jv_aload_n d_M_goRound_89 rfl rfl ?_
          refine jv_bipush (v := 77) d_M_goRound_90 (by decide) ?_
          obtain ⟨q16, q17, h⟩ := h
          refine jv_iald d_M_goRound_92 q16 q17 ?_
          obtain ⟨q18, q19, h⟩ := h
          refine jv_iast d_M_goRound_93 q18 q19 ?_
          refine jv_aload_n d_M_goRound_94 rfl rfl ?_
          refine jv_bipush (v := 76) d_M_goRound_95 (by decide) ?_
          refine jv_aload_n d_M_goRound_97 rfl rfl ?_
          refine jv_iload_n d_M_goRound_98 rfl rfl ?_
          obtain ⟨q20, q21, h⟩ := h
          refine jv_iald d_M_goRound_99 q20 q21 ?_
          refine jv_iconst (v := 2) d_M_goRound_100 (by decide) ?_
          refine jv_icmp_le (tgt := 119) d_M_goRound_101 (by decide) ⟨fun c => ?_, fun c => ?_⟩
          · replace h := h.1 c
            refine jv_aload_n d_M_goRound_119 rfl rfl ?_
            refine jv_bipush (v := 76) d_M_goRound_120 (by decide) ?_
            obtain ⟨q22, q23, h⟩ := h
            refine jv_iald d_M_goRound_122 q22 q23 ?_
            obtain ⟨q24, q25, h⟩ := h
            refine jv_iast d_M_goRound_123 q24 q25 ?_
            refine jv_aload_n d_M_goRound_124 rfl rfl ?_
            refine jv_iload_n d_M_goRound_125 rfl rfl ?_
            refine jv_invS [.ref a1, .int x2] [] d_M_goRound_126 ml_M_172 rfl (Nat.le_of_ble_eq_true rfl) (Nat.zero_add _) (Nat.zero_add _) (jv_Ct.mono h (fun v M27 N27 h => ?_))
            obtain ⟨rfl, h⟩ := h
            change jv_J g (d + 1) mt_M_goRound 129 [some (.ref a0), some (.ref a1), some (.int x2), some (.int (81 + (7 * x2)))] [] M27 N27 cr sr Z
            refine jv_goto (tgt := 135) d_M_goRound_129 (by decide) ?_
            refine jv_goto (tgt := 2) d_M_goRound_135 (by decide) ?_
            refine jv_weak (L' := [some (.ref a0), some (.ref a1), some (.int x2), none]) (by simp [jv_le]) ?_
            exact h
          · replace h := h.2 c
            refine jv_aload_n d_M_goRound_104 rfl rfl ?_
            refine jv_bipush (v := 76) d_M_goRound_105 (by decide) ?_
            obtain ⟨q28, q29, h⟩ := h
            refine jv_iald d_M_goRound_107 q28 q29 ?_
            refine jv_if_ne (tgt := 119) d_M_goRound_108 (by decide) ⟨fun c => ?_, fun c => ?_⟩
            · replace h := h.1 c
              refine jv_aload_n d_M_goRound_119 rfl rfl ?_
              refine jv_bipush (v := 76) d_M_goRound_120 (by decide) ?_
              obtain ⟨q30, q31, h⟩ := h
              refine jv_iald d_M_goRound_122 q30 q31 ?_
              obtain ⟨q32, q33, h⟩ := h
              refine jv_iast d_M_goRound_123 q32 q33 ?_
              refine jv_aload_n d_M_goRound_124 rfl rfl ?_
              refine jv_iload_n d_M_goRound_125 rfl rfl ?_
              refine jv_invS [.ref a1, .int x2] [] d_M_goRound_126 ml_M_172 rfl (Nat.le_of_ble_eq_true rfl) (Nat.zero_add _) (Nat.zero_add _) (jv_Ct.mono h (fun v M35 N35 h => ?_))
              obtain ⟨rfl, h⟩ := h
              change jv_J g (d + 1) mt_M_goRound 129 [some (.ref a0), some (.ref a1), some (.int x2), some (.int (81 + (7 * x2)))] [] M35 N35 cr sr Z
              refine jv_goto (tgt := 135) d_M_goRound_129 (by decide) ?_
              refine jv_goto (tgt := 2) d_M_goRound_135 (by decide) ?_
              refine jv_weak (L' := [some (.ref a0), some (.ref a1), some (.int x2), none]) (by simp [jv_le]) ?_
              exact h
            · replace h := h.2 c
              refine jv_aload_n d_M_goRound_111 rfl rfl ?_
              refine jv_iload_n d_M_goRound_112 rfl rfl ?_
              refine jv_iconst (v := 3) d_M_goRound_113 (by decide) ?_
              refine jv_iadd d_M_goRound_114 ?_
              obtain ⟨q36, q37, h⟩ := h
              refine jv_iald d_M_goRound_115 q36 q37 ?_
              refine jv_goto (tgt := 123) d_M_goRound_116 (by decide) ?_
              obtain ⟨q38, q39, h⟩ := h
              refine jv_iast d_M_goRound_123 q38 q39 ?_
              refine jv_aload_n d_M_goRound_124 rfl rfl ?_
              refine jv_iload_n d_M_goRound_125 rfl rfl ?_
              refine jv_invS [.ref a1, .int x2] [] d_M_goRound_126 ml_M_172 rfl (Nat.le_of_ble_eq_true rfl) (Nat.zero_add _) (Nat.zero_add _) (jv_Ct.mono h (fun v M41 N41 h => ?_))
              obtain ⟨rfl, h⟩ := h
              change jv_J g (d + 1) mt_M_goRound 129 [some (.ref a0), some (.ref a1), some (.int x2), some (.int (81 + (7 * x2)))] [] M41 N41 cr sr Z
              refine jv_goto (tgt := 135) d_M_goRound_129 (by decide) ?_
              refine jv_goto (tgt := 2) d_M_goRound_135 (by decide) ?_
              refine jv_weak (L' := [some (.ref a0), some (.ref a1), some (.int x2), none]) (by simp [jv_le]) ?_
              exact h
        · replace h := h.2 c
          refine jv_aload_n d_M_goRound_72 rfl rfl ?_
          refine jv_iload_n d_M_goRound_73 rfl rfl ?_
          refine jv_iconst (v := 3) d_M_goRound_74 (by decide) ?_
          refine jv_iadd d_M_goRound_75 ?_
          obtain ⟨q42, q43, h⟩ := h
          refine jv_iald d_M_goRound_76 q42 q43 ?_
          refine jv_if_ne (tgt := 89) d_M_goRound_77 (by decide) ⟨fun c => ?_, fun c => ?_⟩
          · replace h := h.1 c
            refine jv_aload_n d_M_goRound_89 rfl rfl ?_
            refine jv_bipush (v := 77) d_M_goRound_90 (by decide) ?_
            obtain ⟨q44, q45, h⟩ := h
            refine jv_iald d_M_goRound_92 q44 q45 ?_
            obtain ⟨q46, q47, h⟩ := h
            refine jv_iast d_M_goRound_93 q46 q47 ?_
            refine jv_aload_n d_M_goRound_94 rfl rfl ?_
            refine jv_bipush (v := 76) d_M_goRound_95 (by decide) ?_
            refine jv_aload_n d_M_goRound_97 rfl rfl ?_
            refine jv_iload_n d_M_goRound_98 rfl rfl ?_
            obtain ⟨q48, q49, h⟩ := h
            refine jv_iald d_M_goRound_99 q48 q49 ?_
            refine jv_iconst (v := 2) d_M_goRound_100 (by decide) ?_
            refine jv_icmp_le (tgt := 119) d_M_goRound_101 (by decide) ⟨fun c => ?_, fun c => ?_⟩
            · replace h := h.1 c
              refine jv_aload_n d_M_goRound_119 rfl rfl ?_
              refine jv_bipush (v := 76) d_M_goRound_120 (by decide) ?_
              obtain ⟨q50, q51, h⟩ := h
              refine jv_iald d_M_goRound_122 q50 q51 ?_
              obtain ⟨q52, q53, h⟩ := h
              refine jv_iast d_M_goRound_123 q52 q53 ?_
              refine jv_aload_n d_M_goRound_124 rfl rfl ?_
              refine jv_iload_n d_M_goRound_125 rfl rfl ?_
              refine jv_invS [.ref a1, .int x2] [] d_M_goRound_126 ml_M_172 rfl (Nat.le_of_ble_eq_true rfl) (Nat.zero_add _) (Nat.zero_add _) (jv_Ct.mono h (fun v M55 N55 h => ?_))
              obtain ⟨rfl, h⟩ := h
              change jv_J g (d + 1) mt_M_goRound 129 [some (.ref a0), some (.ref a1), some (.int x2), some (.int (81 + (7 * x2)))] [] M55 N55 cr sr Z
              refine jv_goto (tgt := 135) d_M_goRound_129 (by decide) ?_
              refine jv_goto (tgt := 2) d_M_goRound_135 (by decide) ?_
              refine jv_weak (L' := [some (.ref a0), some (.ref a1), some (.int x2), none]) (by simp [jv_le]) ?_
              exact h
            · replace h := h.2 c
              refine jv_aload_n d_M_goRound_104 rfl rfl ?_
              refine jv_bipush (v := 76) d_M_goRound_105 (by decide) ?_
              obtain ⟨q56, q57, h⟩ := h
              refine jv_iald d_M_goRound_107 q56 q57 ?_
              refine jv_if_ne (tgt := 119) d_M_goRound_108 (by decide) ⟨fun c => ?_, fun c => ?_⟩
              · replace h := h.1 c
                refine jv_aload_n d_M_goRound_119 rfl rfl ?_
                refine jv_bipush (v := 76) d_M_goRound_120 (by decide) ?_
                obtain ⟨q58, q59, h⟩ := h
                refine jv_iald d_M_goRound_122 q58 q59 ?_
                obtain ⟨q60, q61, h⟩ := h
                refine jv_iast d_M_goRound_123 q60 q61 ?_
                refine jv_aload_n d_M_goRound_124 rfl rfl ?_
                refine jv_iload_n d_M_goRound_125 rfl rfl ?_
                refine jv_invS [.ref a1, .int x2] [] d_M_goRound_126 ml_M_172 rfl (Nat.le_of_ble_eq_true rfl) (Nat.zero_add _) (Nat.zero_add _) (jv_Ct.mono h (fun v M63 N63 h => ?_))
                obtain ⟨rfl, h⟩ := h
                change jv_J g (d + 1) mt_M_goRound 129 [some (.ref a0), some (.ref a1), some (.int x2), some (.int (81 + (7 * x2)))] [] M63 N63 cr sr Z
                refine jv_goto (tgt := 135) d_M_goRound_129 (by decide) ?_
                refine jv_goto (tgt := 2) d_M_goRound_135 (by decide) ?_
                refine jv_weak (L' := [some (.ref a0), some (.ref a1), some (.int x2), none]) (by simp [jv_le]) ?_
                exact h
              · replace h := h.2 c
                refine jv_aload_n d_M_goRound_111 rfl rfl ?_
                refine jv_iload_n d_M_goRound_112 rfl rfl ?_
                refine jv_iconst (v := 3) d_M_goRound_113 (by decide) ?_
                refine jv_iadd d_M_goRound_114 ?_
                obtain ⟨q64, q65, h⟩ := h
                refine jv_iald d_M_goRound_115 q64 q65 ?_
                refine jv_goto (tgt := 123) d_M_goRound_116 (by decide) ?_
                obtain ⟨q66, q67, h⟩ := h
                refine jv_iast d_M_goRound_123 q66 q67 ?_
                refine jv_aload_n d_M_goRound_124 rfl rfl ?_
                refine jv_iload_n d_M_goRound_125 rfl rfl ?_
                refine jv_invS [.ref a1, .int x2] [] d_M_goRound_126 ml_M_172 rfl (Nat.le_of_ble_eq_true rfl) (Nat.zero_add _) (Nat.zero_add _) (jv_Ct.mono h (fun v M69 N69 h => ?_))
                obtain ⟨rfl, h⟩ := h
                change jv_J g (d + 1) mt_M_goRound 129 [some (.ref a0), some (.ref a1), some (.int x2), some (.int (81 + (7 * x2)))] [] M69 N69 cr sr Z
                refine jv_goto (tgt := 135) d_M_goRound_129 (by decide) ?_
                refine jv_goto (tgt := 2) d_M_goRound_135 (by decide) ?_
                refine jv_weak (L' := [some (.ref a0), some (.ref a1), some (.int x2), none]) (by simp [jv_le]) ?_
                exact h
          · replace h := h.2 c
            refine jv_aload_n d_M_goRound_80 rfl rfl ?_
            refine jv_iload_n d_M_goRound_81 rfl rfl ?_
            refine jv_bipush (v := 6) d_M_goRound_82 (by decide) ?_
            refine jv_iadd d_M_goRound_84 ?_
            obtain ⟨q70, q71, h⟩ := h
            refine jv_iald d_M_goRound_85 q70 q71 ?_
            refine jv_goto (tgt := 93) d_M_goRound_86 (by decide) ?_
            obtain ⟨q72, q73, h⟩ := h
            refine jv_iast d_M_goRound_93 q72 q73 ?_
            refine jv_aload_n d_M_goRound_94 rfl rfl ?_
            refine jv_bipush (v := 76) d_M_goRound_95 (by decide) ?_
            refine jv_aload_n d_M_goRound_97 rfl rfl ?_
            refine jv_iload_n d_M_goRound_98 rfl rfl ?_
            obtain ⟨q74, q75, h⟩ := h
            refine jv_iald d_M_goRound_99 q74 q75 ?_
            refine jv_iconst (v := 2) d_M_goRound_100 (by decide) ?_
            refine jv_icmp_le (tgt := 119) d_M_goRound_101 (by decide) ⟨fun c => ?_, fun c => ?_⟩
            · replace h := h.1 c
              refine jv_aload_n d_M_goRound_119 rfl rfl ?_
              refine jv_bipush (v := 76) d_M_goRound_120 (by decide) ?_
              obtain ⟨q76, q77, h⟩ := h
              refine jv_iald d_M_goRound_122 q76 q77 ?_
              obtain ⟨q78, q79, h⟩ := h
              refine jv_iast d_M_goRound_123 q78 q79 ?_
              refine jv_aload_n d_M_goRound_124 rfl rfl ?_
              refine jv_iload_n d_M_goRound_125 rfl rfl ?_
              refine jv_invS [.ref a1, .int x2] [] d_M_goRound_126 ml_M_172 rfl (Nat.le_of_ble_eq_true rfl) (Nat.zero_add _) (Nat.zero_add _) (jv_Ct.mono h (fun v M81 N81 h => ?_))
              obtain ⟨rfl, h⟩ := h
              change jv_J g (d + 1) mt_M_goRound 129 [some (.ref a0), some (.ref a1), some (.int x2), some (.int (81 + (7 * x2)))] [] M81 N81 cr sr Z
              refine jv_goto (tgt := 135) d_M_goRound_129 (by decide) ?_
              refine jv_goto (tgt := 2) d_M_goRound_135 (by decide) ?_
              refine jv_weak (L' := [some (.ref a0), some (.ref a1), some (.int x2), none]) (by simp [jv_le]) ?_
              exact h
            · replace h := h.2 c
              refine jv_aload_n d_M_goRound_104 rfl rfl ?_
              refine jv_bipush (v := 76) d_M_goRound_105 (by decide) ?_
              obtain ⟨q82, q83, h⟩ := h
              refine jv_iald d_M_goRound_107 q82 q83 ?_
              refine jv_if_ne (tgt := 119) d_M_goRound_108 (by decide) ⟨fun c => ?_, fun c => ?_⟩
              · replace h := h.1 c
                refine jv_aload_n d_M_goRound_119 rfl rfl ?_
                refine jv_bipush (v := 76) d_M_goRound_120 (by decide) ?_
                obtain ⟨q84, q85, h⟩ := h
                refine jv_iald d_M_goRound_122 q84 q85 ?_
                obtain ⟨q86, q87, h⟩ := h
                refine jv_iast d_M_goRound_123 q86 q87 ?_
                refine jv_aload_n d_M_goRound_124 rfl rfl ?_
                refine jv_iload_n d_M_goRound_125 rfl rfl ?_
                refine jv_invS [.ref a1, .int x2] [] d_M_goRound_126 ml_M_172 rfl (Nat.le_of_ble_eq_true rfl) (Nat.zero_add _) (Nat.zero_add _) (jv_Ct.mono h (fun v M89 N89 h => ?_))
                obtain ⟨rfl, h⟩ := h
                change jv_J g (d + 1) mt_M_goRound 129 [some (.ref a0), some (.ref a1), some (.int x2), some (.int (81 + (7 * x2)))] [] M89 N89 cr sr Z
                refine jv_goto (tgt := 135) d_M_goRound_129 (by decide) ?_
                refine jv_goto (tgt := 2) d_M_goRound_135 (by decide) ?_
                refine jv_weak (L' := [some (.ref a0), some (.ref a1), some (.int x2), none]) (by simp [jv_le]) ?_
                exact h
              · replace h := h.2 c
                refine jv_aload_n d_M_goRound_111 rfl rfl ?_
                refine jv_iload_n d_M_goRound_112 rfl rfl ?_
                refine jv_iconst (v := 3) d_M_goRound_113 (by decide) ?_
                refine jv_iadd d_M_goRound_114 ?_
                obtain ⟨q90, q91, h⟩ := h
                refine jv_iald d_M_goRound_115 q90 q91 ?_
                refine jv_goto (tgt := 123) d_M_goRound_116 (by decide) ?_
                obtain ⟨q92, q93, h⟩ := h
                refine jv_iast d_M_goRound_123 q92 q93 ?_
                refine jv_aload_n d_M_goRound_124 rfl rfl ?_
                refine jv_iload_n d_M_goRound_125 rfl rfl ?_
                refine jv_invS [.ref a1, .int x2] [] d_M_goRound_126 ml_M_172 rfl (Nat.le_of_ble_eq_true rfl) (Nat.zero_add _) (Nat.zero_add _) (jv_Ct.mono h (fun v M95 N95 h => ?_))
                obtain ⟨rfl, h⟩ := h
                change jv_J g (d + 1) mt_M_goRound 129 [some (.ref a0), some (.ref a1), some (.int x2), some (.int (81 + (7 * x2)))] [] M95 N95 cr sr Z
                refine jv_goto (tgt := 135) d_M_goRound_129 (by decide) ?_
                refine jv_goto (tgt := 2) d_M_goRound_135 (by decide) ?_
                refine jv_weak (L' := [some (.ref a0), some (.ref a1), some (.int x2), none]) (by simp [jv_le]) ?_
                exact h
    · replace h := h.2 c
      refine jv_aload_n d_M_goRound_42 rfl rfl ?_
      refine jv_aload_n d_M_goRound_43 rfl rfl ?_
      refine jv_iload_n d_M_goRound_44 rfl rfl ?_
      obtain ⟨q96, h⟩ := h
      refine jv_invV [.ref a1, .int x2] [] d_M_goRound_45 ml_M_169 q96 rfl (Nat.le_of_ble_eq_true rfl) (Nat.zero_add _) (Nat.zero_add _) (jv_Ct.mono h (fun v M98 N98 h => ?_))
      obtain ⟨rfl, h⟩ := h
      change jv_J g (d + 1) mt_M_goRound 48 [some (.ref a0), some (.ref a1), some (.int x2), some (.int (81 + (7 * x2)))] [] M98 N98 cr sr Z
      refine jv_aload_n d_M_goRound_48 rfl rfl ?_
      refine jv_iload_n d_M_goRound_49 rfl rfl ?_
      refine jv_iconst (v := 2) d_M_goRound_50 (by decide) ?_
      refine jv_iadd d_M_goRound_51 ?_
      obtain ⟨q99, q100, h⟩ := h
      refine jv_iald d_M_goRound_52 q99 q100 ?_
      refine jv_aload_n d_M_goRound_53 rfl rfl ?_
      obtain ⟨q101, h⟩ := h
      refine jv_getI d_M_goRound_54 fl_M_78 rfl q101 ?_
      refine jv_iconst (v := 1) d_M_goRound_57 (by decide) ?_
      refine jv_iadd d_M_goRound_58 ?_
      refine jv_icmp_ne (tgt := 132) d_M_goRound_59 (by decide) ⟨fun c => ?_, fun c => ?_⟩
      · replace h := h.1 c
        refine jv_iinc (v := (x2 + 1)) (L' := [some (.ref a0), some (.ref a1), some (.int (x2 + 1)), some (.int (81 + (7 * x2)))]) d_M_goRound_132 rfl rfl (Nat.le_of_ble_eq_true rfl) rfl ?_
        refine jv_goto (tgt := 2) d_M_goRound_135 (by decide) ?_
        refine jv_weak (L' := [some (.ref a0), some (.ref a1), some (.int (x2 + 1)), none]) (by simp [jv_le]) ?_
        exact h
      · replace h := h.2 c
        refine jv_aload_n d_M_goRound_62 rfl rfl ?_
        refine jv_bipush (v := 77) d_M_goRound_63 (by decide) ?_
        refine jv_aload_n d_M_goRound_65 rfl rfl ?_
        refine jv_iload_n d_M_goRound_66 rfl rfl ?_
        obtain ⟨q102, q103, h⟩ := h
        refine jv_iald d_M_goRound_67 q102 q103 ?_
        refine jv_iconst (v := 3) d_M_goRound_68 (by decide) ?_
        refine jv_icmp_ne (tgt := 89) d_M_goRound_69 (by decide) ⟨fun c => ?_, fun c => ?_⟩
        · replace h := h.1 c
          refine jv_aload_n d_M_goRound_89 rfl rfl ?_
          refine jv_bipush (v := 77) d_M_goRound_90 (by decide) ?_
          obtain ⟨q104, q105, h⟩ := h
          refine jv_iald d_M_goRound_92 q104 q105 ?_
          obtain ⟨q106, q107, h⟩ := h
          refine jv_iast d_M_goRound_93 q106 q107 ?_
          refine jv_aload_n d_M_goRound_94 rfl rfl ?_
          refine jv_bipush (v := 76) d_M_goRound_95 (by decide) ?_
          refine jv_aload_n d_M_goRound_97 rfl rfl ?_
          refine jv_iload_n d_M_goRound_98 rfl rfl ?_
          obtain ⟨q108, q109, h⟩ := h
          refine jv_iald d_M_goRound_99 q108 q109 ?_
          refine jv_iconst (v := 2) d_M_goRound_100 (by decide) ?_
          refine jv_icmp_le (tgt := 119) d_M_goRound_101 (by decide) ⟨fun c => ?_, fun c => ?_⟩
          · replace h := h.1 c
            refine jv_aload_n d_M_goRound_119 rfl rfl ?_
            refine jv_bipush (v := 76) d_M_goRound_120 (by decide) ?_
            obtain ⟨q110, q111, h⟩ := h
            refine jv_iald d_M_goRound_122 q110 q111 ?_
            obtain ⟨q112, q113, h⟩ := h
            refine jv_iast d_M_goRound_123 q112 q113 ?_
            refine jv_aload_n d_M_goRound_124 rfl rfl ?_
            refine jv_iload_n d_M_goRound_125 rfl rfl ?_
            refine jv_invS [.ref a1, .int x2] [] d_M_goRound_126 ml_M_172 rfl (Nat.le_of_ble_eq_true rfl) (Nat.zero_add _) (Nat.zero_add _) (jv_Ct.mono h (fun v M115 N115 h => ?_))
            obtain ⟨rfl, h⟩ := h
            change jv_J g (d + 1) mt_M_goRound 129 [some (.ref a0), some (.ref a1), some (.int x2), some (.int (81 + (7 * x2)))] [] M115 N115 cr sr Z
            refine jv_goto (tgt := 135) d_M_goRound_129 (by decide) ?_
            refine jv_goto (tgt := 2) d_M_goRound_135 (by decide) ?_
            refine jv_weak (L' := [some (.ref a0), some (.ref a1), some (.int x2), none]) (by simp [jv_le]) ?_
            exact h
          · replace h := h.2 c
            refine jv_aload_n d_M_goRound_104 rfl rfl ?_
            refine jv_bipush (v := 76) d_M_goRound_105 (by decide) ?_
            obtain ⟨q116, q117, h⟩ := h
            refine jv_iald d_M_goRound_107 q116 q117 ?_
            refine jv_if_ne (tgt := 119) d_M_goRound_108 (by decide) ⟨fun c => ?_, fun c => ?_⟩
            · replace h := h.1 c
              refine jv_aload_n d_M_goRound_119 rfl rfl ?_
              refine jv_bipush (v := 76) d_M_goRound_120 (by decide) ?_
              obtain ⟨q118, q119, h⟩ := h
              refine jv_iald d_M_goRound_122 q118 q119 ?_
              obtain ⟨q120, q121, h⟩ := h
              refine jv_iast d_M_goRound_123 q120 q121 ?_
              refine jv_aload_n d_M_goRound_124 rfl rfl ?_
              refine jv_iload_n d_M_goRound_125 rfl rfl ?_
              refine jv_invS [.ref a1, .int x2] [] d_M_goRound_126 ml_M_172 rfl (Nat.le_of_ble_eq_true rfl) (Nat.zero_add _) (Nat.zero_add _) (jv_Ct.mono h (fun v M123 N123 h => ?_))
              obtain ⟨rfl, h⟩ := h
              change jv_J g (d + 1) mt_M_goRound 129 [some (.ref a0), some (.ref a1), some (.int x2), some (.int (81 + (7 * x2)))] [] M123 N123 cr sr Z
              refine jv_goto (tgt := 135) d_M_goRound_129 (by decide) ?_
              refine jv_goto (tgt := 2) d_M_goRound_135 (by decide) ?_
              refine jv_weak (L' := [some (.ref a0), some (.ref a1), some (.int x2), none]) (by simp [jv_le]) ?_
              exact h
            · replace h := h.2 c
              refine jv_aload_n d_M_goRound_111 rfl rfl ?_
              refine jv_iload_n d_M_goRound_112 rfl rfl ?_
              refine jv_iconst (v := 3) d_M_goRound_113 (by decide) ?_
              refine jv_iadd d_M_goRound_114 ?_
              obtain ⟨q124, q125, h⟩ := h
              refine jv_iald d_M_goRound_115 q124 q125 ?_
              refine jv_goto (tgt := 123) d_M_goRound_116 (by decide) ?_
              obtain ⟨q126, q127, h⟩ := h
              refine jv_iast d_M_goRound_123 q126 q127 ?_
              refine jv_aload_n d_M_goRound_124 rfl rfl ?_
              refine jv_iload_n d_M_goRound_125 rfl rfl ?_
              refine jv_invS [.ref a1, .int x2] [] d_M_goRound_126 ml_M_172 rfl (Nat.le_of_ble_eq_true rfl) (Nat.zero_add _) (Nat.zero_add _) (jv_Ct.mono h (fun v M129 N129 h => ?_))
              obtain ⟨rfl, h⟩ := h
              change jv_J g (d + 1) mt_M_goRound 129 [some (.ref a0), some (.ref a1), some (.int x2), some (.int (81 + (7 * x2)))] [] M129 N129 cr sr Z
              refine jv_goto (tgt := 135) d_M_goRound_129 (by decide) ?_
              refine jv_goto (tgt := 2) d_M_goRound_135 (by decide) ?_
              refine jv_weak (L' := [some (.ref a0), some (.ref a1), some (.int x2), none]) (by simp [jv_le]) ?_
              exact h
        · replace h := h.2 c
          refine jv_aload_n d_M_goRound_72 rfl rfl ?_
          refine jv_iload_n d_M_goRound_73 rfl rfl ?_
          refine jv_iconst (v := 3) d_M_goRound_74 (by decide) ?_
          refine jv_iadd d_M_goRound_75 ?_
          obtain ⟨q130, q131, h⟩ := h
          refine jv_iald d_M_goRound_76 q130 q131 ?_
          refine jv_if_ne (tgt := 89) d_M_goRound_77 (by decide) ⟨fun c => ?_, fun c => ?_⟩
          · replace h := h.1 c
            refine jv_aload_n d_M_goRound_89 rfl rfl ?_
            refine jv_bipush (v := 77) d_M_goRound_90 (by decide) ?_
            obtain ⟨q132, q133, h⟩ := h
            refine jv_iald d_M_goRound_92 q132 q133 ?_
            obtain ⟨q134, q135, h⟩ := h
            refine jv_iast d_M_goRound_93 q134 q135 ?_
            refine jv_aload_n d_M_goRound_94 rfl rfl ?_
            refine jv_bipush (v := 76) d_M_goRound_95 (by decide) ?_
            refine jv_aload_n d_M_goRound_97 rfl rfl ?_
            refine jv_iload_n d_M_goRound_98 rfl rfl ?_
            obtain ⟨q136, q137, h⟩ := h
            refine jv_iald d_M_goRound_99 q136 q137 ?_
            refine jv_iconst (v := 2) d_M_goRound_100 (by decide) ?_
            refine jv_icmp_le (tgt := 119) d_M_goRound_101 (by decide) ⟨fun c => ?_, fun c => ?_⟩
            · replace h := h.1 c
              refine jv_aload_n d_M_goRound_119 rfl rfl ?_
              refine jv_bipush (v := 76) d_M_goRound_120 (by decide) ?_
              obtain ⟨q138, q139, h⟩ := h
              refine jv_iald d_M_goRound_122 q138 q139 ?_
              obtain ⟨q140, q141, h⟩ := h
              refine jv_iast d_M_goRound_123 q140 q141 ?_
              refine jv_aload_n d_M_goRound_124 rfl rfl ?_
              refine jv_iload_n d_M_goRound_125 rfl rfl ?_
              refine jv_invS [.ref a1, .int x2] [] d_M_goRound_126 ml_M_172 rfl (Nat.le_of_ble_eq_true rfl) (Nat.zero_add _) (Nat.zero_add _) (jv_Ct.mono h (fun v M143 N143 h => ?_))
              obtain ⟨rfl, h⟩ := h
              change jv_J g (d + 1) mt_M_goRound 129 [some (.ref a0), some (.ref a1), some (.int x2), some (.int (81 + (7 * x2)))] [] M143 N143 cr sr Z
              refine jv_goto (tgt := 135) d_M_goRound_129 (by decide) ?_
              refine jv_goto (tgt := 2) d_M_goRound_135 (by decide) ?_
              refine jv_weak (L' := [some (.ref a0), some (.ref a1), some (.int x2), none]) (by simp [jv_le]) ?_
              exact h
            · replace h := h.2 c
              refine jv_aload_n d_M_goRound_104 rfl rfl ?_
              refine jv_bipush (v := 76) d_M_goRound_105 (by decide) ?_
              obtain ⟨q144, q145, h⟩ := h
              refine jv_iald d_M_goRound_107 q144 q145 ?_
              refine jv_if_ne (tgt := 119) d_M_goRound_108 (by decide) ⟨fun c => ?_, fun c => ?_⟩
              · replace h := h.1 c
                refine jv_aload_n d_M_goRound_119 rfl rfl ?_
                refine jv_bipush (v := 76) d_M_goRound_120 (by decide) ?_
                obtain ⟨q146, q147, h⟩ := h
                refine jv_iald d_M_goRound_122 q146 q147 ?_
                obtain ⟨q148, q149, h⟩ := h
                refine jv_iast d_M_goRound_123 q148 q149 ?_
                refine jv_aload_n d_M_goRound_124 rfl rfl ?_
                refine jv_iload_n d_M_goRound_125 rfl rfl ?_
                refine jv_invS [.ref a1, .int x2] [] d_M_goRound_126 ml_M_172 rfl (Nat.le_of_ble_eq_true rfl) (Nat.zero_add _) (Nat.zero_add _) (jv_Ct.mono h (fun v M151 N151 h => ?_))
                obtain ⟨rfl, h⟩ := h
                change jv_J g (d + 1) mt_M_goRound 129 [some (.ref a0), some (.ref a1), some (.int x2), some (.int (81 + (7 * x2)))] [] M151 N151 cr sr Z
                refine jv_goto (tgt := 135) d_M_goRound_129 (by decide) ?_
                refine jv_goto (tgt := 2) d_M_goRound_135 (by decide) ?_
                refine jv_weak (L' := [some (.ref a0), some (.ref a1), some (.int x2), none]) (by simp [jv_le]) ?_
                exact h
              · replace h := h.2 c
                refine jv_aload_n d_M_goRound_111 rfl rfl ?_
                refine jv_iload_n d_M_goRound_112 rfl rfl ?_
                refine jv_iconst (v := 3) d_M_goRound_113 (by decide) ?_
                refine jv_iadd d_M_goRound_114 ?_
                obtain ⟨q152, q153, h⟩ := h
                refine jv_iald d_M_goRound_115 q152 q153 ?_
                refine jv_goto (tgt := 123) d_M_goRound_116 (by decide) ?_
                obtain ⟨q154, q155, h⟩ := h
                refine jv_iast d_M_goRound_123 q154 q155 ?_
                refine jv_aload_n d_M_goRound_124 rfl rfl ?_
                refine jv_iload_n d_M_goRound_125 rfl rfl ?_
                refine jv_invS [.ref a1, .int x2] [] d_M_goRound_126 ml_M_172 rfl (Nat.le_of_ble_eq_true rfl) (Nat.zero_add _) (Nat.zero_add _) (jv_Ct.mono h (fun v M157 N157 h => ?_))
                obtain ⟨rfl, h⟩ := h
                change jv_J g (d + 1) mt_M_goRound 129 [some (.ref a0), some (.ref a1), some (.int x2), some (.int (81 + (7 * x2)))] [] M157 N157 cr sr Z
                refine jv_goto (tgt := 135) d_M_goRound_129 (by decide) ?_
                refine jv_goto (tgt := 2) d_M_goRound_135 (by decide) ?_
                refine jv_weak (L' := [some (.ref a0), some (.ref a1), some (.int x2), none]) (by simp [jv_le]) ?_
                exact h
          · replace h := h.2 c
            refine jv_aload_n d_M_goRound_80 rfl rfl ?_
            refine jv_iload_n d_M_goRound_81 rfl rfl ?_
            refine jv_bipush (v := 6) d_M_goRound_82 (by decide) ?_
            refine jv_iadd d_M_goRound_84 ?_
            obtain ⟨q158, q159, h⟩ := h
            refine jv_iald d_M_goRound_85 q158 q159 ?_
            refine jv_goto (tgt := 93) d_M_goRound_86 (by decide) ?_
            obtain ⟨q160, q161, h⟩ := h
            refine jv_iast d_M_goRound_93 q160 q161 ?_
            refine jv_aload_n d_M_goRound_94 rfl rfl ?_
            refine jv_bipush (v := 76) d_M_goRound_95 (by decide) ?_
            refine jv_aload_n d_M_goRound_97 rfl rfl ?_
            refine jv_iload_n d_M_goRound_98 rfl rfl ?_
            obtain ⟨q162, q163, h⟩ := h
            refine jv_iald d_M_goRound_99 q162 q163 ?_
            refine jv_iconst (v := 2) d_M_goRound_100 (by decide) ?_
            refine jv_icmp_le (tgt := 119) d_M_goRound_101 (by decide) ⟨fun c => ?_, fun c => ?_⟩
            · replace h := h.1 c
              refine jv_aload_n d_M_goRound_119 rfl rfl ?_
              refine jv_bipush (v := 76) d_M_goRound_120 (by decide) ?_
              obtain ⟨q164, q165, h⟩ := h
              refine jv_iald d_M_goRound_122 q164 q165 ?_
              obtain ⟨q166, q167, h⟩ := h
              refine jv_iast d_M_goRound_123 q166 q167 ?_
              refine jv_aload_n d_M_goRound_124 rfl rfl ?_
              refine jv_iload_n d_M_goRound_125 rfl rfl ?_
              refine jv_invS [.ref a1, .int x2] [] d_M_goRound_126 ml_M_172 rfl (Nat.le_of_ble_eq_true rfl) (Nat.zero_add _) (Nat.zero_add _) (jv_Ct.mono h (fun v M169 N169 h => ?_))
              obtain ⟨rfl, h⟩ := h
              change jv_J g (d + 1) mt_M_goRound 129 [some (.ref a0), some (.ref a1), some (.int x2), some (.int (81 + (7 * x2)))] [] M169 N169 cr sr Z
              refine jv_goto (tgt := 135) d_M_goRound_129 (by decide) ?_
              refine jv_goto (tgt := 2) d_M_goRound_135 (by decide) ?_
              refine jv_weak (L' := [some (.ref a0), some (.ref a1), some (.int x2), none]) (by simp [jv_le]) ?_
              exact h
            · replace h := h.2 c
              refine jv_aload_n d_M_goRound_104 rfl rfl ?_
              refine jv_bipush (v := 76) d_M_goRound_105 (by decide) ?_
              obtain ⟨q170, q171, h⟩ := h
              refine jv_iald d_M_goRound_107 q170 q171 ?_
              refine jv_if_ne (tgt := 119) d_M_goRound_108 (by decide) ⟨fun c => ?_, fun c => ?_⟩
              · replace h := h.1 c
                refine jv_aload_n d_M_goRound_119 rfl rfl ?_
                refine jv_bipush (v := 76) d_M_goRound_120 (by decide) ?_
                obtain ⟨q172, q173, h⟩ := h
                refine jv_iald d_M_goRound_122 q172 q173 ?_
                obtain ⟨q174, q175, h⟩ := h
                refine jv_iast d_M_goRound_123 q174 q175 ?_
                refine jv_aload_n d_M_goRound_124 rfl rfl ?_
                refine jv_iload_n d_M_goRound_125 rfl rfl ?_
                refine jv_invS [.ref a1, .int x2] [] d_M_goRound_126 ml_M_172 rfl (Nat.le_of_ble_eq_true rfl) (Nat.zero_add _) (Nat.zero_add _) (jv_Ct.mono h (fun v M177 N177 h => ?_))
                obtain ⟨rfl, h⟩ := h
                change jv_J g (d + 1) mt_M_goRound 129 [some (.ref a0), some (.ref a1), some (.int x2), some (.int (81 + (7 * x2)))] [] M177 N177 cr sr Z
                refine jv_goto (tgt := 135) d_M_goRound_129 (by decide) ?_
                refine jv_goto (tgt := 2) d_M_goRound_135 (by decide) ?_
                refine jv_weak (L' := [some (.ref a0), some (.ref a1), some (.int x2), none]) (by simp [jv_le]) ?_
                exact h
              · replace h := h.2 c
                refine jv_aload_n d_M_goRound_111 rfl rfl ?_
                refine jv_iload_n d_M_goRound_112 rfl rfl ?_
                refine jv_iconst (v := 3) d_M_goRound_113 (by decide) ?_
                refine jv_iadd d_M_goRound_114 ?_
                obtain ⟨q178, q179, h⟩ := h
                refine jv_iald d_M_goRound_115 q178 q179 ?_
                refine jv_goto (tgt := 123) d_M_goRound_116 (by decide) ?_
                obtain ⟨q180, q181, h⟩ := h
                refine jv_iast d_M_goRound_123 q180 q181 ?_
                refine jv_aload_n d_M_goRound_124 rfl rfl ?_
                refine jv_iload_n d_M_goRound_125 rfl rfl ?_
                refine jv_invS [.ref a1, .int x2] [] d_M_goRound_126 ml_M_172 rfl (Nat.le_of_ble_eq_true rfl) (Nat.zero_add _) (Nat.zero_add _) (jv_Ct.mono h (fun v M183 N183 h => ?_))
                obtain ⟨rfl, h⟩ := h
                change jv_J g (d + 1) mt_M_goRound 129 [some (.ref a0), some (.ref a1), some (.int x2), some (.int (81 + (7 * x2)))] [] M183 N183 cr sr Z
                refine jv_goto (tgt := 135) d_M_goRound_129 (by decide) ?_
                refine jv_goto (tgt := 2) d_M_goRound_135 (by decide) ?_
                refine jv_weak (L' := [some (.ref a0), some (.ref a1), some (.int x2), none]) (by simp [jv_le]) ?_
                exact h
theorem b_M_reach_0 {g : jv_G} {d : Nat} {M : jv_Mem} {N cr sr : Nat} {Z : Option Value → jv_Mem → Nat → Prop} {a0 : Nat} {a1 : Nat} {x2 : Int32} (h : jv_Tg 11 a1 N ∧ vp_in ((81 + (7 * x2)) + 1) (jv_sh a1).2 ∧ jv_Tg 11 a1 N ∧ vp_in (81 + (7 * x2)) (jv_sh a1).2 ∧ ((Prod.fst M a1 (Int32.toNatClampNeg (81 + (7 * x2)))) ≤ 2 → jv_Tg 11 a1 N ∧ vp_in (81 + (7 * x2)) (jv_sh a1).2 ∧ ((Prod.fst M a1 (Int32.toNatClampNeg (81 + (7 * x2)))) = 0 → jv_Ct g d mt_M_halt [.ref a1, .int (Prod.fst M a1 (Int32.toNatClampNeg ((81 + (7 * x2)) + 1))), .int 1] M N 0 0 (fun v M14 N14 => jv_rv v (Z none M14 N14))) ∧ ((Prod.fst M a1 (Int32.toNatClampNeg (81 + (7 * x2)))) = 1 → jv_Ct g d mt_M_resume [.ref a1, .int (Prod.fst M a1 (Int32.toNatClampNeg ((81 + (7 * x2)) + 1)))] M N 0 0 (fun v M16 N16 => jv_rv v (Z none M16 N16))) ∧ ((Prod.fst M a1 (Int32.toNatClampNeg (81 + (7 * x2)))) = 2 → jv_Tg 10 a0 N ∧ jv_Ct g d mt_M_reset [.ref a0, .ref a1, .int (Prod.fst M a1 (Int32.toNatClampNeg ((81 + (7 * x2)) + 1)))] M N 0 0 (fun v M19 N19 => jv_rv v (Z none M19 N19))) ∧ ((Prod.fst M a1 (Int32.toNatClampNeg (81 + (7 * x2)))) = 3 → jv_Tg 11 a1 N ∧ vp_in ((81 + (7 * x2)) + 4) (jv_sh a1).2 ∧ jv_Tg 11 a1 N ∧ vp_in (((8 * (Prod.fst M a1 (Int32.toNatClampNeg ((81 + (7 * x2)) + 1)))) + 4) + (Prod.fst M a1 (Int32.toNatClampNeg ((81 + (7 * x2)) + 4)))) (jv_sh a1).2 ∧ jv_Tg 11 a1 N ∧ vp_in ((81 + (7 * x2)) + 6) (jv_sh a1).2 ∧ Z none (jv_si M a1 (Int32.toNatClampNeg ((81 + (7 * x2)) + 6)) (Prod.fst M a1 (Int32.toNatClampNeg (((8 * (Prod.fst M a1 (Int32.toNatClampNeg ((81 + (7 * x2)) + 1)))) + 4) + (Prod.fst M a1 (Int32.toNatClampNeg ((81 + (7 * x2)) + 4))))))) N) ∧ ((Prod.fst M a1 (Int32.toNatClampNeg (81 + (7 * x2)))) = 4 → jv_Tg 11 a1 N ∧ vp_in ((81 + (7 * x2)) + 4) (jv_sh a1).2 ∧ jv_Tg 11 a1 N ∧ vp_in ((81 + (7 * x2)) + 5) (jv_sh a1).2 ∧ jv_Tg 11 a1 N ∧ vp_in (((8 * (Prod.fst M a1 (Int32.toNatClampNeg ((81 + (7 * x2)) + 1)))) + 4) + (Prod.fst M a1 (Int32.toNatClampNeg ((81 + (7 * x2)) + 4)))) (jv_sh a1).2 ∧ Z none (jv_si M a1 (Int32.toNatClampNeg (((8 * (Prod.fst M a1 (Int32.toNatClampNeg ((81 + (7 * x2)) + 1)))) + 4) + (Prod.fst M a1 (Int32.toNatClampNeg ((81 + (7 * x2)) + 4))))) (Prod.fst M a1 (Int32.toNatClampNeg ((81 + (7 * x2)) + 5)))) N) ∧ (((Prod.fst M a1 (Int32.toNatClampNeg (81 + (7 * x2)))) ≠ 0 ∧ (Prod.fst M a1 (Int32.toNatClampNeg (81 + (7 * x2)))) ≠ 1 ∧ (Prod.fst M a1 (Int32.toNatClampNeg (81 + (7 * x2)))) ≠ 2 ∧ (Prod.fst M a1 (Int32.toNatClampNeg (81 + (7 * x2)))) ≠ 3 ∧ (Prod.fst M a1 (Int32.toNatClampNeg (81 + (7 * x2)))) ≠ 4) → jv_Tg 10 a0 N ∧ jv_Ct g d mt_M_runBuffer [.ref a0, .ref a1, .int (Prod.fst M a1 (Int32.toNatClampNeg ((81 + (7 * x2)) + 1)))] M N 0 0 (fun v M10 N10 => jv_ri v (fun r9 => jv_Tg 11 a1 N10 ∧ vp_in ((81 + (7 * x2)) + 3) (jv_sh a1).2 ∧ Z none (jv_si M10 a1 (Int32.toNatClampNeg ((81 + (7 * x2)) + 3)) r9) N10)))) ∧ (¬ ((Prod.fst M a1 (Int32.toNatClampNeg (81 + (7 * x2)))) ≤ 2) → jv_Tg 11 a1 N ∧ vp_in ((8 * (Prod.fst M a1 (Int32.toNatClampNeg ((81 + (7 * x2)) + 1)))) + 1) (jv_sh a1).2 ∧ ((Prod.fst M a1 (Int32.toNatClampNeg ((8 * (Prod.fst M a1 (Int32.toNatClampNeg ((81 + (7 * x2)) + 1)))) + 1))) = 2 → jv_Tg 11 a1 N ∧ vp_in (81 + (7 * x2)) (jv_sh a1).2 ∧ ((Prod.fst M a1 (Int32.toNatClampNeg (81 + (7 * x2)))) = 0 → jv_Ct g d mt_M_halt [.ref a1, .int (Prod.fst M a1 (Int32.toNatClampNeg ((81 + (7 * x2)) + 1))), .int 1] M N 0 0 (fun v M43 N43 => jv_rv v (Z none M43 N43))) ∧ ((Prod.fst M a1 (Int32.toNatClampNeg (81 + (7 * x2)))) = 1 → jv_Ct g d mt_M_resume [.ref a1, .int (Prod.fst M a1 (Int32.toNatClampNeg ((81 + (7 * x2)) + 1)))] M N 0 0 (fun v M45 N45 => jv_rv v (Z none M45 N45))) ∧ ((Prod.fst M a1 (Int32.toNatClampNeg (81 + (7 * x2)))) = 2 → jv_Tg 10 a0 N ∧ jv_Ct g d mt_M_reset [.ref a0, .ref a1, .int (Prod.fst M a1 (Int32.toNatClampNeg ((81 + (7 * x2)) + 1)))] M N 0 0 (fun v M48 N48 => jv_rv v (Z none M48 N48))) ∧ ((Prod.fst M a1 (Int32.toNatClampNeg (81 + (7 * x2)))) = 3 → jv_Tg 11 a1 N ∧ vp_in ((81 + (7 * x2)) + 4) (jv_sh a1).2 ∧ jv_Tg 11 a1 N ∧ vp_in (((8 * (Prod.fst M a1 (Int32.toNatClampNeg ((81 + (7 * x2)) + 1)))) + 4) + (Prod.fst M a1 (Int32.toNatClampNeg ((81 + (7 * x2)) + 4)))) (jv_sh a1).2 ∧ jv_Tg 11 a1 N ∧ vp_in ((81 + (7 * x2)) + 6) (jv_sh a1).2 ∧ Z none (jv_si M a1 (Int32.toNatClampNeg ((81 + (7 * x2)) + 6)) (Prod.fst M a1 (Int32.toNatClampNeg (((8 * (Prod.fst M a1 (Int32.toNatClampNeg ((81 + (7 * x2)) + 1)))) + 4) + (Prod.fst M a1 (Int32.toNatClampNeg ((81 + (7 * x2)) + 4))))))) N) ∧ ((Prod.fst M a1 (Int32.toNatClampNeg (81 + (7 * x2)))) = 4 → jv_Tg 11 a1 N ∧ vp_in ((81 + (7 * x2)) + 4) (jv_sh a1).2 ∧ jv_Tg 11 a1 N ∧ vp_in ((81 + (7 * x2)) + 5) (jv_sh a1).2 ∧ jv_Tg 11 a1 N ∧ vp_in (((8 * (Prod.fst M a1 (Int32.toNatClampNeg ((81 + (7 * x2)) + 1)))) + 4) + (Prod.fst M a1 (Int32.toNatClampNeg ((81 + (7 * x2)) + 4)))) (jv_sh a1).2 ∧ Z none (jv_si M a1 (Int32.toNatClampNeg (((8 * (Prod.fst M a1 (Int32.toNatClampNeg ((81 + (7 * x2)) + 1)))) + 4) + (Prod.fst M a1 (Int32.toNatClampNeg ((81 + (7 * x2)) + 4))))) (Prod.fst M a1 (Int32.toNatClampNeg ((81 + (7 * x2)) + 5)))) N) ∧ (((Prod.fst M a1 (Int32.toNatClampNeg (81 + (7 * x2)))) ≠ 0 ∧ (Prod.fst M a1 (Int32.toNatClampNeg (81 + (7 * x2)))) ≠ 1 ∧ (Prod.fst M a1 (Int32.toNatClampNeg (81 + (7 * x2)))) ≠ 2 ∧ (Prod.fst M a1 (Int32.toNatClampNeg (81 + (7 * x2)))) ≠ 3 ∧ (Prod.fst M a1 (Int32.toNatClampNeg (81 + (7 * x2)))) ≠ 4) → jv_Tg 10 a0 N ∧ jv_Ct g d mt_M_runBuffer [.ref a0, .ref a1, .int (Prod.fst M a1 (Int32.toNatClampNeg ((81 + (7 * x2)) + 1)))] M N 0 0 (fun v M39 N39 => jv_ri v (fun r38 => jv_Tg 11 a1 N39 ∧ vp_in ((81 + (7 * x2)) + 3) (jv_sh a1).2 ∧ Z none (jv_si M39 a1 (Int32.toNatClampNeg ((81 + (7 * x2)) + 3)) r38) N39)))) ∧ (¬ ((Prod.fst M a1 (Int32.toNatClampNeg ((8 * (Prod.fst M a1 (Int32.toNatClampNeg ((81 + (7 * x2)) + 1)))) + 1))) = 2) → jv_Tg 11 a1 N ∧ vp_in ((81 + (7 * x2)) + 3) (jv_sh a1).2 ∧ Z none (jv_si M a1 (Int32.toNatClampNeg ((81 + (7 * x2)) + 3)) 4) N))) : jv_J g (d + 1) mt_M_reach 0 [some (.ref a0), some (.ref a1), some (.int x2), none, none] [] M N cr sr Z := by
  refine jv_bipush (v := 81) d_M_reach_0 (by decide) ?_
  refine jv_bipush (v := 7) d_M_reach_2 (by decide) ?_
  refine jv_iload_n d_M_reach_4 rfl rfl ?_
  refine jv_imul d_M_reach_5 ?_
  refine jv_iadd d_M_reach_6 ?_
  refine jv_istore_n (L' := [some (.ref a0), some (.ref a1), some (.int x2), some (.int (81 + (7 * x2))), none]) d_M_reach_7 rfl (Nat.le_of_ble_eq_true rfl) rfl ?_
  refine jv_aload_n d_M_reach_8 rfl rfl ?_
  refine jv_iload_n d_M_reach_9 rfl rfl ?_
  refine jv_iconst (v := 1) d_M_reach_10 (by decide) ?_
  refine jv_iadd d_M_reach_11 ?_
  obtain ⟨q1, q2, h⟩ := h
  refine jv_iald d_M_reach_12 q1 q2 ?_
  refine jv_istore (L' := [some (.ref a0), some (.ref a1), some (.int x2), some (.int (81 + (7 * x2))), some (.int (Prod.fst M a1 (Int32.toNatClampNeg ((81 + (7 * x2)) + 1))))]) d_M_reach_13 (Nat.le_of_ble_eq_true rfl) rfl ?_
  refine jv_aload_n d_M_reach_15 rfl rfl ?_
  refine jv_iload_n d_M_reach_16 rfl rfl ?_
  obtain ⟨q3, q4, h⟩ := h
  refine jv_iald d_M_reach_17 q3 q4 ?_
  refine jv_iconst (v := 2) d_M_reach_18 (by decide) ?_
  refine jv_icmp_le (tgt := 42) d_M_reach_19 (by decide) ⟨fun c => ?_, fun c => ?_⟩
  · replace h := h.1 c
    refine jv_aload_n d_M_reach_42 rfl rfl ?_
    refine jv_iload_n d_M_reach_43 rfl rfl ?_
    obtain ⟨q5, q6, h⟩ := h
    refine jv_iald d_M_reach_44 q5 q6 ?_
    have hD7 : ((Prod.fst M a1 (Int32.toNatClampNeg (81 + (7 * x2)))) ≠ 0 ∧ (Prod.fst M a1 (Int32.toNatClampNeg (81 + (7 * x2)))) ≠ 1 ∧ (Prod.fst M a1 (Int32.toNatClampNeg (81 + (7 * x2)))) ≠ 2 ∧ (Prod.fst M a1 (Int32.toNatClampNeg (81 + (7 * x2)))) ≠ 3 ∧ (Prod.fst M a1 (Int32.toNatClampNeg (81 + (7 * x2)))) ≠ 4) → jv_J g (d + 1) mt_M_reach 156 [some (.ref a0), some (.ref a1), some (.int x2), some (.int (81 + (7 * x2))), some (.int (Prod.fst M a1 (Int32.toNatClampNeg ((81 + (7 * x2)) + 1))))] [] M N cr sr Z := by
      intro c
      replace h := h.2.2.2.2.2 c
      refine jv_aload_n d_M_reach_156 rfl rfl ?_
      refine jv_iload_n d_M_reach_157 rfl rfl ?_
      refine jv_iconst (v := 3) d_M_reach_158 (by decide) ?_
      refine jv_iadd d_M_reach_159 ?_
      refine jv_aload_n d_M_reach_160 rfl rfl ?_
      refine jv_aload_n d_M_reach_161 rfl rfl ?_
      refine jv_iload d_M_reach_162 rfl ?_
      obtain ⟨q8, h⟩ := h
      refine jv_invV [.ref a1, .int (Prod.fst M a1 (Int32.toNatClampNeg ((81 + (7 * x2)) + 1)))] [.int ((81 + (7 * x2)) + 3), .ref a1] d_M_reach_164 ml_M_165 q8 rfl (Nat.le_of_ble_eq_true rfl) (Nat.zero_add _) (Nat.zero_add _) (jv_Ct.mono h (fun v M10 N10 h => ?_))
      obtain ⟨r9, rfl, h⟩ := h
      change jv_J g (d + 1) mt_M_reach 167 [some (.ref a0), some (.ref a1), some (.int x2), some (.int (81 + (7 * x2))), some (.int (Prod.fst M a1 (Int32.toNatClampNeg ((81 + (7 * x2)) + 1))))] [.int r9, .int ((81 + (7 * x2)) + 3), .ref a1] M10 N10 cr sr Z
      obtain ⟨q11, q12, h⟩ := h
      refine jv_iast d_M_reach_167 q11 q12 ?_
      exact jv_ret d_M_reach_168 rfl h
    refine jv_tsw (dt := 156) [(0, 80), (1, 90), (2, 99), (3, 109), (4, 133)] d_M_reach_45 (by decide) (by decide) (by decide) (fun q hq hx => ?_) (fun hq => ?_)
    · simp only [List.mem_cons, List.not_mem_nil, or_false] at hq
      rcases hq with rfl | rfl | rfl | rfl | rfl
      · replace h := h.1 hx
        refine jv_aload_n d_M_reach_80 rfl rfl ?_
        refine jv_iload d_M_reach_81 rfl ?_
        refine jv_iconst (v := 1) d_M_reach_83 (by decide) ?_
        refine jv_invS [.ref a1, .int (Prod.fst M a1 (Int32.toNatClampNeg ((81 + (7 * x2)) + 1))), .int 1] [] d_M_reach_84 ml_M_155 rfl (Nat.le_of_ble_eq_true rfl) (Nat.zero_add _) (Nat.zero_add _) (jv_Ct.mono h (fun v M14 N14 h => ?_))
        obtain ⟨rfl, h⟩ := h
        change jv_J g (d + 1) mt_M_reach 87 [some (.ref a0), some (.ref a1), some (.int x2), some (.int (81 + (7 * x2))), some (.int (Prod.fst M a1 (Int32.toNatClampNeg ((81 + (7 * x2)) + 1))))] [] M14 N14 cr sr Z
        refine jv_goto (tgt := 168) d_M_reach_87 (by decide) ?_
        exact jv_ret d_M_reach_168 rfl h
      · replace h := h.2.1 hx
        refine jv_aload_n d_M_reach_90 rfl rfl ?_
        refine jv_iload d_M_reach_91 rfl ?_
        refine jv_invS [.ref a1, .int (Prod.fst M a1 (Int32.toNatClampNeg ((81 + (7 * x2)) + 1)))] [] d_M_reach_93 ml_M_158 rfl (Nat.le_of_ble_eq_true rfl) (Nat.zero_add _) (Nat.zero_add _) (jv_Ct.mono h (fun v M16 N16 h => ?_))
        obtain ⟨rfl, h⟩ := h
        change jv_J g (d + 1) mt_M_reach 96 [some (.ref a0), some (.ref a1), some (.int x2), some (.int (81 + (7 * x2))), some (.int (Prod.fst M a1 (Int32.toNatClampNeg ((81 + (7 * x2)) + 1))))] [] M16 N16 cr sr Z
        refine jv_goto (tgt := 168) d_M_reach_96 (by decide) ?_
        exact jv_ret d_M_reach_168 rfl h
      · replace h := h.2.2.1 hx
        refine jv_aload_n d_M_reach_99 rfl rfl ?_
        refine jv_aload_n d_M_reach_100 rfl rfl ?_
        refine jv_iload d_M_reach_101 rfl ?_
        obtain ⟨q17, h⟩ := h
        refine jv_invV [.ref a1, .int (Prod.fst M a1 (Int32.toNatClampNeg ((81 + (7 * x2)) + 1)))] [] d_M_reach_103 ml_M_162 q17 rfl (Nat.le_of_ble_eq_true rfl) (Nat.zero_add _) (Nat.zero_add _) (jv_Ct.mono h (fun v M19 N19 h => ?_))
        obtain ⟨rfl, h⟩ := h
        change jv_J g (d + 1) mt_M_reach 106 [some (.ref a0), some (.ref a1), some (.int x2), some (.int (81 + (7 * x2))), some (.int (Prod.fst M a1 (Int32.toNatClampNeg ((81 + (7 * x2)) + 1))))] [] M19 N19 cr sr Z
        refine jv_goto (tgt := 168) d_M_reach_106 (by decide) ?_
        exact jv_ret d_M_reach_168 rfl h
      · replace h := h.2.2.2.1 hx
        refine jv_aload_n d_M_reach_109 rfl rfl ?_
        refine jv_iload_n d_M_reach_110 rfl rfl ?_
        refine jv_bipush (v := 6) d_M_reach_111 (by decide) ?_
        refine jv_iadd d_M_reach_113 ?_
        refine jv_aload_n d_M_reach_114 rfl rfl ?_
        refine jv_bipush (v := 8) d_M_reach_115 (by decide) ?_
        refine jv_iload d_M_reach_117 rfl ?_
        refine jv_imul d_M_reach_119 ?_
        refine jv_iconst (v := 4) d_M_reach_120 (by decide) ?_
        refine jv_iadd d_M_reach_121 ?_
        refine jv_aload_n d_M_reach_122 rfl rfl ?_
        refine jv_iload_n d_M_reach_123 rfl rfl ?_
        refine jv_iconst (v := 4) d_M_reach_124 (by decide) ?_
        refine jv_iadd d_M_reach_125 ?_
        obtain ⟨q20, q21, h⟩ := h
        refine jv_iald d_M_reach_126 q20 q21 ?_
        refine jv_iadd d_M_reach_127 ?_
        obtain ⟨q22, q23, h⟩ := h
        refine jv_iald d_M_reach_128 q22 q23 ?_
        obtain ⟨q24, q25, h⟩ := h
        refine jv_iast d_M_reach_129 q24 q25 ?_
        refine jv_goto (tgt := 168) d_M_reach_130 (by decide) ?_
        exact jv_ret d_M_reach_168 rfl h
      · replace h := h.2.2.2.2.1 hx
        refine jv_aload_n d_M_reach_133 rfl rfl ?_
        refine jv_bipush (v := 8) d_M_reach_134 (by decide) ?_
        refine jv_iload d_M_reach_136 rfl ?_
        refine jv_imul d_M_reach_138 ?_
        refine jv_iconst (v := 4) d_M_reach_139 (by decide) ?_
        refine jv_iadd d_M_reach_140 ?_
        refine jv_aload_n d_M_reach_141 rfl rfl ?_
        refine jv_iload_n d_M_reach_142 rfl rfl ?_
        refine jv_iconst (v := 4) d_M_reach_143 (by decide) ?_
        refine jv_iadd d_M_reach_144 ?_
        obtain ⟨q26, q27, h⟩ := h
        refine jv_iald d_M_reach_145 q26 q27 ?_
        refine jv_iadd d_M_reach_146 ?_
        refine jv_aload_n d_M_reach_147 rfl rfl ?_
        refine jv_iload_n d_M_reach_148 rfl rfl ?_
        refine jv_iconst (v := 5) d_M_reach_149 (by decide) ?_
        refine jv_iadd d_M_reach_150 ?_
        obtain ⟨q28, q29, h⟩ := h
        refine jv_iald d_M_reach_151 q28 q29 ?_
        obtain ⟨q30, q31, h⟩ := h
        refine jv_iast d_M_reach_152 q30 q31 ?_
        refine jv_goto (tgt := 168) d_M_reach_153 (by decide) ?_
        exact jv_ret d_M_reach_168 rfl h
    · exact hD7 ⟨hq _ (List.mem_of_getElem? (i := 0) rfl), hq _ (List.mem_of_getElem? (i := 1) rfl), hq _ (List.mem_of_getElem? (i := 2) rfl), hq _ (List.mem_of_getElem? (i := 3) rfl), hq _ (List.mem_of_getElem? (i := 4) rfl)⟩
  · replace h := h.2 c
    refine jv_aload_n d_M_reach_22 rfl rfl ?_
    refine jv_bipush (v := 8) d_M_reach_23 (by decide) ?_
    refine jv_iload d_M_reach_25 rfl ?_
    refine jv_imul d_M_reach_27 ?_
    refine jv_iconst (v := 1) d_M_reach_28 (by decide) ?_
    refine jv_iadd d_M_reach_29 ?_
    obtain ⟨q32, q33, h⟩ := h
    refine jv_iald d_M_reach_30 q32 q33 ?_
    refine jv_iconst (v := 2) d_M_reach_31 (by decide) ?_
    refine jv_icmp_eq (tgt := 42) d_M_reach_32 (by decide) ⟨fun c => ?_, fun c => ?_⟩
    · replace h := h.1 c
      refine jv_aload_n d_M_reach_42 rfl rfl ?_
      refine jv_iload_n d_M_reach_43 rfl rfl ?_
      obtain ⟨q34, q35, h⟩ := h
      refine jv_iald d_M_reach_44 q34 q35 ?_
      have hD36 : ((Prod.fst M a1 (Int32.toNatClampNeg (81 + (7 * x2)))) ≠ 0 ∧ (Prod.fst M a1 (Int32.toNatClampNeg (81 + (7 * x2)))) ≠ 1 ∧ (Prod.fst M a1 (Int32.toNatClampNeg (81 + (7 * x2)))) ≠ 2 ∧ (Prod.fst M a1 (Int32.toNatClampNeg (81 + (7 * x2)))) ≠ 3 ∧ (Prod.fst M a1 (Int32.toNatClampNeg (81 + (7 * x2)))) ≠ 4) → jv_J g (d + 1) mt_M_reach 156 [some (.ref a0), some (.ref a1), some (.int x2), some (.int (81 + (7 * x2))), some (.int (Prod.fst M a1 (Int32.toNatClampNeg ((81 + (7 * x2)) + 1))))] [] M N cr sr Z := by
        intro c
        replace h := h.2.2.2.2.2 c
        refine jv_aload_n d_M_reach_156 rfl rfl ?_
        refine jv_iload_n d_M_reach_157 rfl rfl ?_
        refine jv_iconst (v := 3) d_M_reach_158 (by decide) ?_
        refine jv_iadd d_M_reach_159 ?_
        refine jv_aload_n d_M_reach_160 rfl rfl ?_
        refine jv_aload_n d_M_reach_161 rfl rfl ?_
        refine jv_iload d_M_reach_162 rfl ?_
        obtain ⟨q37, h⟩ := h
        refine jv_invV [.ref a1, .int (Prod.fst M a1 (Int32.toNatClampNeg ((81 + (7 * x2)) + 1)))] [.int ((81 + (7 * x2)) + 3), .ref a1] d_M_reach_164 ml_M_165 q37 rfl (Nat.le_of_ble_eq_true rfl) (Nat.zero_add _) (Nat.zero_add _) (jv_Ct.mono h (fun v M39 N39 h => ?_))
        obtain ⟨r38, rfl, h⟩ := h
        change jv_J g (d + 1) mt_M_reach 167 [some (.ref a0), some (.ref a1), some (.int x2), some (.int (81 + (7 * x2))), some (.int (Prod.fst M a1 (Int32.toNatClampNeg ((81 + (7 * x2)) + 1))))] [.int r38, .int ((81 + (7 * x2)) + 3), .ref a1] M39 N39 cr sr Z
        obtain ⟨q40, q41, h⟩ := h
        refine jv_iast d_M_reach_167 q40 q41 ?_
        exact jv_ret d_M_reach_168 rfl h
      refine jv_tsw (dt := 156) [(0, 80), (1, 90), (2, 99), (3, 109), (4, 133)] d_M_reach_45 (by decide) (by decide) (by decide) (fun q hq hx => ?_) (fun hq => ?_)
      · simp only [List.mem_cons, List.not_mem_nil, or_false] at hq
        rcases hq with rfl | rfl | rfl | rfl | rfl
        · replace h := h.1 hx
          refine jv_aload_n d_M_reach_80 rfl rfl ?_
          refine jv_iload d_M_reach_81 rfl ?_
          refine jv_iconst (v := 1) d_M_reach_83 (by decide) ?_
          refine jv_invS [.ref a1, .int (Prod.fst M a1 (Int32.toNatClampNeg ((81 + (7 * x2)) + 1))), .int 1] [] d_M_reach_84 ml_M_155 rfl (Nat.le_of_ble_eq_true rfl) (Nat.zero_add _) (Nat.zero_add _) (jv_Ct.mono h (fun v M43 N43 h => ?_))
          obtain ⟨rfl, h⟩ := h
          change jv_J g (d + 1) mt_M_reach 87 [some (.ref a0), some (.ref a1), some (.int x2), some (.int (81 + (7 * x2))), some (.int (Prod.fst M a1 (Int32.toNatClampNeg ((81 + (7 * x2)) + 1))))] [] M43 N43 cr sr Z
          refine jv_goto (tgt := 168) d_M_reach_87 (by decide) ?_
          exact jv_ret d_M_reach_168 rfl h
        · replace h := h.2.1 hx
          refine jv_aload_n d_M_reach_90 rfl rfl ?_
          refine jv_iload d_M_reach_91 rfl ?_
          refine jv_invS [.ref a1, .int (Prod.fst M a1 (Int32.toNatClampNeg ((81 + (7 * x2)) + 1)))] [] d_M_reach_93 ml_M_158 rfl (Nat.le_of_ble_eq_true rfl) (Nat.zero_add _) (Nat.zero_add _) (jv_Ct.mono h (fun v M45 N45 h => ?_))
          obtain ⟨rfl, h⟩ := h
          change jv_J g (d + 1) mt_M_reach 96 [some (.ref a0), some (.ref a1), some (.int x2), some (.int (81 + (7 * x2))), some (.int (Prod.fst M a1 (Int32.toNatClampNeg ((81 + (7 * x2)) + 1))))] [] M45 N45 cr sr Z
          refine jv_goto (tgt := 168) d_M_reach_96 (by decide) ?_
          exact jv_ret d_M_reach_168 rfl h
        · replace h := h.2.2.1 hx
          refine jv_aload_n d_M_reach_99 rfl rfl ?_
          refine jv_aload_n d_M_reach_100 rfl rfl ?_
          refine jv_iload d_M_reach_101 rfl ?_
          obtain ⟨q46, h⟩ := h
          refine jv_invV [.ref a1, .int (Prod.fst M a1 (Int32.toNatClampNeg ((81 + (7 * x2)) + 1)))] [] d_M_reach_103 ml_M_162 q46 rfl (Nat.le_of_ble_eq_true rfl) (Nat.zero_add _) (Nat.zero_add _) (jv_Ct.mono h (fun v M48 N48 h => ?_))
          obtain ⟨rfl, h⟩ := h
          change jv_J g (d + 1) mt_M_reach 106 [some (.ref a0), some (.ref a1), some (.int x2), some (.int (81 + (7 * x2))), some (.int (Prod.fst M a1 (Int32.toNatClampNeg ((81 + (7 * x2)) + 1))))] [] M48 N48 cr sr Z
          refine jv_goto (tgt := 168) d_M_reach_106 (by decide) ?_
          exact jv_ret d_M_reach_168 rfl h
        · replace h := h.2.2.2.1 hx
          refine jv_aload_n d_M_reach_109 rfl rfl ?_
          refine jv_iload_n d_M_reach_110 rfl rfl ?_
          refine jv_bipush (v := 6) d_M_reach_111 (by decide) ?_
          refine jv_iadd d_M_reach_113 ?_
          refine jv_aload_n d_M_reach_114 rfl rfl ?_
          refine jv_bipush (v := 8) d_M_reach_115 (by decide) ?_
          refine jv_iload d_M_reach_117 rfl ?_
          refine jv_imul d_M_reach_119 ?_
          refine jv_iconst (v := 4) d_M_reach_120 (by decide) ?_
          refine jv_iadd d_M_reach_121 ?_
          refine jv_aload_n d_M_reach_122 rfl rfl ?_
          refine jv_iload_n d_M_reach_123 rfl rfl ?_
          refine jv_iconst (v := 4) d_M_reach_124 (by decide) ?_
          refine jv_iadd d_M_reach_125 ?_
          obtain ⟨q49, q50, h⟩ := h
          refine jv_iald d_M_reach_126 q49 q50 ?_
          refine jv_iadd d_M_reach_127 ?_
          obtain ⟨q51, q52, h⟩ := h
          refine jv_iald d_M_reach_128 q51 q52 ?_
          obtain ⟨q53, q54, h⟩ := h
          refine jv_iast d_M_reach_129 q53 q54 ?_
          refine jv_goto (tgt := 168) d_M_reach_130 (by decide) ?_
          exact jv_ret d_M_reach_168 rfl h
        · replace h := h.2.2.2.2.1 hx
          refine jv_aload_n d_M_reach_133 rfl rfl ?_
          refine jv_bipush (v := 8) d_M_reach_134 (by decide) ?_
          refine jv_iload d_M_reach_136 rfl ?_
          refine jv_imul d_M_reach_138 ?_
          refine jv_iconst (v := 4) d_M_reach_139 (by decide) ?_
          refine jv_iadd d_M_reach_140 ?_
          refine jv_aload_n d_M_reach_141 rfl rfl ?_
          refine jv_iload_n d_M_reach_142 rfl rfl ?_
          refine jv_iconst (v := 4) d_M_reach_143 (by decide) ?_
          refine jv_iadd d_M_reach_144 ?_
          obtain ⟨q55, q56, h⟩ := h
          refine jv_iald d_M_reach_145 q55 q56 ?_
          refine jv_iadd d_M_reach_146 ?_
          refine jv_aload_n d_M_reach_147 rfl rfl ?_
          refine jv_iload_n d_M_reach_148 rfl rfl ?_
          refine jv_iconst (v := 5) d_M_reach_149 (by decide) ?_
          refine jv_iadd d_M_reach_150 ?_
          obtain ⟨q57, q58, h⟩ := h
          refine jv_iald d_M_reach_151 q57 q58 ?_
          obtain ⟨q59, q60, h⟩ := h
          refine jv_iast d_M_reach_152 q59 q60 ?_
          refine jv_goto (tgt := 168) d_M_reach_153 (by decide) ?_
          exact jv_ret d_M_reach_168 rfl h
      · exact hD36 ⟨hq _ (List.mem_of_getElem? (i := 0) rfl), hq _ (List.mem_of_getElem? (i := 1) rfl), hq _ (List.mem_of_getElem? (i := 2) rfl), hq _ (List.mem_of_getElem? (i := 3) rfl), hq _ (List.mem_of_getElem? (i := 4) rfl)⟩
    · replace h := h.2 c
      refine jv_aload_n d_M_reach_35 rfl rfl ?_
      refine jv_iload_n d_M_reach_36 rfl rfl ?_
      refine jv_iconst (v := 3) d_M_reach_37 (by decide) ?_
      refine jv_iadd d_M_reach_38 ?_
      refine jv_iconst (v := 4) d_M_reach_39 (by decide) ?_
      obtain ⟨q61, q62, h⟩ := h
      refine jv_iast d_M_reach_40 q61 q62 ?_
      exact jv_ret d_M_reach_41 rfl h
theorem b_M_halt_0 {g : jv_G} {d : Nat} {M : jv_Mem} {N cr sr : Nat} {Z : Option Value → jv_Mem → Nat → Prop} {a0 : Nat} {x1 : Int32} {x2 : Int32} (h : jv_Tg 11 a0 N ∧ vp_in ((8 * x1) + 1) (jv_sh a0).2 ∧ ((Prod.fst M a0 (Int32.toNatClampNeg ((8 * x1) + 1))) = 2 → Z none M N) ∧ (¬ ((Prod.fst M a0 (Int32.toNatClampNeg ((8 * x1) + 1))) = 2) → jv_Tg 11 a0 N ∧ vp_in ((8 * x1) + 1) (jv_sh a0).2 ∧ ((Prod.fst M a0 (Int32.toNatClampNeg ((8 * x1) + 1))) ≠ 1 → jv_Tg 11 a0 N ∧ vp_in ((8 * x1) + 2) (jv_sh a0).2 ∧ jv_Tg 11 a0 N ∧ vp_in ((8 * x1) + 1) (jv_sh a0).2 ∧ jv_Tg 11 a0 N ∧ vp_in ((8 * x1) + 3) (jv_sh a0).2 ∧ Z none (jv_si (jv_si (jv_si M a0 (Int32.toNatClampNeg ((8 * x1) + 2)) 0) a0 (Int32.toNatClampNeg ((8 * x1) + 1)) 2) a0 (Int32.toNatClampNeg ((8 * x1) + 3)) x2) N) ∧ ((Prod.fst M a0 (Int32.toNatClampNeg ((8 * x1) + 1))) = 1 → jv_Tg 11 a0 N ∧ vp_in ((8 * x1) + 2) (jv_sh a0).2 ∧ jv_Tg 11 a0 N ∧ vp_in ((8 * x1) + 1) (jv_sh a0).2 ∧ jv_Tg 11 a0 N ∧ vp_in ((8 * x1) + 3) (jv_sh a0).2 ∧ Z none (jv_si (jv_si (jv_si M a0 (Int32.toNatClampNeg ((8 * x1) + 2)) 1) a0 (Int32.toNatClampNeg ((8 * x1) + 1)) 2) a0 (Int32.toNatClampNeg ((8 * x1) + 3)) x2) N))) : jv_J g d mt_M_halt 0 [some (.ref a0), some (.int x1), some (.int x2), none] [] M N cr sr Z := by
  refine jv_bipush (v := 8) d_M_halt_0 (by decide) ?_
  refine jv_iload_n d_M_halt_2 rfl rfl ?_
  refine jv_imul d_M_halt_3 ?_
  refine jv_istore_n (L' := [some (.ref a0), some (.int x1), some (.int x2), some (.int (8 * x1))]) d_M_halt_4 rfl (Nat.le_of_ble_eq_true rfl) rfl ?_
  refine jv_aload_n d_M_halt_5 rfl rfl ?_
  refine jv_iload_n d_M_halt_6 rfl rfl ?_
  refine jv_iconst (v := 1) d_M_halt_7 (by decide) ?_
  refine jv_iadd d_M_halt_8 ?_
  obtain ⟨q1, q2, h⟩ := h
  refine jv_iald d_M_halt_9 q1 q2 ?_
  refine jv_iconst (v := 2) d_M_halt_10 (by decide) ?_
  refine jv_icmp_eq (tgt := 45) d_M_halt_11 (by decide) ⟨fun c => ?_, fun c => ?_⟩
  · replace h := h.1 c
    exact jv_ret d_M_halt_45 rfl h
  · replace h := h.2 c
    refine jv_aload_n d_M_halt_14 rfl rfl ?_
    refine jv_iload_n d_M_halt_15 rfl rfl ?_
    refine jv_iconst (v := 2) d_M_halt_16 (by decide) ?_
    refine jv_iadd d_M_halt_17 ?_
    refine jv_aload_n d_M_halt_18 rfl rfl ?_
    refine jv_iload_n d_M_halt_19 rfl rfl ?_
    refine jv_iconst (v := 1) d_M_halt_20 (by decide) ?_
    refine jv_iadd d_M_halt_21 ?_
    obtain ⟨q3, q4, h⟩ := h
    refine jv_iald d_M_halt_22 q3 q4 ?_
    refine jv_iconst (v := 1) d_M_halt_23 (by decide) ?_
    refine jv_icmp_ne (tgt := 31) d_M_halt_24 (by decide) ⟨fun c => ?_, fun c => ?_⟩
    · replace h := h.1 c
      refine jv_iconst (v := 0) d_M_halt_31 (by decide) ?_
      obtain ⟨q5, q6, h⟩ := h
      refine jv_iast d_M_halt_32 q5 q6 ?_
      refine jv_aload_n d_M_halt_33 rfl rfl ?_
      refine jv_iload_n d_M_halt_34 rfl rfl ?_
      refine jv_iconst (v := 1) d_M_halt_35 (by decide) ?_
      refine jv_iadd d_M_halt_36 ?_
      refine jv_iconst (v := 2) d_M_halt_37 (by decide) ?_
      obtain ⟨q7, q8, h⟩ := h
      refine jv_iast d_M_halt_38 q7 q8 ?_
      refine jv_aload_n d_M_halt_39 rfl rfl ?_
      refine jv_iload_n d_M_halt_40 rfl rfl ?_
      refine jv_iconst (v := 3) d_M_halt_41 (by decide) ?_
      refine jv_iadd d_M_halt_42 ?_
      refine jv_iload_n d_M_halt_43 rfl rfl ?_
      obtain ⟨q9, q10, h⟩ := h
      refine jv_iast d_M_halt_44 q9 q10 ?_
      exact jv_ret d_M_halt_45 rfl h
    · replace h := h.2 c
      refine jv_iconst (v := 1) d_M_halt_27 (by decide) ?_
      refine jv_goto (tgt := 32) d_M_halt_28 (by decide) ?_
      obtain ⟨q11, q12, h⟩ := h
      refine jv_iast d_M_halt_32 q11 q12 ?_
      refine jv_aload_n d_M_halt_33 rfl rfl ?_
      refine jv_iload_n d_M_halt_34 rfl rfl ?_
      refine jv_iconst (v := 1) d_M_halt_35 (by decide) ?_
      refine jv_iadd d_M_halt_36 ?_
      refine jv_iconst (v := 2) d_M_halt_37 (by decide) ?_
      obtain ⟨q13, q14, h⟩ := h
      refine jv_iast d_M_halt_38 q13 q14 ?_
      refine jv_aload_n d_M_halt_39 rfl rfl ?_
      refine jv_iload_n d_M_halt_40 rfl rfl ?_
      refine jv_iconst (v := 3) d_M_halt_41 (by decide) ?_
      refine jv_iadd d_M_halt_42 ?_
      refine jv_iload_n d_M_halt_43 rfl rfl ?_
      obtain ⟨q15, q16, h⟩ := h
      refine jv_iast d_M_halt_44 q15 q16 ?_
      exact jv_ret d_M_halt_45 rfl h
theorem b_M_resume_0 {g : jv_G} {d : Nat} {M : jv_Mem} {N cr sr : Nat} {Z : Option Value → jv_Mem → Nat → Prop} {a0 : Nat} {x1 : Int32} (h : jv_Tg 11 a0 N ∧ vp_in ((8 * x1) + 1) (jv_sh a0).2 ∧ ((Prod.fst M a0 (Int32.toNatClampNeg ((8 * x1) + 1))) ≠ 2 → Z none M N) ∧ ((Prod.fst M a0 (Int32.toNatClampNeg ((8 * x1) + 1))) = 2 → jv_Tg 11 a0 N ∧ vp_in ((8 * x1) + 2) (jv_sh a0).2 ∧ ((Prod.fst M a0 (Int32.toNatClampNeg ((8 * x1) + 2))) ≠ 1 → jv_Tg 11 a0 N ∧ vp_in ((8 * x1) + 1) (jv_sh a0).2 ∧ jv_Tg 11 a0 N ∧ vp_in ((8 * x1) + 2) (jv_sh a0).2 ∧ jv_Tg 11 a0 N ∧ vp_in ((8 * x1) + 3) (jv_sh a0).2 ∧ Z none (jv_si (jv_si (jv_si M a0 (Int32.toNatClampNeg ((8 * x1) + 1)) 0) a0 (Int32.toNatClampNeg ((8 * x1) + 2)) 0) a0 (Int32.toNatClampNeg ((8 * x1) + 3)) 0) N) ∧ ((Prod.fst M a0 (Int32.toNatClampNeg ((8 * x1) + 2))) = 1 → jv_Tg 11 a0 N ∧ vp_in ((8 * x1) + 1) (jv_sh a0).2 ∧ jv_Tg 11 a0 N ∧ vp_in ((8 * x1) + 2) (jv_sh a0).2 ∧ jv_Tg 11 a0 N ∧ vp_in ((8 * x1) + 3) (jv_sh a0).2 ∧ Z none (jv_si (jv_si (jv_si M a0 (Int32.toNatClampNeg ((8 * x1) + 1)) 1) a0 (Int32.toNatClampNeg ((8 * x1) + 2)) 0) a0 (Int32.toNatClampNeg ((8 * x1) + 3)) 0) N))) : jv_J g d mt_M_resume 0 [some (.ref a0), some (.int x1), none] [] M N cr sr Z := by
  refine jv_bipush (v := 8) d_M_resume_0 (by decide) ?_
  refine jv_iload_n d_M_resume_2 rfl rfl ?_
  refine jv_imul d_M_resume_3 ?_
  refine jv_istore_n (L' := [some (.ref a0), some (.int x1), some (.int (8 * x1))]) d_M_resume_4 rfl (Nat.le_of_ble_eq_true rfl) rfl ?_
  refine jv_aload_n d_M_resume_5 rfl rfl ?_
  refine jv_iload_n d_M_resume_6 rfl rfl ?_
  refine jv_iconst (v := 1) d_M_resume_7 (by decide) ?_
  refine jv_iadd d_M_resume_8 ?_
  obtain ⟨q1, q2, h⟩ := h
  refine jv_iald d_M_resume_9 q1 q2 ?_
  refine jv_iconst (v := 2) d_M_resume_10 (by decide) ?_
  refine jv_icmp_ne (tgt := 45) d_M_resume_11 (by decide) ⟨fun c => ?_, fun c => ?_⟩
  · replace h := h.1 c
    exact jv_ret d_M_resume_45 rfl h
  · replace h := h.2 c
    refine jv_aload_n d_M_resume_14 rfl rfl ?_
    refine jv_iload_n d_M_resume_15 rfl rfl ?_
    refine jv_iconst (v := 1) d_M_resume_16 (by decide) ?_
    refine jv_iadd d_M_resume_17 ?_
    refine jv_aload_n d_M_resume_18 rfl rfl ?_
    refine jv_iload_n d_M_resume_19 rfl rfl ?_
    refine jv_iconst (v := 2) d_M_resume_20 (by decide) ?_
    refine jv_iadd d_M_resume_21 ?_
    obtain ⟨q3, q4, h⟩ := h
    refine jv_iald d_M_resume_22 q3 q4 ?_
    refine jv_iconst (v := 1) d_M_resume_23 (by decide) ?_
    refine jv_icmp_ne (tgt := 31) d_M_resume_24 (by decide) ⟨fun c => ?_, fun c => ?_⟩
    · replace h := h.1 c
      refine jv_iconst (v := 0) d_M_resume_31 (by decide) ?_
      obtain ⟨q5, q6, h⟩ := h
      refine jv_iast d_M_resume_32 q5 q6 ?_
      refine jv_aload_n d_M_resume_33 rfl rfl ?_
      refine jv_iload_n d_M_resume_34 rfl rfl ?_
      refine jv_iconst (v := 2) d_M_resume_35 (by decide) ?_
      refine jv_iadd d_M_resume_36 ?_
      refine jv_iconst (v := 0) d_M_resume_37 (by decide) ?_
      obtain ⟨q7, q8, h⟩ := h
      refine jv_iast d_M_resume_38 q7 q8 ?_
      refine jv_aload_n d_M_resume_39 rfl rfl ?_
      refine jv_iload_n d_M_resume_40 rfl rfl ?_
      refine jv_iconst (v := 3) d_M_resume_41 (by decide) ?_
      refine jv_iadd d_M_resume_42 ?_
      refine jv_iconst (v := 0) d_M_resume_43 (by decide) ?_
      obtain ⟨q9, q10, h⟩ := h
      refine jv_iast d_M_resume_44 q9 q10 ?_
      exact jv_ret d_M_resume_45 rfl h
    · replace h := h.2 c
      refine jv_iconst (v := 1) d_M_resume_27 (by decide) ?_
      refine jv_goto (tgt := 32) d_M_resume_28 (by decide) ?_
      obtain ⟨q11, q12, h⟩ := h
      refine jv_iast d_M_resume_32 q11 q12 ?_
      refine jv_aload_n d_M_resume_33 rfl rfl ?_
      refine jv_iload_n d_M_resume_34 rfl rfl ?_
      refine jv_iconst (v := 2) d_M_resume_35 (by decide) ?_
      refine jv_iadd d_M_resume_36 ?_
      refine jv_iconst (v := 0) d_M_resume_37 (by decide) ?_
      obtain ⟨q13, q14, h⟩ := h
      refine jv_iast d_M_resume_38 q13 q14 ?_
      refine jv_aload_n d_M_resume_39 rfl rfl ?_
      refine jv_iload_n d_M_resume_40 rfl rfl ?_
      refine jv_iconst (v := 3) d_M_resume_41 (by decide) ?_
      refine jv_iadd d_M_resume_42 ?_
      refine jv_iconst (v := 0) d_M_resume_43 (by decide) ?_
      obtain ⟨q15, q16, h⟩ := h
      refine jv_iast d_M_resume_44 q15 q16 ?_
      exact jv_ret d_M_resume_45 rfl h
theorem b_M_reset_0 {g : jv_G} {d : Nat} {M : jv_Mem} {N cr sr : Nat} {Z : Option Value → jv_Mem → Nat → Prop} {a0 : Nat} {a1 : Nat} {x2 : Int32} (h : jv_J g d mt_M_reset 2 [some (.ref a0), some (.ref a1), some (.int x2), some (.int 0)] [] M N cr sr Z) : jv_J g d mt_M_reset 0 [some (.ref a0), some (.ref a1), some (.int x2), none] [] M N cr sr Z := by
  refine jv_iconst (v := 0) d_M_reset_0 (by decide) ?_
  refine jv_istore_n (L' := [some (.ref a0), some (.ref a1), some (.int x2), some (.int 0)]) d_M_reset_1 rfl (Nat.le_of_ble_eq_true rfl) rfl ?_
  exact h
theorem b_M_reset_2 {g : jv_G} {d : Nat} {M : jv_Mem} {N cr sr : Nat} {Z : Option Value → jv_Mem → Nat → Prop} {a0 : Nat} {a1 : Nat} {x2 : Int32} {x3 : Int32} (h : (8 ≤ x3 → jv_J g d mt_M_reset 38 [some (.ref a0), some (.ref a1), some (.int x2), some (.int 0)] [] M N cr sr Z) ∧ (¬ (8 ≤ x3) → (x3 ≠ 0 → jv_Tg 11 a1 N ∧ vp_in ((8 * x2) + x3) (jv_sh a1).2 ∧ jv_J g d mt_M_reset 2 [some (.ref a0), some (.ref a1), some (.int x2), some (.int (x3 + 1))] [] (jv_si M a1 (Int32.toNatClampNeg ((8 * x2) + x3)) 0) N cr sr Z) ∧ (x3 = 0 → jv_Tg 10 a0 N ∧ ∃ b4, Prod.fst (Prod.snd M) a0 7 = some b4 ∧ jv_Tg 11 b4 N ∧ vp_in x2 (jv_sh b4).2 ∧ jv_Tg 11 a1 N ∧ vp_in ((8 * x2) + x3) (jv_sh a1).2 ∧ jv_J g d mt_M_reset 2 [some (.ref a0), some (.ref a1), some (.int x2), some (.int (x3 + 1))] [] (jv_si M a1 (Int32.toNatClampNeg ((8 * x2) + x3)) (Prod.fst M b4 (Int32.toNatClampNeg x2))) N cr sr Z))) : jv_J g d mt_M_reset 2 [some (.ref a0), some (.ref a1), some (.int x2), some (.int x3)] [] M N cr sr Z := by
  refine jv_iload_n d_M_reset_2 rfl rfl ?_
  refine jv_bipush (v := 8) d_M_reset_3 (by decide) ?_
  refine jv_icmp_ge (tgt := 36) d_M_reset_5 (by decide) ⟨fun c => ?_, fun c => ?_⟩
  · replace h := h.1 c
    refine jv_iconst (v := 0) d_M_reset_36 (by decide) ?_
    refine jv_istore_n (L' := [some (.ref a0), some (.ref a1), some (.int x2), some (.int 0)]) d_M_reset_37 rfl (Nat.le_of_ble_eq_true rfl) rfl ?_
    exact h
  · replace h := h.2 c
    refine jv_aload_n d_M_reset_8 rfl rfl ?_
    refine jv_bipush (v := 8) d_M_reset_9 (by decide) ?_
    refine jv_iload_n d_M_reset_11 rfl rfl ?_
    refine jv_imul d_M_reset_12 ?_
    refine jv_iload_n d_M_reset_13 rfl rfl ?_
    refine jv_iadd d_M_reset_14 ?_
    refine jv_iload_n d_M_reset_15 rfl rfl ?_
    refine jv_if_ne (tgt := 28) d_M_reset_16 (by decide) ⟨fun c => ?_, fun c => ?_⟩
    · replace h := h.1 c
      refine jv_iconst (v := 0) d_M_reset_28 (by decide) ?_
      obtain ⟨q1, q2, h⟩ := h
      refine jv_iast d_M_reset_29 q1 q2 ?_
      refine jv_iinc (v := (x3 + 1)) (L' := [some (.ref a0), some (.ref a1), some (.int x2), some (.int (x3 + 1))]) d_M_reset_30 rfl rfl (Nat.le_of_ble_eq_true rfl) rfl ?_
      refine jv_goto (tgt := 2) d_M_reset_33 (by decide) ?_
      exact h
    · replace h := h.2 c
      refine jv_aload_n d_M_reset_19 rfl rfl ?_
      obtain ⟨q3, h⟩ := h
      obtain ⟨b4, e5, h⟩ := h
      refine jv_getR d_M_reset_20 fl_M_16 rfl q3 e5 ?_
      refine jv_iload_n d_M_reset_23 rfl rfl ?_
      obtain ⟨q6, q7, h⟩ := h
      refine jv_iald d_M_reset_24 q6 q7 ?_
      refine jv_goto (tgt := 29) d_M_reset_25 (by decide) ?_
      obtain ⟨q8, q9, h⟩ := h
      refine jv_iast d_M_reset_29 q8 q9 ?_
      refine jv_iinc (v := (x3 + 1)) (L' := [some (.ref a0), some (.ref a1), some (.int x2), some (.int (x3 + 1))]) d_M_reset_30 rfl rfl (Nat.le_of_ble_eq_true rfl) rfl ?_
      refine jv_goto (tgt := 2) d_M_reset_33 (by decide) ?_
      exact h
theorem b_M_reset_38 {g : jv_G} {d : Nat} {M : jv_Mem} {N cr sr : Nat} {Z : Option Value → jv_Mem → Nat → Prop} {a0 : Nat} {a1 : Nat} {x2 : Int32} {x3 : Int32} (h : jv_Tg 10 a0 N ∧ ((Prod.fst M a0 9) ≤ x3 → Z none M N) ∧ (¬ ((Prod.fst M a0 9) ≤ x3) → jv_Tg 10 a0 N ∧ ∃ b3, Prod.fst (Prod.snd M) a0 10 = some b3 ∧ jv_Tg 11 b3 N ∧ vp_in x3 (jv_sh b3).2 ∧ ((Prod.fst M b3 (Int32.toNatClampNeg x3)) ≠ x2 → jv_J g d mt_M_reset 38 [some (.ref a0), some (.ref a1), some (.int x2), some (.int (x3 + 1))] [] M N cr sr Z) ∧ ((Prod.fst M b3 (Int32.toNatClampNeg x3)) = x2 → jv_Tg 11 a1 N ∧ vp_in ((40 + (6 * x3)) + 3) (jv_sh a1).2 ∧ jv_Tg 11 a1 N ∧ vp_in ((40 + (6 * x3)) + 4) (jv_sh a1).2 ∧ jv_J g d mt_M_reset 38 [some (.ref a0), some (.ref a1), some (.int x2), some (.int (x3 + 1))] [] (jv_si M a1 (Int32.toNatClampNeg ((40 + (6 * x3)) + 4)) (Prod.fst M a1 (Int32.toNatClampNeg ((40 + (6 * x3)) + 3)))) N cr sr Z))) : jv_J g d mt_M_reset 38 [some (.ref a0), some (.ref a1), some (.int x2), some (.int x3)] [] M N cr sr Z := by
  refine jv_iload_n d_M_reset_38 rfl rfl ?_
  refine jv_aload_n d_M_reset_39 rfl rfl ?_
  obtain ⟨q1, h⟩ := h
  refine jv_getI d_M_reset_40 fl_M_138 rfl q1 ?_
  refine jv_icmp_ge (tgt := 84) d_M_reset_43 (by decide) ⟨fun c => ?_, fun c => ?_⟩
  · replace h := h.1 c
    exact jv_ret d_M_reset_84 rfl h
  · replace h := h.2 c
    refine jv_aload_n d_M_reset_46 rfl rfl ?_
    obtain ⟨q2, h⟩ := h
    obtain ⟨b3, e4, h⟩ := h
    refine jv_getR d_M_reset_47 fl_M_22 rfl q2 e4 ?_
    refine jv_iload_n d_M_reset_50 rfl rfl ?_
    obtain ⟨q5, q6, h⟩ := h
    refine jv_iald d_M_reset_51 q5 q6 ?_
    refine jv_iload_n d_M_reset_52 rfl rfl ?_
    refine jv_icmp_ne (tgt := 78) d_M_reset_53 (by decide) ⟨fun c => ?_, fun c => ?_⟩
    · replace h := h.1 c
      refine jv_iinc (v := (x3 + 1)) (L' := [some (.ref a0), some (.ref a1), some (.int x2), some (.int (x3 + 1))]) d_M_reset_78 rfl rfl (Nat.le_of_ble_eq_true rfl) rfl ?_
      refine jv_goto (tgt := 38) d_M_reset_81 (by decide) ?_
      exact h
    · replace h := h.2 c
      refine jv_aload_n d_M_reset_56 rfl rfl ?_
      refine jv_bipush (v := 40) d_M_reset_57 (by decide) ?_
      refine jv_bipush (v := 6) d_M_reset_59 (by decide) ?_
      refine jv_iload_n d_M_reset_61 rfl rfl ?_
      refine jv_imul d_M_reset_62 ?_
      refine jv_iadd d_M_reset_63 ?_
      refine jv_iconst (v := 4) d_M_reset_64 (by decide) ?_
      refine jv_iadd d_M_reset_65 ?_
      refine jv_aload_n d_M_reset_66 rfl rfl ?_
      refine jv_bipush (v := 40) d_M_reset_67 (by decide) ?_
      refine jv_bipush (v := 6) d_M_reset_69 (by decide) ?_
      refine jv_iload_n d_M_reset_71 rfl rfl ?_
      refine jv_imul d_M_reset_72 ?_
      refine jv_iadd d_M_reset_73 ?_
      refine jv_iconst (v := 3) d_M_reset_74 (by decide) ?_
      refine jv_iadd d_M_reset_75 ?_
      obtain ⟨q7, q8, h⟩ := h
      refine jv_iald d_M_reset_76 q7 q8 ?_
      obtain ⟨q9, q10, h⟩ := h
      refine jv_iast d_M_reset_77 q9 q10 ?_
      refine jv_iinc (v := (x3 + 1)) (L' := [some (.ref a0), some (.ref a1), some (.int x2), some (.int (x3 + 1))]) d_M_reset_78 rfl rfl (Nat.le_of_ble_eq_true rfl) rfl ?_
      refine jv_goto (tgt := 38) d_M_reset_81 (by decide) ?_
      exact h
theorem b_M_runBuffer_0 {g : jv_G} {d : Nat} {M : jv_Mem} {N cr sr : Nat} {Z : Option Value → jv_Mem → Nat → Prop} {a0 : Nat} {a1 : Nat} {x2 : Int32} (h : jv_J g (d + 1) mt_M_runBuffer 2 [some (.ref a0), some (.ref a1), some (.int x2), some (.int 0), none] [] M N cr sr Z) : jv_J g (d + 1) mt_M_runBuffer 0 [some (.ref a0), some (.ref a1), some (.int x2), none, none] [] M N cr sr Z := by
  refine jv_iconst (v := 0) d_M_runBuffer_0 (by decide) ?_
  refine jv_istore_n (L' := [some (.ref a0), some (.ref a1), some (.int x2), some (.int 0), none]) d_M_runBuffer_1 rfl (Nat.le_of_ble_eq_true rfl) rfl ?_
  exact h
theorem b_M_runBuffer_2 {g : jv_G} {d : Nat} {M : jv_Mem} {N cr sr : Nat} {Z : Option Value → jv_Mem → Nat → Prop} {a0 : Nat} {a1 : Nat} {x2 : Int32} {x3 : Int32} (h : (2 ≤ x3 → Z (some (.int 0)) M N) ∧ (¬ (2 ≤ x3) → jv_Tg 11 a1 N ∧ vp_in (78 + x3) (jv_sh a1).2 ∧ jv_Ct g d mt_M_plain [.int (Prod.fst M a1 (Int32.toNatClampNeg (78 + x3)))] M N 0 0 (fun v M4 N4 => jv_ri v (fun r3 => (r3 ≠ 0 → ((r3 / 1000) ≤ 5 → jv_Tg 10 a0 N4 ∧ jv_Ct g d mt_M_doPlain [.ref a0, .ref a1, .int x2, .int r3] M4 N4 0 0 (fun v M7 N7 => jv_rv v (jv_J g (d + 1) mt_M_runBuffer 2 [some (.ref a0), some (.ref a1), some (.int x2), some (.int (x3 + 1)), none] [] M7 N7 cr sr Z))) ∧ (¬ ((r3 / 1000) ≤ 5) → Z (some (.int 3)) M4 N4)) ∧ (r3 = 0 → Z (some (.int 0)) M4 N4))))) : jv_J g (d + 1) mt_M_runBuffer 2 [some (.ref a0), some (.ref a1), some (.int x2), some (.int x3), none] [] M N cr sr Z := by
  refine jv_iload_n d_M_runBuffer_2 rfl rfl ?_
  refine jv_iconst (v := 2) d_M_runBuffer_3 (by decide) ?_
  refine jv_icmp_ge (tgt := 51) d_M_runBuffer_4 (by decide) ⟨fun c => ?_, fun c => ?_⟩
  · replace h := h.1 c
    refine jv_iconst (v := 0) d_M_runBuffer_51 (by decide) ?_
    exact jv_iret d_M_runBuffer_52 rfl rfl h
  · replace h := h.2 c
    refine jv_aload_n d_M_runBuffer_7 rfl rfl ?_
    refine jv_bipush (v := 78) d_M_runBuffer_8 (by decide) ?_
    refine jv_iload_n d_M_runBuffer_10 rfl rfl ?_
    refine jv_iadd d_M_runBuffer_11 ?_
    obtain ⟨q1, q2, h⟩ := h
    refine jv_iald d_M_runBuffer_12 q1 q2 ?_
    refine jv_invS [.int (Prod.fst M a1 (Int32.toNatClampNeg (78 + x3)))] [] d_M_runBuffer_13 ml_M_148 rfl (Nat.le_of_ble_eq_true rfl) (Nat.zero_add _) (Nat.zero_add _) (jv_Ct.mono h (fun v M4 N4 h => ?_))
    obtain ⟨r3, rfl, h⟩ := h
    change jv_J g (d + 1) mt_M_runBuffer 16 [some (.ref a0), some (.ref a1), some (.int x2), some (.int x3), none] [.int r3] M4 N4 cr sr Z
    refine jv_istore (L' := [some (.ref a0), some (.ref a1), some (.int x2), some (.int x3), some (.int r3)]) d_M_runBuffer_16 (Nat.le_of_ble_eq_true rfl) rfl ?_
    refine jv_iload d_M_runBuffer_18 rfl ?_
    refine jv_if_ne (tgt := 25) d_M_runBuffer_20 (by decide) ⟨fun c => ?_, fun c => ?_⟩
    · replace h := h.1 c
      refine jv_iload d_M_runBuffer_25 rfl ?_
      refine jv_sipush (v := 1000) d_M_runBuffer_27 (by decide) ?_
      refine jv_idiv d_M_runBuffer_30 (by decide) ?_
      refine jv_iconst (v := 5) d_M_runBuffer_31 (by decide) ?_
      refine jv_icmp_le (tgt := 37) d_M_runBuffer_32 (by decide) ⟨fun c => ?_, fun c => ?_⟩
      · replace h := h.1 c
        refine jv_aload_n d_M_runBuffer_37 rfl rfl ?_
        refine jv_aload_n d_M_runBuffer_38 rfl rfl ?_
        refine jv_iload_n d_M_runBuffer_39 rfl rfl ?_
        refine jv_iload d_M_runBuffer_40 rfl ?_
        obtain ⟨q5, h⟩ := h
        refine jv_invV [.ref a1, .int x2, .int r3] [] d_M_runBuffer_42 ml_M_151 q5 rfl (Nat.le_of_ble_eq_true rfl) (Nat.zero_add _) (Nat.zero_add _) (jv_Ct.mono h (fun v M7 N7 h => ?_))
        obtain ⟨rfl, h⟩ := h
        change jv_J g (d + 1) mt_M_runBuffer 45 [some (.ref a0), some (.ref a1), some (.int x2), some (.int x3), some (.int r3)] [] M7 N7 cr sr Z
        refine jv_iinc (v := (x3 + 1)) (L' := [some (.ref a0), some (.ref a1), some (.int x2), some (.int (x3 + 1)), some (.int r3)]) d_M_runBuffer_45 rfl rfl (Nat.le_of_ble_eq_true rfl) rfl ?_
        refine jv_goto (tgt := 2) d_M_runBuffer_48 (by decide) ?_
        refine jv_weak (L' := [some (.ref a0), some (.ref a1), some (.int x2), some (.int (x3 + 1)), none]) (by simp [jv_le]) ?_
        exact h
      · replace h := h.2 c
        refine jv_iconst (v := 3) d_M_runBuffer_35 (by decide) ?_
        exact jv_iret d_M_runBuffer_36 rfl rfl h
    · replace h := h.2 c
      refine jv_iconst (v := 0) d_M_runBuffer_23 (by decide) ?_
      exact jv_iret d_M_runBuffer_24 rfl rfl h
theorem b_M_plain_0 {g : jv_G} {d : Nat} {M : jv_Mem} {N cr sr : Nat} {Z : Option Value → jv_Mem → Nat → Prop} {x0 : Int32} (h : Z (some (.int (((1000 * (x0 / 100)) + (100 * ((x0 / 10) - (x0 / 10) / 10 * 10))) + (x0 - x0 / 10 * 10)))) M N) : jv_J g d mt_M_plain 0 [some (.int x0)] [] M N cr sr Z := by
  refine jv_sipush (v := 1000) d_M_plain_0 (by decide) ?_
  refine jv_iload_n d_M_plain_3 rfl rfl ?_
  refine jv_bipush (v := 100) d_M_plain_4 (by decide) ?_
  refine jv_idiv d_M_plain_6 (by decide) ?_
  refine jv_imul d_M_plain_7 ?_
  refine jv_bipush (v := 100) d_M_plain_8 (by decide) ?_
  refine jv_iload_n d_M_plain_10 rfl rfl ?_
  refine jv_bipush (v := 10) d_M_plain_11 (by decide) ?_
  refine jv_idiv d_M_plain_13 (by decide) ?_
  refine jv_bipush (v := 10) d_M_plain_14 (by decide) ?_
  refine jv_irem d_M_plain_16 (by decide) ?_
  refine jv_imul d_M_plain_17 ?_
  refine jv_iadd d_M_plain_18 ?_
  refine jv_iload_n d_M_plain_19 rfl rfl ?_
  refine jv_bipush (v := 10) d_M_plain_20 (by decide) ?_
  refine jv_irem d_M_plain_22 (by decide) ?_
  refine jv_iadd d_M_plain_23 ?_
  exact jv_iret d_M_plain_24 rfl rfl h
theorem b_M_doPlain_0 {g : jv_G} {d : Nat} {M : jv_Mem} {N cr sr : Nat} {Z : Option Value → jv_Mem → Nat → Prop} {a0 : Nat} {a1 : Nat} {x2 : Int32} {x3 : Int32} (h : ((x3 / 1000) = 1 → jv_Tg 11 a1 N ∧ vp_in (((8 * x2) + 4) + ((x3 / 100) - (x3 / 100) / 10 * 10)) (jv_sh a1).2 ∧ jv_Tg 11 a1 N ∧ vp_in (((8 * x2) + 4) + ((x3 / 100) - (x3 / 100) / 10 * 10)) (jv_sh a1).2 ∧ Z none (jv_si M a1 (Int32.toNatClampNeg (((8 * x2) + 4) + ((x3 / 100) - (x3 / 100) / 10 * 10))) (((Prod.fst M a1 (Int32.toNatClampNeg (((8 * x2) + 4) + ((x3 / 100) - (x3 / 100) / 10 * 10)))) + (x3 - x3 / 100 * 100)) - ((Prod.fst M a1 (Int32.toNatClampNeg (((8 * x2) + 4) + ((x3 / 100) - (x3 / 100) / 10 * 10)))) + (x3 - x3 / 100 * 100)) / 1000 * 1000)) N) ∧ ((x3 / 1000) = 2 → jv_Tg 11 a1 N ∧ vp_in (((8 * x2) + 4) + ((x3 / 100) - (x3 / 100) / 10 * 10)) (jv_sh a1).2 ∧ jv_Tg 11 a1 N ∧ vp_in (((8 * x2) + 4) + ((x3 / 100) - (x3 / 100) / 10 * 10)) (jv_sh a1).2 ∧ ((Prod.fst M a1 (Int32.toNatClampNeg (((8 * x2) + 4) + ((x3 / 100) - (x3 / 100) / 10 * 10)))) ≤ 0 → jv_Tg 11 a1 N ∧ vp_in (((8 * x2) + 4) + ((x3 / 100) - (x3 / 100) / 10 * 10)) (jv_sh a1).2 ∧ Z none (jv_si M a1 (Int32.toNatClampNeg (((8 * x2) + 4) + ((x3 / 100) - (x3 / 100) / 10 * 10))) ((Prod.fst M a1 (Int32.toNatClampNeg (((8 * x2) + 4) + ((x3 / 100) - (x3 / 100) / 10 * 10)))) - 0)) N) ∧ (¬ ((Prod.fst M a1 (Int32.toNatClampNeg (((8 * x2) + 4) + ((x3 / 100) - (x3 / 100) / 10 * 10)))) ≤ 0) → jv_Tg 11 a1 N ∧ vp_in (((8 * x2) + 4) + ((x3 / 100) - (x3 / 100) / 10 * 10)) (jv_sh a1).2 ∧ Z none (jv_si M a1 (Int32.toNatClampNeg (((8 * x2) + 4) + ((x3 / 100) - (x3 / 100) / 10 * 10))) ((Prod.fst M a1 (Int32.toNatClampNeg (((8 * x2) + 4) + ((x3 / 100) - (x3 / 100) / 10 * 10)))) - 1)) N)) ∧ ((x3 / 1000) = 3 → jv_Tg 11 a1 N ∧ vp_in (((8 * x2) + 4) + (x3 - x3 / 100 * 100)) (jv_sh a1).2 ∧ jv_Tg 11 a1 N ∧ vp_in (((8 * x2) + 4) + ((x3 / 100) - (x3 / 100) / 10 * 10)) (jv_sh a1).2 ∧ Z none (jv_si M a1 (Int32.toNatClampNeg (((8 * x2) + 4) + ((x3 / 100) - (x3 / 100) / 10 * 10))) (Prod.fst M a1 (Int32.toNatClampNeg (((8 * x2) + 4) + (x3 - x3 / 100 * 100))))) N) ∧ ((x3 / 1000) = 4 → jv_Tg 11 a1 N ∧ vp_in (32 + (x3 - x3 / 100 * 100)) (jv_sh a1).2 ∧ jv_Tg 11 a1 N ∧ vp_in (((8 * x2) + 4) + ((x3 / 100) - (x3 / 100) / 10 * 10)) (jv_sh a1).2 ∧ Z none (jv_si M a1 (Int32.toNatClampNeg (((8 * x2) + 4) + ((x3 / 100) - (x3 / 100) / 10 * 10))) (Prod.fst M a1 (Int32.toNatClampNeg (32 + (x3 - x3 / 100 * 100))))) N) ∧ (((x3 / 1000) ≠ 1 ∧ (x3 / 1000) ≠ 2 ∧ (x3 / 1000) ≠ 3 ∧ (x3 / 1000) ≠ 4) → jv_Tg 11 a1 N ∧ vp_in (((8 * x2) + 4) + ((x3 / 100) - (x3 / 100) / 10 * 10)) (jv_sh a1).2 ∧ jv_Tg 11 a1 N ∧ vp_in (32 + (x3 - x3 / 100 * 100)) (jv_sh a1).2 ∧ jv_Tg 10 a0 N ∧ ((Prod.fst (jv_si M a1 (Int32.toNatClampNeg (32 + (x3 - x3 / 100 * 100))) (Prod.fst M a1 (Int32.toNatClampNeg (((8 * x2) + 4) + ((x3 / 100) - (x3 / 100) / 10 * 10))))) a0 31) ≠ 0 → jv_Tg 10 a0 N ∧ Z none (jv_si (jv_si M a1 (Int32.toNatClampNeg (32 + (x3 - x3 / 100 * 100))) (Prod.fst M a1 (Int32.toNatClampNeg (((8 * x2) + 4) + ((x3 / 100) - (x3 / 100) / 10 * 10))))) a0 31 1) N) ∧ ((Prod.fst (jv_si M a1 (Int32.toNatClampNeg (32 + (x3 - x3 / 100 * 100))) (Prod.fst M a1 (Int32.toNatClampNeg (((8 * x2) + 4) + ((x3 / 100) - (x3 / 100) / 10 * 10))))) a0 31) = 0 → ((x3 - x3 / 100 * 100) ≠ 7 → jv_Tg 10 a0 N ∧ Z none (jv_si (jv_si M a1 (Int32.toNatClampNeg (32 + (x3 - x3 / 100 * 100))) (Prod.fst M a1 (Int32.toNatClampNeg (((8 * x2) + 4) + ((x3 / 100) - (x3 / 100) / 10 * 10))))) a0 31 0) N) ∧ ((x3 - x3 / 100 * 100) = 7 → jv_Tg 10 a0 N ∧ Z none (jv_si (jv_si M a1 (Int32.toNatClampNeg (32 + (x3 - x3 / 100 * 100))) (Prod.fst M a1 (Int32.toNatClampNeg (((8 * x2) + 4) + ((x3 / 100) - (x3 / 100) / 10 * 10))))) a0 31 1) N)))) : jv_J g d mt_M_doPlain 0 [some (.ref a0), some (.ref a1), some (.int x2), some (.int x3), none, none] [] M N cr sr Z := by
  refine jv_bipush (v := 8) d_M_doPlain_0 (by decide) ?_
  refine jv_iload_n d_M_doPlain_2 rfl rfl ?_
  refine jv_imul d_M_doPlain_3 ?_
  refine jv_iconst (v := 4) d_M_doPlain_4 (by decide) ?_
  refine jv_iadd d_M_doPlain_5 ?_
  refine jv_iload_n d_M_doPlain_6 rfl rfl ?_
  refine jv_bipush (v := 100) d_M_doPlain_7 (by decide) ?_
  refine jv_idiv d_M_doPlain_9 (by decide) ?_
  refine jv_bipush (v := 10) d_M_doPlain_10 (by decide) ?_
  refine jv_irem d_M_doPlain_12 (by decide) ?_
  refine jv_iadd d_M_doPlain_13 ?_
  refine jv_istore (L' := [some (.ref a0), some (.ref a1), some (.int x2), some (.int x3), some (.int (((8 * x2) + 4) + ((x3 / 100) - (x3 / 100) / 10 * 10))), none]) d_M_doPlain_14 (Nat.le_of_ble_eq_true rfl) rfl ?_
  refine jv_iload_n d_M_doPlain_16 rfl rfl ?_
  refine jv_bipush (v := 100) d_M_doPlain_17 (by decide) ?_
  refine jv_irem d_M_doPlain_19 (by decide) ?_
  refine jv_istore (L' := [some (.ref a0), some (.ref a1), some (.int x2), some (.int x3), some (.int (((8 * x2) + 4) + ((x3 / 100) - (x3 / 100) / 10 * 10))), some (.int (x3 - x3 / 100 * 100))]) d_M_doPlain_20 (Nat.le_of_ble_eq_true rfl) rfl ?_
  refine jv_iload_n d_M_doPlain_22 rfl rfl ?_
  refine jv_sipush (v := 1000) d_M_doPlain_23 (by decide) ?_
  refine jv_idiv d_M_doPlain_26 (by decide) ?_
  have hD1 : ((x3 / 1000) ≠ 1 ∧ (x3 / 1000) ≠ 2 ∧ (x3 / 1000) ≠ 3 ∧ (x3 / 1000) ≠ 4) → jv_J g d mt_M_doPlain 128 [some (.ref a0), some (.ref a1), some (.int x2), some (.int x3), some (.int (((8 * x2) + 4) + ((x3 / 100) - (x3 / 100) / 10 * 10))), some (.int (x3 - x3 / 100 * 100))] [] M N cr sr Z := by
    intro c
    replace h := h.2.2.2.2 c
    refine jv_aload_n d_M_doPlain_128 rfl rfl ?_
    refine jv_bipush (v := 32) d_M_doPlain_129 (by decide) ?_
    refine jv_iload d_M_doPlain_131 rfl ?_
    refine jv_iadd d_M_doPlain_133 ?_
    refine jv_aload_n d_M_doPlain_134 rfl rfl ?_
    refine jv_iload d_M_doPlain_135 rfl ?_
    obtain ⟨q2, q3, h⟩ := h
    refine jv_iald d_M_doPlain_137 q2 q3 ?_
    obtain ⟨q4, q5, h⟩ := h
    refine jv_iast d_M_doPlain_138 q4 q5 ?_
    refine jv_aload_n d_M_doPlain_139 rfl rfl ?_
    refine jv_aload_n d_M_doPlain_140 rfl rfl ?_
    obtain ⟨q6, h⟩ := h
    refine jv_getI d_M_doPlain_141 fl_M_144 rfl q6 ?_
    refine jv_if_ne (tgt := 154) d_M_doPlain_144 (by decide) ⟨fun c => ?_, fun c => ?_⟩
    · replace h := h.1 c
      refine jv_iconst (v := 1) d_M_doPlain_154 (by decide) ?_
      refine jv_goto (tgt := 159) d_M_doPlain_155 (by decide) ?_
      obtain ⟨q7, h⟩ := h
      refine jv_putZ d_M_doPlain_159 fl_M_144 (fun r hr => by cases hr; rfl) rfl q7 (by decide) ?_
      exact jv_ret d_M_doPlain_162 rfl h
    · replace h := h.2 c
      refine jv_iload d_M_doPlain_147 rfl ?_
      refine jv_bipush (v := 7) d_M_doPlain_149 (by decide) ?_
      refine jv_icmp_ne (tgt := 158) d_M_doPlain_151 (by decide) ⟨fun c => ?_, fun c => ?_⟩
      · replace h := h.1 c
        refine jv_iconst (v := 0) d_M_doPlain_158 (by decide) ?_
        obtain ⟨q8, h⟩ := h
        refine jv_putZ d_M_doPlain_159 fl_M_144 (fun r hr => by cases hr; rfl) rfl q8 (by decide) ?_
        exact jv_ret d_M_doPlain_162 rfl h
      · replace h := h.2 c
        refine jv_iconst (v := 1) d_M_doPlain_154 (by decide) ?_
        refine jv_goto (tgt := 159) d_M_doPlain_155 (by decide) ?_
        obtain ⟨q9, h⟩ := h
        refine jv_putZ d_M_doPlain_159 fl_M_144 (fun r hr => by cases hr; rfl) rfl q9 (by decide) ?_
        exact jv_ret d_M_doPlain_162 rfl h
  refine jv_tsw (dt := 128) [(1, 56), (2, 74), (3, 96), (4, 114)] d_M_doPlain_27 (by decide) (by decide) (by decide) (fun q hq hx => ?_) (fun hq => ?_)
  · simp only [List.mem_cons, List.not_mem_nil, or_false] at hq
    rcases hq with rfl | rfl | rfl | rfl
    · replace h := h.1 hx
      refine jv_aload_n d_M_doPlain_56 rfl rfl ?_
      refine jv_iload d_M_doPlain_57 rfl ?_
      refine jv_aload_n d_M_doPlain_59 rfl rfl ?_
      refine jv_iload d_M_doPlain_60 rfl ?_
      obtain ⟨q10, q11, h⟩ := h
      refine jv_iald d_M_doPlain_62 q10 q11 ?_
      refine jv_iload d_M_doPlain_63 rfl ?_
      refine jv_iadd d_M_doPlain_65 ?_
      refine jv_sipush (v := 1000) d_M_doPlain_66 (by decide) ?_
      refine jv_irem d_M_doPlain_69 (by decide) ?_
      obtain ⟨q12, q13, h⟩ := h
      refine jv_iast d_M_doPlain_70 q12 q13 ?_
      refine jv_goto (tgt := 162) d_M_doPlain_71 (by decide) ?_
      exact jv_ret d_M_doPlain_162 rfl h
    · replace h := h.2.1 hx
      refine jv_aload_n d_M_doPlain_74 rfl rfl ?_
      refine jv_iload d_M_doPlain_75 rfl ?_
      refine jv_dup2 d_M_doPlain_77 rfl rfl ?_
      obtain ⟨q14, q15, h⟩ := h
      refine jv_iald d_M_doPlain_78 q14 q15 ?_
      refine jv_aload_n d_M_doPlain_79 rfl rfl ?_
      refine jv_iload d_M_doPlain_80 rfl ?_
      obtain ⟨q16, q17, h⟩ := h
      refine jv_iald d_M_doPlain_82 q16 q17 ?_
      refine jv_if_le (tgt := 90) d_M_doPlain_83 (by decide) ⟨fun c => ?_, fun c => ?_⟩
      · replace h := h.1 c
        refine jv_iconst (v := 0) d_M_doPlain_90 (by decide) ?_
        refine jv_isub d_M_doPlain_91 ?_
        obtain ⟨q18, q19, h⟩ := h
        refine jv_iast d_M_doPlain_92 q18 q19 ?_
        refine jv_goto (tgt := 162) d_M_doPlain_93 (by decide) ?_
        exact jv_ret d_M_doPlain_162 rfl h
      · replace h := h.2 c
        refine jv_iconst (v := 1) d_M_doPlain_86 (by decide) ?_
        refine jv_goto (tgt := 91) d_M_doPlain_87 (by decide) ?_
        refine jv_isub d_M_doPlain_91 ?_
        obtain ⟨q20, q21, h⟩ := h
        refine jv_iast d_M_doPlain_92 q20 q21 ?_
        refine jv_goto (tgt := 162) d_M_doPlain_93 (by decide) ?_
        exact jv_ret d_M_doPlain_162 rfl h
    · replace h := h.2.2.1 hx
      refine jv_aload_n d_M_doPlain_96 rfl rfl ?_
      refine jv_iload d_M_doPlain_97 rfl ?_
      refine jv_aload_n d_M_doPlain_99 rfl rfl ?_
      refine jv_bipush (v := 8) d_M_doPlain_100 (by decide) ?_
      refine jv_iload_n d_M_doPlain_102 rfl rfl ?_
      refine jv_imul d_M_doPlain_103 ?_
      refine jv_iconst (v := 4) d_M_doPlain_104 (by decide) ?_
      refine jv_iadd d_M_doPlain_105 ?_
      refine jv_iload d_M_doPlain_106 rfl ?_
      refine jv_iadd d_M_doPlain_108 ?_
      obtain ⟨q22, q23, h⟩ := h
      refine jv_iald d_M_doPlain_109 q22 q23 ?_
      obtain ⟨q24, q25, h⟩ := h
      refine jv_iast d_M_doPlain_110 q24 q25 ?_
      refine jv_goto (tgt := 162) d_M_doPlain_111 (by decide) ?_
      exact jv_ret d_M_doPlain_162 rfl h
    · replace h := h.2.2.2.1 hx
      refine jv_aload_n d_M_doPlain_114 rfl rfl ?_
      refine jv_iload d_M_doPlain_115 rfl ?_
      refine jv_aload_n d_M_doPlain_117 rfl rfl ?_
      refine jv_bipush (v := 32) d_M_doPlain_118 (by decide) ?_
      refine jv_iload d_M_doPlain_120 rfl ?_
      refine jv_iadd d_M_doPlain_122 ?_
      obtain ⟨q26, q27, h⟩ := h
      refine jv_iald d_M_doPlain_123 q26 q27 ?_
      obtain ⟨q28, q29, h⟩ := h
      refine jv_iast d_M_doPlain_124 q28 q29 ?_
      refine jv_goto (tgt := 162) d_M_doPlain_125 (by decide) ?_
      exact jv_ret d_M_doPlain_162 rfl h
  · exact hD1 ⟨hq _ (List.mem_of_getElem? (i := 0) rfl), hq _ (List.mem_of_getElem? (i := 1) rfl), hq _ (List.mem_of_getElem? (i := 2) rfl), hq _ (List.mem_of_getElem? (i := 3) rfl)⟩
theorem b_M_dropOrder_0 {g : jv_G} {d : Nat} {M : jv_Mem} {N cr sr : Nat} {Z : Option Value → jv_Mem → Nat → Prop} {a0 : Nat} {x1 : Int32} (h : jv_Tg 11 a0 N ∧ vp_in 80 (jv_sh a0).2 ∧ jv_Tg 11 a0 N ∧ vp_in 80 (jv_sh a0).2 ∧ jv_J g d mt_M_dropOrder 16 [some (.ref a0), none, some (.int (81 + (7 * x1)))] [] (jv_si M a0 (Int32.toNatClampNeg 80) ((Prod.fst M a0 (Int32.toNatClampNeg 80)) - 1)) N cr sr Z) : jv_J g d mt_M_dropOrder 0 [some (.ref a0), some (.int x1), none] [] M N cr sr Z := by
  refine jv_aload_n d_M_dropOrder_0 rfl rfl ?_
  refine jv_bipush (v := 80) d_M_dropOrder_1 (by decide) ?_
  refine jv_dup2 d_M_dropOrder_3 rfl rfl ?_
  obtain ⟨q1, q2, h⟩ := h
  refine jv_iald d_M_dropOrder_4 q1 q2 ?_
  refine jv_iconst (v := 1) d_M_dropOrder_5 (by decide) ?_
  refine jv_isub d_M_dropOrder_6 ?_
  obtain ⟨q3, q4, h⟩ := h
  refine jv_iast d_M_dropOrder_7 q3 q4 ?_
  refine jv_bipush (v := 81) d_M_dropOrder_8 (by decide) ?_
  refine jv_bipush (v := 7) d_M_dropOrder_10 (by decide) ?_
  refine jv_iload_n d_M_dropOrder_12 rfl rfl ?_
  refine jv_imul d_M_dropOrder_13 ?_
  refine jv_iadd d_M_dropOrder_14 ?_
  refine jv_istore_n (L' := [some (.ref a0), some (.int x1), some (.int (81 + (7 * x1)))]) d_M_dropOrder_15 rfl (Nat.le_of_ble_eq_true rfl) rfl ?_
  refine jv_weak (L' := [some (.ref a0), none, some (.int (81 + (7 * x1)))]) (by simp [jv_le]) ?_
  exact h
theorem b_M_dropOrder_16 {g : jv_G} {d : Nat} {M : jv_Mem} {N cr sr : Nat} {Z : Option Value → jv_Mem → Nat → Prop} {a0 : Nat} {x2 : Int32} (h : jv_Tg 11 a0 N ∧ vp_in 80 (jv_sh a0).2 ∧ ((81 + (7 * (Prod.fst M a0 (Int32.toNatClampNeg 80)))) ≤ x2 → Z none M N) ∧ (¬ ((81 + (7 * (Prod.fst M a0 (Int32.toNatClampNeg 80)))) ≤ x2) → jv_Tg 11 a0 N ∧ vp_in (x2 + 7) (jv_sh a0).2 ∧ jv_Tg 11 a0 N ∧ vp_in x2 (jv_sh a0).2 ∧ jv_J g d mt_M_dropOrder 16 [some (.ref a0), none, some (.int (x2 + 1))] [] (jv_si M a0 (Int32.toNatClampNeg x2) (Prod.fst M a0 (Int32.toNatClampNeg (x2 + 7)))) N cr sr Z)) : jv_J g d mt_M_dropOrder 16 [some (.ref a0), none, some (.int x2)] [] M N cr sr Z := by
  refine jv_iload_n d_M_dropOrder_16 rfl rfl ?_
  refine jv_bipush (v := 81) d_M_dropOrder_17 (by decide) ?_
  refine jv_bipush (v := 7) d_M_dropOrder_19 (by decide) ?_
  refine jv_aload_n d_M_dropOrder_21 rfl rfl ?_
  refine jv_bipush (v := 80) d_M_dropOrder_22 (by decide) ?_
  obtain ⟨q1, q2, h⟩ := h
  refine jv_iald d_M_dropOrder_24 q1 q2 ?_
  refine jv_imul d_M_dropOrder_25 ?_
  refine jv_iadd d_M_dropOrder_26 ?_
  refine jv_icmp_ge (tgt := 45) d_M_dropOrder_27 (by decide) ⟨fun c => ?_, fun c => ?_⟩
  · replace h := h.1 c
    exact jv_ret d_M_dropOrder_45 rfl h
  · replace h := h.2 c
    refine jv_aload_n d_M_dropOrder_30 rfl rfl ?_
    refine jv_iload_n d_M_dropOrder_31 rfl rfl ?_
    refine jv_aload_n d_M_dropOrder_32 rfl rfl ?_
    refine jv_iload_n d_M_dropOrder_33 rfl rfl ?_
    refine jv_bipush (v := 7) d_M_dropOrder_34 (by decide) ?_
    refine jv_iadd d_M_dropOrder_36 ?_
    obtain ⟨q3, q4, h⟩ := h
    refine jv_iald d_M_dropOrder_37 q3 q4 ?_
    obtain ⟨q5, q6, h⟩ := h
    refine jv_iast d_M_dropOrder_38 q5 q6 ?_
    refine jv_iinc (v := (x2 + 1)) (L' := [some (.ref a0), none, some (.int (x2 + 1))]) d_M_dropOrder_39 rfl rfl (Nat.le_of_ble_eq_true rfl) rfl ?_
    refine jv_goto (tgt := 16) d_M_dropOrder_42 (by decide) ?_
    exact h
theorem b_M_runHart_0 {g : jv_G} {d : Nat} {M : jv_Mem} {N cr sr : Nat} {Z : Option Value → jv_Mem → Nat → Prop} {a0 : Nat} {a1 : Nat} {x2 : Int32} (h : jv_Tg 11 a1 N ∧ vp_in ((8 * x2) + 1) (jv_sh a1).2 ∧ ((Prod.fst M a1 (Int32.toNatClampNeg ((8 * x2) + 1))) ≠ 0 → Z none M N) ∧ ((Prod.fst M a1 (Int32.toNatClampNeg ((8 * x2) + 1))) = 0 → jv_Tg 10 a0 N ∧ ((Prod.fst M a0 4) ≠ 0 → jv_Tg 11 a1 N ∧ vp_in (8 * x2) (jv_sh a1).2 ∧ jv_Tg 10 a0 N ∧ ((Prod.fst M a1 (Int32.toNatClampNeg (8 * x2))) < (Prod.fst M a0 4) → jv_Tg 11 a1 N ∧ vp_in (8 * x2) (jv_sh a1).2 ∧ jv_Tg 11 a1 N ∧ vp_in (8 * x2) (jv_sh a1).2 ∧ jv_Tg 10 a0 N ∧ jv_Ct g d mt_M_isCaught [.ref a0, .ref a1, .int x2] (jv_si M a1 (Int32.toNatClampNeg (8 * x2)) (Prod.fst M a1 (Int32.toNatClampNeg (8 * x2)))) N 0 0 (fun v M13 N13 => jv_ri v (fun r12 => (r12 = 0 → jv_Tg 10 a0 N13 ∧ ∃ b15, Prod.fst (Prod.snd M13) a0 5 = some b15 ∧ jv_Tg 11 a1 N13 ∧ vp_in (8 * x2) (jv_sh a1).2 ∧ jv_Tg 11 b15 N13 ∧ vp_in (Prod.fst M13 a1 (Int32.toNatClampNeg (8 * x2))) (jv_sh b15).2 ∧ jv_Tg 11 a1 N13 ∧ vp_in (8 * x2) (jv_sh a1).2 ∧ jv_Tg 11 a1 N13 ∧ vp_in (8 * x2) (jv_sh a1).2 ∧ (((Prod.fst M13 b15 (Int32.toNatClampNeg (Prod.fst M13 a1 (Int32.toNatClampNeg (8 * x2))))) / 1000) = 6 → jv_Tg 11 a1 N13 ∧ vp_in (((8 * x2) + 4) + (((Prod.fst M13 b15 (Int32.toNatClampNeg (Prod.fst M13 a1 (Int32.toNatClampNeg (8 * x2))))) / 100) - ((Prod.fst M13 b15 (Int32.toNatClampNeg (Prod.fst M13 a1 (Int32.toNatClampNeg (8 * x2))))) / 100) / 10 * 10)) (jv_sh a1).2 ∧ ((Prod.fst (jv_si M13 a1 (Int32.toNatClampNeg (8 * x2)) ((Prod.fst M13 a1 (Int32.toNatClampNeg (8 * x2))) + 1)) a1 (Int32.toNatClampNeg (((8 * x2) + 4) + (((Prod.fst M13 b15 (Int32.toNatClampNeg (Prod.fst M13 a1 (Int32.toNatClampNeg (8 * x2))))) / 100) - ((Prod.fst M13 b15 (Int32.toNatClampNeg (Prod.fst M13 a1 (Int32.toNatClampNeg (8 * x2))))) / 100) / 10 * 10)))) = 0 → jv_Tg 11 a1 N13 ∧ vp_in (8 * x2) (jv_sh a1).2 ∧ jv_Tg 11 a1 N13 ∧ vp_in (8 * x2) (jv_sh a1).2 ∧ Z none (jv_si (jv_si M13 a1 (Int32.toNatClampNeg (8 * x2)) ((Prod.fst M13 a1 (Int32.toNatClampNeg (8 * x2))) + 1)) a1 (Int32.toNatClampNeg (8 * x2)) (Prod.fst (jv_si M13 a1 (Int32.toNatClampNeg (8 * x2)) ((Prod.fst M13 a1 (Int32.toNatClampNeg (8 * x2))) + 1)) a1 (Int32.toNatClampNeg (8 * x2)))) N13) ∧ (¬ ((Prod.fst (jv_si M13 a1 (Int32.toNatClampNeg (8 * x2)) ((Prod.fst M13 a1 (Int32.toNatClampNeg (8 * x2))) + 1)) a1 (Int32.toNatClampNeg (((8 * x2) + 4) + (((Prod.fst M13 b15 (Int32.toNatClampNeg (Prod.fst M13 a1 (Int32.toNatClampNeg (8 * x2))))) / 100) - ((Prod.fst M13 b15 (Int32.toNatClampNeg (Prod.fst M13 a1 (Int32.toNatClampNeg (8 * x2))))) / 100) / 10 * 10)))) = 0) → jv_Tg 11 a1 N13 ∧ vp_in (8 * x2) (jv_sh a1).2 ∧ Z none (jv_si (jv_si M13 a1 (Int32.toNatClampNeg (8 * x2)) ((Prod.fst M13 a1 (Int32.toNatClampNeg (8 * x2))) + 1)) a1 (Int32.toNatClampNeg (8 * x2)) ((Prod.fst M13 b15 (Int32.toNatClampNeg (Prod.fst M13 a1 (Int32.toNatClampNeg (8 * x2))))) - (Prod.fst M13 b15 (Int32.toNatClampNeg (Prod.fst M13 a1 (Int32.toNatClampNeg (8 * x2))))) / 100 * 100)) N13)) ∧ (((Prod.fst M13 b15 (Int32.toNatClampNeg (Prod.fst M13 a1 (Int32.toNatClampNeg (8 * x2))))) / 1000) = 7 → jv_Tg 11 a1 N13 ∧ vp_in ((8 * x2) + 1) (jv_sh a1).2 ∧ Z none (jv_si (jv_si M13 a1 (Int32.toNatClampNeg (8 * x2)) ((Prod.fst M13 a1 (Int32.toNatClampNeg (8 * x2))) + 1)) a1 (Int32.toNatClampNeg ((8 * x2) + 1)) 1) N13) ∧ (((Prod.fst M13 b15 (Int32.toNatClampNeg (Prod.fst M13 a1 (Int32.toNatClampNeg (8 * x2))))) / 1000) = 8 → jv_Ct g d mt_M_halt [.ref a1, .int x2, .int 3] (jv_si M13 a1 (Int32.toNatClampNeg (8 * x2)) ((Prod.fst M13 a1 (Int32.toNatClampNeg (8 * x2))) + 1)) N13 0 0 (fun v M40 N40 => jv_rv v (Z none M40 N40))) ∧ ((((Prod.fst M13 b15 (Int32.toNatClampNeg (Prod.fst M13 a1 (Int32.toNatClampNeg (8 * x2))))) / 1000) ≠ 6 ∧ ((Prod.fst M13 b15 (Int32.toNatClampNeg (Prod.fst M13 a1 (Int32.toNatClampNeg (8 * x2))))) / 1000) ≠ 7 ∧ ((Prod.fst M13 b15 (Int32.toNatClampNeg (Prod.fst M13 a1 (Int32.toNatClampNeg (8 * x2))))) / 1000) ≠ 8) → jv_Tg 10 a0 N13 ∧ jv_Ct g d mt_M_doPlain [.ref a0, .ref a1, .int x2, .int (Prod.fst M13 b15 (Int32.toNatClampNeg (Prod.fst M13 a1 (Int32.toNatClampNeg (8 * x2)))))] (jv_si M13 a1 (Int32.toNatClampNeg (8 * x2)) ((Prod.fst M13 a1 (Int32.toNatClampNeg (8 * x2))) + 1)) N13 0 0 (fun v M28 N28 => jv_rv v (Z none M28 N28)))) ∧ (¬ (r12 = 0) → jv_Ct g d mt_M_halt [.ref a1, .int x2, .int 2] M13 N13 0 0 (fun v M42 N42 => jv_rv v (Z none M42 N42)))))) ∧ (¬ ((Prod.fst M a1 (Int32.toNatClampNeg (8 * x2))) < (Prod.fst M a0 4)) → jv_Tg 11 a1 N ∧ vp_in (8 * x2) (jv_sh a1).2 ∧ jv_Tg 10 a0 N ∧ jv_Ct g d mt_M_isCaught [.ref a0, .ref a1, .int x2] (jv_si M a1 (Int32.toNatClampNeg (8 * x2)) 0) N 0 0 (fun v M47 N47 => jv_ri v (fun r46 => (r46 = 0 → jv_Tg 10 a0 N47 ∧ ∃ b49, Prod.fst (Prod.snd M47) a0 5 = some b49 ∧ jv_Tg 11 a1 N47 ∧ vp_in (8 * x2) (jv_sh a1).2 ∧ jv_Tg 11 b49 N47 ∧ vp_in (Prod.fst M47 a1 (Int32.toNatClampNeg (8 * x2))) (jv_sh b49).2 ∧ jv_Tg 11 a1 N47 ∧ vp_in (8 * x2) (jv_sh a1).2 ∧ jv_Tg 11 a1 N47 ∧ vp_in (8 * x2) (jv_sh a1).2 ∧ (((Prod.fst M47 b49 (Int32.toNatClampNeg (Prod.fst M47 a1 (Int32.toNatClampNeg (8 * x2))))) / 1000) = 6 → jv_Tg 11 a1 N47 ∧ vp_in (((8 * x2) + 4) + (((Prod.fst M47 b49 (Int32.toNatClampNeg (Prod.fst M47 a1 (Int32.toNatClampNeg (8 * x2))))) / 100) - ((Prod.fst M47 b49 (Int32.toNatClampNeg (Prod.fst M47 a1 (Int32.toNatClampNeg (8 * x2))))) / 100) / 10 * 10)) (jv_sh a1).2 ∧ ((Prod.fst (jv_si M47 a1 (Int32.toNatClampNeg (8 * x2)) ((Prod.fst M47 a1 (Int32.toNatClampNeg (8 * x2))) + 1)) a1 (Int32.toNatClampNeg (((8 * x2) + 4) + (((Prod.fst M47 b49 (Int32.toNatClampNeg (Prod.fst M47 a1 (Int32.toNatClampNeg (8 * x2))))) / 100) - ((Prod.fst M47 b49 (Int32.toNatClampNeg (Prod.fst M47 a1 (Int32.toNatClampNeg (8 * x2))))) / 100) / 10 * 10)))) = 0 → jv_Tg 11 a1 N47 ∧ vp_in (8 * x2) (jv_sh a1).2 ∧ jv_Tg 11 a1 N47 ∧ vp_in (8 * x2) (jv_sh a1).2 ∧ Z none (jv_si (jv_si M47 a1 (Int32.toNatClampNeg (8 * x2)) ((Prod.fst M47 a1 (Int32.toNatClampNeg (8 * x2))) + 1)) a1 (Int32.toNatClampNeg (8 * x2)) (Prod.fst (jv_si M47 a1 (Int32.toNatClampNeg (8 * x2)) ((Prod.fst M47 a1 (Int32.toNatClampNeg (8 * x2))) + 1)) a1 (Int32.toNatClampNeg (8 * x2)))) N47) ∧ (¬ ((Prod.fst (jv_si M47 a1 (Int32.toNatClampNeg (8 * x2)) ((Prod.fst M47 a1 (Int32.toNatClampNeg (8 * x2))) + 1)) a1 (Int32.toNatClampNeg (((8 * x2) + 4) + (((Prod.fst M47 b49 (Int32.toNatClampNeg (Prod.fst M47 a1 (Int32.toNatClampNeg (8 * x2))))) / 100) - ((Prod.fst M47 b49 (Int32.toNatClampNeg (Prod.fst M47 a1 (Int32.toNatClampNeg (8 * x2))))) / 100) / 10 * 10)))) = 0) → jv_Tg 11 a1 N47 ∧ vp_in (8 * x2) (jv_sh a1).2 ∧ Z none (jv_si (jv_si M47 a1 (Int32.toNatClampNeg (8 * x2)) ((Prod.fst M47 a1 (Int32.toNatClampNeg (8 * x2))) + 1)) a1 (Int32.toNatClampNeg (8 * x2)) ((Prod.fst M47 b49 (Int32.toNatClampNeg (Prod.fst M47 a1 (Int32.toNatClampNeg (8 * x2))))) - (Prod.fst M47 b49 (Int32.toNatClampNeg (Prod.fst M47 a1 (Int32.toNatClampNeg (8 * x2))))) / 100 * 100)) N47)) ∧ (((Prod.fst M47 b49 (Int32.toNatClampNeg (Prod.fst M47 a1 (Int32.toNatClampNeg (8 * x2))))) / 1000) = 7 → jv_Tg 11 a1 N47 ∧ vp_in ((8 * x2) + 1) (jv_sh a1).2 ∧ Z none (jv_si (jv_si M47 a1 (Int32.toNatClampNeg (8 * x2)) ((Prod.fst M47 a1 (Int32.toNatClampNeg (8 * x2))) + 1)) a1 (Int32.toNatClampNeg ((8 * x2) + 1)) 1) N47) ∧ (((Prod.fst M47 b49 (Int32.toNatClampNeg (Prod.fst M47 a1 (Int32.toNatClampNeg (8 * x2))))) / 1000) = 8 → jv_Ct g d mt_M_halt [.ref a1, .int x2, .int 3] (jv_si M47 a1 (Int32.toNatClampNeg (8 * x2)) ((Prod.fst M47 a1 (Int32.toNatClampNeg (8 * x2))) + 1)) N47 0 0 (fun v M74 N74 => jv_rv v (Z none M74 N74))) ∧ ((((Prod.fst M47 b49 (Int32.toNatClampNeg (Prod.fst M47 a1 (Int32.toNatClampNeg (8 * x2))))) / 1000) ≠ 6 ∧ ((Prod.fst M47 b49 (Int32.toNatClampNeg (Prod.fst M47 a1 (Int32.toNatClampNeg (8 * x2))))) / 1000) ≠ 7 ∧ ((Prod.fst M47 b49 (Int32.toNatClampNeg (Prod.fst M47 a1 (Int32.toNatClampNeg (8 * x2))))) / 1000) ≠ 8) → jv_Tg 10 a0 N47 ∧ jv_Ct g d mt_M_doPlain [.ref a0, .ref a1, .int x2, .int (Prod.fst M47 b49 (Int32.toNatClampNeg (Prod.fst M47 a1 (Int32.toNatClampNeg (8 * x2)))))] (jv_si M47 a1 (Int32.toNatClampNeg (8 * x2)) ((Prod.fst M47 a1 (Int32.toNatClampNeg (8 * x2))) + 1)) N47 0 0 (fun v M62 N62 => jv_rv v (Z none M62 N62)))) ∧ (¬ (r46 = 0) → jv_Ct g d mt_M_halt [.ref a1, .int x2, .int 2] M47 N47 0 0 (fun v M76 N76 => jv_rv v (Z none M76 N76))))))) ∧ ((Prod.fst M a0 4) = 0 → Z none M N))) : jv_J g (d + 1) mt_M_runHart 0 [some (.ref a0), some (.ref a1), some (.int x2), none, none] [] M N cr sr Z := by
  refine jv_bipush (v := 8) d_M_runHart_0 (by decide) ?_
  refine jv_iload_n d_M_runHart_2 rfl rfl ?_
  refine jv_imul d_M_runHart_3 ?_
  refine jv_istore_n (L' := [some (.ref a0), some (.ref a1), some (.int x2), some (.int (8 * x2)), none]) d_M_runHart_4 rfl (Nat.le_of_ble_eq_true rfl) rfl ?_
  refine jv_aload_n d_M_runHart_5 rfl rfl ?_
  refine jv_iload_n d_M_runHart_6 rfl rfl ?_
  refine jv_iconst (v := 1) d_M_runHart_7 (by decide) ?_
  refine jv_iadd d_M_runHart_8 ?_
  obtain ⟨q1, q2, h⟩ := h
  refine jv_iald d_M_runHart_9 q1 q2 ?_
  refine jv_if_ne (tgt := 20) d_M_runHart_10 (by decide) ⟨fun c => ?_, fun c => ?_⟩
  · replace h := h.1 c
    exact jv_ret d_M_runHart_20 rfl h
  · replace h := h.2 c
    refine jv_aload_n d_M_runHart_13 rfl rfl ?_
    obtain ⟨q3, h⟩ := h
    refine jv_getI d_M_runHart_14 fl_M_135 rfl q3 ?_
    refine jv_if_ne (tgt := 21) d_M_runHart_17 (by decide) ⟨fun c => ?_, fun c => ?_⟩
    · replace h := h.1 c
      refine jv_aload_n d_M_runHart_21 rfl rfl ?_
      refine jv_iload_n d_M_runHart_22 rfl rfl ?_
      refine jv_aload_n d_M_runHart_23 rfl rfl ?_
      refine jv_iload_n d_M_runHart_24 rfl rfl ?_
      obtain ⟨q4, q5, h⟩ := h
      refine jv_iald d_M_runHart_25 q4 q5 ?_
      refine jv_aload_n d_M_runHart_26 rfl rfl ?_
      obtain ⟨q6, h⟩ := h
      refine jv_getI d_M_runHart_27 fl_M_135 rfl q6 ?_
      refine jv_icmp_lt (tgt := 37) d_M_runHart_30 (by decide) ⟨fun c => ?_, fun c => ?_⟩
      · replace h := h.1 c
        refine jv_aload_n d_M_runHart_37 rfl rfl ?_
        refine jv_iload_n d_M_runHart_38 rfl rfl ?_
        obtain ⟨q7, q8, h⟩ := h
        refine jv_iald d_M_runHart_39 q7 q8 ?_
        obtain ⟨q9, q10, h⟩ := h
        refine jv_iast d_M_runHart_40 q9 q10 ?_
        refine jv_aload_n d_M_runHart_41 rfl rfl ?_
        refine jv_aload_n d_M_runHart_42 rfl rfl ?_
        refine jv_iload_n d_M_runHart_43 rfl rfl ?_
        obtain ⟨q11, h⟩ := h
        refine jv_invV [.ref a1, .int x2] [] d_M_runHart_44 ml_M_186 q11 rfl (Nat.le_of_ble_eq_true rfl) (Nat.zero_add _) (Nat.zero_add _) (jv_Ct.mono h (fun v M13 N13 h => ?_))
        obtain ⟨r12, rfl, h⟩ := h
        change jv_J g (d + 1) mt_M_runHart 47 [some (.ref a0), some (.ref a1), some (.int x2), some (.int (8 * x2)), none] [.int r12] M13 N13 cr sr Z
        refine jv_if_eq (tgt := 57) d_M_runHart_47 (by decide) ⟨fun c => ?_, fun c => ?_⟩
        · replace h := h.1 c
          refine jv_aload_n d_M_runHart_57 rfl rfl ?_
          obtain ⟨q14, h⟩ := h
          obtain ⟨b15, e16, h⟩ := h
          refine jv_getR d_M_runHart_58 fl_M_13 rfl q14 e16 ?_
          refine jv_aload_n d_M_runHart_61 rfl rfl ?_
          refine jv_iload_n d_M_runHart_62 rfl rfl ?_
          obtain ⟨q17, q18, h⟩ := h
          refine jv_iald d_M_runHart_63 q17 q18 ?_
          obtain ⟨q19, q20, h⟩ := h
          refine jv_iald d_M_runHart_64 q19 q20 ?_
          refine jv_istore (L' := [some (.ref a0), some (.ref a1), some (.int x2), some (.int (8 * x2)), some (.int (Prod.fst M13 b15 (Int32.toNatClampNeg (Prod.fst M13 a1 (Int32.toNatClampNeg (8 * x2))))))]) d_M_runHart_65 (Nat.le_of_ble_eq_true rfl) rfl ?_
          refine jv_aload_n d_M_runHart_67 rfl rfl ?_
          refine jv_iload_n d_M_runHart_68 rfl rfl ?_
          refine jv_dup2 d_M_runHart_69 rfl rfl ?_
          obtain ⟨q21, q22, h⟩ := h
          refine jv_iald d_M_runHart_70 q21 q22 ?_
          refine jv_iconst (v := 1) d_M_runHart_71 (by decide) ?_
          refine jv_iadd d_M_runHart_72 ?_
          obtain ⟨q23, q24, h⟩ := h
          refine jv_iast d_M_runHart_73 q23 q24 ?_
          refine jv_iload d_M_runHart_74 rfl ?_
          refine jv_sipush (v := 1000) d_M_runHart_76 (by decide) ?_
          refine jv_idiv d_M_runHart_79 (by decide) ?_
          have hD25 : (((Prod.fst M13 b15 (Int32.toNatClampNeg (Prod.fst M13 a1 (Int32.toNatClampNeg (8 * x2))))) / 1000) ≠ 6 ∧ ((Prod.fst M13 b15 (Int32.toNatClampNeg (Prod.fst M13 a1 (Int32.toNatClampNeg (8 * x2))))) / 1000) ≠ 7 ∧ ((Prod.fst M13 b15 (Int32.toNatClampNeg (Prod.fst M13 a1 (Int32.toNatClampNeg (8 * x2))))) / 1000) ≠ 8) → jv_J g (d + 1) mt_M_runHart 160 [some (.ref a0), some (.ref a1), some (.int x2), some (.int (8 * x2)), some (.int (Prod.fst M13 b15 (Int32.toNatClampNeg (Prod.fst M13 a1 (Int32.toNatClampNeg (8 * x2))))))] [] (jv_si M13 a1 (Int32.toNatClampNeg (8 * x2)) ((Prod.fst M13 a1 (Int32.toNatClampNeg (8 * x2))) + 1)) N13 cr sr Z := by
            intro c
            replace h := h.2.2.2 c
            refine jv_aload_n d_M_runHart_160 rfl rfl ?_
            refine jv_aload_n d_M_runHart_161 rfl rfl ?_
            refine jv_iload_n d_M_runHart_162 rfl rfl ?_
            refine jv_iload d_M_runHart_163 rfl ?_
            obtain ⟨q26, h⟩ := h
            refine jv_invV [.ref a1, .int x2, .int (Prod.fst M13 b15 (Int32.toNatClampNeg (Prod.fst M13 a1 (Int32.toNatClampNeg (8 * x2)))))] [] d_M_runHart_165 ml_M_151 q26 rfl (Nat.le_of_ble_eq_true rfl) (Nat.zero_add _) (Nat.zero_add _) (jv_Ct.mono h (fun v M28 N28 h => ?_))
            obtain ⟨rfl, h⟩ := h
            change jv_J g (d + 1) mt_M_runHart 168 [some (.ref a0), some (.ref a1), some (.int x2), some (.int (8 * x2)), some (.int (Prod.fst M13 b15 (Int32.toNatClampNeg (Prod.fst M13 a1 (Int32.toNatClampNeg (8 * x2))))))] [] M28 N28 cr sr Z
            exact jv_ret d_M_runHart_168 rfl h
          refine jv_tsw (dt := 160) [(6, 108), (7, 142), (8, 151)] d_M_runHart_80 (by decide) (by decide) (by decide) (fun q hq hx => ?_) (fun hq => ?_)
          · simp only [List.mem_cons, List.not_mem_nil, or_false] at hq
            rcases hq with rfl | rfl | rfl
            · replace h := h.1 hx
              refine jv_aload_n d_M_runHart_108 rfl rfl ?_
              refine jv_iload_n d_M_runHart_109 rfl rfl ?_
              refine jv_aload_n d_M_runHart_110 rfl rfl ?_
              refine jv_iload_n d_M_runHart_111 rfl rfl ?_
              refine jv_iconst (v := 4) d_M_runHart_112 (by decide) ?_
              refine jv_iadd d_M_runHart_113 ?_
              refine jv_iload d_M_runHart_114 rfl ?_
              refine jv_bipush (v := 100) d_M_runHart_116 (by decide) ?_
              refine jv_idiv d_M_runHart_118 (by decide) ?_
              refine jv_bipush (v := 10) d_M_runHart_119 (by decide) ?_
              refine jv_irem d_M_runHart_121 (by decide) ?_
              refine jv_iadd d_M_runHart_122 ?_
              obtain ⟨q29, q30, h⟩ := h
              refine jv_iald d_M_runHart_123 q29 q30 ?_
              refine jv_if_eq (tgt := 135) d_M_runHart_124 (by decide) ⟨fun c => ?_, fun c => ?_⟩
              · replace h := h.1 c
                refine jv_aload_n d_M_runHart_135 rfl rfl ?_
                refine jv_iload_n d_M_runHart_136 rfl rfl ?_
                obtain ⟨q31, q32, h⟩ := h
                refine jv_iald d_M_runHart_137 q31 q32 ?_
                obtain ⟨q33, q34, h⟩ := h
                refine jv_iast d_M_runHart_138 q33 q34 ?_
                refine jv_goto (tgt := 168) d_M_runHart_139 (by decide) ?_
                exact jv_ret d_M_runHart_168 rfl h
              · replace h := h.2 c
                refine jv_iload d_M_runHart_127 rfl ?_
                refine jv_bipush (v := 100) d_M_runHart_129 (by decide) ?_
                refine jv_irem d_M_runHart_131 (by decide) ?_
                refine jv_goto (tgt := 138) d_M_runHart_132 (by decide) ?_
                obtain ⟨q35, q36, h⟩ := h
                refine jv_iast d_M_runHart_138 q35 q36 ?_
                refine jv_goto (tgt := 168) d_M_runHart_139 (by decide) ?_
                exact jv_ret d_M_runHart_168 rfl h
            · replace h := h.2.1 hx
              refine jv_aload_n d_M_runHart_142 rfl rfl ?_
              refine jv_iload_n d_M_runHart_143 rfl rfl ?_
              refine jv_iconst (v := 1) d_M_runHart_144 (by decide) ?_
              refine jv_iadd d_M_runHart_145 ?_
              refine jv_iconst (v := 1) d_M_runHart_146 (by decide) ?_
              obtain ⟨q37, q38, h⟩ := h
              refine jv_iast d_M_runHart_147 q37 q38 ?_
              refine jv_goto (tgt := 168) d_M_runHart_148 (by decide) ?_
              exact jv_ret d_M_runHart_168 rfl h
            · replace h := h.2.2.1 hx
              refine jv_aload_n d_M_runHart_151 rfl rfl ?_
              refine jv_iload_n d_M_runHart_152 rfl rfl ?_
              refine jv_iconst (v := 3) d_M_runHart_153 (by decide) ?_
              refine jv_invS [.ref a1, .int x2, .int 3] [] d_M_runHart_154 ml_M_155 rfl (Nat.le_of_ble_eq_true rfl) (Nat.zero_add _) (Nat.zero_add _) (jv_Ct.mono h (fun v M40 N40 h => ?_))
              obtain ⟨rfl, h⟩ := h
              change jv_J g (d + 1) mt_M_runHart 157 [some (.ref a0), some (.ref a1), some (.int x2), some (.int (8 * x2)), some (.int (Prod.fst M13 b15 (Int32.toNatClampNeg (Prod.fst M13 a1 (Int32.toNatClampNeg (8 * x2))))))] [] M40 N40 cr sr Z
              refine jv_goto (tgt := 168) d_M_runHart_157 (by decide) ?_
              exact jv_ret d_M_runHart_168 rfl h
          · exact hD25 ⟨hq _ (List.mem_of_getElem? (i := 0) rfl), hq _ (List.mem_of_getElem? (i := 1) rfl), hq _ (List.mem_of_getElem? (i := 2) rfl)⟩
        · replace h := h.2 c
          refine jv_aload_n d_M_runHart_50 rfl rfl ?_
          refine jv_iload_n d_M_runHart_51 rfl rfl ?_
          refine jv_iconst (v := 2) d_M_runHart_52 (by decide) ?_
          refine jv_invS [.ref a1, .int x2, .int 2] [] d_M_runHart_53 ml_M_155 rfl (Nat.le_of_ble_eq_true rfl) (Nat.zero_add _) (Nat.zero_add _) (jv_Ct.mono h (fun v M42 N42 h => ?_))
          obtain ⟨rfl, h⟩ := h
          change jv_J g (d + 1) mt_M_runHart 56 [some (.ref a0), some (.ref a1), some (.int x2), some (.int (8 * x2)), none] [] M42 N42 cr sr Z
          exact jv_ret d_M_runHart_56 rfl h
      · replace h := h.2 c
        refine jv_iconst (v := 0) d_M_runHart_33 (by decide) ?_
        refine jv_goto (tgt := 40) d_M_runHart_34 (by decide) ?_
        obtain ⟨q43, q44, h⟩ := h
        refine jv_iast d_M_runHart_40 q43 q44 ?_
        refine jv_aload_n d_M_runHart_41 rfl rfl ?_
        refine jv_aload_n d_M_runHart_42 rfl rfl ?_
        refine jv_iload_n d_M_runHart_43 rfl rfl ?_
        obtain ⟨q45, h⟩ := h
        refine jv_invV [.ref a1, .int x2] [] d_M_runHart_44 ml_M_186 q45 rfl (Nat.le_of_ble_eq_true rfl) (Nat.zero_add _) (Nat.zero_add _) (jv_Ct.mono h (fun v M47 N47 h => ?_))
        obtain ⟨r46, rfl, h⟩ := h
        change jv_J g (d + 1) mt_M_runHart 47 [some (.ref a0), some (.ref a1), some (.int x2), some (.int (8 * x2)), none] [.int r46] M47 N47 cr sr Z
        refine jv_if_eq (tgt := 57) d_M_runHart_47 (by decide) ⟨fun c => ?_, fun c => ?_⟩
        · replace h := h.1 c
          refine jv_aload_n d_M_runHart_57 rfl rfl ?_
          obtain ⟨q48, h⟩ := h
          obtain ⟨b49, e50, h⟩ := h
          refine jv_getR d_M_runHart_58 fl_M_13 rfl q48 e50 ?_
          refine jv_aload_n d_M_runHart_61 rfl rfl ?_
          refine jv_iload_n d_M_runHart_62 rfl rfl ?_
          obtain ⟨q51, q52, h⟩ := h
          refine jv_iald d_M_runHart_63 q51 q52 ?_
          obtain ⟨q53, q54, h⟩ := h
          refine jv_iald d_M_runHart_64 q53 q54 ?_
          refine jv_istore (L' := [some (.ref a0), some (.ref a1), some (.int x2), some (.int (8 * x2)), some (.int (Prod.fst M47 b49 (Int32.toNatClampNeg (Prod.fst M47 a1 (Int32.toNatClampNeg (8 * x2))))))]) d_M_runHart_65 (Nat.le_of_ble_eq_true rfl) rfl ?_
          refine jv_aload_n d_M_runHart_67 rfl rfl ?_
          refine jv_iload_n d_M_runHart_68 rfl rfl ?_
          refine jv_dup2 d_M_runHart_69 rfl rfl ?_
          obtain ⟨q55, q56, h⟩ := h
          refine jv_iald d_M_runHart_70 q55 q56 ?_
          refine jv_iconst (v := 1) d_M_runHart_71 (by decide) ?_
          refine jv_iadd d_M_runHart_72 ?_
          obtain ⟨q57, q58, h⟩ := h
          refine jv_iast d_M_runHart_73 q57 q58 ?_
          refine jv_iload d_M_runHart_74 rfl ?_
          refine jv_sipush (v := 1000) d_M_runHart_76 (by decide) ?_
          refine jv_idiv d_M_runHart_79 (by decide) ?_
          have hD59 : (((Prod.fst M47 b49 (Int32.toNatClampNeg (Prod.fst M47 a1 (Int32.toNatClampNeg (8 * x2))))) / 1000) ≠ 6 ∧ ((Prod.fst M47 b49 (Int32.toNatClampNeg (Prod.fst M47 a1 (Int32.toNatClampNeg (8 * x2))))) / 1000) ≠ 7 ∧ ((Prod.fst M47 b49 (Int32.toNatClampNeg (Prod.fst M47 a1 (Int32.toNatClampNeg (8 * x2))))) / 1000) ≠ 8) → jv_J g (d + 1) mt_M_runHart 160 [some (.ref a0), some (.ref a1), some (.int x2), some (.int (8 * x2)), some (.int (Prod.fst M47 b49 (Int32.toNatClampNeg (Prod.fst M47 a1 (Int32.toNatClampNeg (8 * x2))))))] [] (jv_si M47 a1 (Int32.toNatClampNeg (8 * x2)) ((Prod.fst M47 a1 (Int32.toNatClampNeg (8 * x2))) + 1)) N47 cr sr Z := by
            intro c
            replace h := h.2.2.2 c
            refine jv_aload_n d_M_runHart_160 rfl rfl ?_
            refine jv_aload_n d_M_runHart_161 rfl rfl ?_
            refine jv_iload_n d_M_runHart_162 rfl rfl ?_
            refine jv_iload d_M_runHart_163 rfl ?_
            obtain ⟨q60, h⟩ := h
            refine jv_invV [.ref a1, .int x2, .int (Prod.fst M47 b49 (Int32.toNatClampNeg (Prod.fst M47 a1 (Int32.toNatClampNeg (8 * x2)))))] [] d_M_runHart_165 ml_M_151 q60 rfl (Nat.le_of_ble_eq_true rfl) (Nat.zero_add _) (Nat.zero_add _) (jv_Ct.mono h (fun v M62 N62 h => ?_))
            obtain ⟨rfl, h⟩ := h
            change jv_J g (d + 1) mt_M_runHart 168 [some (.ref a0), some (.ref a1), some (.int x2), some (.int (8 * x2)), some (.int (Prod.fst M47 b49 (Int32.toNatClampNeg (Prod.fst M47 a1 (Int32.toNatClampNeg (8 * x2))))))] [] M62 N62 cr sr Z
            exact jv_ret d_M_runHart_168 rfl h
          refine jv_tsw (dt := 160) [(6, 108), (7, 142), (8, 151)] d_M_runHart_80 (by decide) (by decide) (by decide) (fun q hq hx => ?_) (fun hq => ?_)
          · simp only [List.mem_cons, List.not_mem_nil, or_false] at hq
            rcases hq with rfl | rfl | rfl
            · replace h := h.1 hx
              refine jv_aload_n d_M_runHart_108 rfl rfl ?_
              refine jv_iload_n d_M_runHart_109 rfl rfl ?_
              refine jv_aload_n d_M_runHart_110 rfl rfl ?_
              refine jv_iload_n d_M_runHart_111 rfl rfl ?_
              refine jv_iconst (v := 4) d_M_runHart_112 (by decide) ?_
              refine jv_iadd d_M_runHart_113 ?_
              refine jv_iload d_M_runHart_114 rfl ?_
              refine jv_bipush (v := 100) d_M_runHart_116 (by decide) ?_
              refine jv_idiv d_M_runHart_118 (by decide) ?_
              refine jv_bipush (v := 10) d_M_runHart_119 (by decide) ?_
              refine jv_irem d_M_runHart_121 (by decide) ?_
              refine jv_iadd d_M_runHart_122 ?_
              obtain ⟨q63, q64, h⟩ := h
              refine jv_iald d_M_runHart_123 q63 q64 ?_
              refine jv_if_eq (tgt := 135) d_M_runHart_124 (by decide) ⟨fun c => ?_, fun c => ?_⟩
              · replace h := h.1 c
                refine jv_aload_n d_M_runHart_135 rfl rfl ?_
                refine jv_iload_n d_M_runHart_136 rfl rfl ?_
                obtain ⟨q65, q66, h⟩ := h
                refine jv_iald d_M_runHart_137 q65 q66 ?_
                obtain ⟨q67, q68, h⟩ := h
                refine jv_iast d_M_runHart_138 q67 q68 ?_
                refine jv_goto (tgt := 168) d_M_runHart_139 (by decide) ?_
                exact jv_ret d_M_runHart_168 rfl h
              · replace h := h.2 c
                refine jv_iload d_M_runHart_127 rfl ?_
                refine jv_bipush (v := 100) d_M_runHart_129 (by decide) ?_
                refine jv_irem d_M_runHart_131 (by decide) ?_
                refine jv_goto (tgt := 138) d_M_runHart_132 (by decide) ?_
                obtain ⟨q69, q70, h⟩ := h
                refine jv_iast d_M_runHart_138 q69 q70 ?_
                refine jv_goto (tgt := 168) d_M_runHart_139 (by decide) ?_
                exact jv_ret d_M_runHart_168 rfl h
            · replace h := h.2.1 hx
              refine jv_aload_n d_M_runHart_142 rfl rfl ?_
              refine jv_iload_n d_M_runHart_143 rfl rfl ?_
              refine jv_iconst (v := 1) d_M_runHart_144 (by decide) ?_
              refine jv_iadd d_M_runHart_145 ?_
              refine jv_iconst (v := 1) d_M_runHart_146 (by decide) ?_
              obtain ⟨q71, q72, h⟩ := h
              refine jv_iast d_M_runHart_147 q71 q72 ?_
              refine jv_goto (tgt := 168) d_M_runHart_148 (by decide) ?_
              exact jv_ret d_M_runHart_168 rfl h
            · replace h := h.2.2.1 hx
              refine jv_aload_n d_M_runHart_151 rfl rfl ?_
              refine jv_iload_n d_M_runHart_152 rfl rfl ?_
              refine jv_iconst (v := 3) d_M_runHart_153 (by decide) ?_
              refine jv_invS [.ref a1, .int x2, .int 3] [] d_M_runHart_154 ml_M_155 rfl (Nat.le_of_ble_eq_true rfl) (Nat.zero_add _) (Nat.zero_add _) (jv_Ct.mono h (fun v M74 N74 h => ?_))
              obtain ⟨rfl, h⟩ := h
              change jv_J g (d + 1) mt_M_runHart 157 [some (.ref a0), some (.ref a1), some (.int x2), some (.int (8 * x2)), some (.int (Prod.fst M47 b49 (Int32.toNatClampNeg (Prod.fst M47 a1 (Int32.toNatClampNeg (8 * x2))))))] [] M74 N74 cr sr Z
              refine jv_goto (tgt := 168) d_M_runHart_157 (by decide) ?_
              exact jv_ret d_M_runHart_168 rfl h
          · exact hD59 ⟨hq _ (List.mem_of_getElem? (i := 0) rfl), hq _ (List.mem_of_getElem? (i := 1) rfl), hq _ (List.mem_of_getElem? (i := 2) rfl)⟩
        · replace h := h.2 c
          refine jv_aload_n d_M_runHart_50 rfl rfl ?_
          refine jv_iload_n d_M_runHart_51 rfl rfl ?_
          refine jv_iconst (v := 2) d_M_runHart_52 (by decide) ?_
          refine jv_invS [.ref a1, .int x2, .int 2] [] d_M_runHart_53 ml_M_155 rfl (Nat.le_of_ble_eq_true rfl) (Nat.zero_add _) (Nat.zero_add _) (jv_Ct.mono h (fun v M76 N76 h => ?_))
          obtain ⟨rfl, h⟩ := h
          change jv_J g (d + 1) mt_M_runHart 56 [some (.ref a0), some (.ref a1), some (.int x2), some (.int (8 * x2)), none] [] M76 N76 cr sr Z
          exact jv_ret d_M_runHart_56 rfl h
    · replace h := h.2 c
      exact jv_ret d_M_runHart_20 rfl h
theorem b_M_isCaught_0 {g : jv_G} {d : Nat} {M : jv_Mem} {N cr sr : Nat} {Z : Option Value → jv_Mem → Nat → Prop} {a0 : Nat} {a1 : Nat} {x2 : Int32} (h : jv_J g (d + 1) mt_M_isCaught 2 [some (.ref a0), some (.ref a1), some (.int x2), some (.int 0), none, none, none] [] M N cr sr Z) : jv_J g (d + 1) mt_M_isCaught 0 [some (.ref a0), some (.ref a1), some (.int x2), none, none, none, none] [] M N cr sr Z := by
  refine jv_iconst (v := 0) d_M_isCaught_0 (by decide) ?_
  refine jv_istore_n (L' := [some (.ref a0), some (.ref a1), some (.int x2), some (.int 0), none, none, none]) d_M_isCaught_1 rfl (Nat.le_of_ble_eq_true rfl) rfl ?_
  exact h
theorem b_M_isCaught_2 {g : jv_G} {d : Nat} {M : jv_Mem} {N cr sr : Nat} {Z : Option Value → jv_Mem → Nat → Prop} {a0 : Nat} {a1 : Nat} {x2 : Int32} {x3 : Int32} (h : jv_Tg 10 a0 N ∧ ((Prod.fst M a0 9) ≤ x3 → Z (some (.int 0)) M N) ∧ (¬ ((Prod.fst M a0 9) ≤ x3) → jv_Tg 10 a0 N ∧ jv_Ct g d mt_M_matches [.ref a0, .ref a1, .int x3] M N 0 0 (fun v M4 N4 => jv_ri v (fun r3 => jv_J g (d + 1) mt_M_isCaught 21 [some (.ref a0), some (.ref a1), some (.int x2), some (.int x3), some (.int x3), some (.int r3), none] [] M4 N4 cr sr Z)))) : jv_J g (d + 1) mt_M_isCaught 2 [some (.ref a0), some (.ref a1), some (.int x2), some (.int x3), none, none, none] [] M N cr sr Z := by
  refine jv_iload_n d_M_isCaught_2 rfl rfl ?_
  refine jv_aload_n d_M_isCaught_3 rfl rfl ?_
  obtain ⟨q1, h⟩ := h
  refine jv_getI d_M_isCaught_4 fl_M_138 rfl q1 ?_
  refine jv_icmp_ge (tgt := 124) d_M_isCaught_7 (by decide) ⟨fun c => ?_, fun c => ?_⟩
  · replace h := h.1 c
    refine jv_iconst (v := 0) d_M_isCaught_124 (by decide) ?_
    exact jv_iret d_M_isCaught_125 rfl (jv_nz (by decide)) h
  · replace h := h.2 c
    refine jv_iload_n d_M_isCaught_10 rfl rfl ?_
    refine jv_istore (L' := [some (.ref a0), some (.ref a1), some (.int x2), some (.int x3), some (.int x3), none, none]) d_M_isCaught_11 (Nat.le_of_ble_eq_true rfl) rfl ?_
    refine jv_aload_n d_M_isCaught_13 rfl rfl ?_
    refine jv_aload_n d_M_isCaught_14 rfl rfl ?_
    refine jv_iload_n d_M_isCaught_15 rfl rfl ?_
    obtain ⟨q2, h⟩ := h
    refine jv_invV [.ref a1, .int x3] [] d_M_isCaught_16 ml_M_179 q2 rfl (Nat.le_of_ble_eq_true rfl) (Nat.zero_add _) (Nat.zero_add _) (jv_Ct.mono h (fun v M4 N4 h => ?_))
    obtain ⟨r3, rfl, h⟩ := h
    change jv_J g (d + 1) mt_M_isCaught 19 [some (.ref a0), some (.ref a1), some (.int x2), some (.int x3), some (.int x3), none, none] [.int r3] M4 N4 cr sr Z
    refine jv_istore (L' := [some (.ref a0), some (.ref a1), some (.int x2), some (.int x3), some (.int x3), some (.int r3), none]) d_M_isCaught_19 (Nat.le_of_ble_eq_true rfl) rfl ?_
    exact h
theorem b_M_isCaught_21 {g : jv_G} {d : Nat} {M : jv_Mem} {N cr sr : Nat} {Z : Option Value → jv_Mem → Nat → Prop} {a0 : Nat} {a1 : Nat} {x2 : Int32} {x3 : Int32} {x4 : Int32} {x5 : Int32} (h : jv_Tg 10 a0 N ∧ jv_Ct g d mt_M_leads [.ref a0, .ref a1, .int x4] M N 0 0 (fun v M3 N3 => jv_ri v (fun r2 => (r2 = 0 → (x5 = 0 → jv_J g (d + 1) mt_M_isCaught 2 [some (.ref a0), some (.ref a1), some (.int x2), some (.int (x4 + 1)), none, none, none] [] M3 N3 cr sr Z) ∧ (¬ (x5 = 0) → jv_Tg 10 a0 N3 ∧ ∃ b5, Prod.fst (Prod.snd M3) a0 10 = some b5 ∧ jv_Tg 11 b5 N3 ∧ vp_in x3 (jv_sh b5).2 ∧ ((Prod.fst M3 b5 (Int32.toNatClampNeg x3)) ≠ x2 → jv_J g (d + 1) mt_M_isCaught 2 [some (.ref a0), some (.ref a1), some (.int x2), some (.int (x4 + 1)), none, none, none] [] M3 N3 cr sr Z) ∧ ((Prod.fst M3 b5 (Int32.toNatClampNeg x3)) = x2 → jv_Tg 11 a1 N3 ∧ vp_in ((40 + (6 * x3)) + 4) (jv_sh a1).2 ∧ jv_Tg 11 a1 N3 ∧ vp_in ((40 + (6 * x3)) + 4) (jv_sh a1).2 ∧ jv_Tg 11 a1 N3 ∧ vp_in ((40 + (6 * x3)) + 4) (jv_sh a1).2 ∧ ((Prod.fst (jv_si M3 a1 (Int32.toNatClampNeg ((40 + (6 * x3)) + 4)) ((Prod.fst M3 a1 (Int32.toNatClampNeg ((40 + (6 * x3)) + 4))) - 1)) a1 (Int32.toNatClampNeg ((40 + (6 * x3)) + 4))) ≠ 0 → jv_J g (d + 1) mt_M_isCaught 2 [some (.ref a0), some (.ref a1), some (.int x2), some (.int (x4 + 1)), none, none, none] [] (jv_si M3 a1 (Int32.toNatClampNeg ((40 + (6 * x3)) + 4)) ((Prod.fst M3 a1 (Int32.toNatClampNeg ((40 + (6 * x3)) + 4))) - 1)) N3 cr sr Z) ∧ ((Prod.fst (jv_si M3 a1 (Int32.toNatClampNeg ((40 + (6 * x3)) + 4)) ((Prod.fst M3 a1 (Int32.toNatClampNeg ((40 + (6 * x3)) + 4))) - 1)) a1 (Int32.toNatClampNeg ((40 + (6 * x3)) + 4))) = 0 → jv_Tg 11 a1 N3 ∧ vp_in ((40 + (6 * x3)) + 3) (jv_sh a1).2 ∧ jv_Tg 11 a1 N3 ∧ vp_in ((40 + (6 * x3)) + 4) (jv_sh a1).2 ∧ Z (some (.int 1)) (jv_si (jv_si M3 a1 (Int32.toNatClampNeg ((40 + (6 * x3)) + 4)) ((Prod.fst M3 a1 (Int32.toNatClampNeg ((40 + (6 * x3)) + 4))) - 1)) a1 (Int32.toNatClampNeg ((40 + (6 * x3)) + 4)) (Prod.fst (jv_si M3 a1 (Int32.toNatClampNeg ((40 + (6 * x3)) + 4)) ((Prod.fst M3 a1 (Int32.toNatClampNeg ((40 + (6 * x3)) + 4))) - 1)) a1 (Int32.toNatClampNeg ((40 + (6 * x3)) + 3)))) N3)))) ∧ (¬ (r2 = 0) → (x5 = 0 → jv_J g (d + 1) mt_M_isCaught 21 [some (.ref a0), some (.ref a1), some (.int x2), some (.int x3), some (.int (x4 + 1)), some (.int 0), none] [] M3 N3 cr sr Z) ∧ (¬ (x5 = 0) → jv_Tg 10 a0 N3 ∧ jv_Ct g d mt_M_matches [.ref a0, .ref a1, .int (x4 + 1)] M3 N3 0 0 (fun v M21 N21 => jv_ri v (fun r20 => (r20 = 0 → jv_J g (d + 1) mt_M_isCaught 21 [some (.ref a0), some (.ref a1), some (.int x2), some (.int x3), some (.int (x4 + 1)), some (.int 0), none] [] M21 N21 cr sr Z) ∧ (¬ (r20 = 0) → jv_J g (d + 1) mt_M_isCaught 21 [some (.ref a0), some (.ref a1), some (.int x2), some (.int x3), some (.int (x4 + 1)), some (.int 1), none] [] M21 N21 cr sr Z)))))))) : jv_J g (d + 1) mt_M_isCaught 21 [some (.ref a0), some (.ref a1), some (.int x2), some (.int x3), some (.int x4), some (.int x5), none] [] M N cr sr Z := by
  refine jv_aload_n d_M_isCaught_21 rfl rfl ?_
  refine jv_aload_n d_M_isCaught_22 rfl rfl ?_
  refine jv_iload d_M_isCaught_23 rfl ?_
  obtain ⟨q1, h⟩ := h
  refine jv_invV [.ref a1, .int x4] [] d_M_isCaught_25 ml_M_183 q1 rfl (Nat.le_of_ble_eq_true rfl) (Nat.zero_add _) (Nat.zero_add _) (jv_Ct.mono h (fun v M3 N3 h => ?_))
  obtain ⟨r2, rfl, h⟩ := h
  change jv_J g (d + 1) mt_M_isCaught 28 [some (.ref a0), some (.ref a1), some (.int x2), some (.int x3), some (.int x4), some (.int x5), none] [.int r2] M3 N3 cr sr Z
  refine jv_if_eq (tgt := 59) d_M_isCaught_28 (by decide) ⟨fun c => ?_, fun c => ?_⟩
  · replace h := h.1 c
    refine jv_bipush (v := 40) d_M_isCaught_59 (by decide) ?_
    refine jv_bipush (v := 6) d_M_isCaught_61 (by decide) ?_
    refine jv_iload_n d_M_isCaught_63 rfl rfl ?_
    refine jv_imul d_M_isCaught_64 ?_
    refine jv_iadd d_M_isCaught_65 ?_
    refine jv_istore (L' := [some (.ref a0), some (.ref a1), some (.int x2), some (.int x3), some (.int x4), some (.int x5), some (.int (40 + (6 * x3)))]) d_M_isCaught_66 (Nat.le_of_ble_eq_true rfl) rfl ?_
    refine jv_iload d_M_isCaught_68 rfl ?_
    refine jv_if_eq (tgt := 116) d_M_isCaught_70 (by decide) ⟨fun c => ?_, fun c => ?_⟩
    · replace h := h.1 c
      refine jv_iload d_M_isCaught_116 rfl ?_
      refine jv_iconst (v := 1) d_M_isCaught_118 (by decide) ?_
      refine jv_iadd d_M_isCaught_119 ?_
      refine jv_istore_n (L' := [some (.ref a0), some (.ref a1), some (.int x2), some (.int (x4 + 1)), some (.int x4), some (.int x5), some (.int (40 + (6 * x3)))]) d_M_isCaught_120 rfl (Nat.le_of_ble_eq_true rfl) rfl ?_
      refine jv_goto (tgt := 2) d_M_isCaught_121 (by decide) ?_
      refine jv_weak (L' := [some (.ref a0), some (.ref a1), some (.int x2), some (.int (x4 + 1)), none, none, none]) (by simp [jv_le]) ?_
      exact h
    · replace h := h.2 c
      refine jv_aload_n d_M_isCaught_73 rfl rfl ?_
      obtain ⟨q4, h⟩ := h
      obtain ⟨b5, e6, h⟩ := h
      refine jv_getR d_M_isCaught_74 fl_M_22 rfl q4 e6 ?_
      refine jv_iload_n d_M_isCaught_77 rfl rfl ?_
      obtain ⟨q7, q8, h⟩ := h
      refine jv_iald d_M_isCaught_78 q7 q8 ?_
      refine jv_iload_n d_M_isCaught_79 rfl rfl ?_
      refine jv_icmp_ne (tgt := 116) d_M_isCaught_80 (by decide) ⟨fun c => ?_, fun c => ?_⟩
      · replace h := h.1 c
        refine jv_iload d_M_isCaught_116 rfl ?_
        refine jv_iconst (v := 1) d_M_isCaught_118 (by decide) ?_
        refine jv_iadd d_M_isCaught_119 ?_
        refine jv_istore_n (L' := [some (.ref a0), some (.ref a1), some (.int x2), some (.int (x4 + 1)), some (.int x4), some (.int x5), some (.int (40 + (6 * x3)))]) d_M_isCaught_120 rfl (Nat.le_of_ble_eq_true rfl) rfl ?_
        refine jv_goto (tgt := 2) d_M_isCaught_121 (by decide) ?_
        refine jv_weak (L' := [some (.ref a0), some (.ref a1), some (.int x2), some (.int (x4 + 1)), none, none, none]) (by simp [jv_le]) ?_
        exact h
      · replace h := h.2 c
        refine jv_aload_n d_M_isCaught_83 rfl rfl ?_
        refine jv_iload d_M_isCaught_84 rfl ?_
        refine jv_iconst (v := 4) d_M_isCaught_86 (by decide) ?_
        refine jv_iadd d_M_isCaught_87 ?_
        refine jv_dup2 d_M_isCaught_88 rfl rfl ?_
        obtain ⟨q9, q10, h⟩ := h
        refine jv_iald d_M_isCaught_89 q9 q10 ?_
        refine jv_iconst (v := 1) d_M_isCaught_90 (by decide) ?_
        refine jv_isub d_M_isCaught_91 ?_
        obtain ⟨q11, q12, h⟩ := h
        refine jv_iast d_M_isCaught_92 q11 q12 ?_
        refine jv_aload_n d_M_isCaught_93 rfl rfl ?_
        refine jv_iload d_M_isCaught_94 rfl ?_
        refine jv_iconst (v := 4) d_M_isCaught_96 (by decide) ?_
        refine jv_iadd d_M_isCaught_97 ?_
        obtain ⟨q13, q14, h⟩ := h
        refine jv_iald d_M_isCaught_98 q13 q14 ?_
        refine jv_if_ne (tgt := 116) d_M_isCaught_99 (by decide) ⟨fun c => ?_, fun c => ?_⟩
        · replace h := h.1 c
          refine jv_iload d_M_isCaught_116 rfl ?_
          refine jv_iconst (v := 1) d_M_isCaught_118 (by decide) ?_
          refine jv_iadd d_M_isCaught_119 ?_
          refine jv_istore_n (L' := [some (.ref a0), some (.ref a1), some (.int x2), some (.int (x4 + 1)), some (.int x4), some (.int x5), some (.int (40 + (6 * x3)))]) d_M_isCaught_120 rfl (Nat.le_of_ble_eq_true rfl) rfl ?_
          refine jv_goto (tgt := 2) d_M_isCaught_121 (by decide) ?_
          refine jv_weak (L' := [some (.ref a0), some (.ref a1), some (.int x2), some (.int (x4 + 1)), none, none, none]) (by simp [jv_le]) ?_
          exact h
        · replace h := h.2 c
          refine jv_aload_n d_M_isCaught_102 rfl rfl ?_
          refine jv_iload d_M_isCaught_103 rfl ?_
          refine jv_iconst (v := 4) d_M_isCaught_105 (by decide) ?_
          refine jv_iadd d_M_isCaught_106 ?_
          refine jv_aload_n d_M_isCaught_107 rfl rfl ?_
          refine jv_iload d_M_isCaught_108 rfl ?_
          refine jv_iconst (v := 3) d_M_isCaught_110 (by decide) ?_
          refine jv_iadd d_M_isCaught_111 ?_
          obtain ⟨q15, q16, h⟩ := h
          refine jv_iald d_M_isCaught_112 q15 q16 ?_
          obtain ⟨q17, q18, h⟩ := h
          refine jv_iast d_M_isCaught_113 q17 q18 ?_
          refine jv_iconst (v := 1) d_M_isCaught_114 (by decide) ?_
          exact jv_iret d_M_isCaught_115 rfl (jv_nz (by decide)) h
  · replace h := h.2 c
    refine jv_iinc (v := (x4 + 1)) (L' := [some (.ref a0), some (.ref a1), some (.int x2), some (.int x3), some (.int (x4 + 1)), some (.int x5), none]) d_M_isCaught_31 rfl rfl (Nat.le_of_ble_eq_true rfl) rfl ?_
    refine jv_iload d_M_isCaught_34 rfl ?_
    refine jv_if_eq (tgt := 53) d_M_isCaught_36 (by decide) ⟨fun c => ?_, fun c => ?_⟩
    · replace h := h.1 c
      refine jv_iconst (v := 0) d_M_isCaught_53 (by decide) ?_
      refine jv_istore (L' := [some (.ref a0), some (.ref a1), some (.int x2), some (.int x3), some (.int (x4 + 1)), some (.int 0), none]) d_M_isCaught_54 (Nat.le_of_ble_eq_true rfl) rfl ?_
      refine jv_goto (tgt := 21) d_M_isCaught_56 (by decide) ?_
      exact h
    · replace h := h.2 c
      refine jv_aload_n d_M_isCaught_39 rfl rfl ?_
      refine jv_aload_n d_M_isCaught_40 rfl rfl ?_
      refine jv_iload d_M_isCaught_41 rfl ?_
      obtain ⟨q19, h⟩ := h
      refine jv_invV [.ref a1, .int (x4 + 1)] [] d_M_isCaught_43 ml_M_179 q19 rfl (Nat.le_of_ble_eq_true rfl) (Nat.zero_add _) (Nat.zero_add _) (jv_Ct.mono h (fun v M21 N21 h => ?_))
      obtain ⟨r20, rfl, h⟩ := h
      change jv_J g (d + 1) mt_M_isCaught 46 [some (.ref a0), some (.ref a1), some (.int x2), some (.int x3), some (.int (x4 + 1)), some (.int x5), none] [.int r20] M21 N21 cr sr Z
      refine jv_if_eq (tgt := 53) d_M_isCaught_46 (by decide) ⟨fun c => ?_, fun c => ?_⟩
      · replace h := h.1 c
        refine jv_iconst (v := 0) d_M_isCaught_53 (by decide) ?_
        refine jv_istore (L' := [some (.ref a0), some (.ref a1), some (.int x2), some (.int x3), some (.int (x4 + 1)), some (.int 0), none]) d_M_isCaught_54 (Nat.le_of_ble_eq_true rfl) rfl ?_
        refine jv_goto (tgt := 21) d_M_isCaught_56 (by decide) ?_
        exact h
      · replace h := h.2 c
        refine jv_iconst (v := 1) d_M_isCaught_49 (by decide) ?_
        refine jv_goto (tgt := 54) d_M_isCaught_50 (by decide) ?_
        refine jv_istore (L' := [some (.ref a0), some (.ref a1), some (.int x2), some (.int x3), some (.int (x4 + 1)), some (.int 1), none]) d_M_isCaught_54 (Nat.le_of_ble_eq_true rfl) rfl ?_
        refine jv_goto (tgt := 21) d_M_isCaught_56 (by decide) ?_
        exact h
theorem b_M_matches_0 {g : jv_G} {d : Nat} {M : jv_Mem} {N cr sr : Nat} {Z : Option Value → jv_Mem → Nat → Prop} {a0 : Nat} {a1 : Nat} {x2 : Int32} (h : jv_Tg 10 a0 N ∧ ∃ b2, Prod.fst (Prod.snd M) a0 10 = some b2 ∧ jv_Tg 11 b2 N ∧ vp_in x2 (jv_sh b2).2 ∧ jv_Tg 11 a1 N ∧ vp_in (40 + (6 * x2)) (jv_sh a1).2 ∧ ((Prod.fst M a1 (Int32.toNatClampNeg (40 + (6 * x2)))) ≠ 0 → jv_Tg 11 a1 N ∧ vp_in ((40 + (6 * x2)) + 1) (jv_sh a1).2 ∧ jv_Tg 11 a1 N ∧ vp_in (((8 * (Prod.fst M b2 (Int32.toNatClampNeg x2))) + 4) + (Prod.fst M a1 (Int32.toNatClampNeg ((40 + (6 * x2)) + 1)))) (jv_sh a1).2 ∧ jv_Tg 11 a1 N ∧ vp_in ((40 + (6 * x2)) + 2) (jv_sh a1).2 ∧ ((Prod.fst M a1 (Int32.toNatClampNeg (((8 * (Prod.fst M b2 (Int32.toNatClampNeg x2))) + 4) + (Prod.fst M a1 (Int32.toNatClampNeg ((40 + (6 * x2)) + 1)))))) ≠ (Prod.fst M a1 (Int32.toNatClampNeg ((40 + (6 * x2)) + 2))) → Z (some (.int 0)) M N) ∧ ((Prod.fst M a1 (Int32.toNatClampNeg (((8 * (Prod.fst M b2 (Int32.toNatClampNeg x2))) + 4) + (Prod.fst M a1 (Int32.toNatClampNeg ((40 + (6 * x2)) + 1)))))) = (Prod.fst M a1 (Int32.toNatClampNeg ((40 + (6 * x2)) + 2))) → jv_Tg 10 a0 N ∧ jv_Ct g d mt_M_has [.int (Prod.fst M a0 32), .int x2] M N 0 0 (fun v M16 N16 => jv_ri v (fun r15 => (r15 = 0 → Z (some (.int 0)) M16 N16) ∧ (¬ (r15 = 0) → Z (some (.int 1)) M16 N16))))) ∧ ((Prod.fst M a1 (Int32.toNatClampNeg (40 + (6 * x2)))) = 0 → jv_Tg 11 a1 N ∧ vp_in (8 * (Prod.fst M b2 (Int32.toNatClampNeg x2))) (jv_sh a1).2 ∧ jv_Tg 11 a1 N ∧ vp_in ((40 + (6 * x2)) + 1) (jv_sh a1).2 ∧ ((Prod.fst M a1 (Int32.toNatClampNeg (8 * (Prod.fst M b2 (Int32.toNatClampNeg x2))))) ≠ (Prod.fst M a1 (Int32.toNatClampNeg ((40 + (6 * x2)) + 1))) → Z (some (.int 0)) M N) ∧ ((Prod.fst M a1 (Int32.toNatClampNeg (8 * (Prod.fst M b2 (Int32.toNatClampNeg x2))))) = (Prod.fst M a1 (Int32.toNatClampNeg ((40 + (6 * x2)) + 1))) → jv_Tg 10 a0 N ∧ jv_Ct g d mt_M_has [.int (Prod.fst M a0 32), .int x2] M N 0 0 (fun v M23 N23 => jv_ri v (fun r22 => (r22 = 0 → Z (some (.int 0)) M23 N23) ∧ (¬ (r22 = 0) → Z (some (.int 1)) M23 N23)))))) : jv_J g (d + 1) mt_M_matches 0 [some (.ref a0), some (.ref a1), some (.int x2), none, none, none] [] M N cr sr Z := by
  refine jv_bipush (v := 40) d_M_matches_0 (by decide) ?_
  refine jv_bipush (v := 6) d_M_matches_2 (by decide) ?_
  refine jv_iload_n d_M_matches_4 rfl rfl ?_
  refine jv_imul d_M_matches_5 ?_
  refine jv_iadd d_M_matches_6 ?_
  refine jv_istore_n (L' := [some (.ref a0), some (.ref a1), some (.int x2), some (.int (40 + (6 * x2))), none, none]) d_M_matches_7 rfl (Nat.le_of_ble_eq_true rfl) rfl ?_
  refine jv_bipush (v := 8) d_M_matches_8 (by decide) ?_
  refine jv_aload_n d_M_matches_10 rfl rfl ?_
  obtain ⟨q1, h⟩ := h
  obtain ⟨b2, e3, h⟩ := h
  refine jv_getR d_M_matches_11 fl_M_22 rfl q1 e3 ?_
  refine jv_iload_n d_M_matches_14 rfl rfl ?_
  obtain ⟨q4, q5, h⟩ := h
  refine jv_iald d_M_matches_15 q4 q5 ?_
  refine jv_imul d_M_matches_16 ?_
  refine jv_istore (L' := [some (.ref a0), some (.ref a1), some (.int x2), some (.int (40 + (6 * x2))), some (.int (8 * (Prod.fst M b2 (Int32.toNatClampNeg x2)))), none]) d_M_matches_17 (Nat.le_of_ble_eq_true rfl) rfl ?_
  refine jv_aload_n d_M_matches_19 rfl rfl ?_
  refine jv_iload_n d_M_matches_20 rfl rfl ?_
  obtain ⟨q6, q7, h⟩ := h
  refine jv_iald d_M_matches_21 q6 q7 ?_
  refine jv_if_ne (tgt := 45) d_M_matches_22 (by decide) ⟨fun c => ?_, fun c => ?_⟩
  · replace h := h.1 c
    refine jv_aload_n d_M_matches_45 rfl rfl ?_
    refine jv_iload d_M_matches_46 rfl ?_
    refine jv_iconst (v := 4) d_M_matches_48 (by decide) ?_
    refine jv_iadd d_M_matches_49 ?_
    refine jv_aload_n d_M_matches_50 rfl rfl ?_
    refine jv_iload_n d_M_matches_51 rfl rfl ?_
    refine jv_iconst (v := 1) d_M_matches_52 (by decide) ?_
    refine jv_iadd d_M_matches_53 ?_
    obtain ⟨q8, q9, h⟩ := h
    refine jv_iald d_M_matches_54 q8 q9 ?_
    refine jv_iadd d_M_matches_55 ?_
    obtain ⟨q10, q11, h⟩ := h
    refine jv_iald d_M_matches_56 q10 q11 ?_
    refine jv_aload_n d_M_matches_57 rfl rfl ?_
    refine jv_iload_n d_M_matches_58 rfl rfl ?_
    refine jv_iconst (v := 2) d_M_matches_59 (by decide) ?_
    refine jv_iadd d_M_matches_60 ?_
    obtain ⟨q12, q13, h⟩ := h
    refine jv_iald d_M_matches_61 q12 q13 ?_
    refine jv_icmp_ne (tgt := 69) d_M_matches_62 (by decide) ⟨fun c => ?_, fun c => ?_⟩
    · replace h := h.1 c
      refine jv_iconst (v := 0) d_M_matches_69 (by decide) ?_
      refine jv_istore (L' := [some (.ref a0), some (.ref a1), some (.int x2), some (.int (40 + (6 * x2))), some (.int (8 * (Prod.fst M b2 (Int32.toNatClampNeg x2)))), some (.int 0)]) d_M_matches_70 (Nat.le_of_ble_eq_true rfl) rfl ?_
      refine jv_iload d_M_matches_72 rfl ?_
      refine jv_if_eq (tgt := 92) d_M_matches_74 (by decide) ⟨fun c => ?_, fun c => absurd c (by decide)⟩
      refine jv_iconst (v := 0) d_M_matches_92 (by decide) ?_
      exact jv_iret d_M_matches_93 rfl (jv_nz (by decide)) h
    · replace h := h.2 c
      refine jv_iconst (v := 1) d_M_matches_65 (by decide) ?_
      refine jv_goto (tgt := 70) d_M_matches_66 (by decide) ?_
      refine jv_istore (L' := [some (.ref a0), some (.ref a1), some (.int x2), some (.int (40 + (6 * x2))), some (.int (8 * (Prod.fst M b2 (Int32.toNatClampNeg x2)))), some (.int 1)]) d_M_matches_70 (Nat.le_of_ble_eq_true rfl) rfl ?_
      refine jv_iload d_M_matches_72 rfl ?_
      refine jv_if_eq (tgt := 92) d_M_matches_74 (by decide) ⟨fun c => absurd c (by decide), fun c => ?_⟩
      refine jv_aload_n d_M_matches_77 rfl rfl ?_
      obtain ⟨q14, h⟩ := h
      refine jv_getI d_M_matches_78 fl_M_68 rfl q14 ?_
      refine jv_iload_n d_M_matches_81 rfl rfl ?_
      refine jv_invS [.int (Prod.fst M a0 32), .int x2] [] d_M_matches_82 ml_M_175 rfl (Nat.le_of_ble_eq_true rfl) (Nat.zero_add _) (Nat.zero_add _) (jv_Ct.mono h (fun v M16 N16 h => ?_))
      obtain ⟨r15, rfl, h⟩ := h
      change jv_J g (d + 1) mt_M_matches 85 [some (.ref a0), some (.ref a1), some (.int x2), some (.int (40 + (6 * x2))), some (.int (8 * (Prod.fst M b2 (Int32.toNatClampNeg x2)))), some (.int 1)] [.int r15] M16 N16 cr sr Z
      refine jv_if_eq (tgt := 92) d_M_matches_85 (by decide) ⟨fun c => ?_, fun c => ?_⟩
      · replace h := h.1 c
        refine jv_iconst (v := 0) d_M_matches_92 (by decide) ?_
        exact jv_iret d_M_matches_93 rfl (jv_nz (by decide)) h
      · replace h := h.2 c
        refine jv_iconst (v := 1) d_M_matches_88 (by decide) ?_
        refine jv_goto (tgt := 93) d_M_matches_89 (by decide) ?_
        exact jv_iret d_M_matches_93 rfl (jv_nz (by decide)) h
  · replace h := h.2 c
    refine jv_aload_n d_M_matches_25 rfl rfl ?_
    refine jv_iload d_M_matches_26 rfl ?_
    obtain ⟨q17, q18, h⟩ := h
    refine jv_iald d_M_matches_28 q17 q18 ?_
    refine jv_aload_n d_M_matches_29 rfl rfl ?_
    refine jv_iload_n d_M_matches_30 rfl rfl ?_
    refine jv_iconst (v := 1) d_M_matches_31 (by decide) ?_
    refine jv_iadd d_M_matches_32 ?_
    obtain ⟨q19, q20, h⟩ := h
    refine jv_iald d_M_matches_33 q19 q20 ?_
    refine jv_icmp_ne (tgt := 41) d_M_matches_34 (by decide) ⟨fun c => ?_, fun c => ?_⟩
    · replace h := h.1 c
      refine jv_iconst (v := 0) d_M_matches_41 (by decide) ?_
      refine jv_goto (tgt := 70) d_M_matches_42 (by decide) ?_
      refine jv_istore (L' := [some (.ref a0), some (.ref a1), some (.int x2), some (.int (40 + (6 * x2))), some (.int (8 * (Prod.fst M b2 (Int32.toNatClampNeg x2)))), some (.int 0)]) d_M_matches_70 (Nat.le_of_ble_eq_true rfl) rfl ?_
      refine jv_iload d_M_matches_72 rfl ?_
      refine jv_if_eq (tgt := 92) d_M_matches_74 (by decide) ⟨fun c => ?_, fun c => absurd c (by decide)⟩
      refine jv_iconst (v := 0) d_M_matches_92 (by decide) ?_
      exact jv_iret d_M_matches_93 rfl (jv_nz (by decide)) h
    · replace h := h.2 c
      refine jv_iconst (v := 1) d_M_matches_37 (by decide) ?_
      refine jv_goto (tgt := 70) d_M_matches_38 (by decide) ?_
      refine jv_istore (L' := [some (.ref a0), some (.ref a1), some (.int x2), some (.int (40 + (6 * x2))), some (.int (8 * (Prod.fst M b2 (Int32.toNatClampNeg x2)))), some (.int 1)]) d_M_matches_70 (Nat.le_of_ble_eq_true rfl) rfl ?_
      refine jv_iload d_M_matches_72 rfl ?_
      refine jv_if_eq (tgt := 92) d_M_matches_74 (by decide) ⟨fun c => absurd c (by decide), fun c => ?_⟩
      refine jv_aload_n d_M_matches_77 rfl rfl ?_
      obtain ⟨q21, h⟩ := h
      refine jv_getI d_M_matches_78 fl_M_68 rfl q21 ?_
      refine jv_iload_n d_M_matches_81 rfl rfl ?_
      refine jv_invS [.int (Prod.fst M a0 32), .int x2] [] d_M_matches_82 ml_M_175 rfl (Nat.le_of_ble_eq_true rfl) (Nat.zero_add _) (Nat.zero_add _) (jv_Ct.mono h (fun v M23 N23 h => ?_))
      obtain ⟨r22, rfl, h⟩ := h
      change jv_J g (d + 1) mt_M_matches 85 [some (.ref a0), some (.ref a1), some (.int x2), some (.int (40 + (6 * x2))), some (.int (8 * (Prod.fst M b2 (Int32.toNatClampNeg x2)))), some (.int 1)] [.int r22] M23 N23 cr sr Z
      refine jv_if_eq (tgt := 92) d_M_matches_85 (by decide) ⟨fun c => ?_, fun c => ?_⟩
      · replace h := h.1 c
        refine jv_iconst (v := 0) d_M_matches_92 (by decide) ?_
        exact jv_iret d_M_matches_93 rfl (jv_nz (by decide)) h
      · replace h := h.2 c
        refine jv_iconst (v := 1) d_M_matches_88 (by decide) ?_
        refine jv_goto (tgt := 93) d_M_matches_89 (by decide) ?_
        exact jv_iret d_M_matches_93 rfl (jv_nz (by decide)) h
theorem b_M_has_0 {g : jv_G} {d : Nat} {M : jv_Mem} {N cr sr : Nat} {Z : Option Value → jv_Mem → Nat → Prop} {x0 : Int32} {x1 : Int32} (h : (((x0 >>> (x1 &&& 31)) &&& 1) ≠ 1 → Z (some (.int 0)) M N) ∧ (((x0 >>> (x1 &&& 31)) &&& 1) = 1 → Z (some (.int 1)) M N)) : jv_J g d mt_M_has 0 [some (.int x0), some (.int x1)] [] M N cr sr Z := by
  refine jv_iload_n d_M_has_0 rfl rfl ?_
  refine jv_iload_n d_M_has_1 rfl rfl ?_
  refine jv_ishr d_M_has_2 ?_
  refine jv_iconst (v := 1) d_M_has_3 (by decide) ?_
  refine jv_iand d_M_has_4 ?_
  refine jv_iconst (v := 1) d_M_has_5 (by decide) ?_
  refine jv_icmp_ne (tgt := 13) d_M_has_6 (by decide) ⟨fun c => ?_, fun c => ?_⟩
  · replace h := h.1 c
    refine jv_iconst (v := 0) d_M_has_13 (by decide) ?_
    exact jv_iret d_M_has_14 rfl (jv_nz (by decide)) h
  · replace h := h.2 c
    refine jv_iconst (v := 1) d_M_has_9 (by decide) ?_
    refine jv_goto (tgt := 14) d_M_has_10 (by decide) ?_
    exact jv_iret d_M_has_14 rfl (jv_nz (by decide)) h
theorem b_M_leads_0 {g : jv_G} {d : Nat} {M : jv_Mem} {N cr sr : Nat} {Z : Option Value → jv_Mem → Nat → Prop} {a0 : Nat} {a1 : Nat} {x2 : Int32} (h : jv_Tg 10 a0 N ∧ ((Prod.fst M a0 9) ≤ (x2 + 1) → Z (some (.int 0)) M N) ∧ (¬ ((Prod.fst M a0 9) ≤ (x2 + 1)) → jv_Tg 11 a1 N ∧ vp_in ((40 + (6 * x2)) + 5) (jv_sh a1).2 ∧ ((Prod.fst M a1 (Int32.toNatClampNeg ((40 + (6 * x2)) + 5))) ≠ 1 → Z (some (.int 0)) M N) ∧ ((Prod.fst M a1 (Int32.toNatClampNeg ((40 + (6 * x2)) + 5))) = 1 → jv_Tg 10 a0 N ∧ ∃ b5, Prod.fst (Prod.snd M) a0 10 = some b5 ∧ jv_Tg 11 b5 N ∧ vp_in (x2 + 1) (jv_sh b5).2 ∧ jv_Tg 10 a0 N ∧ ∃ b10, Prod.fst (Prod.snd M) a0 10 = some b10 ∧ jv_Tg 11 b10 N ∧ vp_in x2 (jv_sh b10).2 ∧ ((Prod.fst M b5 (Int32.toNatClampNeg (x2 + 1))) ≠ (Prod.fst M b10 (Int32.toNatClampNeg x2)) → Z (some (.int 0)) M N) ∧ ((Prod.fst M b5 (Int32.toNatClampNeg (x2 + 1))) = (Prod.fst M b10 (Int32.toNatClampNeg x2)) → Z (some (.int 1)) M N)))) : jv_J g d mt_M_leads 0 [some (.ref a0), some (.ref a1), some (.int x2)] [] M N cr sr Z := by
  refine jv_iload_n d_M_leads_0 rfl rfl ?_
  refine jv_iconst (v := 1) d_M_leads_1 (by decide) ?_
  refine jv_iadd d_M_leads_2 ?_
  refine jv_aload_n d_M_leads_3 rfl rfl ?_
  obtain ⟨q1, h⟩ := h
  refine jv_getI d_M_leads_4 fl_M_138 rfl q1 ?_
  refine jv_icmp_ge (tgt := 46) d_M_leads_7 (by decide) ⟨fun c => ?_, fun c => ?_⟩
  · replace h := h.1 c
    refine jv_iconst (v := 0) d_M_leads_46 (by decide) ?_
    exact jv_iret d_M_leads_47 rfl (jv_nz (by decide)) h
  · replace h := h.2 c
    refine jv_aload_n d_M_leads_10 rfl rfl ?_
    refine jv_bipush (v := 40) d_M_leads_11 (by decide) ?_
    refine jv_bipush (v := 6) d_M_leads_13 (by decide) ?_
    refine jv_iload_n d_M_leads_15 rfl rfl ?_
    refine jv_imul d_M_leads_16 ?_
    refine jv_iadd d_M_leads_17 ?_
    refine jv_iconst (v := 5) d_M_leads_18 (by decide) ?_
    refine jv_iadd d_M_leads_19 ?_
    obtain ⟨q2, q3, h⟩ := h
    refine jv_iald d_M_leads_20 q2 q3 ?_
    refine jv_iconst (v := 1) d_M_leads_21 (by decide) ?_
    refine jv_icmp_ne (tgt := 46) d_M_leads_22 (by decide) ⟨fun c => ?_, fun c => ?_⟩
    · replace h := h.1 c
      refine jv_iconst (v := 0) d_M_leads_46 (by decide) ?_
      exact jv_iret d_M_leads_47 rfl (jv_nz (by decide)) h
    · replace h := h.2 c
      refine jv_aload_n d_M_leads_25 rfl rfl ?_
      obtain ⟨q4, h⟩ := h
      obtain ⟨b5, e6, h⟩ := h
      refine jv_getR d_M_leads_26 fl_M_22 rfl q4 e6 ?_
      refine jv_iload_n d_M_leads_29 rfl rfl ?_
      refine jv_iconst (v := 1) d_M_leads_30 (by decide) ?_
      refine jv_iadd d_M_leads_31 ?_
      obtain ⟨q7, q8, h⟩ := h
      refine jv_iald d_M_leads_32 q7 q8 ?_
      refine jv_aload_n d_M_leads_33 rfl rfl ?_
      obtain ⟨q9, h⟩ := h
      obtain ⟨b10, e11, h⟩ := h
      refine jv_getR d_M_leads_34 fl_M_22 rfl q9 e11 ?_
      refine jv_iload_n d_M_leads_37 rfl rfl ?_
      obtain ⟨q12, q13, h⟩ := h
      refine jv_iald d_M_leads_38 q12 q13 ?_
      refine jv_icmp_ne (tgt := 46) d_M_leads_39 (by decide) ⟨fun c => ?_, fun c => ?_⟩
      · replace h := h.1 c
        refine jv_iconst (v := 0) d_M_leads_46 (by decide) ?_
        exact jv_iret d_M_leads_47 rfl (jv_nz (by decide)) h
      · replace h := h.2 c
        refine jv_iconst (v := 1) d_M_leads_42 (by decide) ?_
        refine jv_goto (tgt := 47) d_M_leads_43 (by decide) ?_
        exact jv_iret d_M_leads_47 rfl (jv_nz (by decide)) h
theorem b_M_ones_0 {g : jv_G} {d : Nat} {M : jv_Mem} {N cr sr : Nat} {Z : Option Value → jv_Mem → Nat → Prop} {x0 : Int32} (h : jv_J g d mt_M_ones 4 [some (.int x0), some (.int 0), some (.int 0)] [] M N cr sr Z) : jv_J g d mt_M_ones 0 [some (.int x0), none, none] [] M N cr sr Z := by
  refine jv_iconst (v := 0) d_M_ones_0 (by decide) ?_
  refine jv_istore_n (L' := [some (.int x0), some (.int 0), none]) d_M_ones_1 rfl (Nat.le_of_ble_eq_true rfl) rfl ?_
  refine jv_iconst (v := 0) d_M_ones_2 (by decide) ?_
  refine jv_istore_n (L' := [some (.int x0), some (.int 0), some (.int 0)]) d_M_ones_3 rfl (Nat.le_of_ble_eq_true rfl) rfl ?_
  exact h
theorem b_M_ones_4 {g : jv_G} {d : Nat} {M : jv_Mem} {N cr sr : Nat} {Z : Option Value → jv_Mem → Nat → Prop} {x0 : Int32} {x1 : Int32} {x2 : Int32} (h : (8 ≤ x2 → Z (some (.int x1)) M N) ∧ (¬ (8 ≤ x2) → jv_J g d mt_M_ones 4 [some (.int x0), some (.int (x1 + ((x0 >>> (x2 &&& 31)) &&& 1))), some (.int (x2 + 1))] [] M N cr sr Z)) : jv_J g d mt_M_ones 4 [some (.int x0), some (.int x1), some (.int x2)] [] M N cr sr Z := by
  refine jv_iload_n d_M_ones_4 rfl rfl ?_
  refine jv_bipush (v := 8) d_M_ones_5 (by decide) ?_
  refine jv_icmp_ge (tgt := 24) d_M_ones_7 (by decide) ⟨fun c => ?_, fun c => ?_⟩
  · replace h := h.1 c
    refine jv_iload_n d_M_ones_24 rfl rfl ?_
    exact jv_iret d_M_ones_25 rfl rfl h
  · replace h := h.2 c
    refine jv_iload_n d_M_ones_10 rfl rfl ?_
    refine jv_iload_n d_M_ones_11 rfl rfl ?_
    refine jv_iload_n d_M_ones_12 rfl rfl ?_
    refine jv_ishr d_M_ones_13 ?_
    refine jv_iconst (v := 1) d_M_ones_14 (by decide) ?_
    refine jv_iand d_M_ones_15 ?_
    refine jv_iadd d_M_ones_16 ?_
    refine jv_istore_n (L' := [some (.int x0), some (.int (x1 + ((x0 >>> (x2 &&& 31)) &&& 1))), some (.int x2)]) d_M_ones_17 rfl (Nat.le_of_ble_eq_true rfl) rfl ?_
    refine jv_iinc (v := (x2 + 1)) (L' := [some (.int x0), some (.int (x1 + ((x0 >>> (x2 &&& 31)) &&& 1))), some (.int (x2 + 1))]) d_M_ones_18 rfl rfl (Nat.le_of_ble_eq_true rfl) rfl ?_
    refine jv_goto (tgt := 4) d_M_ones_21 (by decide) ?_
    exact h
theorem b_M_send_0 {g : jv_G} {d : Nat} {M : jv_Mem} {N cr sr : Nat} {Z : Option Value → jv_Mem → Nat → Prop} {a0 : Nat} {x1 : Int32} {x2 : Int32} {x3 : Int32} {x4 : Int32} (h : jv_Tg 10 a0 N ∧ jv_Ct g d mt_M_in [.long (Int32.toInt64 x1), .long 0, .long 5] (jv_si M a0 0 0) N 0 0 (fun v M3 N3 => jv_ri v (fun r2 => (r2 ≠ 0 → jv_Tg 10 a0 N3 ∧ jv_Ct g d mt_M_noHart [.ref a0, .int x2] M3 N3 0 0 (fun v M6 N6 => jv_ri v (fun r5 => (r5 = 0 → (x1 = 3 → jv_Ct g d mt_M_in [.long (Int32.toInt64 x3), .long 0, .long 3] M6 N6 0 0 (fun v M8 N8 => jv_ri v (fun r7 => (r7 = 0 → Z (some (.int (-2))) M8 N8) ∧ (¬ (r7 = 0) → (x1 ≠ 4 → jv_Ct g d mt_M_in [.long (Int32.toInt64 x4), .long 0, .long 0] M8 N8 0 0 (fun v M10 N10 => jv_ri v (fun r9 => (r9 ≠ 0 → jv_Tg 10 a0 N10 ∧ ∃ b12, Prod.fst (Prod.snd M10) a0 19 = some b12 ∧ jv_Tg 11 b12 N10 ∧ vp_in 80 (jv_sh b12).2 ∧ ((Prod.fst M10 b12 (Int32.toNatClampNeg 80)) ≠ 8 → jv_Tg 10 a0 N10 ∧ jv_Ct g d mt_M_note [.ref a0] M10 N10 0 0 (fun v M18 N18 => jv_rv v (jv_Tg 10 a0 N18 ∧ ∃ b20, Prod.fst (Prod.snd M18) a0 19 = some b20 ∧ jv_Ct g d mt_M_sendOn [.ref b20, .int x1, .int x2, .int x3, .int x4] M18 N18 0 0 (fun v M23 N23 => jv_rv v (jv_Tg 10 a0 N23 ∧ ∃ b25, Prod.fst (Prod.snd M23) a0 19 = some b25 ∧ jv_Tg 11 b25 N23 ∧ vp_in 76 (jv_sh b25).2 ∧ Z (some (.int (Prod.fst M23 b25 (Int32.toNatClampNeg 76)))) M23 N23))))) ∧ ((Prod.fst M10 b12 (Int32.toNatClampNeg 80)) = 8 → Z (some (.int (-4))) M10 N10)) ∧ (r9 = 0 → Z (some (.int (-2))) M10 N10)))) ∧ (x1 = 4 → jv_Ct g d mt_M_in [.long (Int32.toInt64 x4), .long 0, .long 999] M8 N8 0 0 (fun v M30 N30 => jv_ri v (fun r29 => (r29 ≠ 0 → jv_Tg 10 a0 N30 ∧ ∃ b32, Prod.fst (Prod.snd M30) a0 19 = some b32 ∧ jv_Tg 11 b32 N30 ∧ vp_in 80 (jv_sh b32).2 ∧ ((Prod.fst M30 b32 (Int32.toNatClampNeg 80)) ≠ 8 → jv_Tg 10 a0 N30 ∧ jv_Ct g d mt_M_note [.ref a0] M30 N30 0 0 (fun v M38 N38 => jv_rv v (jv_Tg 10 a0 N38 ∧ ∃ b40, Prod.fst (Prod.snd M38) a0 19 = some b40 ∧ jv_Ct g d mt_M_sendOn [.ref b40, .int x1, .int x2, .int x3, .int x4] M38 N38 0 0 (fun v M43 N43 => jv_rv v (jv_Tg 10 a0 N43 ∧ ∃ b45, Prod.fst (Prod.snd M43) a0 19 = some b45 ∧ jv_Tg 11 b45 N43 ∧ vp_in 76 (jv_sh b45).2 ∧ Z (some (.int (Prod.fst M43 b45 (Int32.toNatClampNeg 76)))) M43 N43))))) ∧ ((Prod.fst M30 b32 (Int32.toNatClampNeg 80)) = 8 → Z (some (.int (-4))) M30 N30)) ∧ (r29 = 0 → Z (some (.int (-2))) M30 N30)))))))) ∧ (¬ (x1 = 3) → (x1 ≠ 4 → jv_Ct g d mt_M_in [.long (Int32.toInt64 x3), .long 0, .long 0] M6 N6 0 0 (fun v M50 N50 => jv_ri v (fun r49 => (r49 = 0 → Z (some (.int (-2))) M50 N50) ∧ (¬ (r49 = 0) → (x1 ≠ 4 → jv_Ct g d mt_M_in [.long (Int32.toInt64 x4), .long 0, .long 0] M50 N50 0 0 (fun v M52 N52 => jv_ri v (fun r51 => (r51 ≠ 0 → jv_Tg 10 a0 N52 ∧ ∃ b54, Prod.fst (Prod.snd M52) a0 19 = some b54 ∧ jv_Tg 11 b54 N52 ∧ vp_in 80 (jv_sh b54).2 ∧ ((Prod.fst M52 b54 (Int32.toNatClampNeg 80)) ≠ 8 → jv_Tg 10 a0 N52 ∧ jv_Ct g d mt_M_note [.ref a0] M52 N52 0 0 (fun v M60 N60 => jv_rv v (jv_Tg 10 a0 N60 ∧ ∃ b62, Prod.fst (Prod.snd M60) a0 19 = some b62 ∧ jv_Ct g d mt_M_sendOn [.ref b62, .int x1, .int x2, .int x3, .int x4] M60 N60 0 0 (fun v M65 N65 => jv_rv v (jv_Tg 10 a0 N65 ∧ ∃ b67, Prod.fst (Prod.snd M65) a0 19 = some b67 ∧ jv_Tg 11 b67 N65 ∧ vp_in 76 (jv_sh b67).2 ∧ Z (some (.int (Prod.fst M65 b67 (Int32.toNatClampNeg 76)))) M65 N65))))) ∧ ((Prod.fst M52 b54 (Int32.toNatClampNeg 80)) = 8 → Z (some (.int (-4))) M52 N52)) ∧ (r51 = 0 → Z (some (.int (-2))) M52 N52)))) ∧ (x1 = 4 → jv_Ct g d mt_M_in [.long (Int32.toInt64 x4), .long 0, .long 999] M50 N50 0 0 (fun v M72 N72 => jv_ri v (fun r71 => (r71 ≠ 0 → jv_Tg 10 a0 N72 ∧ ∃ b74, Prod.fst (Prod.snd M72) a0 19 = some b74 ∧ jv_Tg 11 b74 N72 ∧ vp_in 80 (jv_sh b74).2 ∧ ((Prod.fst M72 b74 (Int32.toNatClampNeg 80)) ≠ 8 → jv_Tg 10 a0 N72 ∧ jv_Ct g d mt_M_note [.ref a0] M72 N72 0 0 (fun v M80 N80 => jv_rv v (jv_Tg 10 a0 N80 ∧ ∃ b82, Prod.fst (Prod.snd M80) a0 19 = some b82 ∧ jv_Ct g d mt_M_sendOn [.ref b82, .int x1, .int x2, .int x3, .int x4] M80 N80 0 0 (fun v M85 N85 => jv_rv v (jv_Tg 10 a0 N85 ∧ ∃ b87, Prod.fst (Prod.snd M85) a0 19 = some b87 ∧ jv_Tg 11 b87 N85 ∧ vp_in 76 (jv_sh b87).2 ∧ Z (some (.int (Prod.fst M85 b87 (Int32.toNatClampNeg 76)))) M85 N85))))) ∧ ((Prod.fst M72 b74 (Int32.toNatClampNeg 80)) = 8 → Z (some (.int (-4))) M72 N72)) ∧ (r71 = 0 → Z (some (.int (-2))) M72 N72)))))))) ∧ (x1 = 4 → jv_Ct g d mt_M_in [.long (Int32.toInt64 x3), .long 0, .long 3] M6 N6 0 0 (fun v M92 N92 => jv_ri v (fun r91 => (r91 = 0 → Z (some (.int (-2))) M92 N92) ∧ (¬ (r91 = 0) → (x1 ≠ 4 → jv_Ct g d mt_M_in [.long (Int32.toInt64 x4), .long 0, .long 0] M92 N92 0 0 (fun v M94 N94 => jv_ri v (fun r93 => (r93 ≠ 0 → jv_Tg 10 a0 N94 ∧ ∃ b96, Prod.fst (Prod.snd M94) a0 19 = some b96 ∧ jv_Tg 11 b96 N94 ∧ vp_in 80 (jv_sh b96).2 ∧ ((Prod.fst M94 b96 (Int32.toNatClampNeg 80)) ≠ 8 → jv_Tg 10 a0 N94 ∧ jv_Ct g d mt_M_note [.ref a0] M94 N94 0 0 (fun v M102 N102 => jv_rv v (jv_Tg 10 a0 N102 ∧ ∃ b104, Prod.fst (Prod.snd M102) a0 19 = some b104 ∧ jv_Ct g d mt_M_sendOn [.ref b104, .int x1, .int x2, .int x3, .int x4] M102 N102 0 0 (fun v M107 N107 => jv_rv v (jv_Tg 10 a0 N107 ∧ ∃ b109, Prod.fst (Prod.snd M107) a0 19 = some b109 ∧ jv_Tg 11 b109 N107 ∧ vp_in 76 (jv_sh b109).2 ∧ Z (some (.int (Prod.fst M107 b109 (Int32.toNatClampNeg 76)))) M107 N107))))) ∧ ((Prod.fst M94 b96 (Int32.toNatClampNeg 80)) = 8 → Z (some (.int (-4))) M94 N94)) ∧ (r93 = 0 → Z (some (.int (-2))) M94 N94)))) ∧ (x1 = 4 → jv_Ct g d mt_M_in [.long (Int32.toInt64 x4), .long 0, .long 999] M92 N92 0 0 (fun v M114 N114 => jv_ri v (fun r113 => (r113 ≠ 0 → jv_Tg 10 a0 N114 ∧ ∃ b116, Prod.fst (Prod.snd M114) a0 19 = some b116 ∧ jv_Tg 11 b116 N114 ∧ vp_in 80 (jv_sh b116).2 ∧ ((Prod.fst M114 b116 (Int32.toNatClampNeg 80)) ≠ 8 → jv_Tg 10 a0 N114 ∧ jv_Ct g d mt_M_note [.ref a0] M114 N114 0 0 (fun v M122 N122 => jv_rv v (jv_Tg 10 a0 N122 ∧ ∃ b124, Prod.fst (Prod.snd M122) a0 19 = some b124 ∧ jv_Ct g d mt_M_sendOn [.ref b124, .int x1, .int x2, .int x3, .int x4] M122 N122 0 0 (fun v M127 N127 => jv_rv v (jv_Tg 10 a0 N127 ∧ ∃ b129, Prod.fst (Prod.snd M127) a0 19 = some b129 ∧ jv_Tg 11 b129 N127 ∧ vp_in 76 (jv_sh b129).2 ∧ Z (some (.int (Prod.fst M127 b129 (Int32.toNatClampNeg 76)))) M127 N127))))) ∧ ((Prod.fst M114 b116 (Int32.toNatClampNeg 80)) = 8 → Z (some (.int (-4))) M114 N114)) ∧ (r113 = 0 → Z (some (.int (-2))) M114 N114)))))))))) ∧ (¬ (r5 = 0) → Z (some (.int (-1))) M6 N6)))) ∧ (r2 = 0 → Z (some (.int (-2))) M3 N3)))) : jv_J g (d + 1) mt_M_send 0 [some (.ref a0), some (.int x1), some (.int x2), some (.int x3), some (.int x4)] [] M N cr sr Z := by
  refine jv_aload_n d_M_send_0 rfl rfl ?_
  refine jv_iconst (v := 0) d_M_send_1 (by decide) ?_
  obtain ⟨q1, h⟩ := h
  refine jv_putI d_M_send_2 fl_M_75 (fun r hr => by cases hr; rfl) rfl q1 ?_
  refine jv_iload_n d_M_send_5 rfl rfl ?_
  refine jv_i2l d_M_send_6 ?_
  refine jv_lconst (v := 0) d_M_send_7 (by decide) ?_
  refine jv_ldc2 d_M_send_8 co_M_236 ?_
  refine jv_invS [.long (Int32.toInt64 x1), .long 0, .long 5] [] d_M_send_11 ml_M_81 rfl (Nat.le_of_ble_eq_true rfl) (Nat.zero_add _) (Nat.zero_add _) (jv_Ct.mono h (fun v M3 N3 h => ?_))
  obtain ⟨r2, rfl, h⟩ := h
  change jv_J g (d + 1) mt_M_send 14 [some (.ref a0), some (.int x1), some (.int x2), some (.int x3), some (.int x4)] [.int r2] M3 N3 cr sr Z
  refine jv_if_ne (tgt := 20) d_M_send_14 (by decide) ⟨fun c => ?_, fun c => ?_⟩
  · replace h := h.1 c
    refine jv_aload_n d_M_send_20 rfl rfl ?_
    refine jv_iload_n d_M_send_21 rfl rfl ?_
    obtain ⟨q4, h⟩ := h
    refine jv_invV [.int x2] [] d_M_send_22 ml_M_206 q4 rfl (Nat.le_of_ble_eq_true rfl) (Nat.zero_add _) (Nat.zero_add _) (jv_Ct.mono h (fun v M6 N6 h => ?_))
    obtain ⟨r5, rfl, h⟩ := h
    change jv_J g (d + 1) mt_M_send 25 [some (.ref a0), some (.int x1), some (.int x2), some (.int x3), some (.int x4)] [.int r5] M6 N6 cr sr Z
    refine jv_if_eq (tgt := 30) d_M_send_25 (by decide) ⟨fun c => ?_, fun c => ?_⟩
    · replace h := h.1 c
      refine jv_iload_n d_M_send_30 rfl rfl ?_
      refine jv_i2l d_M_send_31 ?_
      refine jv_lconst (v := 0) d_M_send_32 (by decide) ?_
      refine jv_iload_n d_M_send_33 rfl rfl ?_
      refine jv_iconst (v := 3) d_M_send_34 (by decide) ?_
      refine jv_icmp_eq (tgt := 43) d_M_send_35 (by decide) ⟨fun c => ?_, fun c => ?_⟩
      · replace h := h.1 c
        refine jv_ldc2 d_M_send_43 co_M_219 ?_
        refine jv_goto (tgt := 50) d_M_send_46 (by decide) ?_
        refine jv_invS [.long (Int32.toInt64 x3), .long 0, .long 3] [] d_M_send_50 ml_M_81 rfl (Nat.le_of_ble_eq_true rfl) (Nat.zero_add _) (Nat.zero_add _) (jv_Ct.mono h (fun v M8 N8 h => ?_))
        obtain ⟨r7, rfl, h⟩ := h
        change jv_J g (d + 1) mt_M_send 53 [some (.ref a0), some (.int x1), some (.int x2), some (.int x3), some (.int x4)] [.int r7] M8 N8 cr sr Z
        refine jv_if_eq (tgt := 78) d_M_send_53 (by decide) ⟨fun c => ?_, fun c => ?_⟩
        · replace h := h.1 c
          refine jv_bipush (v := (-2)) d_M_send_78 (by decide) ?_
          exact jv_iret d_M_send_80 rfl rfl h
        · replace h := h.2 c
          refine jv_iload d_M_send_56 rfl ?_
          refine jv_i2l d_M_send_58 ?_
          refine jv_lconst (v := 0) d_M_send_59 (by decide) ?_
          refine jv_iload_n d_M_send_60 rfl rfl ?_
          refine jv_iconst (v := 4) d_M_send_61 (by decide) ?_
          refine jv_icmp_ne (tgt := 71) d_M_send_62 (by decide) ⟨fun c => ?_, fun c => ?_⟩
          · replace h := h.1 c
            refine jv_lconst (v := 0) d_M_send_71 (by decide) ?_
            refine jv_invS [.long (Int32.toInt64 x4), .long 0, .long 0] [] d_M_send_72 ml_M_81 rfl (Nat.le_of_ble_eq_true rfl) (Nat.zero_add _) (Nat.zero_add _) (jv_Ct.mono h (fun v M10 N10 h => ?_))
            obtain ⟨r9, rfl, h⟩ := h
            change jv_J g (d + 1) mt_M_send 75 [some (.ref a0), some (.int x1), some (.int x2), some (.int x3), some (.int x4)] [.int r9] M10 N10 cr sr Z
            refine jv_if_ne (tgt := 81) d_M_send_75 (by decide) ⟨fun c => ?_, fun c => ?_⟩
            · replace h := h.1 c
              refine jv_aload_n d_M_send_81 rfl rfl ?_
              obtain ⟨q11, h⟩ := h
              obtain ⟨b12, e13, h⟩ := h
              refine jv_getR d_M_send_82 fl_M_40 rfl q11 e13 ?_
              refine jv_bipush (v := 80) d_M_send_85 (by decide) ?_
              obtain ⟨q14, q15, h⟩ := h
              refine jv_iald d_M_send_87 q14 q15 ?_
              refine jv_bipush (v := 8) d_M_send_88 (by decide) ?_
              refine jv_icmp_ne (tgt := 96) d_M_send_90 (by decide) ⟨fun c => ?_, fun c => ?_⟩
              · replace h := h.1 c
                refine jv_aload_n d_M_send_96 rfl rfl ?_
                obtain ⟨q16, h⟩ := h
                refine jv_invV [] [] d_M_send_97 ml_M_223 q16 rfl (Nat.le_of_ble_eq_true rfl) (Nat.zero_add _) (Nat.zero_add _) (jv_Ct.mono h (fun v M18 N18 h => ?_))
                obtain ⟨rfl, h⟩ := h
                change jv_J g (d + 1) mt_M_send 100 [some (.ref a0), some (.int x1), some (.int x2), some (.int x3), some (.int x4)] [] M18 N18 cr sr Z
                refine jv_aload_n d_M_send_100 rfl rfl ?_
                obtain ⟨q19, h⟩ := h
                obtain ⟨b20, e21, h⟩ := h
                refine jv_getR d_M_send_101 fl_M_40 rfl q19 e21 ?_
                refine jv_iload_n d_M_send_104 rfl rfl ?_
                refine jv_iload_n d_M_send_105 rfl rfl ?_
                refine jv_iload_n d_M_send_106 rfl rfl ?_
                refine jv_iload d_M_send_107 rfl ?_
                refine jv_invS [.ref b20, .int x1, .int x2, .int x3, .int x4] [] d_M_send_109 ml_M_240 rfl (Nat.le_of_ble_eq_true rfl) (Nat.zero_add _) (Nat.zero_add _) (jv_Ct.mono h (fun v M23 N23 h => ?_))
                obtain ⟨rfl, h⟩ := h
                change jv_J g (d + 1) mt_M_send 112 [some (.ref a0), some (.int x1), some (.int x2), some (.int x3), some (.int x4)] [] M23 N23 cr sr Z
                refine jv_aload_n d_M_send_112 rfl rfl ?_
                obtain ⟨q24, h⟩ := h
                obtain ⟨b25, e26, h⟩ := h
                refine jv_getR d_M_send_113 fl_M_40 rfl q24 e26 ?_
                refine jv_bipush (v := 76) d_M_send_116 (by decide) ?_
                obtain ⟨q27, q28, h⟩ := h
                refine jv_iald d_M_send_118 q27 q28 ?_
                exact jv_iret d_M_send_119 rfl rfl h
              · replace h := h.2 c
                refine jv_bipush (v := (-4)) d_M_send_93 (by decide) ?_
                exact jv_iret d_M_send_95 rfl rfl h
            · replace h := h.2 c
              refine jv_bipush (v := (-2)) d_M_send_78 (by decide) ?_
              exact jv_iret d_M_send_80 rfl rfl h
          · replace h := h.2 c
            refine jv_ldc2 d_M_send_65 co_M_238 ?_
            refine jv_goto (tgt := 72) d_M_send_68 (by decide) ?_
            refine jv_invS [.long (Int32.toInt64 x4), .long 0, .long 999] [] d_M_send_72 ml_M_81 rfl (Nat.le_of_ble_eq_true rfl) (Nat.zero_add _) (Nat.zero_add _) (jv_Ct.mono h (fun v M30 N30 h => ?_))
            obtain ⟨r29, rfl, h⟩ := h
            change jv_J g (d + 1) mt_M_send 75 [some (.ref a0), some (.int x1), some (.int x2), some (.int x3), some (.int x4)] [.int r29] M30 N30 cr sr Z
            refine jv_if_ne (tgt := 81) d_M_send_75 (by decide) ⟨fun c => ?_, fun c => ?_⟩
            · replace h := h.1 c
              refine jv_aload_n d_M_send_81 rfl rfl ?_
              obtain ⟨q31, h⟩ := h
              obtain ⟨b32, e33, h⟩ := h
              refine jv_getR d_M_send_82 fl_M_40 rfl q31 e33 ?_
              refine jv_bipush (v := 80) d_M_send_85 (by decide) ?_
              obtain ⟨q34, q35, h⟩ := h
              refine jv_iald d_M_send_87 q34 q35 ?_
              refine jv_bipush (v := 8) d_M_send_88 (by decide) ?_
              refine jv_icmp_ne (tgt := 96) d_M_send_90 (by decide) ⟨fun c => ?_, fun c => ?_⟩
              · replace h := h.1 c
                refine jv_aload_n d_M_send_96 rfl rfl ?_
                obtain ⟨q36, h⟩ := h
                refine jv_invV [] [] d_M_send_97 ml_M_223 q36 rfl (Nat.le_of_ble_eq_true rfl) (Nat.zero_add _) (Nat.zero_add _) (jv_Ct.mono h (fun v M38 N38 h => ?_))
                obtain ⟨rfl, h⟩ := h
                change jv_J g (d + 1) mt_M_send 100 [some (.ref a0), some (.int x1), some (.int x2), some (.int x3), some (.int x4)] [] M38 N38 cr sr Z
                refine jv_aload_n d_M_send_100 rfl rfl ?_
                obtain ⟨q39, h⟩ := h
                obtain ⟨b40, e41, h⟩ := h
                refine jv_getR d_M_send_101 fl_M_40 rfl q39 e41 ?_
                refine jv_iload_n d_M_send_104 rfl rfl ?_
                refine jv_iload_n d_M_send_105 rfl rfl ?_
                refine jv_iload_n d_M_send_106 rfl rfl ?_
                refine jv_iload d_M_send_107 rfl ?_
                refine jv_invS [.ref b40, .int x1, .int x2, .int x3, .int x4] [] d_M_send_109 ml_M_240 rfl (Nat.le_of_ble_eq_true rfl) (Nat.zero_add _) (Nat.zero_add _) (jv_Ct.mono h (fun v M43 N43 h => ?_))
                obtain ⟨rfl, h⟩ := h
                change jv_J g (d + 1) mt_M_send 112 [some (.ref a0), some (.int x1), some (.int x2), some (.int x3), some (.int x4)] [] M43 N43 cr sr Z
                refine jv_aload_n d_M_send_112 rfl rfl ?_
                obtain ⟨q44, h⟩ := h
                obtain ⟨b45, e46, h⟩ := h
                refine jv_getR d_M_send_113 fl_M_40 rfl q44 e46 ?_
                refine jv_bipush (v := 76) d_M_send_116 (by decide) ?_
                obtain ⟨q47, q48, h⟩ := h
                refine jv_iald d_M_send_118 q47 q48 ?_
                exact jv_iret d_M_send_119 rfl rfl h
              · replace h := h.2 c
                refine jv_bipush (v := (-4)) d_M_send_93 (by decide) ?_
                exact jv_iret d_M_send_95 rfl rfl h
            · replace h := h.2 c
              refine jv_bipush (v := (-2)) d_M_send_78 (by decide) ?_
              exact jv_iret d_M_send_80 rfl rfl h
      · replace h := h.2 c
        refine jv_iload_n d_M_send_38 rfl rfl ?_
        refine jv_iconst (v := 4) d_M_send_39 (by decide) ?_
        refine jv_icmp_ne (tgt := 49) d_M_send_40 (by decide) ⟨fun c => ?_, fun c => ?_⟩
        · replace h := h.1 c
          refine jv_lconst (v := 0) d_M_send_49 (by decide) ?_
          refine jv_invS [.long (Int32.toInt64 x3), .long 0, .long 0] [] d_M_send_50 ml_M_81 rfl (Nat.le_of_ble_eq_true rfl) (Nat.zero_add _) (Nat.zero_add _) (jv_Ct.mono h (fun v M50 N50 h => ?_))
          obtain ⟨r49, rfl, h⟩ := h
          change jv_J g (d + 1) mt_M_send 53 [some (.ref a0), some (.int x1), some (.int x2), some (.int x3), some (.int x4)] [.int r49] M50 N50 cr sr Z
          refine jv_if_eq (tgt := 78) d_M_send_53 (by decide) ⟨fun c => ?_, fun c => ?_⟩
          · replace h := h.1 c
            refine jv_bipush (v := (-2)) d_M_send_78 (by decide) ?_
            exact jv_iret d_M_send_80 rfl rfl h
          · replace h := h.2 c
            refine jv_iload d_M_send_56 rfl ?_
            refine jv_i2l d_M_send_58 ?_
            refine jv_lconst (v := 0) d_M_send_59 (by decide) ?_
            refine jv_iload_n d_M_send_60 rfl rfl ?_
            refine jv_iconst (v := 4) d_M_send_61 (by decide) ?_
            refine jv_icmp_ne (tgt := 71) d_M_send_62 (by decide) ⟨fun c => ?_, fun c => ?_⟩
            · replace h := h.1 c
              refine jv_lconst (v := 0) d_M_send_71 (by decide) ?_
              refine jv_invS [.long (Int32.toInt64 x4), .long 0, .long 0] [] d_M_send_72 ml_M_81 rfl (Nat.le_of_ble_eq_true rfl) (Nat.zero_add _) (Nat.zero_add _) (jv_Ct.mono h (fun v M52 N52 h => ?_))
              obtain ⟨r51, rfl, h⟩ := h
              change jv_J g (d + 1) mt_M_send 75 [some (.ref a0), some (.int x1), some (.int x2), some (.int x3), some (.int x4)] [.int r51] M52 N52 cr sr Z
              refine jv_if_ne (tgt := 81) d_M_send_75 (by decide) ⟨fun c => ?_, fun c => ?_⟩
              · replace h := h.1 c
                refine jv_aload_n d_M_send_81 rfl rfl ?_
                obtain ⟨q53, h⟩ := h
                obtain ⟨b54, e55, h⟩ := h
                refine jv_getR d_M_send_82 fl_M_40 rfl q53 e55 ?_
                refine jv_bipush (v := 80) d_M_send_85 (by decide) ?_
                obtain ⟨q56, q57, h⟩ := h
                refine jv_iald d_M_send_87 q56 q57 ?_
                refine jv_bipush (v := 8) d_M_send_88 (by decide) ?_
                refine jv_icmp_ne (tgt := 96) d_M_send_90 (by decide) ⟨fun c => ?_, fun c => ?_⟩
                · replace h := h.1 c
                  refine jv_aload_n d_M_send_96 rfl rfl ?_
                  obtain ⟨q58, h⟩ := h
                  refine jv_invV [] [] d_M_send_97 ml_M_223 q58 rfl (Nat.le_of_ble_eq_true rfl) (Nat.zero_add _) (Nat.zero_add _) (jv_Ct.mono h (fun v M60 N60 h => ?_))
                  obtain ⟨rfl, h⟩ := h
                  change jv_J g (d + 1) mt_M_send 100 [some (.ref a0), some (.int x1), some (.int x2), some (.int x3), some (.int x4)] [] M60 N60 cr sr Z
                  refine jv_aload_n d_M_send_100 rfl rfl ?_
                  obtain ⟨q61, h⟩ := h
                  obtain ⟨b62, e63, h⟩ := h
                  refine jv_getR d_M_send_101 fl_M_40 rfl q61 e63 ?_
                  refine jv_iload_n d_M_send_104 rfl rfl ?_
                  refine jv_iload_n d_M_send_105 rfl rfl ?_
                  refine jv_iload_n d_M_send_106 rfl rfl ?_
                  refine jv_iload d_M_send_107 rfl ?_
                  refine jv_invS [.ref b62, .int x1, .int x2, .int x3, .int x4] [] d_M_send_109 ml_M_240 rfl (Nat.le_of_ble_eq_true rfl) (Nat.zero_add _) (Nat.zero_add _) (jv_Ct.mono h (fun v M65 N65 h => ?_))
                  obtain ⟨rfl, h⟩ := h
                  change jv_J g (d + 1) mt_M_send 112 [some (.ref a0), some (.int x1), some (.int x2), some (.int x3), some (.int x4)] [] M65 N65 cr sr Z
                  refine jv_aload_n d_M_send_112 rfl rfl ?_
                  obtain ⟨q66, h⟩ := h
                  obtain ⟨b67, e68, h⟩ := h
                  refine jv_getR d_M_send_113 fl_M_40 rfl q66 e68 ?_
                  refine jv_bipush (v := 76) d_M_send_116 (by decide) ?_
                  obtain ⟨q69, q70, h⟩ := h
                  refine jv_iald d_M_send_118 q69 q70 ?_
                  exact jv_iret d_M_send_119 rfl rfl h
                · replace h := h.2 c
                  refine jv_bipush (v := (-4)) d_M_send_93 (by decide) ?_
                  exact jv_iret d_M_send_95 rfl rfl h
              · replace h := h.2 c
                refine jv_bipush (v := (-2)) d_M_send_78 (by decide) ?_
                exact jv_iret d_M_send_80 rfl rfl h
            · replace h := h.2 c
              refine jv_ldc2 d_M_send_65 co_M_238 ?_
              refine jv_goto (tgt := 72) d_M_send_68 (by decide) ?_
              refine jv_invS [.long (Int32.toInt64 x4), .long 0, .long 999] [] d_M_send_72 ml_M_81 rfl (Nat.le_of_ble_eq_true rfl) (Nat.zero_add _) (Nat.zero_add _) (jv_Ct.mono h (fun v M72 N72 h => ?_))
              obtain ⟨r71, rfl, h⟩ := h
              change jv_J g (d + 1) mt_M_send 75 [some (.ref a0), some (.int x1), some (.int x2), some (.int x3), some (.int x4)] [.int r71] M72 N72 cr sr Z
              refine jv_if_ne (tgt := 81) d_M_send_75 (by decide) ⟨fun c => ?_, fun c => ?_⟩
              · replace h := h.1 c
                refine jv_aload_n d_M_send_81 rfl rfl ?_
                obtain ⟨q73, h⟩ := h
                obtain ⟨b74, e75, h⟩ := h
                refine jv_getR d_M_send_82 fl_M_40 rfl q73 e75 ?_
                refine jv_bipush (v := 80) d_M_send_85 (by decide) ?_
                obtain ⟨q76, q77, h⟩ := h
                refine jv_iald d_M_send_87 q76 q77 ?_
                refine jv_bipush (v := 8) d_M_send_88 (by decide) ?_
                refine jv_icmp_ne (tgt := 96) d_M_send_90 (by decide) ⟨fun c => ?_, fun c => ?_⟩
                · replace h := h.1 c
                  refine jv_aload_n d_M_send_96 rfl rfl ?_
                  obtain ⟨q78, h⟩ := h
                  refine jv_invV [] [] d_M_send_97 ml_M_223 q78 rfl (Nat.le_of_ble_eq_true rfl) (Nat.zero_add _) (Nat.zero_add _) (jv_Ct.mono h (fun v M80 N80 h => ?_))
                  obtain ⟨rfl, h⟩ := h
                  change jv_J g (d + 1) mt_M_send 100 [some (.ref a0), some (.int x1), some (.int x2), some (.int x3), some (.int x4)] [] M80 N80 cr sr Z
                  refine jv_aload_n d_M_send_100 rfl rfl ?_
                  obtain ⟨q81, h⟩ := h
                  obtain ⟨b82, e83, h⟩ := h
                  refine jv_getR d_M_send_101 fl_M_40 rfl q81 e83 ?_
                  refine jv_iload_n d_M_send_104 rfl rfl ?_
                  refine jv_iload_n d_M_send_105 rfl rfl ?_
                  refine jv_iload_n d_M_send_106 rfl rfl ?_
                  refine jv_iload d_M_send_107 rfl ?_
                  refine jv_invS [.ref b82, .int x1, .int x2, .int x3, .int x4] [] d_M_send_109 ml_M_240 rfl (Nat.le_of_ble_eq_true rfl) (Nat.zero_add _) (Nat.zero_add _) (jv_Ct.mono h (fun v M85 N85 h => ?_))
                  obtain ⟨rfl, h⟩ := h
                  change jv_J g (d + 1) mt_M_send 112 [some (.ref a0), some (.int x1), some (.int x2), some (.int x3), some (.int x4)] [] M85 N85 cr sr Z
                  refine jv_aload_n d_M_send_112 rfl rfl ?_
                  obtain ⟨q86, h⟩ := h
                  obtain ⟨b87, e88, h⟩ := h
                  refine jv_getR d_M_send_113 fl_M_40 rfl q86 e88 ?_
                  refine jv_bipush (v := 76) d_M_send_116 (by decide) ?_
                  obtain ⟨q89, q90, h⟩ := h
                  refine jv_iald d_M_send_118 q89 q90 ?_
                  exact jv_iret d_M_send_119 rfl rfl h
                · replace h := h.2 c
                  refine jv_bipush (v := (-4)) d_M_send_93 (by decide) ?_
                  exact jv_iret d_M_send_95 rfl rfl h
              · replace h := h.2 c
                refine jv_bipush (v := (-2)) d_M_send_78 (by decide) ?_
                exact jv_iret d_M_send_80 rfl rfl h
        · replace h := h.2 c
          refine jv_ldc2 d_M_send_43 co_M_219 ?_
          refine jv_goto (tgt := 50) d_M_send_46 (by decide) ?_
          refine jv_invS [.long (Int32.toInt64 x3), .long 0, .long 3] [] d_M_send_50 ml_M_81 rfl (Nat.le_of_ble_eq_true rfl) (Nat.zero_add _) (Nat.zero_add _) (jv_Ct.mono h (fun v M92 N92 h => ?_))
          obtain ⟨r91, rfl, h⟩ := h
          change jv_J g (d + 1) mt_M_send 53 [some (.ref a0), some (.int x1), some (.int x2), some (.int x3), some (.int x4)] [.int r91] M92 N92 cr sr Z
          refine jv_if_eq (tgt := 78) d_M_send_53 (by decide) ⟨fun c => ?_, fun c => ?_⟩
          · replace h := h.1 c
            refine jv_bipush (v := (-2)) d_M_send_78 (by decide) ?_
            exact jv_iret d_M_send_80 rfl rfl h
          · replace h := h.2 c
            refine jv_iload d_M_send_56 rfl ?_
            refine jv_i2l d_M_send_58 ?_
            refine jv_lconst (v := 0) d_M_send_59 (by decide) ?_
            refine jv_iload_n d_M_send_60 rfl rfl ?_
            refine jv_iconst (v := 4) d_M_send_61 (by decide) ?_
            refine jv_icmp_ne (tgt := 71) d_M_send_62 (by decide) ⟨fun c => ?_, fun c => ?_⟩
            · replace h := h.1 c
              refine jv_lconst (v := 0) d_M_send_71 (by decide) ?_
              refine jv_invS [.long (Int32.toInt64 x4), .long 0, .long 0] [] d_M_send_72 ml_M_81 rfl (Nat.le_of_ble_eq_true rfl) (Nat.zero_add _) (Nat.zero_add _) (jv_Ct.mono h (fun v M94 N94 h => ?_))
              obtain ⟨r93, rfl, h⟩ := h
              change jv_J g (d + 1) mt_M_send 75 [some (.ref a0), some (.int x1), some (.int x2), some (.int x3), some (.int x4)] [.int r93] M94 N94 cr sr Z
              refine jv_if_ne (tgt := 81) d_M_send_75 (by decide) ⟨fun c => ?_, fun c => ?_⟩
              · replace h := h.1 c
                refine jv_aload_n d_M_send_81 rfl rfl ?_
                obtain ⟨q95, h⟩ := h
                obtain ⟨b96, e97, h⟩ := h
                refine jv_getR d_M_send_82 fl_M_40 rfl q95 e97 ?_
                refine jv_bipush (v := 80) d_M_send_85 (by decide) ?_
                obtain ⟨q98, q99, h⟩ := h
                refine jv_iald d_M_send_87 q98 q99 ?_
                refine jv_bipush (v := 8) d_M_send_88 (by decide) ?_
                refine jv_icmp_ne (tgt := 96) d_M_send_90 (by decide) ⟨fun c => ?_, fun c => ?_⟩
                · replace h := h.1 c
                  refine jv_aload_n d_M_send_96 rfl rfl ?_
                  obtain ⟨q100, h⟩ := h
                  refine jv_invV [] [] d_M_send_97 ml_M_223 q100 rfl (Nat.le_of_ble_eq_true rfl) (Nat.zero_add _) (Nat.zero_add _) (jv_Ct.mono h (fun v M102 N102 h => ?_))
                  obtain ⟨rfl, h⟩ := h
                  change jv_J g (d + 1) mt_M_send 100 [some (.ref a0), some (.int x1), some (.int x2), some (.int x3), some (.int x4)] [] M102 N102 cr sr Z
                  refine jv_aload_n d_M_send_100 rfl rfl ?_
                  obtain ⟨q103, h⟩ := h
                  obtain ⟨b104, e105, h⟩ := h
                  refine jv_getR d_M_send_101 fl_M_40 rfl q103 e105 ?_
                  refine jv_iload_n d_M_send_104 rfl rfl ?_
                  refine jv_iload_n d_M_send_105 rfl rfl ?_
                  refine jv_iload_n d_M_send_106 rfl rfl ?_
                  refine jv_iload d_M_send_107 rfl ?_
                  refine jv_invS [.ref b104, .int x1, .int x2, .int x3, .int x4] [] d_M_send_109 ml_M_240 rfl (Nat.le_of_ble_eq_true rfl) (Nat.zero_add _) (Nat.zero_add _) (jv_Ct.mono h (fun v M107 N107 h => ?_))
                  obtain ⟨rfl, h⟩ := h
                  change jv_J g (d + 1) mt_M_send 112 [some (.ref a0), some (.int x1), some (.int x2), some (.int x3), some (.int x4)] [] M107 N107 cr sr Z
                  refine jv_aload_n d_M_send_112 rfl rfl ?_
                  obtain ⟨q108, h⟩ := h
                  obtain ⟨b109, e110, h⟩ := h
                  refine jv_getR d_M_send_113 fl_M_40 rfl q108 e110 ?_
                  refine jv_bipush (v := 76) d_M_send_116 (by decide) ?_
                  obtain ⟨q111, q112, h⟩ := h
                  refine jv_iald d_M_send_118 q111 q112 ?_
                  exact jv_iret d_M_send_119 rfl rfl h
                · replace h := h.2 c
                  refine jv_bipush (v := (-4)) d_M_send_93 (by decide) ?_
                  exact jv_iret d_M_send_95 rfl rfl h
              · replace h := h.2 c
                refine jv_bipush (v := (-2)) d_M_send_78 (by decide) ?_
                exact jv_iret d_M_send_80 rfl rfl h
            · replace h := h.2 c
              refine jv_ldc2 d_M_send_65 co_M_238 ?_
              refine jv_goto (tgt := 72) d_M_send_68 (by decide) ?_
              refine jv_invS [.long (Int32.toInt64 x4), .long 0, .long 999] [] d_M_send_72 ml_M_81 rfl (Nat.le_of_ble_eq_true rfl) (Nat.zero_add _) (Nat.zero_add _) (jv_Ct.mono h (fun v M114 N114 h => ?_))
              obtain ⟨r113, rfl, h⟩ := h
              change jv_J g (d + 1) mt_M_send 75 [some (.ref a0), some (.int x1), some (.int x2), some (.int x3), some (.int x4)] [.int r113] M114 N114 cr sr Z
              refine jv_if_ne (tgt := 81) d_M_send_75 (by decide) ⟨fun c => ?_, fun c => ?_⟩
              · replace h := h.1 c
                refine jv_aload_n d_M_send_81 rfl rfl ?_
                obtain ⟨q115, h⟩ := h
                obtain ⟨b116, e117, h⟩ := h
                refine jv_getR d_M_send_82 fl_M_40 rfl q115 e117 ?_
                refine jv_bipush (v := 80) d_M_send_85 (by decide) ?_
                obtain ⟨q118, q119, h⟩ := h
                refine jv_iald d_M_send_87 q118 q119 ?_
                refine jv_bipush (v := 8) d_M_send_88 (by decide) ?_
                refine jv_icmp_ne (tgt := 96) d_M_send_90 (by decide) ⟨fun c => ?_, fun c => ?_⟩
                · replace h := h.1 c
                  refine jv_aload_n d_M_send_96 rfl rfl ?_
                  obtain ⟨q120, h⟩ := h
                  refine jv_invV [] [] d_M_send_97 ml_M_223 q120 rfl (Nat.le_of_ble_eq_true rfl) (Nat.zero_add _) (Nat.zero_add _) (jv_Ct.mono h (fun v M122 N122 h => ?_))
                  obtain ⟨rfl, h⟩ := h
                  change jv_J g (d + 1) mt_M_send 100 [some (.ref a0), some (.int x1), some (.int x2), some (.int x3), some (.int x4)] [] M122 N122 cr sr Z
                  refine jv_aload_n d_M_send_100 rfl rfl ?_
                  obtain ⟨q123, h⟩ := h
                  obtain ⟨b124, e125, h⟩ := h
                  refine jv_getR d_M_send_101 fl_M_40 rfl q123 e125 ?_
                  refine jv_iload_n d_M_send_104 rfl rfl ?_
                  refine jv_iload_n d_M_send_105 rfl rfl ?_
                  refine jv_iload_n d_M_send_106 rfl rfl ?_
                  refine jv_iload d_M_send_107 rfl ?_
                  refine jv_invS [.ref b124, .int x1, .int x2, .int x3, .int x4] [] d_M_send_109 ml_M_240 rfl (Nat.le_of_ble_eq_true rfl) (Nat.zero_add _) (Nat.zero_add _) (jv_Ct.mono h (fun v M127 N127 h => ?_))
                  obtain ⟨rfl, h⟩ := h
                  change jv_J g (d + 1) mt_M_send 112 [some (.ref a0), some (.int x1), some (.int x2), some (.int x3), some (.int x4)] [] M127 N127 cr sr Z
                  refine jv_aload_n d_M_send_112 rfl rfl ?_
                  obtain ⟨q128, h⟩ := h
                  obtain ⟨b129, e130, h⟩ := h
                  refine jv_getR d_M_send_113 fl_M_40 rfl q128 e130 ?_
                  refine jv_bipush (v := 76) d_M_send_116 (by decide) ?_
                  obtain ⟨q131, q132, h⟩ := h
                  refine jv_iald d_M_send_118 q131 q132 ?_
                  exact jv_iret d_M_send_119 rfl rfl h
                · replace h := h.2 c
                  refine jv_bipush (v := (-4)) d_M_send_93 (by decide) ?_
                  exact jv_iret d_M_send_95 rfl rfl h
              · replace h := h.2 c
                refine jv_bipush (v := (-2)) d_M_send_78 (by decide) ?_
                exact jv_iret d_M_send_80 rfl rfl h
    · replace h := h.2 c
      refine jv_iconst (v := (-1)) d_M_send_28 (by decide) ?_
      exact jv_iret d_M_send_29 rfl rfl h
  · replace h := h.2 c
    refine jv_bipush (v := (-2)) d_M_send_17 (by decide) ?_
    exact jv_iret d_M_send_19 rfl rfl h
theorem b_M_sendOn_0 {g : jv_G} {d : Nat} {M : jv_Mem} {N cr sr : Nat} {Z : Option Value → jv_Mem → Nat → Prop} {a0 : Nat} {x1 : Int32} {x2 : Int32} {x3 : Int32} {x4 : Int32} (h : (x1 ≤ 2 → (x1 ≤ 2 → jv_Tg 11 a0 N ∧ vp_in 80 (jv_sh a0).2 ∧ jv_Tg 11 a0 N ∧ vp_in (81 + (7 * (Prod.fst M a0 (Int32.toNatClampNeg 80)))) (jv_sh a0).2 ∧ jv_Tg 11 a0 N ∧ vp_in ((81 + (7 * (Prod.fst M a0 (Int32.toNatClampNeg 80)))) + 1) (jv_sh a0).2 ∧ jv_Tg 11 a0 N ∧ vp_in ((81 + (7 * (Prod.fst M a0 (Int32.toNatClampNeg 80)))) + 2) (jv_sh a0).2 ∧ jv_Tg 11 a0 N ∧ vp_in ((81 + (7 * (Prod.fst M a0 (Int32.toNatClampNeg 80)))) + 3) (jv_sh a0).2 ∧ jv_Tg 11 a0 N ∧ vp_in ((81 + (7 * (Prod.fst M a0 (Int32.toNatClampNeg 80)))) + 4) (jv_sh a0).2 ∧ jv_Tg 11 a0 N ∧ vp_in ((81 + (7 * (Prod.fst M a0 (Int32.toNatClampNeg 80)))) + 5) (jv_sh a0).2 ∧ jv_Tg 11 a0 N ∧ vp_in ((81 + (7 * (Prod.fst M a0 (Int32.toNatClampNeg 80)))) + 6) (jv_sh a0).2 ∧ jv_Tg 11 a0 N ∧ vp_in 80 (jv_sh a0).2 ∧ jv_Tg 11 a0 N ∧ vp_in 80 (jv_sh a0).2 ∧ Z none (jv_si (jv_si (jv_si (jv_si (jv_si (jv_si (jv_si (jv_si M a0 (Int32.toNatClampNeg (81 + (7 * (Prod.fst M a0 (Int32.toNatClampNeg 80))))) x1) a0 (Int32.toNatClampNeg ((81 + (7 * (Prod.fst M a0 (Int32.toNatClampNeg 80)))) + 1)) x2) a0 (Int32.toNatClampNeg ((81 + (7 * (Prod.fst M a0 (Int32.toNatClampNeg 80)))) + 2)) 0) a0 (Int32.toNatClampNeg ((81 + (7 * (Prod.fst M a0 (Int32.toNatClampNeg 80)))) + 3)) 0) a0 (Int32.toNatClampNeg ((81 + (7 * (Prod.fst M a0 (Int32.toNatClampNeg 80)))) + 4)) x3) a0 (Int32.toNatClampNeg ((81 + (7 * (Prod.fst M a0 (Int32.toNatClampNeg 80)))) + 5)) x4) a0 (Int32.toNatClampNeg ((81 + (7 * (Prod.fst M a0 (Int32.toNatClampNeg 80)))) + 6)) 0) a0 (Int32.toNatClampNeg 80) ((Prod.fst (jv_si (jv_si (jv_si (jv_si (jv_si (jv_si (jv_si M a0 (Int32.toNatClampNeg (81 + (7 * (Prod.fst M a0 (Int32.toNatClampNeg 80))))) x1) a0 (Int32.toNatClampNeg ((81 + (7 * (Prod.fst M a0 (Int32.toNatClampNeg 80)))) + 1)) x2) a0 (Int32.toNatClampNeg ((81 + (7 * (Prod.fst M a0 (Int32.toNatClampNeg 80)))) + 2)) 0) a0 (Int32.toNatClampNeg ((81 + (7 * (Prod.fst M a0 (Int32.toNatClampNeg 80)))) + 3)) 0) a0 (Int32.toNatClampNeg ((81 + (7 * (Prod.fst M a0 (Int32.toNatClampNeg 80)))) + 4)) x3) a0 (Int32.toNatClampNeg ((81 + (7 * (Prod.fst M a0 (Int32.toNatClampNeg 80)))) + 5)) x4) a0 (Int32.toNatClampNeg ((81 + (7 * (Prod.fst M a0 (Int32.toNatClampNeg 80)))) + 6)) 0) a0 (Int32.toNatClampNeg 80)) + 1)) N) ∧ (¬ (x1 ≤ 2) → jv_Ct g d mt_M_isAbstractOn [.ref a0] M N 0 0 (fun v M22 N22 => jv_ri v (fun r21 => (r21 = 0 → jv_Tg 11 a0 N22 ∧ vp_in 80 (jv_sh a0).2 ∧ jv_Tg 11 a0 N22 ∧ vp_in (81 + (7 * (Prod.fst M22 a0 (Int32.toNatClampNeg 80)))) (jv_sh a0).2 ∧ jv_Tg 11 a0 N22 ∧ vp_in ((81 + (7 * (Prod.fst M22 a0 (Int32.toNatClampNeg 80)))) + 1) (jv_sh a0).2 ∧ jv_Tg 11 a0 N22 ∧ vp_in ((81 + (7 * (Prod.fst M22 a0 (Int32.toNatClampNeg 80)))) + 2) (jv_sh a0).2 ∧ jv_Tg 11 a0 N22 ∧ vp_in ((81 + (7 * (Prod.fst M22 a0 (Int32.toNatClampNeg 80)))) + 3) (jv_sh a0).2 ∧ jv_Tg 11 a0 N22 ∧ vp_in ((81 + (7 * (Prod.fst M22 a0 (Int32.toNatClampNeg 80)))) + 4) (jv_sh a0).2 ∧ jv_Tg 11 a0 N22 ∧ vp_in ((81 + (7 * (Prod.fst M22 a0 (Int32.toNatClampNeg 80)))) + 5) (jv_sh a0).2 ∧ jv_Tg 11 a0 N22 ∧ vp_in ((81 + (7 * (Prod.fst M22 a0 (Int32.toNatClampNeg 80)))) + 6) (jv_sh a0).2 ∧ jv_Tg 11 a0 N22 ∧ vp_in 80 (jv_sh a0).2 ∧ jv_Tg 11 a0 N22 ∧ vp_in 80 (jv_sh a0).2 ∧ Z none (jv_si (jv_si (jv_si (jv_si (jv_si (jv_si (jv_si (jv_si M22 a0 (Int32.toNatClampNeg (81 + (7 * (Prod.fst M22 a0 (Int32.toNatClampNeg 80))))) x1) a0 (Int32.toNatClampNeg ((81 + (7 * (Prod.fst M22 a0 (Int32.toNatClampNeg 80)))) + 1)) x2) a0 (Int32.toNatClampNeg ((81 + (7 * (Prod.fst M22 a0 (Int32.toNatClampNeg 80)))) + 2)) 0) a0 (Int32.toNatClampNeg ((81 + (7 * (Prod.fst M22 a0 (Int32.toNatClampNeg 80)))) + 3)) 0) a0 (Int32.toNatClampNeg ((81 + (7 * (Prod.fst M22 a0 (Int32.toNatClampNeg 80)))) + 4)) x3) a0 (Int32.toNatClampNeg ((81 + (7 * (Prod.fst M22 a0 (Int32.toNatClampNeg 80)))) + 5)) x4) a0 (Int32.toNatClampNeg ((81 + (7 * (Prod.fst M22 a0 (Int32.toNatClampNeg 80)))) + 6)) 0) a0 (Int32.toNatClampNeg 80) ((Prod.fst (jv_si (jv_si (jv_si (jv_si (jv_si (jv_si (jv_si M22 a0 (Int32.toNatClampNeg (81 + (7 * (Prod.fst M22 a0 (Int32.toNatClampNeg 80))))) x1) a0 (Int32.toNatClampNeg ((81 + (7 * (Prod.fst M22 a0 (Int32.toNatClampNeg 80)))) + 1)) x2) a0 (Int32.toNatClampNeg ((81 + (7 * (Prod.fst M22 a0 (Int32.toNatClampNeg 80)))) + 2)) 0) a0 (Int32.toNatClampNeg ((81 + (7 * (Prod.fst M22 a0 (Int32.toNatClampNeg 80)))) + 3)) 0) a0 (Int32.toNatClampNeg ((81 + (7 * (Prod.fst M22 a0 (Int32.toNatClampNeg 80)))) + 4)) x3) a0 (Int32.toNatClampNeg ((81 + (7 * (Prod.fst M22 a0 (Int32.toNatClampNeg 80)))) + 5)) x4) a0 (Int32.toNatClampNeg ((81 + (7 * (Prod.fst M22 a0 (Int32.toNatClampNeg 80)))) + 6)) 0) a0 (Int32.toNatClampNeg 80)) + 1)) N22) ∧ (¬ (r21 = 0) → jv_Tg 11 a0 N22 ∧ vp_in 76 (jv_sh a0).2 ∧ Z none (jv_si M22 a0 (Int32.toNatClampNeg 76) 1) N22))))) ∧ (¬ (x1 ≤ 2) → jv_Tg 11 a0 N ∧ vp_in 76 (jv_sh a0).2 ∧ ((Prod.fst M a0 (Int32.toNatClampNeg 76)) = 0 → (x1 ≤ 2 → jv_Tg 11 a0 N ∧ vp_in 80 (jv_sh a0).2 ∧ jv_Tg 11 a0 N ∧ vp_in (81 + (7 * (Prod.fst M a0 (Int32.toNatClampNeg 80)))) (jv_sh a0).2 ∧ jv_Tg 11 a0 N ∧ vp_in ((81 + (7 * (Prod.fst M a0 (Int32.toNatClampNeg 80)))) + 1) (jv_sh a0).2 ∧ jv_Tg 11 a0 N ∧ vp_in ((81 + (7 * (Prod.fst M a0 (Int32.toNatClampNeg 80)))) + 2) (jv_sh a0).2 ∧ jv_Tg 11 a0 N ∧ vp_in ((81 + (7 * (Prod.fst M a0 (Int32.toNatClampNeg 80)))) + 3) (jv_sh a0).2 ∧ jv_Tg 11 a0 N ∧ vp_in ((81 + (7 * (Prod.fst M a0 (Int32.toNatClampNeg 80)))) + 4) (jv_sh a0).2 ∧ jv_Tg 11 a0 N ∧ vp_in ((81 + (7 * (Prod.fst M a0 (Int32.toNatClampNeg 80)))) + 5) (jv_sh a0).2 ∧ jv_Tg 11 a0 N ∧ vp_in ((81 + (7 * (Prod.fst M a0 (Int32.toNatClampNeg 80)))) + 6) (jv_sh a0).2 ∧ jv_Tg 11 a0 N ∧ vp_in 80 (jv_sh a0).2 ∧ jv_Tg 11 a0 N ∧ vp_in 80 (jv_sh a0).2 ∧ Z none (jv_si (jv_si (jv_si (jv_si (jv_si (jv_si (jv_si (jv_si M a0 (Int32.toNatClampNeg (81 + (7 * (Prod.fst M a0 (Int32.toNatClampNeg 80))))) x1) a0 (Int32.toNatClampNeg ((81 + (7 * (Prod.fst M a0 (Int32.toNatClampNeg 80)))) + 1)) x2) a0 (Int32.toNatClampNeg ((81 + (7 * (Prod.fst M a0 (Int32.toNatClampNeg 80)))) + 2)) 0) a0 (Int32.toNatClampNeg ((81 + (7 * (Prod.fst M a0 (Int32.toNatClampNeg 80)))) + 3)) 0) a0 (Int32.toNatClampNeg ((81 + (7 * (Prod.fst M a0 (Int32.toNatClampNeg 80)))) + 4)) x3) a0 (Int32.toNatClampNeg ((81 + (7 * (Prod.fst M a0 (Int32.toNatClampNeg 80)))) + 5)) x4) a0 (Int32.toNatClampNeg ((81 + (7 * (Prod.fst M a0 (Int32.toNatClampNeg 80)))) + 6)) 0) a0 (Int32.toNatClampNeg 80) ((Prod.fst (jv_si (jv_si (jv_si (jv_si (jv_si (jv_si (jv_si M a0 (Int32.toNatClampNeg (81 + (7 * (Prod.fst M a0 (Int32.toNatClampNeg 80))))) x1) a0 (Int32.toNatClampNeg ((81 + (7 * (Prod.fst M a0 (Int32.toNatClampNeg 80)))) + 1)) x2) a0 (Int32.toNatClampNeg ((81 + (7 * (Prod.fst M a0 (Int32.toNatClampNeg 80)))) + 2)) 0) a0 (Int32.toNatClampNeg ((81 + (7 * (Prod.fst M a0 (Int32.toNatClampNeg 80)))) + 3)) 0) a0 (Int32.toNatClampNeg ((81 + (7 * (Prod.fst M a0 (Int32.toNatClampNeg 80)))) + 4)) x3) a0 (Int32.toNatClampNeg ((81 + (7 * (Prod.fst M a0 (Int32.toNatClampNeg 80)))) + 5)) x4) a0 (Int32.toNatClampNeg ((81 + (7 * (Prod.fst M a0 (Int32.toNatClampNeg 80)))) + 6)) 0) a0 (Int32.toNatClampNeg 80)) + 1)) N) ∧ (¬ (x1 ≤ 2) → jv_Ct g d mt_M_isAbstractOn [.ref a0] M N 0 0 (fun v M68 N68 => jv_ri v (fun r67 => (r67 = 0 → jv_Tg 11 a0 N68 ∧ vp_in 80 (jv_sh a0).2 ∧ jv_Tg 11 a0 N68 ∧ vp_in (81 + (7 * (Prod.fst M68 a0 (Int32.toNatClampNeg 80)))) (jv_sh a0).2 ∧ jv_Tg 11 a0 N68 ∧ vp_in ((81 + (7 * (Prod.fst M68 a0 (Int32.toNatClampNeg 80)))) + 1) (jv_sh a0).2 ∧ jv_Tg 11 a0 N68 ∧ vp_in ((81 + (7 * (Prod.fst M68 a0 (Int32.toNatClampNeg 80)))) + 2) (jv_sh a0).2 ∧ jv_Tg 11 a0 N68 ∧ vp_in ((81 + (7 * (Prod.fst M68 a0 (Int32.toNatClampNeg 80)))) + 3) (jv_sh a0).2 ∧ jv_Tg 11 a0 N68 ∧ vp_in ((81 + (7 * (Prod.fst M68 a0 (Int32.toNatClampNeg 80)))) + 4) (jv_sh a0).2 ∧ jv_Tg 11 a0 N68 ∧ vp_in ((81 + (7 * (Prod.fst M68 a0 (Int32.toNatClampNeg 80)))) + 5) (jv_sh a0).2 ∧ jv_Tg 11 a0 N68 ∧ vp_in ((81 + (7 * (Prod.fst M68 a0 (Int32.toNatClampNeg 80)))) + 6) (jv_sh a0).2 ∧ jv_Tg 11 a0 N68 ∧ vp_in 80 (jv_sh a0).2 ∧ jv_Tg 11 a0 N68 ∧ vp_in 80 (jv_sh a0).2 ∧ Z none (jv_si (jv_si (jv_si (jv_si (jv_si (jv_si (jv_si (jv_si M68 a0 (Int32.toNatClampNeg (81 + (7 * (Prod.fst M68 a0 (Int32.toNatClampNeg 80))))) x1) a0 (Int32.toNatClampNeg ((81 + (7 * (Prod.fst M68 a0 (Int32.toNatClampNeg 80)))) + 1)) x2) a0 (Int32.toNatClampNeg ((81 + (7 * (Prod.fst M68 a0 (Int32.toNatClampNeg 80)))) + 2)) 0) a0 (Int32.toNatClampNeg ((81 + (7 * (Prod.fst M68 a0 (Int32.toNatClampNeg 80)))) + 3)) 0) a0 (Int32.toNatClampNeg ((81 + (7 * (Prod.fst M68 a0 (Int32.toNatClampNeg 80)))) + 4)) x3) a0 (Int32.toNatClampNeg ((81 + (7 * (Prod.fst M68 a0 (Int32.toNatClampNeg 80)))) + 5)) x4) a0 (Int32.toNatClampNeg ((81 + (7 * (Prod.fst M68 a0 (Int32.toNatClampNeg 80)))) + 6)) 0) a0 (Int32.toNatClampNeg 80) ((Prod.fst (jv_si (jv_si (jv_si (jv_si (jv_si (jv_si (jv_si M68 a0 (Int32.toNatClampNeg (81 + (7 * (Prod.fst M68 a0 (Int32.toNatClampNeg 80))))) x1) a0 (Int32.toNatClampNeg ((81 + (7 * (Prod.fst M68 a0 (Int32.toNatClampNeg 80)))) + 1)) x2) a0 (Int32.toNatClampNeg ((81 + (7 * (Prod.fst M68 a0 (Int32.toNatClampNeg 80)))) + 2)) 0) a0 (Int32.toNatClampNeg ((81 + (7 * (Prod.fst M68 a0 (Int32.toNatClampNeg 80)))) + 3)) 0) a0 (Int32.toNatClampNeg ((81 + (7 * (Prod.fst M68 a0 (Int32.toNatClampNeg 80)))) + 4)) x3) a0 (Int32.toNatClampNeg ((81 + (7 * (Prod.fst M68 a0 (Int32.toNatClampNeg 80)))) + 5)) x4) a0 (Int32.toNatClampNeg ((81 + (7 * (Prod.fst M68 a0 (Int32.toNatClampNeg 80)))) + 6)) 0) a0 (Int32.toNatClampNeg 80)) + 1)) N68) ∧ (¬ (r67 = 0) → jv_Tg 11 a0 N68 ∧ vp_in 76 (jv_sh a0).2 ∧ Z none (jv_si M68 a0 (Int32.toNatClampNeg 76) 1) N68))))) ∧ (¬ ((Prod.fst M a0 (Int32.toNatClampNeg 76)) = 0) → Z none M N))) : jv_J g (d + 1) mt_M_sendOn 0 [some (.ref a0), some (.int x1), some (.int x2), some (.int x3), some (.int x4), none] [] M N cr sr Z := by
  refine jv_iload_n d_M_sendOn_0 rfl rfl ?_
  refine jv_iconst (v := 2) d_M_sendOn_1 (by decide) ?_
  refine jv_icmp_le (tgt := 13) d_M_sendOn_2 (by decide) ⟨fun c => ?_, fun c => ?_⟩
  · replace h := h.1 c
    refine jv_iload_n d_M_sendOn_13 rfl rfl ?_
    refine jv_iconst (v := 2) d_M_sendOn_14 (by decide) ?_
    refine jv_icmp_le (tgt := 31) d_M_sendOn_15 (by decide) ⟨fun c => ?_, fun c => ?_⟩
    · replace h := h.1 c
      refine jv_bipush (v := 81) d_M_sendOn_31 (by decide) ?_
      refine jv_bipush (v := 7) d_M_sendOn_33 (by decide) ?_
      refine jv_aload_n d_M_sendOn_35 rfl rfl ?_
      refine jv_bipush (v := 80) d_M_sendOn_36 (by decide) ?_
      obtain ⟨q1, q2, h⟩ := h
      refine jv_iald d_M_sendOn_38 q1 q2 ?_
      refine jv_imul d_M_sendOn_39 ?_
      refine jv_iadd d_M_sendOn_40 ?_
      refine jv_istore (L' := [some (.ref a0), some (.int x1), some (.int x2), some (.int x3), some (.int x4), some (.int (81 + (7 * (Prod.fst M a0 (Int32.toNatClampNeg 80)))))]) d_M_sendOn_41 (Nat.le_of_ble_eq_true rfl) rfl ?_
      refine jv_aload_n d_M_sendOn_43 rfl rfl ?_
      refine jv_iload d_M_sendOn_44 rfl ?_
      refine jv_iload_n d_M_sendOn_46 rfl rfl ?_
      obtain ⟨q3, q4, h⟩ := h
      refine jv_iast d_M_sendOn_47 q3 q4 ?_
      refine jv_aload_n d_M_sendOn_48 rfl rfl ?_
      refine jv_iload d_M_sendOn_49 rfl ?_
      refine jv_iconst (v := 1) d_M_sendOn_51 (by decide) ?_
      refine jv_iadd d_M_sendOn_52 ?_
      refine jv_iload_n d_M_sendOn_53 rfl rfl ?_
      obtain ⟨q5, q6, h⟩ := h
      refine jv_iast d_M_sendOn_54 q5 q6 ?_
      refine jv_aload_n d_M_sendOn_55 rfl rfl ?_
      refine jv_iload d_M_sendOn_56 rfl ?_
      refine jv_iconst (v := 2) d_M_sendOn_58 (by decide) ?_
      refine jv_iadd d_M_sendOn_59 ?_
      refine jv_iconst (v := 0) d_M_sendOn_60 (by decide) ?_
      obtain ⟨q7, q8, h⟩ := h
      refine jv_iast d_M_sendOn_61 q7 q8 ?_
      refine jv_aload_n d_M_sendOn_62 rfl rfl ?_
      refine jv_iload d_M_sendOn_63 rfl ?_
      refine jv_iconst (v := 3) d_M_sendOn_65 (by decide) ?_
      refine jv_iadd d_M_sendOn_66 ?_
      refine jv_iconst (v := 0) d_M_sendOn_67 (by decide) ?_
      obtain ⟨q9, q10, h⟩ := h
      refine jv_iast d_M_sendOn_68 q9 q10 ?_
      refine jv_aload_n d_M_sendOn_69 rfl rfl ?_
      refine jv_iload d_M_sendOn_70 rfl ?_
      refine jv_iconst (v := 4) d_M_sendOn_72 (by decide) ?_
      refine jv_iadd d_M_sendOn_73 ?_
      refine jv_iload_n d_M_sendOn_74 rfl rfl ?_
      obtain ⟨q11, q12, h⟩ := h
      refine jv_iast d_M_sendOn_75 q11 q12 ?_
      refine jv_aload_n d_M_sendOn_76 rfl rfl ?_
      refine jv_iload d_M_sendOn_77 rfl ?_
      refine jv_iconst (v := 5) d_M_sendOn_79 (by decide) ?_
      refine jv_iadd d_M_sendOn_80 ?_
      refine jv_iload d_M_sendOn_81 rfl ?_
      obtain ⟨q13, q14, h⟩ := h
      refine jv_iast d_M_sendOn_83 q13 q14 ?_
      refine jv_aload_n d_M_sendOn_84 rfl rfl ?_
      refine jv_iload d_M_sendOn_85 rfl ?_
      refine jv_bipush (v := 6) d_M_sendOn_87 (by decide) ?_
      refine jv_iadd d_M_sendOn_89 ?_
      refine jv_iconst (v := 0) d_M_sendOn_90 (by decide) ?_
      obtain ⟨q15, q16, h⟩ := h
      refine jv_iast d_M_sendOn_91 q15 q16 ?_
      refine jv_aload_n d_M_sendOn_92 rfl rfl ?_
      refine jv_bipush (v := 80) d_M_sendOn_93 (by decide) ?_
      refine jv_dup2 d_M_sendOn_95 rfl rfl ?_
      obtain ⟨q17, q18, h⟩ := h
      refine jv_iald d_M_sendOn_96 q17 q18 ?_
      refine jv_iconst (v := 1) d_M_sendOn_97 (by decide) ?_
      refine jv_iadd d_M_sendOn_98 ?_
      obtain ⟨q19, q20, h⟩ := h
      refine jv_iast d_M_sendOn_99 q19 q20 ?_
      exact jv_ret d_M_sendOn_100 rfl h
    · replace h := h.2 c
      refine jv_aload_n d_M_sendOn_18 rfl rfl ?_
      refine jv_invS [.ref a0] [] d_M_sendOn_19 ml_M_232 rfl (Nat.le_of_ble_eq_true rfl) (Nat.zero_add _) (Nat.zero_add _) (jv_Ct.mono h (fun v M22 N22 h => ?_))
      obtain ⟨r21, rfl, h⟩ := h
      change jv_J g (d + 1) mt_M_sendOn 22 [some (.ref a0), some (.int x1), some (.int x2), some (.int x3), some (.int x4), none] [.int r21] M22 N22 cr sr Z
      refine jv_if_eq (tgt := 31) d_M_sendOn_22 (by decide) ⟨fun c => ?_, fun c => ?_⟩
      · replace h := h.1 c
        refine jv_bipush (v := 81) d_M_sendOn_31 (by decide) ?_
        refine jv_bipush (v := 7) d_M_sendOn_33 (by decide) ?_
        refine jv_aload_n d_M_sendOn_35 rfl rfl ?_
        refine jv_bipush (v := 80) d_M_sendOn_36 (by decide) ?_
        obtain ⟨q23, q24, h⟩ := h
        refine jv_iald d_M_sendOn_38 q23 q24 ?_
        refine jv_imul d_M_sendOn_39 ?_
        refine jv_iadd d_M_sendOn_40 ?_
        refine jv_istore (L' := [some (.ref a0), some (.int x1), some (.int x2), some (.int x3), some (.int x4), some (.int (81 + (7 * (Prod.fst M22 a0 (Int32.toNatClampNeg 80)))))]) d_M_sendOn_41 (Nat.le_of_ble_eq_true rfl) rfl ?_
        refine jv_aload_n d_M_sendOn_43 rfl rfl ?_
        refine jv_iload d_M_sendOn_44 rfl ?_
        refine jv_iload_n d_M_sendOn_46 rfl rfl ?_
        obtain ⟨q25, q26, h⟩ := h
        refine jv_iast d_M_sendOn_47 q25 q26 ?_
        refine jv_aload_n d_M_sendOn_48 rfl rfl ?_
        refine jv_iload d_M_sendOn_49 rfl ?_
        refine jv_iconst (v := 1) d_M_sendOn_51 (by decide) ?_
        refine jv_iadd d_M_sendOn_52 ?_
        refine jv_iload_n d_M_sendOn_53 rfl rfl ?_
        obtain ⟨q27, q28, h⟩ := h
        refine jv_iast d_M_sendOn_54 q27 q28 ?_
        refine jv_aload_n d_M_sendOn_55 rfl rfl ?_
        refine jv_iload d_M_sendOn_56 rfl ?_
        refine jv_iconst (v := 2) d_M_sendOn_58 (by decide) ?_
        refine jv_iadd d_M_sendOn_59 ?_
        refine jv_iconst (v := 0) d_M_sendOn_60 (by decide) ?_
        obtain ⟨q29, q30, h⟩ := h
        refine jv_iast d_M_sendOn_61 q29 q30 ?_
        refine jv_aload_n d_M_sendOn_62 rfl rfl ?_
        refine jv_iload d_M_sendOn_63 rfl ?_
        refine jv_iconst (v := 3) d_M_sendOn_65 (by decide) ?_
        refine jv_iadd d_M_sendOn_66 ?_
        refine jv_iconst (v := 0) d_M_sendOn_67 (by decide) ?_
        obtain ⟨q31, q32, h⟩ := h
        refine jv_iast d_M_sendOn_68 q31 q32 ?_
        refine jv_aload_n d_M_sendOn_69 rfl rfl ?_
        refine jv_iload d_M_sendOn_70 rfl ?_
        refine jv_iconst (v := 4) d_M_sendOn_72 (by decide) ?_
        refine jv_iadd d_M_sendOn_73 ?_
        refine jv_iload_n d_M_sendOn_74 rfl rfl ?_
        obtain ⟨q33, q34, h⟩ := h
        refine jv_iast d_M_sendOn_75 q33 q34 ?_
        refine jv_aload_n d_M_sendOn_76 rfl rfl ?_
        refine jv_iload d_M_sendOn_77 rfl ?_
        refine jv_iconst (v := 5) d_M_sendOn_79 (by decide) ?_
        refine jv_iadd d_M_sendOn_80 ?_
        refine jv_iload d_M_sendOn_81 rfl ?_
        obtain ⟨q35, q36, h⟩ := h
        refine jv_iast d_M_sendOn_83 q35 q36 ?_
        refine jv_aload_n d_M_sendOn_84 rfl rfl ?_
        refine jv_iload d_M_sendOn_85 rfl ?_
        refine jv_bipush (v := 6) d_M_sendOn_87 (by decide) ?_
        refine jv_iadd d_M_sendOn_89 ?_
        refine jv_iconst (v := 0) d_M_sendOn_90 (by decide) ?_
        obtain ⟨q37, q38, h⟩ := h
        refine jv_iast d_M_sendOn_91 q37 q38 ?_
        refine jv_aload_n d_M_sendOn_92 rfl rfl ?_
        refine jv_bipush (v := 80) d_M_sendOn_93 (by decide) ?_
        refine jv_dup2 d_M_sendOn_95 rfl rfl ?_
        obtain ⟨q39, q40, h⟩ := h
        refine jv_iald d_M_sendOn_96 q39 q40 ?_
        refine jv_iconst (v := 1) d_M_sendOn_97 (by decide) ?_
        refine jv_iadd d_M_sendOn_98 ?_
        obtain ⟨q41, q42, h⟩ := h
        refine jv_iast d_M_sendOn_99 q41 q42 ?_
        exact jv_ret d_M_sendOn_100 rfl h
      · replace h := h.2 c
        refine jv_aload_n d_M_sendOn_25 rfl rfl ?_
        refine jv_bipush (v := 76) d_M_sendOn_26 (by decide) ?_
        refine jv_iconst (v := 1) d_M_sendOn_28 (by decide) ?_
        obtain ⟨q43, q44, h⟩ := h
        refine jv_iast d_M_sendOn_29 q43 q44 ?_
        exact jv_ret d_M_sendOn_30 rfl h
  · replace h := h.2 c
    refine jv_aload_n d_M_sendOn_5 rfl rfl ?_
    refine jv_bipush (v := 76) d_M_sendOn_6 (by decide) ?_
    obtain ⟨q45, q46, h⟩ := h
    refine jv_iald d_M_sendOn_8 q45 q46 ?_
    refine jv_if_eq (tgt := 13) d_M_sendOn_9 (by decide) ⟨fun c => ?_, fun c => ?_⟩
    · replace h := h.1 c
      refine jv_iload_n d_M_sendOn_13 rfl rfl ?_
      refine jv_iconst (v := 2) d_M_sendOn_14 (by decide) ?_
      refine jv_icmp_le (tgt := 31) d_M_sendOn_15 (by decide) ⟨fun c => ?_, fun c => ?_⟩
      · replace h := h.1 c
        refine jv_bipush (v := 81) d_M_sendOn_31 (by decide) ?_
        refine jv_bipush (v := 7) d_M_sendOn_33 (by decide) ?_
        refine jv_aload_n d_M_sendOn_35 rfl rfl ?_
        refine jv_bipush (v := 80) d_M_sendOn_36 (by decide) ?_
        obtain ⟨q47, q48, h⟩ := h
        refine jv_iald d_M_sendOn_38 q47 q48 ?_
        refine jv_imul d_M_sendOn_39 ?_
        refine jv_iadd d_M_sendOn_40 ?_
        refine jv_istore (L' := [some (.ref a0), some (.int x1), some (.int x2), some (.int x3), some (.int x4), some (.int (81 + (7 * (Prod.fst M a0 (Int32.toNatClampNeg 80)))))]) d_M_sendOn_41 (Nat.le_of_ble_eq_true rfl) rfl ?_
        refine jv_aload_n d_M_sendOn_43 rfl rfl ?_
        refine jv_iload d_M_sendOn_44 rfl ?_
        refine jv_iload_n d_M_sendOn_46 rfl rfl ?_
        obtain ⟨q49, q50, h⟩ := h
        refine jv_iast d_M_sendOn_47 q49 q50 ?_
        refine jv_aload_n d_M_sendOn_48 rfl rfl ?_
        refine jv_iload d_M_sendOn_49 rfl ?_
        refine jv_iconst (v := 1) d_M_sendOn_51 (by decide) ?_
        refine jv_iadd d_M_sendOn_52 ?_
        refine jv_iload_n d_M_sendOn_53 rfl rfl ?_
        obtain ⟨q51, q52, h⟩ := h
        refine jv_iast d_M_sendOn_54 q51 q52 ?_
        refine jv_aload_n d_M_sendOn_55 rfl rfl ?_
        refine jv_iload d_M_sendOn_56 rfl ?_
        refine jv_iconst (v := 2) d_M_sendOn_58 (by decide) ?_
        refine jv_iadd d_M_sendOn_59 ?_
        refine jv_iconst (v := 0) d_M_sendOn_60 (by decide) ?_
        obtain ⟨q53, q54, h⟩ := h
        refine jv_iast d_M_sendOn_61 q53 q54 ?_
        refine jv_aload_n d_M_sendOn_62 rfl rfl ?_
        refine jv_iload d_M_sendOn_63 rfl ?_
        refine jv_iconst (v := 3) d_M_sendOn_65 (by decide) ?_
        refine jv_iadd d_M_sendOn_66 ?_
        refine jv_iconst (v := 0) d_M_sendOn_67 (by decide) ?_
        obtain ⟨q55, q56, h⟩ := h
        refine jv_iast d_M_sendOn_68 q55 q56 ?_
        refine jv_aload_n d_M_sendOn_69 rfl rfl ?_
        refine jv_iload d_M_sendOn_70 rfl ?_
        refine jv_iconst (v := 4) d_M_sendOn_72 (by decide) ?_
        refine jv_iadd d_M_sendOn_73 ?_
        refine jv_iload_n d_M_sendOn_74 rfl rfl ?_
        obtain ⟨q57, q58, h⟩ := h
        refine jv_iast d_M_sendOn_75 q57 q58 ?_
        refine jv_aload_n d_M_sendOn_76 rfl rfl ?_
        refine jv_iload d_M_sendOn_77 rfl ?_
        refine jv_iconst (v := 5) d_M_sendOn_79 (by decide) ?_
        refine jv_iadd d_M_sendOn_80 ?_
        refine jv_iload d_M_sendOn_81 rfl ?_
        obtain ⟨q59, q60, h⟩ := h
        refine jv_iast d_M_sendOn_83 q59 q60 ?_
        refine jv_aload_n d_M_sendOn_84 rfl rfl ?_
        refine jv_iload d_M_sendOn_85 rfl ?_
        refine jv_bipush (v := 6) d_M_sendOn_87 (by decide) ?_
        refine jv_iadd d_M_sendOn_89 ?_
        refine jv_iconst (v := 0) d_M_sendOn_90 (by decide) ?_
        obtain ⟨q61, q62, h⟩ := h
        refine jv_iast d_M_sendOn_91 q61 q62 ?_
        refine jv_aload_n d_M_sendOn_92 rfl rfl ?_
        refine jv_bipush (v := 80) d_M_sendOn_93 (by decide) ?_
        refine jv_dup2 d_M_sendOn_95 rfl rfl ?_
        obtain ⟨q63, q64, h⟩ := h
        refine jv_iald d_M_sendOn_96 q63 q64 ?_
        refine jv_iconst (v := 1) d_M_sendOn_97 (by decide) ?_
        refine jv_iadd d_M_sendOn_98 ?_
        obtain ⟨q65, q66, h⟩ := h
        refine jv_iast d_M_sendOn_99 q65 q66 ?_
        exact jv_ret d_M_sendOn_100 rfl h
      · replace h := h.2 c
        refine jv_aload_n d_M_sendOn_18 rfl rfl ?_
        refine jv_invS [.ref a0] [] d_M_sendOn_19 ml_M_232 rfl (Nat.le_of_ble_eq_true rfl) (Nat.zero_add _) (Nat.zero_add _) (jv_Ct.mono h (fun v M68 N68 h => ?_))
        obtain ⟨r67, rfl, h⟩ := h
        change jv_J g (d + 1) mt_M_sendOn 22 [some (.ref a0), some (.int x1), some (.int x2), some (.int x3), some (.int x4), none] [.int r67] M68 N68 cr sr Z
        refine jv_if_eq (tgt := 31) d_M_sendOn_22 (by decide) ⟨fun c => ?_, fun c => ?_⟩
        · replace h := h.1 c
          refine jv_bipush (v := 81) d_M_sendOn_31 (by decide) ?_
          refine jv_bipush (v := 7) d_M_sendOn_33 (by decide) ?_
          refine jv_aload_n d_M_sendOn_35 rfl rfl ?_
          refine jv_bipush (v := 80) d_M_sendOn_36 (by decide) ?_
          obtain ⟨q69, q70, h⟩ := h
          refine jv_iald d_M_sendOn_38 q69 q70 ?_
          refine jv_imul d_M_sendOn_39 ?_
          refine jv_iadd d_M_sendOn_40 ?_
          refine jv_istore (L' := [some (.ref a0), some (.int x1), some (.int x2), some (.int x3), some (.int x4), some (.int (81 + (7 * (Prod.fst M68 a0 (Int32.toNatClampNeg 80)))))]) d_M_sendOn_41 (Nat.le_of_ble_eq_true rfl) rfl ?_
          refine jv_aload_n d_M_sendOn_43 rfl rfl ?_
          refine jv_iload d_M_sendOn_44 rfl ?_
          refine jv_iload_n d_M_sendOn_46 rfl rfl ?_
          obtain ⟨q71, q72, h⟩ := h
          refine jv_iast d_M_sendOn_47 q71 q72 ?_
          refine jv_aload_n d_M_sendOn_48 rfl rfl ?_
          refine jv_iload d_M_sendOn_49 rfl ?_
          refine jv_iconst (v := 1) d_M_sendOn_51 (by decide) ?_
          refine jv_iadd d_M_sendOn_52 ?_
          refine jv_iload_n d_M_sendOn_53 rfl rfl ?_
          obtain ⟨q73, q74, h⟩ := h
          refine jv_iast d_M_sendOn_54 q73 q74 ?_
          refine jv_aload_n d_M_sendOn_55 rfl rfl ?_
          refine jv_iload d_M_sendOn_56 rfl ?_
          refine jv_iconst (v := 2) d_M_sendOn_58 (by decide) ?_
          refine jv_iadd d_M_sendOn_59 ?_
          refine jv_iconst (v := 0) d_M_sendOn_60 (by decide) ?_
          obtain ⟨q75, q76, h⟩ := h
          refine jv_iast d_M_sendOn_61 q75 q76 ?_
          refine jv_aload_n d_M_sendOn_62 rfl rfl ?_
          refine jv_iload d_M_sendOn_63 rfl ?_
          refine jv_iconst (v := 3) d_M_sendOn_65 (by decide) ?_
          refine jv_iadd d_M_sendOn_66 ?_
          refine jv_iconst (v := 0) d_M_sendOn_67 (by decide) ?_
          obtain ⟨q77, q78, h⟩ := h
          refine jv_iast d_M_sendOn_68 q77 q78 ?_
          refine jv_aload_n d_M_sendOn_69 rfl rfl ?_
          refine jv_iload d_M_sendOn_70 rfl ?_
          refine jv_iconst (v := 4) d_M_sendOn_72 (by decide) ?_
          refine jv_iadd d_M_sendOn_73 ?_
          refine jv_iload_n d_M_sendOn_74 rfl rfl ?_
          obtain ⟨q79, q80, h⟩ := h
          refine jv_iast d_M_sendOn_75 q79 q80 ?_
          refine jv_aload_n d_M_sendOn_76 rfl rfl ?_
          refine jv_iload d_M_sendOn_77 rfl ?_
          refine jv_iconst (v := 5) d_M_sendOn_79 (by decide) ?_
          refine jv_iadd d_M_sendOn_80 ?_
          refine jv_iload d_M_sendOn_81 rfl ?_
          obtain ⟨q81, q82, h⟩ := h
          refine jv_iast d_M_sendOn_83 q81 q82 ?_
          refine jv_aload_n d_M_sendOn_84 rfl rfl ?_
          refine jv_iload d_M_sendOn_85 rfl ?_
          refine jv_bipush (v := 6) d_M_sendOn_87 (by decide) ?_
          refine jv_iadd d_M_sendOn_89 ?_
          refine jv_iconst (v := 0) d_M_sendOn_90 (by decide) ?_
          obtain ⟨q83, q84, h⟩ := h
          refine jv_iast d_M_sendOn_91 q83 q84 ?_
          refine jv_aload_n d_M_sendOn_92 rfl rfl ?_
          refine jv_bipush (v := 80) d_M_sendOn_93 (by decide) ?_
          refine jv_dup2 d_M_sendOn_95 rfl rfl ?_
          obtain ⟨q85, q86, h⟩ := h
          refine jv_iald d_M_sendOn_96 q85 q86 ?_
          refine jv_iconst (v := 1) d_M_sendOn_97 (by decide) ?_
          refine jv_iadd d_M_sendOn_98 ?_
          obtain ⟨q87, q88, h⟩ := h
          refine jv_iast d_M_sendOn_99 q87 q88 ?_
          exact jv_ret d_M_sendOn_100 rfl h
        · replace h := h.2 c
          refine jv_aload_n d_M_sendOn_25 rfl rfl ?_
          refine jv_bipush (v := 76) d_M_sendOn_26 (by decide) ?_
          refine jv_iconst (v := 1) d_M_sendOn_28 (by decide) ?_
          obtain ⟨q89, q90, h⟩ := h
          refine jv_iast d_M_sendOn_29 q89 q90 ?_
          exact jv_ret d_M_sendOn_30 rfl h
    · replace h := h.2 c
      exact jv_ret d_M_sendOn_12 rfl h
theorem b_M_isAbstractOn_0 {g : jv_G} {d : Nat} {M : jv_Mem} {N cr sr : Nat} {Z : Option Value → jv_Mem → Nat → Prop} {a0 : Nat} (h : jv_J g d mt_M_isAbstractOn 4 [some (.ref a0), some (.int 0), some (.int 0)] [] M N cr sr Z) : jv_J g d mt_M_isAbstractOn 0 [some (.ref a0), none, none] [] M N cr sr Z := by
  refine jv_iconst (v := 0) d_M_isAbstractOn_0 (by decide) ?_
  refine jv_istore_n (L' := [some (.ref a0), some (.int 0), none]) d_M_isAbstractOn_1 rfl (Nat.le_of_ble_eq_true rfl) rfl ?_
  refine jv_iconst (v := 0) d_M_isAbstractOn_2 (by decide) ?_
  refine jv_istore_n (L' := [some (.ref a0), some (.int 0), some (.int 0)]) d_M_isAbstractOn_3 rfl (Nat.le_of_ble_eq_true rfl) rfl ?_
  exact h
theorem b_M_isAbstractOn_4 {g : jv_G} {d : Nat} {M : jv_Mem} {N cr sr : Nat} {Z : Option Value → jv_Mem → Nat → Prop} {a0 : Nat} {x1 : Int32} {x2 : Int32} (h : jv_Tg 11 a0 N ∧ vp_in 80 (jv_sh a0).2 ∧ ((Prod.fst M a0 (Int32.toNatClampNeg 80)) ≤ x2 → (x1 = 0 ∨ x1 = 1) ∧ Z (some (.int x1)) M N) ∧ (¬ ((Prod.fst M a0 (Int32.toNatClampNeg 80)) ≤ x2) → (x1 ≠ 0 → jv_J g d mt_M_isAbstractOn 4 [some (.ref a0), some (.int 1), some (.int (x2 + 1))] [] M N cr sr Z) ∧ (x1 = 0 → jv_Tg 11 a0 N ∧ vp_in (81 + (7 * x2)) (jv_sh a0).2 ∧ ((Prod.fst M a0 (Int32.toNatClampNeg (81 + (7 * x2)))) ≤ 2 → jv_J g d mt_M_isAbstractOn 4 [some (.ref a0), some (.int 0), some (.int (x2 + 1))] [] M N cr sr Z) ∧ (¬ ((Prod.fst M a0 (Int32.toNatClampNeg (81 + (7 * x2)))) ≤ 2) → jv_J g d mt_M_isAbstractOn 4 [some (.ref a0), some (.int 1), some (.int (x2 + 1))] [] M N cr sr Z)))) : jv_J g d mt_M_isAbstractOn 4 [some (.ref a0), some (.int x1), some (.int x2)] [] M N cr sr Z := by
  refine jv_iload_n d_M_isAbstractOn_4 rfl rfl ?_
  refine jv_aload_n d_M_isAbstractOn_5 rfl rfl ?_
  refine jv_bipush (v := 80) d_M_isAbstractOn_6 (by decide) ?_
  obtain ⟨q1, q2, h⟩ := h
  refine jv_iald d_M_isAbstractOn_8 q1 q2 ?_
  refine jv_icmp_ge (tgt := 41) d_M_isAbstractOn_9 (by decide) ⟨fun c => ?_, fun c => ?_⟩
  · replace h := h.1 c
    refine jv_iload_n d_M_isAbstractOn_41 rfl rfl ?_
    exact jv_iret d_M_isAbstractOn_42 rfl (jv_nz h.1) h.2
  · replace h := h.2 c
    refine jv_iload_n d_M_isAbstractOn_12 rfl rfl ?_
    refine jv_if_ne (tgt := 29) d_M_isAbstractOn_13 (by decide) ⟨fun c => ?_, fun c => ?_⟩
    · replace h := h.1 c
      refine jv_iconst (v := 1) d_M_isAbstractOn_29 (by decide) ?_
      refine jv_goto (tgt := 34) d_M_isAbstractOn_30 (by decide) ?_
      refine jv_istore_n (L' := [some (.ref a0), some (.int 1), some (.int x2)]) d_M_isAbstractOn_34 rfl (Nat.le_of_ble_eq_true rfl) rfl ?_
      refine jv_iinc (v := (x2 + 1)) (L' := [some (.ref a0), some (.int 1), some (.int (x2 + 1))]) d_M_isAbstractOn_35 rfl rfl (Nat.le_of_ble_eq_true rfl) rfl ?_
      refine jv_goto (tgt := 4) d_M_isAbstractOn_38 (by decide) ?_
      exact h
    · replace h := h.2 c
      refine jv_aload_n d_M_isAbstractOn_16 rfl rfl ?_
      refine jv_bipush (v := 81) d_M_isAbstractOn_17 (by decide) ?_
      refine jv_bipush (v := 7) d_M_isAbstractOn_19 (by decide) ?_
      refine jv_iload_n d_M_isAbstractOn_21 rfl rfl ?_
      refine jv_imul d_M_isAbstractOn_22 ?_
      refine jv_iadd d_M_isAbstractOn_23 ?_
      obtain ⟨q3, q4, h⟩ := h
      refine jv_iald d_M_isAbstractOn_24 q3 q4 ?_
      refine jv_iconst (v := 2) d_M_isAbstractOn_25 (by decide) ?_
      refine jv_icmp_le (tgt := 33) d_M_isAbstractOn_26 (by decide) ⟨fun c => ?_, fun c => ?_⟩
      · replace h := h.1 c
        refine jv_iconst (v := 0) d_M_isAbstractOn_33 (by decide) ?_
        refine jv_istore_n (L' := [some (.ref a0), some (.int 0), some (.int x2)]) d_M_isAbstractOn_34 rfl (Nat.le_of_ble_eq_true rfl) rfl ?_
        refine jv_iinc (v := (x2 + 1)) (L' := [some (.ref a0), some (.int 0), some (.int (x2 + 1))]) d_M_isAbstractOn_35 rfl rfl (Nat.le_of_ble_eq_true rfl) rfl ?_
        refine jv_goto (tgt := 4) d_M_isAbstractOn_38 (by decide) ?_
        exact h
      · replace h := h.2 c
        refine jv_iconst (v := 1) d_M_isAbstractOn_29 (by decide) ?_
        refine jv_goto (tgt := 34) d_M_isAbstractOn_30 (by decide) ?_
        refine jv_istore_n (L' := [some (.ref a0), some (.int 1), some (.int x2)]) d_M_isAbstractOn_34 rfl (Nat.le_of_ble_eq_true rfl) rfl ?_
        refine jv_iinc (v := (x2 + 1)) (L' := [some (.ref a0), some (.int 1), some (.int (x2 + 1))]) d_M_isAbstractOn_35 rfl rfl (Nat.le_of_ble_eq_true rfl) rfl ?_
        refine jv_goto (tgt := 4) d_M_isAbstractOn_38 (by decide) ?_
        exact h
