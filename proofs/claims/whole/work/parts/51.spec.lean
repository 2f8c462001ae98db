/-! ===== the board and what is done to a page ===== -/
/-- instructions, their codes; harts, their first places and groups; triggers, whose they are -/
abbrev Bd : Type := Nat × (Nat → Nat) × Nat × (Nat → Int32) × (Nat → Int32) × Nat × (Nat → Nat)
def bd_nc (B : Bd) : Nat := B.1
def bd_code (B : Bd) : Nat → Nat := B.2.1
def bd_nh (B : Bd) : Nat := B.2.2.1
def bd_first (B : Bd) : Nat → Int32 := B.2.2.2.1
def bd_group (B : Bd) : Nat → Int32 := B.2.2.2.2.1
def bd_nt (B : Bd) : Nat := B.2.2.2.2.2.1
def bd_whose (B : Bd) : Nat → Nat := B.2.2.2.2.2.2
def BOK (B : Bd) : Prop := bd_nc B ≤ 16 ∧ bd_nh B ≤ 4 ∧ bd_nt B ≤ 6 ∧ (∀ t, bd_whose B t < 4) ∧ ∀ k, bd_code B k < 10000
def MB (M : jv_Mem) (B : Bd) (pr : Int32) : Prop := (∀ k, M.2.1 647 k = mref k) ∧ M.1 647 4 = nI (bd_nc B) ∧ M.1 647 6 = nI (bd_nh B) ∧ M.1 647 9 = nI (bd_nt B) ∧ M.1 647 32 = pr ∧ (∀ k, M.1 649 k = nI (bd_code B k)) ∧ (∀ h, M.1 650 h = bd_first B h) ∧ (∀ h, M.1 651 h = bd_group B h) ∧ ∀ t, M.1 652 t = nI (bd_whose B t)
/-- the model's board, and a page's cell -/
def MX (M : jv_Mem) (B : Bd) (pr : Int32) (a : Nat) : Prop := MB M B pr ∧ BOK B ∧ 657 ≤ a ∧ a ≤ 660
abbrev Ps : Type := Pg × Int32
def P_halt (p : Pg) (h : Nat) (c : Int32) : Pg := if p (8 * h + 1) = nI 2 then p else pu (pu (pu p (8 * h + 2) (if p (8 * h + 1) = nI 1 then nI 1 else nI 0)) (8 * h + 1) (nI 2)) (8 * h + 3) c
def P_resume (p : Pg) (h : Nat) : Pg := if p (8 * h + 1) = nI 2 then pu (pu (pu p (8 * h + 1) (if p (8 * h + 2) = nI 1 then nI 1 else nI 0)) (8 * h + 2) (nI 0)) (8 * h + 3) (nI 0) else p
def P_reset (B : Bd) (p : Pg) (h : Nat) : Pg := itN (fun t p => if bd_whose B t = h then pu p (40 + 6 * t + 4) (p (40 + 6 * t + 3)) else p) (bd_nt B) (itN (fun k p => pu p (8 * h + k) (if k = 0 then bd_first B h else nI 0)) 8 p)
def P_do (s : Ps) (h u : Nat) : Ps :=
  if u / 1000 = 1 then (pu s.1 (8 * h + 4 + u / 100 % 10) (s.1 (8 * h + 4 + u / 100 % 10) + nI (u % 100) - (s.1 (8 * h + 4 + u / 100 % 10) + nI (u % 100)) / nI 1000 * nI 1000), s.2)
  else if u / 1000 = 2 then (pu s.1 (8 * h + 4 + u / 100 % 10) (if s.1 (8 * h + 4 + u / 100 % 10) ≤ nI 0 then s.1 (8 * h + 4 + u / 100 % 10) else s.1 (8 * h + 4 + u / 100 % 10) - nI 1), s.2)
  else if u / 1000 = 3 then (pu s.1 (8 * h + 4 + u / 100 % 10) (s.1 (8 * h + 4 + u % 100)), s.2)
  else if u / 1000 = 4 then (pu s.1 (8 * h + 4 + u / 100 % 10) (s.1 (32 + u % 100)), s.2)
  else (pu s.1 (32 + u % 100) (s.1 (8 * h + 4 + u / 100 % 10)), if s.2 = nI 0 then (if u % 100 = 7 then nI 1 else nI 0) else nI 1)
def P_plain (b : Nat) : Nat := 1000 * (b / 100) + 100 * (b / 10 % 10) + b % 10
/-- the buffer from its place k on: what it comes to -/
def P_buf (h : Nat) : Nat → Nat → Ps → Ps × Int32
  | 0, _, s => (s, nI 0)
  | f + 1, k, s => if P_plain (s.1 (78 + k)).toNatClampNeg = 0 then (s, nI 0) else if P_plain (s.1 (78 + k)).toNatClampNeg / 1000 ≤ 5 then P_buf h f (k + 1) (P_do s h (P_plain (s.1 (78 + k)).toNatClampNeg)) else (s, nI 3)
def P_reach (B : Bd) (s : Ps) (k : Nat) : Ps :=
  if nI 2 < s.1 (81 + 7 * k) ∧ s.1 (8 * (s.1 (81 + 7 * k + 1)).toNatClampNeg + 1) ≠ nI 2 then (pu s.1 (81 + 7 * k + 3) (nI 4), s.2)
  else if s.1 (81 + 7 * k) = nI 0 then (P_halt s.1 (s.1 (81 + 7 * k + 1)).toNatClampNeg (nI 1), s.2)
  else if s.1 (81 + 7 * k) = nI 1 then (P_resume s.1 (s.1 (81 + 7 * k + 1)).toNatClampNeg, s.2)
  else if s.1 (81 + 7 * k) = nI 2 then (P_reset B s.1 (s.1 (81 + 7 * k + 1)).toNatClampNeg, s.2)
  else if s.1 (81 + 7 * k) = nI 3 then (pu s.1 (81 + 7 * k + 6) (s.1 (8 * (s.1 (81 + 7 * k + 1)).toNatClampNeg + 4 + (s.1 (81 + 7 * k + 4)).toNatClampNeg)), s.2)
  else if s.1 (81 + 7 * k) = nI 4 then (pu s.1 (8 * (s.1 (81 + 7 * k + 1)).toNatClampNeg + 4 + (s.1 (81 + 7 * k + 4)).toNatClampNeg) (s.1 (81 + 7 * k + 5)), s.2)
  else (pu (P_buf (s.1 (81 + 7 * k + 1)).toNatClampNeg 2 0 s).1.1 (81 + 7 * k + 3) (P_buf (s.1 (81 + 7 * k + 1)).toNatClampNeg 2 0 s).2, (P_buf (s.1 (81 + 7 * k + 1)).toNatClampNeg 2 0 s).1.2)
def P_drop (p : Pg) (k : Nat) : Pg := fun j => if j = 80 then p 80 - nI 1 else if 81 + 7 * k ≤ j ∧ j < 81 + 7 * (p 80 - nI 1).toNatClampNeg then p (j + 7) else p j
/-- an order that is back -/
def P_back (p : Pg) (k : Nat) : Pg :=
  pu (pu p 77 (if p (81 + 7 * k) = nI 3 ∧ p (81 + 7 * k + 3) = nI 0 then p (81 + 7 * k + 6) else p 77)) 76 (if nI 2 < p (81 + 7 * k) ∧ p 76 = nI 0 then p (81 + 7 * k + 3) else p 76)
/-- an order's age, and what it does if it reaches its hart -/
def P_age (B : Bd) (s : Ps) (k : Nat) : Ps :=
  if s.1 (81 + 7 * k + 2) + nI 1 = s.1 (81 + 7 * k + 1) + nI 1 then P_reach B (pu s.1 (81 + 7 * k + 2) (s.1 (81 + 7 * k + 2) + nI 1), s.2) k else (pu s.1 (81 + 7 * k + 2) (s.1 (81 + 7 * k + 2) + nI 1), s.2)
def P_round (B : Bd) : Nat → Nat → Ps → Ps
  | 0, _, s => s
  | f + 1, k, s => if nI k < s.1 80 then (if (P_age B s k).1 (81 + 7 * k + 2) = nI (bd_nh B) + nI 1 then P_round B f k (P_drop (P_back (P_age B s k).1 k) k, (P_age B s k).2) else P_round B f (k + 1) (P_age B s k)) else s
def P_bit (x : Int32) (k : Nat) : Bool := decide ((x >>> (nI k &&& nI 31)) &&& nI 1 = nI 1)
def P_match (B : Bd) (pr : Int32) (p : Pg) (t : Nat) : Bool := (if p (40 + 6 * t) = nI 0 then decide (p (8 * bd_whose B t) = p (40 + 6 * t + 1)) else decide (p (8 * bd_whose B t + 4 + (p (40 + 6 * t + 1)).toNatClampNeg) = p (40 + 6 * t + 2))) && P_bit pr t
def P_lead (B : Bd) (p : Pg) (t : Nat) : Bool := decide (t + 1 < bd_nt B) && decide (p (40 + 6 * t + 5) = nI 1) && decide (bd_whose B (t + 1) = bd_whose B t)
def P_hset (p : Pg) : Nat → Int32
  | 0 => nI 0
  | n + 1 => if p (8 * n + 1) = nI 2 then P_hset p n ||| (nI 1 <<< (nI n &&& nI 31)) else P_hset p n
def P_chain (B : Bd) (pr : Int32) (p : Pg) : Nat → Nat → Bool → Nat × Bool
  | 0, l, b => (l, b)
  | f + 1, l, b => if P_lead B p l then P_chain B pr p f (l + 1) (b && P_match B pr p (l + 1)) else (l, b)
def P_caught (B : Bd) (pr : Int32) (h : Nat) : Nat → Nat → Pg → Pg × Bool
  | 0, _, p => (p, false)
  | f + 1, t, p => if t < bd_nt B then
      (if (P_chain B pr p 6 t (P_match B pr p t)).2 = true ∧ bd_whose B t = h then
        (if p (40 + 6 * t + 4) - nI 1 = nI 0 then (pu (pu p (40 + 6 * t + 4) (p (40 + 6 * t + 4) - nI 1)) (40 + 6 * t + 4) (p (40 + 6 * t + 3)), true)
         else P_caught B pr h f ((P_chain B pr p 6 t (P_match B pr p t)).1 + 1) (pu p (40 + 6 * t + 4) (p (40 + 6 * t + 4) - nI 1)))
       else P_caught B pr h f ((P_chain B pr p 6 t (P_match B pr p t)).1 + 1) p)
    else (p, false)
/-- an instruction on a hart, the program counter ahead of it already moved -/
def P_instr (s : Ps) (h u : Nat) : Ps :=
  if u / 1000 = 6 then (pu s.1 (8 * h) (if s.1 (8 * h + 4 + u / 100 % 10) = nI 0 then s.1 (8 * h) else nI (u % 100)), s.2)
  else if u / 1000 = 7 then (pu s.1 (8 * h + 1) (nI 1), s.2)
  else if u / 1000 = 8 then (P_halt s.1 h (nI 3), s.2)
  else P_do s h u
def P_wrap (B : Bd) (p : Pg) (h : Nat) : Pg := pu p (8 * h) (if nI (bd_nc B) ≤ p (8 * h) then nI 0 else p (8 * h))
def P_run (B : Bd) (pr : Int32) (s : Ps) (h : Nat) : Ps :=
  if s.1 (8 * h + 1) = nI 0 ∧ bd_nc B ≠ 0 then
    (if (P_caught B pr h 7 0 (P_wrap B s.1 h)).2 = true then (P_halt (P_caught B pr h 7 0 (P_wrap B s.1 h)).1 h (nI 2), s.2)
     else P_instr (pu (P_caught B pr h 7 0 (P_wrap B s.1 h)).1 (8 * h) ((P_caught B pr h 7 0 (P_wrap B s.1 h)).1 (8 * h) + nI 1), s.2) h (bd_code B ((P_caught B pr h 7 0 (P_wrap B s.1 h)).1 (8 * h)).toNatClampNeg))
  else s
def P_stops (B : Bd) (was now : Int32) (k : Nat) : Nat → Bool
  | 0 => false
  | n + 1 => P_stops B was now k n || (decide (bd_group B n = nI k) && P_bit now n && !P_bit was n)
def P_grp (B : Bd) (was now : Int32) (k : Nat) (p : Pg) : Pg := itN (fun h p => if P_stops B was now k (bd_nh B) = true ∧ bd_group B h = nI k then P_halt p h (nI 4) else p) (bd_nh B) p
def P_wake (B : Bd) (s : Ps) : Pg := if s.2 = nI 0 then s.1 else itN (fun h p => pu (pu p (8 * h + 1) (if p (8 * h + 1) = nI 1 then nI 0 else p (8 * h + 1))) (8 * h + 2) (nI 0)) (bd_nh B) s.1
/-- the harts, each in its turn -/
def P_runs (B : Bd) (pr : Int32) (s : Ps) : Ps := itN (fun h s => P_run B pr s h) (bd_nh B) s
def P_tick (B : Bd) (pr : Int32) (p : Pg) : Ps :=
  (P_wake B (P_grp B (P_hset p (bd_nh B)) (P_hset (P_runs B pr (P_round B 13 0 (p, nI 0))).1 (bd_nh B)) 2 (P_grp B (P_hset p (bd_nh B)) (P_hset (P_runs B pr (P_round B 13 0 (p, nI 0))).1 (bd_nh B)) 1 (P_runs B pr (P_round B 13 0 (p, nI 0))).1), (P_runs B pr (P_round B 13 0 (p, nI 0))).2),
   (P_runs B pr (P_round B 13 0 (p, nI 0))).2)
