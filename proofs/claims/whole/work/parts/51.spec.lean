/-! ===== the board and what is done to a page ===== -/
/-- instructions, their codes; harts, their first places and groups; triggers, whose they are -/
abbrev Bd : Type := Nat × (Nat → Nat) × Nat × (Nat → Int32) × (Nat → Int32) × Nat × (Nat → Nat)
def bd_nc (B : Bd) : Nat := B.1
def bd_code (B : Bd) : Nat → Nat := B.2.1
def bd_nh (B : Bd) : Nat := B.2.2.1
def bd_first (B : Bd) : Nat → Int32 := B.2.2.2.1
def bd_group (B : Bd) : Nat → Int32 := B.2.2.2.2.1
def bd_nt (B : Bd) : Nat := B.2.2.2.2.2.1
def bd_whose (B : Bd) : Nat → Nat := B.2.2.2.2.2.2
def BOK (B : Bd) : Prop := bd_nc B ≤ 16 ∧ bd_nh B ≤ 4 ∧ bd_nt B ≤ 6 ∧ (∀ t, bd_whose B t < 4) ∧ ∀ k, bd_code B k < 10000
def MB (M : jv_Mem) (B : Bd) (pr : Int32) : Prop := (∀ k, M.2.1 647 k = mref k) ∧ M.1 647 4 = nI (bd_nc B) ∧ M.1 647 6 = nI (bd_nh B) ∧ M.1 647 9 = nI (bd_nt B) ∧ M.1 647 32 = pr ∧ (∀ k, M.1 649 k = nI (bd_code B k)) ∧ (∀ h, M.1 650 h = bd_first B h) ∧ (∀ h, M.1 651 h = bd_group B h) ∧ ∀ t, M.1 652 t = nI (bd_whose B t)
/-- the model's board, and a page's cell -/
def MX (M : jv_Mem) (B : Bd) (pr : Int32) (a : Nat) : Prop := MB M B pr ∧ BOK B ∧ 657 ≤ a ∧ a ≤ 660
abbrev Ps : Type := Pg × Int32
def P_halt (p : Pg) (h : Nat) (c : Int32) : Pg := if p (8 * h + 1) = nI 2 then p else pu (pu (pu p (8 * h + 2) (if p (8 * h + 1) = nI 1 then nI 1 else nI 0)) (8 * h + 1) (nI 2)) (8 * h + 3) c
def P_resume (p : Pg) (h : Nat) : Pg := if p (8 * h + 1) = nI 2 then pu (pu (pu p (8 * h + 1) (if p (8 * h + 2) = nI 1 then nI 1 else nI 0)) (8 * h + 2) (nI 0)) (8 * h + 3) (nI 0) else p
def P_reset (B : Bd) (p : Pg) (h : Nat) : Pg := itN (fun t p => if bd_whose B t = h then pu p (40 + 6 * t + 4) (p (40 + 6 * t + 3)) else p) (bd_nt B) (itN (fun k p => pu p (8 * h + k) (if k = 0 then bd_first B h else nI 0)) 8 p)
def P_do (s : Ps) (h u : Nat) : Ps :=
  if u / 1000 = 1 then (pu s.1 (8 * h + 4 + u / 100 % 10) (s.1 (8 * h + 4 + u / 100 % 10) + nI (u % 100) - (s.1 (8 * h + 4 + u / 100 % 10) + nI (u % 100)) / nI 1000 * nI 1000), s.2)
  else if u / 1000 = 2 then (pu s.1 (8 * h + 4 + u / 100 % 10) (if s.1 (8 * h + 4 + u / 100 % 10) ≤ nI 0 then s.1 (8 * h + 4 + u / 100 % 10) else s.1 (8 * h + 4 + u / 100 % 10) - nI 1), s.2)
  else if u / 1000 = 3 then (pu s.1 (8 * h + 4 + u / 100 % 10) (s.1 (8 * h + 4 + u % 100)), s.2)
  else if u / 1000 = 4 then (pu s.1 (8 * h + 4 + u / 100 % 10) (s.1 (32 + u % 100)), s.2)
  else (pu s.1 (32 + u % 100) (s.1 (8 * h + 4 + u / 100 % 10)), if s.2 = nI 0 then (if u % 100 = 7 then nI 1 else nI 0) else nI 1)
def P_plain (b : Nat) : Nat := 1000 * (b / 100) + 100 * (b / 10 % 10) + b % 10
/-- the buffer from its place k on: what it comes to -/
def P_buf (h : Nat) : Nat → Nat → Ps → Ps × Int32
  | 0, _, s => (s, nI 0)
  | f + 1, k, s => if P_plain (s.1 (78 + k)).toNatClampNeg = 0 then (s, nI 0) else if P_plain (s.1 (78 + k)).toNatClampNeg / 1000 ≤ 5 then P_buf h f (k + 1) (P_do s h (P_plain (s.1 (78 + k)).toNatClampNeg)) else (s, nI 3)
def P_reach (B : Bd) (s : Ps) (k : Nat) : Ps :=
  if nI 2 < s.1 (81 + 7 * k) ∧ s.1 (8 * (s.1 (81 + 7 * k + 1)).toNatClampNeg + 1) ≠ nI 2 then (pu s.1 (81 + 7 * k + 3) (nI 4), s.2)
  else if s.1 (81 + 7 * k) = nI 0 then (P_halt s.1 (s.1 (81 + 7 * k + 1)).toNatClampNeg (nI 1), s.2)
  else if s.1 (81 + 7 * k) = nI 1 then (P_resume s.1 (s.1 (81 + 7 * k + 1)).toNatClampNeg, s.2)
  else if s.1 (81 + 7 * k) = nI 2 then (P_reset B s.1 (s.1 (81 + 7 * k + 1)).toNatClampNeg, s.2)
  else if s.1 (81 + 7 * k) = nI 3 then (pu s.1 (81 + 7 * k + 6) (s.1 (8 * (s.1 (81 + 7 * k + 1)).toNatClampNeg + 4 + (s.1 (81 + 7 * k + 4)).toNatClampNeg)), s.2)
  else if s.1 (81 + 7 * k) = nI 4 then (pu s.1 (8 * (s.1 (81 + 7 * k + 1)).toNatClampNeg + 4 + (s.1 (81 + 7 * k + 4)).toNatClampNeg) (s.1 (81 + 7 * k + 5)), s.2)
  else (pu (P_buf (s.1 (81 + 7 * k + 1)).toNatClampNeg 2 0 s).1.1 (81 + 7 * k + 3) (P_buf (s.1 (81 + 7 * k + 1)).toNatClampNeg 2 0 s).2, (P_buf (s.1 (81 + 7 * k + 1)).toNatClampNeg 2 0 s).1.2)
def P_drop (p : Pg) (k : Nat) : Pg := fun j => if j = 80 then p 80 - nI 1 else if 81 + 7 * k ≤ j ∧ j < 81 + 7 * (p 80 - nI 1).toNatClampNeg then p (j + 7) else p j
/-- an order that is back -/
def P_back (p : Pg) (k : Nat) : Pg :=
  pu (pu p 77 (if p (81 + 7 * k) = nI 3 ∧ p (81 + 7 * k + 3) = nI 0 then p (81 + 7 * k + 6) else p 77)) 76 (if nI 2 < p (81 + 7 * k) ∧ p 76 = nI 0 then p (81 + 7 * k + 3) else p 76)
/-- an order's age, and what it does if it reaches its hart -/
def P_age (B : Bd) (s : Ps) (k : Nat) : Ps :=
  if s.1 (81 + 7 * k + 2) + nI 1 = s.1 (81 + 7 * k + 1) + nI 1 then P_reach B (pu s.1 (81 + 7 * k + 2) (s.1 (81 + 7 * k + 2) + nI 1), s.2) k else (pu s.1 (81 + 7 * k + 2) (s.1 (81 + 7 * k + 2) + nI 1), s.2)
def P_round (B : Bd) : Nat → Nat → Ps → Ps
  | 0, _, s => s
  | f + 1, k, s => if nI k < s.1 80 then (if (P_age B s k).1 (81 + 7 * k + 2) = nI (bd_nh B) + nI 1 then P_round B f k (P_drop (P_back (P_age B s k).1 k) k, (P_age B s k).2) else P_round B f (k + 1) (P_age B s k)) else s
def P_bit (x : Int32) (k : Nat) : Bool := decide ((x >>> (nI k &&& nI 31)) &&& nI 1 = nI 1)
def P_match (B : Bd) (pr : Int32) (p : Pg) (t : Nat) : Bool := (if p (40 + 6 * t) = nI 0 then decide (p (8 * bd_whose B t) = p (40 + 6 * t + 1)) else decide (p (8 * bd_whose B t + 4 + (p (40 + 6 * t + 1)).toNatClampNeg) = p (40 + 6 * t + 2))) && P_bit pr t
def P_lead (B : Bd) (p : Pg) (t : Nat) : Bool := decide (t + 1 < bd_nt B) && decide (p (40 + 6 * t + 5) = nI 1) && decide (bd_whose B (t + 1) = bd_whose B t)
def P_hset (p : Pg) : Nat → Int32
  | 0 => nI 0
  | n + 1 => if p (8 * n + 1) = nI 2 then P_hset p n ||| (nI 1 <<< (nI n &&& nI 31)) else P_hset p n
