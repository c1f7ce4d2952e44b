/-! the calls of the machine and of the run -/
def isSg (x : Int32) (M : Ms) : Bool := inb x (2 * M 0 0)
/-- a change of the machine takes away what was proved -/
def chgM (M : Ms) : Ms := fun a k => if a = 9 then 0 else if a = 0 ∧ 8 ≤ k ∧ k ≤ 13 then 0 else if a = 0 ∧ k = 7 then M 0 3 else M a k
def addM (M : Ms) (kd x y : Nat) : Ms := up (up (up (up M 0 0 (M 0 0 + 1)) 1 (M 0 0) kd) 2 (M 0 0) x) 3 (M 0 0) y
def bitM (M : Ms) (f : Bool) : Ms := up (up (up (up M 0 3 (if f = true then M 0 3 ||| 2 ^ M 0 1 else M 0 3)) 4 (M 0 0) (M 0 1)) 7 (M 0 1) (M 0 0)) 0 1 (M 0 1 + 1)
def inpM (M : Ms) : Ms := up (up M 4 (M 0 0) (M 0 2)) 0 2 (M 0 2 + 1)
def op_bit (x y : Int32) (M : Ms) : Int32 × Ms := if M 0 0 = 80 ∨ M 0 1 = 8 then rf 8 M else (nI (M 0 0), chgM (addM (bitM M (decide (¬ x = 0))) (if y = 0 then 1 else 2) (2 * M 0 0 + 1) 0))
def op_input (M : Ms) : Int32 × Ms := if M 0 0 = 80 ∨ M 0 2 = 4 then rf 8 M else (nI (M 0 0), chgM (addM (inpM M) 3 0 0))
def op_gate (x y : Int32) (M : Ms) : Int32 × Ms := if isSg x M = false ∨ isSg y M = false then rf 3 M else if M 0 0 = 80 then rf 8 M else (nI (M 0 0), chgM (addM M 0 (cn x + 1) (cn y + 1)))
def op_next (x y : Int32) (M : Ms) : Int32 × Ms := if inb x (M 0 0) = false ∨ isSg y M = false then rf 3 M else if M 1 (cn x) ≠ 1 then rf 5 M else (e1 (M 2 (cn x)), chgM (up M 2 (cn x) (cn y + 1)))
def op_bad (x : Int32) (M : Ms) : Int32 × Ms := if x = e1 0 then (e1 (M 0 4), chgM (up M 0 4 0)) else if isSg x M = false then rf 3 M else (e1 (M 0 4), chgM (up M 0 4 (cn x + 1)))
def op_assume (x : Int32) (M : Ms) : Int32 × Ms := if isSg x M = false then rf 3 M else if M 0 5 = 4 then rf 8 M else (nI (M 0 5 + 1), chgM (up (up M 5 (M 0 5) (cn x)) 0 5 (M 0 5 + 1)))
def op_fair (x : Int32) (M : Ms) : Int32 × Ms := if isSg x M = false then rf 3 M else if M 0 6 = 3 then rf 8 M else (nI (M 0 6 + 1), chgM (up (up M 6 (M 0 6) (cn x)) 0 6 (M 0 6 + 1)))
def op_part (x y : Int32) (M : Ms) : Int32 × Ms := if inb x (M 0 0) = false then rf 3 M else if inb y 3 = false then rf 7 M else (if y = 0 then nI (M 1 (cn x)) else if y = 1 then e1 (M 2 (cn x)) else e1 (M 3 (cn x)), M)
def op_count (x : Int32) (M : Ms) : Int32 × Ms := if x = 0 then (nI (M 0 0), M) else if x = 1 then (nI (M 0 1), M) else if x = 2 then (nI (M 0 2), M) else if x = 3 then (nI (M 0 0 - M 0 1 - M 0 2), M) else if x = 4 then (nI (M 0 5), M) else if x = 5 then (nI (M 0 6), M) else if x = 6 then (nI (M 0 10), M) else if x = 7 then (nI (M 0 13), M) else rf 7 M
def op_start (M : Ms) : Int32 × Ms := (nI (M 0 3), up M 0 7 (M 0 3))
def op_step (x : Int32) (M : Ms) : Int32 × Ms := if inb x (2 ^ M 0 2) = false then rf 3 M else if toN M (M 0 7) (cn x) = 0 then rf 7 M else (e1 (toN M (M 0 7) (cn x)), up M 0 7 (toN M (M 0 7) (cn x) - 1))
def op_value (x y : Int32) (M : Ms) : Int32 × Ms := if isSg x M = false ∨ inb y (2 ^ M 0 2) = false then rf 3 M else (bi (sgv (val M (M 0 7) (cn y)) (cn x)), M)
def op_at (x y z : Int32) (M : Ms) : Int32 × Ms := if inb x (2 ^ M 0 1) = false ∨ inb y (2 ^ M 0 2) = false then rf 3 M else if inb z 3 = false then rf 7 M else (if z = 0 then e1 (toN M (cn x) (cn y)) else if z = 1 then bi (rightB M (cn x) (cn y)) else bi (badB M (cn x) (cn y)), M)
/-- gates, bits and inputs are all the parts -/
def cntB (n : Nat) (f : Nat → Bool) : Nat := match n with
  | 0 => 0
  | n + 1 => cntB n f + (if f n then 1 else 0)
def WFg (M : Ms) : Prop := cntB (M 0 0) (fun p => decide (M 1 p = 0)) + M 0 1 + M 0 2 = M 0 0
theorem inb_f {x : Int32} {n : Nat} (h : ¬ inb x n = true) : inb x n = false := by simpa using h
