/-! the calls of proving, of questions, of the list, of rows: in plain words -/
def isFr (x : Int32) : Bool := decide (1 ≤ x.toInt ∧ x.toInt ≤ 24)
def isCb (x y : Int32) (M : Ms) : Bool := inb x (2 ^ M 0 1) && decide (y &&& (x ^^^ e1 0) = 0)
theorem isFr_t {x : Int32} (h : isFr x = true) : ∃ j, 1 ≤ j ∧ j ≤ 24 ∧ x = nI j := by
  have h2 := of_decide_eq_true h
  obtain ⟨j, hj, rfl⟩ := i_dec (x := x) (by rw [i_0, lt0_toInt]; omega)
  rw [i_toInt hj] at h2
  exact ⟨j, by omega, by omega, rfl⟩
theorem isCb_t {x y : Int32} {M : Ms} (h8 : M 0 1 ≤ 8) (h : isCb x y M = true) : ∃ a b, a < 2 ^ M 0 1 ∧ x = nI a ∧ y = nI b ∧ b &&& a = b := by
  simp only [isCb, Bool.and_eq_true, decide_eq_true_eq] at h
  obtain ⟨h1, h2⟩ := h
  obtain ⟨a, ha, ha2, rfl⟩ := inb_t h1
  have h256 := pow_le8 h8
  have hb := congrArg Int32.toBitVec h2
  have hx : (nI a ^^^ e1 0).toBitVec = ~~~ (BitVec.ofNat 32 a) := by
    rw [Int32.toBitVec_xor]
    show (nI a).toBitVec ^^^ BitVec.allOnes 32 = _
    rw [BitVec.xor_allOnes, i_bv]
  rw [Int32.toBitVec_and, hx] at hb
  have hv : y.toBitVec = y.toBitVec &&& BitVec.ofNat 32 a := by
    apply BitVec.eq_of_getLsbD_eq
    intro i hi
    have := congrArg (fun z => z.getLsbD i) hb
    simp only [BitVec.getLsbD_and, BitVec.getLsbD_not, hi, decide_true, Bool.true_and] at this
    rw [show (0 : Int32).toBitVec = 0#32 from rfl, BitVec.getLsbD_zero] at this
    rw [BitVec.getLsbD_and]
    cases h3 : y.toBitVec.getLsbD i <;> cases h4 : (BitVec.ofNat 32 a).getLsbD i <;> simp_all
  have hn := congrArg BitVec.toNat hv
  rw [BitVec.toNat_and, BitVec.toNat_ofNat, Nat.mod_eq_of_lt (by omega)] at hn
  refine ⟨a, y.toBitVec.toNat, ha, rfl, ?_, hn.symm⟩
  apply i_ext
  rw [i_bv, BitVec.ofNat_toNat, BitVec.setWidth_eq]
def op_frames (M : Ms) : Int32 × Ms := (nI (M 0 8), M)
def op_clauses (x : Int32) (M : Ms) : Int32 × Ms := if isFr x = false then rf 3 M else (nI (M 9 (cn x)), M)
def op_clause (x y z : Int32) (M : Ms) : Int32 × Ms := if isFr x = false ∨ inb y (M 9 (cn x)) = false then rf 3 M else (if z = 0 then nI (M (100 + cn x) (cn y)) else nI (M (200 + cn x) (cn y)), M)
def op_trouble (x y : Int32) (M : Ms) : Int32 × Ms := if x.toInt < 0 then rf 4 M else if inb y 2 = false then rf 7 M else (if inb x (M 0 11) = false then e1 0 else if y = 0 then nI (M 10 (cn x)) else nI (M 11 (cn x)), M)
def op_way (M : Ms) : Int32 × Ms := if wayN M = 0 then rf 2 M else (nI (wayN M - 1), M)
def op_wayState (x : Int32) (M : Ms) : Int32 × Ms := if wayN M = 0 then rf 2 M else if inb x (wayN M) = false then rf 3 M else (nI (waySt M (cn x)), M)
def wayCh (M : Ms) (i : Nat) : Nat := lst (2 ^ M 0 2) (fun c => if i = wayN M - 1 then badB M (waySt M i) c else decide (toN M (waySt M i) c = waySt M (i + 1) + 1))
def op_wayChoice (x : Int32) (M : Ms) : Int32 × Ms := if wayN M = 0 then rf 2 M else if inb x (wayN M) = false then rf 3 M else (e1 (wayCh M (cn x)), M)
def takeM (M : Ms) : Ms := fun a k => if a = 12 ∧ k < M 9 (M 0 12) then M (100 + M 0 12) k else if a = 13 ∧ k < M 9 (M 0 12) then M (200 + M 0 12) k else if a = 0 ∧ k = 13 then M 9 (M 0 12) else M a k
def op_take (M : Ms) : Int32 × Ms := if M 0 9 ≠ 1 then rf 2 M else if 100 < M 9 (M 0 12) then rf 8 M else (nI (M 9 (M 0 12)), takeM M)
def op_ask (x y z : Int32) (M : Ms) : Int32 × Ms := if inb x 25 = false then rf 3 M else if isCb y z M = false then rf 7 M else (e1 (askN M (cn x) (cn y) (cn z)), M)
def op_widen (x y z : Int32) (M : Ms) : Int32 × Ms := if isFr x = false then rf 3 M else if isCb y z M = false ∨ inCubeB (M 0 3) (cn y) (cn z) = true ∨ askN M (cn x - 1) (cn y) (cn z) ≠ 0 then rf 7 M else (nI (widN M (cn x) (cn y) (cn z) (M 0 1)), M)
def op_list (x y : Int32) (M : Ms) : Int32 × Ms := if isCb x y M = false then rf 7 M else if M 0 13 = 100 then rf 8 M else (nI (M 0 13 + 1), up (up (up M 12 (M 0 13) (cn x)) 13 (M 0 13) (cn y)) 0 13 (M 0 13 + 1))
def op_forge (x y z : Int32) (M : Ms) : Int32 × Ms := if inb x (M 0 13) = false ∨ inb y (M 0 1) = false then rf 3 M
  else if z = 0 then (if (M 12 (cn x)).testBit (cn y) = false then rf 7 M else (nI 1, up M 13 (cn x) (M 13 (cn x) ^^^ 2 ^ cn y)))
  else (nI 1, up (up M 12 (cn x) (M 12 (cn x) ^^^ 2 ^ cn y)) 13 (cn x) (andn (M 13 (cn x)) (2 ^ cn y)))
def op_clear (M : Ms) : Int32 × Ms := (nI (M 0 13), up M 0 13 0)
def op_fails (x : Int32) (M : Ms) : Int32 × Ms := if inb x 2 = false then rf 7 M else (if x = 0 then e1 (M 0 14) else e1 (M 0 15), M)
def op_listed (x y : Int32) (M : Ms) : Int32 × Ms := if inb x (M 0 13) = false then rf 3 M else (if y = 0 then nI (M 12 (cn x)) else nI (M 13 (cn x)), M)
def layM (M : Ms) (s c : Nat) : Ms := fun a k => if a = 14 then (if k < M 0 0 then (val M s c k).toNat else M 14 k) else if a = 0 ∧ k = 16 then M 0 0 + 1 else M a k
def op_lay (x y : Int32) (M : Ms) : Int32 × Ms := if inb x (2 ^ M 0 1) = false ∨ inb y (2 ^ M 0 2) = false then rf 3 M else (nI (M 0 0), layM M (cn x) (cn y))
def op_tear (M : Ms) : Int32 × Ms := (if M 0 16 = 0 then nI 0 else nI 1, up M 0 16 0)
def op_row (x : Int32) (M : Ms) : Int32 × Ms := if M 0 16 = 0 then rf 2 M else if inb x (M 0 16 - 1) = false then rf 3 M else (nI (M 14 (cn x)), M)
def copyM (M : Ms) (i j n : Nat) : Ms := fun a k => if a = 14 ∧ j ≤ k ∧ k < j + n then M 14 (i + (k - j)) else M a k
def op_copy (x y z : Int32) (M : Ms) : Int32 × Ms := if M 0 16 = 0 then rf 2 M else if z.toInt < 0 then rf 4 M
  else if x.toInt < 0 ∨ y.toInt < 0 ∨ (M 0 16 : Int) - 1 < x.toInt + z.toInt ∨ (M 0 16 : Int) - 1 < y.toInt + z.toInt then rf 6 M else (z, copyM M (cn x) (cn y) (cn z))
def op_status (x : Int32) (M : Ms) : Int32 × Ms := if -8 ≤ x.toInt ∧ x.toInt ≤ -2 then (nI (M 8 (cn (-x))), M) else rf 7 M
/-- distances -/
def rch (M : Ms) : Nat → Nat → Bool
  | 0, s => decide (s = M 0 3)
  | d + 1, s => rch M d s || anyN (2 ^ M 0 1) (fun t => rch M d t && ldsB M t s)
def rc (M : Ms) (x s : Nat) : Bool := rch M (min x (2 ^ M 0 1)) s
def op_shortest (M : Ms) : Int32 × Ms := (e1 (lst (2 ^ M 0 1 + 1) (fun d => anyN (2 ^ M 0 1) (fun s => rch M d s && isBadS M s))), M)
def op_within (x : Int32) (M : Ms) : Int32 × Ms := if x.toInt < 0 then rf 4 M else (nI (cntB (2 ^ M 0 1) (fun s => rc M (cn x) s)), M)
def op_keeps (x : Int32) (M : Ms) : Int32 × Ms := if isFr x = false then rf 3 M else (bi (allN (2 ^ M 0 1) (fun s => !rc M (cn x) s || inFrB M (cn x) s)), M)
/-- what the cone hangs on, round by round -/
def hng (M : Ms) : Nat → Nat → Bool
  | 0, p => decide (p = (M 0 4 - 1) / 2) || anyN (M 0 5) (fun i => decide (p = M 5 i / 2))
  | d + 1, p => hng M d p || anyN (M 0 0) (fun q => hng M d q && ((decide (M 1 q ≠ 3) && decide (p = (M 2 q - 1) / 2)) || (decide (M 1 q = 0) && decide (p = (M 3 q - 1) / 2))))
def op_cone (M : Ms) : Int32 × Ms := if M 0 4 = 0 then rf 2 M else (nI (bitsN (M 0 1) (fun j => hng M (M 0 0) (M 7 j))), M)
/-- whether a run leads from s to t, by one step or more -/
def cls (M : Ms) : Nat → Nat → Nat → Bool
  | 0, s, t => ldsB M s t
  | m + 1, s, t => cls M m s t || (cls M m s m && cls M m m t)
def trc (M : Ms) (s t : Nat) : Bool := cls M (2 ^ M 0 1) s t
def inCirc (M : Ms) (s u : Nat) : Bool := decide (u = s) || (trc M s u && trc M u s)
def fairBy (M : Ms) (s u f c : Nat) : Bool := rightB M u c && ((decide (nxtN M u c = s) || trc M (nxtN M u c) s) && sgv (val M u c) (M 6 f))
def fairHere (M : Ms) (s f : Nat) : Bool := anyN (2 ^ M 0 1) (fun u => inCirc M s u && anyN (2 ^ M 0 2) (fairBy M s u f))
def op_live (M : Ms) : Int32 × Ms := (e1 (lst (2 ^ M 0 1) (fun s => trc M s s && ((decide (s = M 0 3) || trc M (M 0 3) s) && allN (M 0 6) (fun f => fairHere M s f)))), M)
/-- the list: what it leaves in, the clause `but` left out (all: `but` beyond the list) -/
def isLft (M : Ms) (but s : Nat) : Bool := !anyN (M 0 13) (fun i => decide (i ≠ but) && inCubeB s (M 12 i) (M 13 i))
def outS (M : Ms) (but s : Nat) : Bool := isLft M but s && anyN (2 ^ M 0 1) (fun t => !isLft M but t && ldsB M s t)
def jdg (M : Ms) (but : Nat) : Nat := if isLft M but (M 0 3) = false then 1 else if anyN (2 ^ M 0 1) (fun s => isLft M but s && isBadS M s) = true then 3 else if anyN (2 ^ M 0 1) (outS M but) = true then 2 else 0
def jdS (M : Ms) (but : Nat) : Nat := if jdg M but = 1 then M 0 3 + 1 else if jdg M but = 3 then lst (2 ^ M 0 1) (fun s => isLft M but s && isBadS M s) else if jdg M but = 2 then lst (2 ^ M 0 1) (outS M but) else 0
def jdT (M : Ms) (but : Nat) : Nat := if jdg M but = 2 then lst (2 ^ M 0 1) (fun t => !isLft M but t && ldsB M (jdS M but - 1) t) else 0
def op_judge (M : Ms) : Int32 × Ms := (nI (jdg M 100), up (up M 0 14 (jdS M 100)) 0 15 (jdT M 100))
def dropM (M : Ms) (i : Nat) : Ms := fun a k => if (a = 12 ∨ a = 13) ∧ i ≤ k ∧ k + 1 < M 0 13 then M a (k + 1) else if a = 0 ∧ k = 13 then M 0 13 - 1 else M a k
def smallM : Nat → Nat → Ms → Ms
  | 0, _, M => M
  | f + 1, i, M => if i < M 0 13 then (if jdg M i ≠ 0 then smallM f (i + 1) M else smallM f i (dropM M i)) else M
def op_small (M : Ms) : Int32 × Ms := if jdg M 100 ≠ 0 then rf 7 M else (nI (smallM (M 0 13) 0 M 0 13), smallM (M 0 13) 0 M)
