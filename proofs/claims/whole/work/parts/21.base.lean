/-! numbers in one form -/
theorem lit_neg : -(nI 1) = e1 0 := rfl
theorem i_0 : (0 : Int32) = nI 0 := rfl
theorem i_shl1 {a n : Nat} (hn : n < 32) (h : a * 2 ^ n < 4294967296) : nI a <<< nI (n &&& 31) = nI (a * 2 ^ n) := by
  rw [← i_shl hn h, show (31 : Int32) = nI 31 from rfl, i_and]
theorem i_shr1 {a n : Nat} (ha : a < 2147483648) (hn : n < 32) : nI a >>> nI (n &&& 31) = nI (a >>> n) := by
  rw [← i_shr ha hn, show (31 : Int32) = nI 31 from rfl, i_and]
theorem i_1shl1 {n : Nat} (hn : n < 32) : nI 1 <<< nI (n &&& 31) = nI (2 ^ n) := by
  rw [← i_1shl hn, show (31 : Int32) = nI 31 from rfl, i_and]
  rfl
theorem n_bool (b : Bool) : nI b.toNat = bi b := by cases b <;> rfl
theorem i_bit1 {a n : Nat} : nI (a >>> n &&& 1) = bi (a.testBit n) := by rw [n_and1, n_bool]
theorem bi_0n (b : Bool) : (bi b = nI 0) = (b = false) := bi_0 b
theorem bi_1n (b : Bool) : (bi b = nI 1) = (b = true) := bi_1 b
theorem bi_tn : bi true = nI 1 := rfl
theorem bi_fn : bi false = nI 0 := rfl
theorem nz_0n : nz (nI 0) = True := eq_true (Or.inl rfl)
theorem nz_1n : nz (nI 1) = True := eq_true (Or.inr rfl)
theorem vn_0n : vp_nar .boolean (nI 0) = bi false := rfl
theorem vn_1n : vp_nar .boolean (nI 1) = bi true := rfl
theorem gI_sI (σ : Sg) (a k b j : Nat) (v : Int32) : gI (sI σ a k v) b j = if b = a ∧ j = k then v else gI σ b j := rfl
theorem gI_sL (σ : Sg) (a k b j : Nat) (v : Int64) : gI (sL σ a k v) b j = gI σ b j := rfl
theorem gL_sI (σ : Sg) (a k b j : Nat) (v : Int32) : gL (sI σ a k v) b j = gL σ b j := rfl
theorem gL_sL (σ : Sg) (a k b j : Nat) (v : Int64) : gL (sL σ a k v) b j = if b = a ∧ j = k then v else gL σ b j := rfl
/-! THE STATE of the system, as both sides have it: numbers by area and place
0: np nb ni first bad+1 nas nfr run N ended looks ntr wallFrame nlist failed+1 failedTo+1 rowSize+1; 1 kinds, 2 x+1, 3 y+1, 4 places, 5 assumptions, 6 fair, 7 part of a bit, 8 refused, 9 clauses of a frame, 10 11 troubles, 12 13 the list, 14 the row, 100+k 200+k a frame's masks and values -/
abbrev Ms : Type := Nat → Nat → Nat
def up (M : Ms) (a k v : Nat) : Ms := fun x y => if x = a ∧ y = k then v else M x y
theorem up_at (M : Ms) (a k v b j : Nat) : up M a k v b j = if b = a ∧ j = k then v else M b j := rfl
def sgv (W : Nat → Bool) (g : Nat) : Bool := W (g / 2) != (g % 2 == 1)
def vcomp (M : Ms) (s c : Nat) (W : Nat → Bool) (p : Nat) : Bool := if M 1 p = 3 then c.testBit (M 4 p) else if M 1 p = 0 then sgv W (M 2 p - 1) && sgv W (M 3 p - 1) else s.testBit (M 4 p)
def VV (M : Ms) (s c : Nat) : Nat → Nat → Bool
  | 0 => fun _ => false
  | p + 1 => fun q => if q = p then vcomp M s c (VV M s c p) p else VV M s c p q
def val (M : Ms) (s c : Nat) : Nat → Bool := VV M s c (M 0 0)
theorem VV_le (M : Ms) (s c : Nat) {q i j : Nat} (h : q < i) (h2 : i ≤ j) : VV M s c j q = VV M s c i q := by
  induction j with
  | zero => omega
  | succ j ih =>
    by_cases e : i = j + 1
    · rw [e]
    · have : q ≠ j := by omega
      show (if q = j then _ else VV M s c j q) = _
      rw [if_neg this, ih (by omega)]
def rightB (M : Ms) (s c : Nat) : Bool := allN (M 0 5) (fun i => sgv (val M s c) (M 5 i))
def nxtN (M : Ms) (s c : Nat) : Nat := bitsN (M 0 1) (fun j => sgv (val M s c) (M 2 (M 7 j) - 1))
def badB (M : Ms) (s c : Nat) : Bool := rightB M s c && (decide (0 < M 0 4) && sgv (val M s c) (M 0 4 - 1))
def fairN (M : Ms) (s c : Nat) : Nat := bitsN (M 0 6) (fun f => sgv (val M s c) (M 6 f))
def isBadS (M : Ms) (s : Nat) : Bool := anyN (2 ^ M 0 2) (fun c => badB M s c)
def ldsB (M : Ms) (s t : Nat) : Bool := anyN (2 ^ M 0 2) (fun c => rightB M s c && decide (nxtN M s c = t))
/-- the machine is well made -/
def WFm (M : Ms) : Prop := M 0 0 ≤ 80 ∧ M 0 1 ≤ 8 ∧ M 0 2 ≤ 4 ∧ M 0 5 ≤ 4 ∧ M 0 6 ≤ 3 ∧ M 0 3 < 2 ^ M 0 1 ∧ M 0 4 ≤ 2 * M 0 0 ∧ M 0 7 < 2 ^ M 0 1 ∧
  (∀ p, p < M 0 0 → M 1 p ≤ 3 ∧ M 2 p ≤ 2 * M 0 0 ∧ M 3 p ≤ 2 * M 0 0 ∧ (M 1 p = 0 → 1 ≤ M 2 p ∧ M 2 p ≤ 2 * p ∧ 1 ≤ M 3 p ∧ M 3 p ≤ 2 * p) ∧ (M 1 p = 1 ∨ M 1 p = 2 → 1 ≤ M 2 p ∧ M 4 p < M 0 1 ∧ M 7 (M 4 p) = p ∧ M 3 p = 0) ∧ (M 1 p = 2 → M 2 p = 2 * p + 1) ∧ (M 1 p = 3 → M 4 p < M 0 2 ∧ M 2 p = 0 ∧ M 3 p = 0)) ∧
  (∀ j, j < M 0 1 → M 7 j < M 0 0 ∧ (M 1 (M 7 j) = 1 ∨ M 1 (M 7 j) = 2) ∧ M 4 (M 7 j) = j) ∧
  (∀ i, i < M 0 5 → M 5 i < 2 * M 0 0) ∧ (∀ i, i < M 0 6 → M 6 i < 2 * M 0 0)
theorem pow_le8 {n : Nat} (h : n ≤ 8) : 2 ^ n ≤ 256 := by
  have := Nat.pow_le_pow_right (n := 2) (by decide) h
  omega
theorem pow_le4 {n : Nat} (h : n ≤ 4) : 2 ^ n ≤ 16 := by
  have := Nat.pow_le_pow_right (n := 2) (by decide) h
  omega
