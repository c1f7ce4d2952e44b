/-! frames, cubes, the proof: in plain words over the state -/
def andn (a k : Nat) : Nat := a ^^^ (a &&& k)
theorem andn_bit (a k j : Nat) : (andn a k).testBit j = (a.testBit j && !k.testBit j) := by
  unfold andn
  rw [Nat.testBit_xor, Nat.testBit_and]
  cases a.testBit j <;> cases k.testBit j <;> rfl
theorem andn_lt {a k n : Nat} (h : a < 2 ^ n) : andn a k < 2 ^ n := Nat.xor_lt_two_pow h (Nat.lt_of_le_of_lt Nat.and_le_left h)
theorem i_andn (a k : Nat) : nI a &&& (nI k ^^^ e1 0) = nI (andn a k) := by
  have h : nI k ^^^ e1 0 = ~~~ nI k := by
    rw [e1_0]
    apply i_ext
    rw [Int32.toBitVec_xor, Int32.toBitVec_not]
    show (nI k).toBitVec ^^^ BitVec.allOnes 32 = _
    rw [BitVec.xor_allOnes]
  rw [h]
  apply i_ext
  rw [Int32.toBitVec_and, Int32.toBitVec_not, i_bv, i_bv, i_bv]
  apply BitVec.eq_of_getLsbD_eq
  intro i hi
  rw [BitVec.getLsbD_and, BitVec.getLsbD_not, BitVec.getLsbD_ofNat, BitVec.getLsbD_ofNat, BitVec.getLsbD_ofNat, andn_bit]
  simp [hi]
def inCubeB (s m v : Nat) : Bool := decide (s &&& m = v)
def inFrB (M : Ms) (k s : Nat) : Bool := if k = 0 then decide (s = M 0 3) else !anyN (M 9 k) (fun i => inCubeB s (M (100 + k) i) (M (200 + k) i))
def ldIntoB (M : Ms) (s m v : Nat) : Bool := anyN (2 ^ M 0 2) (fun c => rightB M s c && inCubeB (nxtN M s c) m v)
/-- the least, one more -/
def askN (M : Ms) (k m v : Nat) : Nat := lst (2 ^ M 0 1) (fun s => !inCubeB s m v && (inFrB M k s && ldIntoB M s m v))
def widN (M : Ms) (k m v : Nat) : Nat → Nat
  | 0 => m
  | b + 1 => if andn (widN M k m v b) (2 ^ b) ≠ widN M k m v b ∧ inCubeB (M 0 3) (andn (widN M k m v b) (2 ^ b)) (v &&& andn (widN M k m v b) (2 ^ b)) = false ∧ askN M (k - 1) (andn (widN M k m v b) (2 ^ b)) (v &&& andn (widN M k m v b) (2 ^ b)) = 0 then andn (widN M k m v b) (2 ^ b) else widN M k m v b
def meetM (M : Ms) (s k : Nat) : Ms := up (up (up M 10 (M 0 11) s) 11 (M 0 11) k) 0 11 (M 0 11 + 1)
def keepM (M : Ms) (k m v : Nat) : Ms := up (up (up M (100 + k) (M 9 k) m) (200 + k) (M 9 k) v) 9 k (M 9 k + 1)
def keepTo (M : Ms) (m v : Nat) : Nat → Ms
  | 0 => M
  | i + 1 => keepM (keepTo M m v i) (i + 1) m v
def fullN (M : Ms) : Nat := 2 ^ M 0 1 - 1
def lookM (M0 : Ms) : Ms :=
  let M := up M0 0 10 (M0 0 10 + 1)
  let s := M 10 (M 0 11 - 1)
  let k := M 11 (M 0 11 - 1)
  if s = M 0 3 then up M 0 9 2
  else if inFrB M k s = false then up M 0 11 (M 0 11 - 1)
  else if askN M (k - 1) (fullN M) s ≠ 0 then meetM M (askN M (k - 1) (fullN M) s - 1) (k - 1)
  else if allN k (fun i => decide (M 9 (i + 1) < 200)) = true then up (keepTo M (widN M k (fullN M) s (M 0 1)) (s &&& widN M k (fullN M) s (M 0 1)) k) 0 11 (M 0 11 - 1)
  else up M 0 9 3
def hasB (M : Ms) (k m v : Nat) : Bool := anyN (M 9 k) (fun i => decide (M (100 + k) i = m) && decide (M (200 + k) i = v))
def shutB (M : Ms) (k m v : Nat) : Bool := !anyN (2 ^ M 0 1) (fun s => inFrB M k s && ldIntoB M s m v)
def pushM (M : Ms) (k : Nat) : Nat → Ms
  | 0 => M
  | i + 1 => let P := pushM M k i
    if P 0 9 ≠ 0 then P
    else if hasB P (k + 1) (P (100 + k) i) (P (200 + k) i) = true ∨ shutB P k (P (100 + k) i) (P (200 + k) i) = false then P
    else if P 9 (k + 1) = 200 then up P 0 9 3
    else keepM P (k + 1) (P (100 + k) i) (P (200 + k) i)
def pushTo (M : Ms) : Nat → Ms
  | 0 => M
  | i + 1 => let P := pushTo M i
    if P 0 9 ≠ 0 then P else pushM P (i + 1) (P 9 (i + 1))
def hasAllB (M : Ms) (k : Nat) : Bool := allN (M 9 k) (fun i => hasB M (k + 1) (M (100 + k) i) (M (200 + k) i))
def wallTo (M : Ms) : Nat → Ms
  | 0 => M
  | i + 1 => let P := wallTo M i
    if P 0 9 ≠ 0 then P else if hasAllB P (i + 1) = true then up (up P 0 12 (i + 1)) 0 9 1 else P
def pushAllM (M : Ms) : Ms :=
  let P := wallTo (pushTo M (M 0 8)) (M 0 8)
  if P 0 9 ≠ 0 then P else if P 0 8 + 1 = 24 then up P 0 9 3 else up P 0 8 (P 0 8 + 1)
def worstN (M : Ms) : Nat := lst (2 ^ M 0 1) (fun s => inFrB M (M 0 8) s && isBadS M s)
def prvM : Nat → Nat → Ms → Ms × Nat
  | 0, _, M => (M, 0)
  | f + 1, left, M => if M 0 9 ≠ 0 then (M, M 0 9)
    else if M 0 11 = 0 then (if worstN M ≠ 0 then prvM f left (meetM M (worstN M - 1) (M 0 8)) else prvM f left (pushAllM M))
    else if left = 0 then (M, 0) else prvM f (left - 1) (lookM M)
def beginM (M : Ms) : Ms := if M 0 8 = 0 then (if isBadS M (M 0 3) = true then up (up M 0 8 1) 0 9 2 else up M 0 8 1) else M
def proveM (M : Ms) (n : Nat) : Ms × Nat := prvM (2 * n + 30) n (beginM M)
def WFc (M : Ms) (k : Nat) : Prop := M 9 k ≤ 200 ∧ ∀ i, i < M 9 k → M (100 + k) i < 2 ^ M 0 1 ∧ M (200 + k) i &&& M (100 + k) i = M (200 + k) i
def WFp (M : Ms) : Prop := M 0 8 ≤ 23 ∧ M 0 9 ≤ 3 ∧ (∀ k, k ≤ 24 → WFc M k) ∧ (∀ i, i < M 0 11 → M 10 i < 2 ^ M 0 1 ∧ M 11 i + i ≤ M 0 8) ∧ (M 0 8 = 0 → M 0 11 = 0 ∧ M 0 9 = 0) ∧ (M 0 9 = 1 → 1 ≤ M 0 12 ∧ M 0 12 ≤ 23)
def WFl (M : Ms) : Prop := M 0 13 ≤ 100 ∧ (∀ i, i < M 0 13 → M 12 i < 2 ^ M 0 1 ∧ M 13 i &&& M 12 i = M 13 i) ∧ M 0 16 ≤ 81 ∧ M 0 14 ≤ 256 ∧ M 0 15 ≤ 256
def wayN (M : Ms) : Nat := if M 0 9 = 2 then (if M 0 11 = 0 then 1 else M 0 11) else 0
def waySt (M : Ms) (i : Nat) : Nat := if M 0 11 = 0 then M 0 3 else M 10 (M 0 11 - 1 - i)
/-- the reference: the proof -/
def RPr (M : Ms) (σ : Sg) : Prop := gI σ 0 23 = nI (M 0 8) ∧ gI σ 0 24 = nI (M 0 9) ∧ gI σ 0 25 = nI (M 0 10) ∧ gI σ 0 26 = nI (M 0 11) ∧
  (∀ i, i < M 0 11 → gI σ 15 i = nI (M 10 i) ∧ gI σ 16 i = nI (M 11 i)) ∧
  (∀ k, 1 ≤ k → k ≤ 24 → gI σ 14 k = nI (M 9 k) ∧ ∀ i, i < M 9 k → gI σ 12 (200 * k + i) = nI (M (100 + k) i) ∧ gI σ 13 (200 * k + i) = nI (M (200 + k) i)) ∧
  gI σ 0 31 = (if M 0 9 = 1 then nI (M 9 (M 0 12)) else e1 0) ∧ (M 0 9 = 1 → ∀ i, i < M 9 (M 0 12) → gI σ 17 i = nI (M (100 + M 0 12) i) ∧ gI σ 18 i = nI (M (200 + M 0 12) i)) ∧
  gI σ 0 33 = nI (wayN M) ∧ (∀ i, i < wayN M → gI σ 19 i = nI (waySt M i))
/-- the reference: run, refusals, list, row -/
def RLs (M : Ms) (σ : Sg) : Prop := gI σ 0 19 = nI (M 0 7) ∧ (∀ b, 2 ≤ b → b ≤ 8 → gI σ 8 b = nI (M 8 b)) ∧ gI σ 0 39 = nI (M 0 13) ∧ (∀ i, i < M 0 13 → gI σ 23 i = nI (M 12 i) ∧ gI σ 24 i = nI (M 13 i)) ∧
  gI σ 0 40 = e1 (M 0 14) ∧ gI σ 0 41 = e1 (M 0 15) ∧ gI σ 0 46 = e1 (M 0 16) ∧ (∀ i, i + 1 < M 0 16 → gI σ 25 i = nI (M 14 i))
def TBL (M : Ms) (σ : Sg) : Prop := gI σ 0 18 = 0 ∨ (gI σ 0 18 = 1 ∧ TB M σ)
/-- places that hold no more than work -/
def offM (a k : Nat) : Prop := a = 5 ∨ (9 ≤ a ∧ a ≤ 11) ∨ (20 ≤ a ∧ a ≤ 22) ∨ a = 26 ∨ (a = 0 ∧ (k = 18 ∨ k = 42 ∨ k = 43))
theorem RPr.kept {S : Nat → Nat → Prop} {M : Ms} {σ τ : Sg} (h : RPr M σ) (hb : But S σ τ) (hs : ∀ a k, S a k → offM a k) : RPr M τ := by
  have q : ∀ a k, ¬ offM a k → gI τ a k = gI σ a k := fun a k hi => hb a k (fun z => hi (hs a k z))
  obtain ⟨h1, h2, h3, h4, h5, h6, h7, h8, h9, h10⟩ := h
  refine ⟨by rw [q 0 23 (by simp [offM])]; exact h1, by rw [q 0 24 (by simp [offM])]; exact h2, by rw [q 0 25 (by simp [offM])]; exact h3, by rw [q 0 26 (by simp [offM])]; exact h4, fun i hi => ?_, fun k k1 k2 => ⟨?_, fun i hi => ?_⟩, by rw [q 0 31 (by simp [offM])]; exact h7, fun he i hi => ?_, by rw [q 0 33 (by simp [offM])]; exact h9, fun i hi => ?_⟩
  · rw [q 15 i (by simp [offM]), q 16 i (by simp [offM])]; exact h5 i hi
  · rw [q 14 k (by simp [offM])]; exact (h6 k k1 k2).1
  · rw [q 12 _ (by simp [offM]), q 13 _ (by simp [offM])]; exact (h6 k k1 k2).2 i hi
  · rw [q 17 i (by simp [offM]), q 18 i (by simp [offM])]; exact h8 he i hi
  · rw [q 19 i (by simp [offM])]; exact h10 i hi
theorem RLs.kept {S : Nat → Nat → Prop} {M : Ms} {σ τ : Sg} (h : RLs M σ) (hb : But S σ τ) (hs : ∀ a k, S a k → offM a k) : RLs M τ := by
  have q : ∀ a k, ¬ offM a k → gI τ a k = gI σ a k := fun a k hi => hb a k (fun z => hi (hs a k z))
  obtain ⟨h1, h2, h3, h4, h5, h6, h7, h8⟩ := h
  refine ⟨by rw [q 0 19 (by simp [offM])]; exact h1, fun b b1 b2 => ?_, by rw [q 0 39 (by simp [offM])]; exact h3, fun i hi => ?_, by rw [q 0 40 (by simp [offM])]; exact h5, by rw [q 0 41 (by simp [offM])]; exact h6, by rw [q 0 46 (by simp [offM])]; exact h7, fun i hi => ?_⟩
  · rw [q 8 b (by simp [offM])]; exact h2 b b1 b2
  · rw [q 23 i (by simp [offM]), q 24 i (by simp [offM])]; exact h4 i hi
  · rw [q 25 i (by simp [offM])]; exact h8 i hi
theorem offM_mm : ∀ a k, offM a k → ∀ (_ : inMm a k), False := by
  intro a k h h2
  simp only [inMm, offM] at *
  omega
def RMc (M : Ms) (σ : Sg) : Prop := RMm M σ ∧ RPr M σ ∧ RLs M σ
theorem RMc.kept {S : Nat → Nat → Prop} {M : Ms} {σ τ : Sg} (h : RMc M σ) (hb : But S σ τ) (hs : ∀ a k, S a k → offM a k) : RMc M τ :=
  ⟨h.1.kept hb (fun a k hi z => offM_mm a k (hs a k z) hi), h.2.1.kept hb hs, h.2.2.kept hb hs⟩
theorem tabS_off : ∀ a k, tabS a k → offM a k := by
  intro a k h
  simp only [tabS, offM] at *
  omega
