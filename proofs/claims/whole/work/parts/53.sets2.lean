/-! sets of states: cubes, and sets with one another -/
theorem ss_empty {σ : Sg} {o : Nat} {Q : Sg → Prop} (ho : IsSS o) (hq : ∀ τ, ButL (fun a => a = o + 1) σ τ → SS τ o (fun _ => false) → Q τ) : wp_X7_becomeEmpty o σ Q := by
  unfold wp_X7_becomeEmpty
  rw [ho.1]
  exact ss_first ho (by decide : 0 ≤ 256) (fun τ hb hs => hq τ hb (SS_congr hs (fun s _ => by simp)))
theorem ss_only {σ : Sg} {o s : Nat} {Q : Sg → Prop} (ho : IsSS o) (hs : s < 256) (hq : ∀ τ, ButL (fun a => a = o + 1) σ τ → SS τ o (fun t => decide (t = s)) → Q τ) : wp_X7_becomeOnly o (nI s) σ Q := by
  unfold wp_X7_becomeOnly
  rw [ho.1]
  refine ss_first ho (by decide : 0 ≤ 256) (fun τ hb h => ?_)
  refine ss_put ho h hs (fun υ hb2 h2 => hq υ (hb.tr hb2) (SS_congr h2 (fun t _ => by simp)))
theorem ones_b : ∀ b, b < 6 → ∀ i, i < 64 → lb (onesL b) i = i.testBit b := by decide +kernel
theorem test_b : ∀ w, w < 4 → ∀ b, b < 6 → ∀ i, i < 64 → (64 * w + i).testBit b = i.testBit b := by decide +kernel
theorem high_b : ∀ w, w < 4 → ∀ k, k < 2 → ∀ i, i < 64 → lb (-((nI (w >>> k)).toInt64 &&& (1 : Int64))) i = (64 * w + i).testBit (k + 6) := by decide +kernel
def inC8 (s m v b : Nat) : Bool := allN b (fun t => !m.testBit t || (s.testBit t == v.testBit t))
theorem inC8_in {s m v : Nat} (hm : m < 256) (hv : v &&& m = v) : inC8 s m v 8 = inCubeB s m v := by
  unfold inCubeB
  have e : (s &&& m = v) ↔ ∀ t, t < 8 → (!m.testBit t || (s.testBit t == v.testBit t)) = true := by
    constructor
    · intro h t _
      rw [← h, Nat.testBit_and]
      cases m.testBit t <;> simp
    · intro h
      apply nat_bits
      intro t
      rw [Nat.testBit_and]
      have h2 := congrArg (fun n => n.testBit t) hv
      simp only [Nat.testBit_and] at h2
      by_cases ht : t < 8
      · have := h t ht
        cases hmt : m.testBit t
        · rw [hmt, Bool.and_false] at h2; rw [Bool.and_false, ← h2]
        · rw [hmt] at this; simpa using this
      · have : m.testBit t = false := Nat.testBit_lt_two_pow (by have := Nat.pow_le_pow_right (n := 2) (by decide) (show 8 ≤ t by omega); omega)
        rw [this, Bool.and_false] at h2
        rw [this, Bool.and_false, ← h2]
  have h2 : inC8 s m v 8 = true ↔ (s &&& m = v) := by rw [e]; exact allN_iff
  by_cases q : s &&& m = v
  · rw [decide_eq_true q]; exact h2.mpr q
  · rw [decide_eq_false q]
    cases h : inC8 s m v 8
    · rfl
    · exact absurd (h2.mp h) q
theorem ss_word {σ : Sg} {m v w : Nat} {Q : Int64 → Prop} (hm : m < 256) (hv : v &&& m = v) (hw : w < 4) (hq : ∀ x, (∀ i, i < 64 → lb x i = inCubeB (64 * w + i) m v) → Q x) : wp_X7_wordOfCube (nI m) (nI v) (nI w) σ Q := by
  have hv2 : v < 256 := and_eq_le hv hm
  intro L7 h7
  refine up_loopS (L := fun b x => L7 x b) (I := fun b x => ∀ i, i < 64 → lb x i = inC8 (64 * w + i) m v b) 8 ?_ ?_ 0 _ (by decide) (fun i hi => lb_m1 hi)
  · intro b x hb hx nx
    apply h7
    have go : ∀ y, (∀ i, i < 64 → lb y i = (lb x i && (!m.testBit b || ((64 * w + i).testBit b == v.testBit b)))) → L7 y (nI (b + 1)) := fun y hy => nx y (fun i hi => by
      rw [hy i hi, hx i hi]; rfl)
    by_cases h6 : b < 6
    · simp +decide (disch := omega) only [lit, lit_neg, i_add, i_mul, i_sub, i_div, i_and, i_or, i_shl1, Nat.one_mul, i_shr1, i_bit1, i_lt, i_eq, i_in, i_cl, i_0, gI_sI, bi_0n, bi_1n, nz_bi, nz_0n, nz_1n, vn_0n, vn_1n, vn_bi, and_true, true_and, not_false_eq_true, not_true_eq_false, false_implies, true_implies, forall_const, implies_true, ite_true, ite_false, Bool.not_eq_true, Bool.not_eq_false, and_false, false_and, if_true, if_false, if_pos, true_or, or_true, false_or, or_false, hb, h6, show m < 2147483648 by omega, show v < 2147483648 by omega, show b < 32 by omega]
      refine ⟨fun hmb => ⟨fun hvb => go _ (fun i hi => ?_), fun hvb => go _ (fun i hi => ?_)⟩, fun hmb => go _ (fun i hi => ?_)⟩
      · rw [lb_and, ones_b b h6 i hi, test_b w hw b h6 i hi, hmb, hvb]; simp
      · rw [lb_and, lb_not _ hi, ones_b b h6 i hi, test_b w hw b h6 i hi, hmb, hvb]; simp
      · rw [hmb]; simp
    · simp +decide (disch := omega) only [lit, lit_neg, i_add, i_mul, i_sub, i_div, i_and, i_or, i_shl1, Nat.one_mul, i_shr1, i_bit1, i_lt, i_eq, i_in, i_cl, i_0, gI_sI, bi_0n, bi_1n, nz_bi, nz_0n, nz_1n, vn_0n, vn_1n, vn_bi, and_true, true_and, not_false_eq_true, not_true_eq_false, false_implies, true_implies, forall_const, implies_true, ite_true, ite_false, Bool.not_eq_true, Bool.not_eq_false, and_false, false_and, if_true, if_false, if_pos, true_or, or_true, false_or, or_false, hb, h6, show m < 2147483648 by omega, show v < 2147483648 by omega, show b < 32 by omega, show w < 2147483648 by omega, show b - 6 < 32 by omega]
      have hh : ∀ i, i < 64 → lb (-((nI (w >>> (b - 6))).toInt64 &&& (1 : Int64))) i = (64 * w + i).testBit b := fun i hi => by
        rw [high_b w hw (b - 6) (by omega) i hi, show b - 6 + 6 = b by omega]
      refine ⟨fun hmb => ⟨fun hvb => go _ (fun i hi => ?_), fun hvb => go _ (fun i hi => ?_)⟩, fun hmb => go _ (fun i hi => ?_)⟩
      · rw [lb_and, hh i hi, hmb, hvb]; simp
      · rw [lb_and, lb_not _ hi, hh i hi, hmb, hvb]; simp
      · rw [hmb]; simp
  · intro x hx
    apply h7
    simp +decide (disch := omega) only [lit, lit_neg, i_add, i_mul, i_sub, i_div, i_and, i_or, i_shl1, Nat.one_mul, i_shr1, i_bit1, i_lt, i_eq, i_in, i_cl, i_0, gI_sI, bi_0n, bi_1n, nz_bi, nz_0n, nz_1n, vn_0n, vn_1n, vn_bi, and_true, true_and, not_false_eq_true, not_true_eq_false, false_implies, true_implies, forall_const, implies_true, ite_true, ite_false, Bool.not_eq_true, Bool.not_eq_false, and_false, false_and, if_true, if_false, if_pos, true_or, or_true, false_or, or_false, show ¬ 8 < 8 by omega]
    exact hq x (fun i hi => by rw [hx i hi, inC8_in hm hv])
def cb (m v : Nat) : Nat := 256 * m + v
theorem ss_maskOf {σ : Sg} {m v : Nat} {Q : Int32 → Prop} (hm : m < 256) (hv : v < 256) (hq : Q (nI m)) : wp_X9_maskOf (nI (cb m v)) σ Q := by
  have h8 : nI (cb m v) >>> ((8 : Int32) &&& 31) = nI m := by
    rw [show (8 : Int32) = nI 8 from rfl, i_shr (by unfold cb; omega) (by decide), Nat.shiftRight_eq_div_pow]
    congr 1
    unfold cb
    omega
  unfold wp_X9_maskOf
  rw [h8]
  exact hq
theorem ss_valuesOf {σ : Sg} {m v : Nat} {Q : Int32 → Prop} (hv : v < 256) (hq : Q (nI v)) : wp_X9_valuesOf (nI (cb m v)) σ Q := by
  unfold wp_X9_valuesOf
  have h : cb m v &&& 255 = v := by
    rw [show 255 = 2 ^ 8 - 1 from rfl, Nat.and_two_pow_sub_one_eq_mod]
    unfold cb
    omega
  have h2 : nI (cb m v) &&& nI 255 = nI v := by rw [i_and, h]
  first
    | exact h2 ▸ hq
    | (simp only [lit] ; rw [h2] ; exact hq)
