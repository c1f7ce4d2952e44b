/-! the reference: its machine -/
def RMm (M : Ms) (σ : Sg) : Prop := gI σ 0 5 = nI (M 0 0) ∧ gI σ 0 6 = nI (M 0 1) ∧ gI σ 0 7 = nI (M 0 2) ∧ gI σ 0 8 = nI (M 0 3) ∧ gI σ 0 9 = e1 (M 0 4) ∧ gI σ 0 10 = nI (M 0 5) ∧ gI σ 0 11 = nI (M 0 6) ∧
  (∀ p, p < M 0 0 → gI σ 1 p = nI (M 1 p) ∧ gI σ 2 p = e1 (M 2 p) ∧ gI σ 3 p = e1 (M 3 p) ∧ (M 1 p ≠ 0 → gI σ 4 p = nI (M 4 p))) ∧
  (∀ i, i < M 0 5 → gI σ 6 i = nI (M 5 i)) ∧ (∀ i, i < M 0 6 → gI σ 7 i = nI (M 6 i))
/-- only what stands in S may differ -/
def But (S : Nat → Nat → Prop) (σ τ : Sg) : Prop := ∀ a k, ¬ S a k → gI τ a k = gI σ a k
theorem But.rf {S : Nat → Nat → Prop} {σ : Sg} : But S σ σ := fun _ _ _ => rfl
theorem But.tr {S : Nat → Nat → Prop} {σ τ υ : Sg} (h : But S σ τ) (h2 : But S τ υ) : But S σ υ := fun a k hs => (h2 a k hs).trans (h a k hs)
theorem But.up {S : Nat → Nat → Prop} {σ τ : Sg} (h : But S σ τ) {a k : Nat} {v : Int32} (hs : S a k) : But S σ (sI τ a k v) := fun b j hb => by
  rw [gI_sI, if_neg (fun q => hb (by rw [q.1, q.2]; exact hs))]
  exact h b j hb
theorem But.mono {S T : Nat → Nat → Prop} {σ τ : Sg} (h : But S σ τ) (hst : ∀ a k, S a k → T a k) : But T σ τ := fun a k hs => h a k (fun q => hs (hst a k q))
/-- the places of the machine's description -/
def inMm (a k : Nat) : Prop := (a = 0 ∧ 5 ≤ k ∧ k ≤ 11) ∨ (1 ≤ a ∧ a ≤ 4) ∨ a = 6 ∨ a = 7
theorem RMm.kept {S : Nat → Nat → Prop} {M : Ms} {σ τ : Sg} (h : RMm M σ) (hb : But S σ τ) (hs : ∀ a k, inMm a k → ¬ S a k) : RMm M τ := by
  obtain ⟨r5, r6, r7, r8, r9, r10, r11, rp, ra, rf⟩ := h
  have q : ∀ a k, inMm a k → gI τ a k = gI σ a k := fun a k hi => hb a k (hs a k hi)
  refine ⟨by rw [q 0 5 (by simp [inMm])]; exact r5, by rw [q 0 6 (by simp [inMm])]; exact r6, by rw [q 0 7 (by simp [inMm])]; exact r7, by rw [q 0 8 (by simp [inMm])]; exact r8, by rw [q 0 9 (by simp [inMm])]; exact r9, by rw [q 0 10 (by simp [inMm])]; exact r10, by rw [q 0 11 (by simp [inMm])]; exact r11, fun p hp => ?_, fun i hi => ?_, fun i hi => ?_⟩
  · rw [q 1 p (by simp [inMm]), q 2 p (by simp [inMm]), q 3 p (by simp [inMm]), q 4 p (by simp [inMm])]
    exact rp p hp
  · rw [q 6 i (by simp [inMm])]; exact ra i hi
  · rw [q 7 i (by simp [inMm])]; exact rf i hi
theorem br_b {b : Bool} {P : Int32 → Prop} (h : P (bi b)) : (b = true → P (nI 1)) ∧ (b = false → P (nI 0)) := ⟨fun e => by rw [e] at h; exact h, fun e => by rw [e] at h; exact h⟩
theorem br_nb {b : Bool} {P : Int32 → Prop} (h : P (bi (!b))) : (b = true → P (nI 0)) ∧ (b = false → P (nI 1)) := ⟨fun e => by rw [e] at h; exact h, fun e => by rw [e] at h; exact h⟩
theorem br2 {b : Bool} {P : Bool → Prop} (h : P b) : (b = true → P true) ∧ (b = false → P false) := ⟨fun e => by rw [e] at h; exact h, fun e => by rw [e] at h; exact h⟩
theorem sp_is {σ : Sg} {g n : Nat} {W : Nat → Bool} {Q : Int32 → Prop} (hn : n ≤ 80) (hv : ∀ p, p < n → gI σ 5 p = bi (W p)) (hg : g < 2 * n) (hq : Q (bi (sgv W g))) : wp_X10_is (nI g) σ Q := by
  unfold wp_X10_is
  simp +decide (disch := omega) only [lit, lit_neg, i_add, i_mul, i_sub, i_div, i_and, i_or, i_shl1, Nat.one_mul, i_shr1, i_bit1, i_lt, i_eq, i_in, i_cl, i_0, gI_sI, bi_0n, bi_1n, nz_bi, nz_0n, nz_1n, vn_0n, vn_1n, vn_bi, and_true, true_and, not_false_eq_true, not_true_eq_false, false_implies, true_implies, forall_const, implies_true, ite_true, ite_false, Bool.not_eq_true, Bool.not_eq_false, and_false, false_and, if_true, if_false, if_pos, true_or, or_true, false_or, or_false, hv (g / 2) (by omega)]
  refine ⟨by omega, fun h => ?_, fun h => ?_⟩
  · have e : sgv W g = !W (g / 2) := by simp [sgv, show g % 2 = 1 by omega]
    rw [e] at hq
    exact br_nb hq
  · have e : sgv W g = W (g / 2) := by simp [sgv, show g % 2 = 0 by omega]
    rw [e] at hq
    exact (br_b hq).symm
theorem sp_show {M : Ms} {σ : Sg} {s c : Nat} {Q : Sg → Prop} (hW : WFm M) (hR : RMm M σ) (hs : s < 2 ^ M 0 1) (hc : c < 2 ^ M 0 2)
    (hq : ∀ τ, But (fun a _ => a = 5) σ τ → (∀ p, p < M 0 0 → gI τ 5 p = bi (val M s c p)) → Q τ) : wp_X10_show (nI s) (nI c) σ Q := by
  obtain ⟨w0, w1, w2, -, -, -, -, -, wp, -⟩ := hW
  have h256 := pow_le8 w1
  have h16 := pow_le4 w2
  intro L2 h2
  refine up_loopS (I := fun i τ => But (fun a _ => a = 5) σ τ ∧ ∀ p, p < i → gI τ 5 p = bi (VV M s c i p)) (M 0 0) ?_ ?_ 0 σ (Nat.zero_le _) ⟨But.rf, fun p hp => absurd hp (by omega)⟩
  · intro i τ hi ⟨hb, hv⟩ k
    obtain ⟨r5, -, -, -, -, -, -, rp, -, -⟩ := hR.kept hb (fun a k hi => by simp [inMm] at hi; omega)
    obtain ⟨r1, r2, r3, r4⟩ := rp i hi
    obtain ⟨g0, -, -, g1, g2, -, g4⟩ := wp i hi
    have st : ∀ b, vcomp M s c (VV M s c i) i = b → L2 (nI (i + 1)) (sI τ 5 i (bi b)) := fun b e => k _ ⟨hb.up rfl, fun p hp => by
      rw [gI_sI]
      show _ = bi (if p = i then vcomp M s c (VV M s c i) i else VV M s c i p)
      by_cases q : p = i
      · rw [if_pos ⟨rfl, q⟩, if_pos q, e]
      · rw [if_neg (fun z => q z.2), if_neg q]
        exact hv p (by omega)⟩
    have h80 : i < 80 := by omega
    apply h2
    by_cases h3 : M 1 i = 3
    · have := (g4 h3).1
      simp +decide (disch := omega) only [lit, lit_neg, i_add, i_mul, i_sub, i_div, i_and, i_or, i_shl1, Nat.one_mul, i_shr1, i_bit1, i_lt, i_eq, i_in, i_cl, i_0, gI_sI, bi_0n, bi_1n, nz_bi, nz_0n, nz_1n, vn_0n, vn_1n, vn_bi, and_true, true_and, not_false_eq_true, not_true_eq_false, false_implies, true_implies, forall_const, implies_true, ite_true, ite_false, Bool.not_eq_true, Bool.not_eq_false, and_false, false_and, if_true, if_false, if_pos, true_or, or_true, false_or, or_false, hi, r5, r1, h3, r4 (by omega), h80]
      exact br2 (P := fun b => L2 (nI (i + 1)) (sI τ 5 i (bi b))) (st _ (by simp [vcomp, h3]))
    by_cases h0 : M 1 i = 0
    · obtain ⟨q1, q2, q3, q4⟩ := g1 h0
      simp +decide (disch := omega) only [lit, lit_neg, i_add, i_mul, i_sub, i_div, i_and, i_or, i_shl1, Nat.one_mul, i_shr1, i_bit1, i_lt, i_eq, i_in, i_cl, i_0, gI_sI, bi_0n, bi_1n, nz_bi, nz_0n, nz_1n, vn_0n, vn_1n, vn_bi, and_true, true_and, not_false_eq_true, not_true_eq_false, false_implies, true_implies, forall_const, implies_true, ite_true, ite_false, Bool.not_eq_true, Bool.not_eq_false, and_false, false_and, if_true, if_false, if_pos, true_or, or_true, false_or, or_false, hi, r5, r1, h0, h80, r2, r3, e1_p q1, e1_p q3]
      refine sp_is (n := i) (by omega) hv (by omega) ?_
      simp +decide (disch := omega) only [lit, lit_neg, i_add, i_mul, i_sub, i_div, i_and, i_or, i_shl1, Nat.one_mul, i_shr1, i_bit1, i_lt, i_eq, i_in, i_cl, i_0, gI_sI, bi_0n, bi_1n, nz_bi, nz_0n, nz_1n, vn_0n, vn_1n, vn_bi, and_true, true_and, not_false_eq_true, not_true_eq_false, false_implies, true_implies, forall_const, implies_true, ite_true, ite_false, Bool.not_eq_true, Bool.not_eq_false, and_false, false_and, if_true, if_false, if_pos, true_or, or_true, false_or, or_false]
      refine ⟨fun e => st _ (by simp [vcomp, h0, e]), fun e => sp_is (n := i) (by omega) hv (by omega) ?_⟩
      simp +decide (disch := omega) only [lit, lit_neg, i_add, i_mul, i_sub, i_div, i_and, i_or, i_shl1, Nat.one_mul, i_shr1, i_bit1, i_lt, i_eq, i_in, i_cl, i_0, gI_sI, bi_0n, bi_1n, nz_bi, nz_0n, nz_1n, vn_0n, vn_1n, vn_bi, and_true, true_and, not_false_eq_true, not_true_eq_false, false_implies, true_implies, forall_const, implies_true, ite_true, ite_false, Bool.not_eq_true, Bool.not_eq_false, and_false, false_and, if_true, if_false, if_pos, true_or, or_true, false_or, or_false]
      exact ⟨fun e2 => st _ (by simp [vcomp, h0, e, e2]), fun e2 => st _ (by simp [vcomp, h0, e, e2])⟩
    · have := (g2 (by omega)).2.1
      simp +decide (disch := omega) only [lit, lit_neg, i_add, i_mul, i_sub, i_div, i_and, i_or, i_shl1, Nat.one_mul, i_shr1, i_bit1, i_lt, i_eq, i_in, i_cl, i_0, gI_sI, bi_0n, bi_1n, nz_bi, nz_0n, nz_1n, vn_0n, vn_1n, vn_bi, and_true, true_and, not_false_eq_true, not_true_eq_false, false_implies, true_implies, forall_const, implies_true, ite_true, ite_false, Bool.not_eq_true, Bool.not_eq_false, and_false, false_and, if_true, if_false, if_pos, true_or, or_true, false_or, or_false, hi, r5, r1, h3, h0, r4 h0, h80]
      exact br2 (P := fun b => L2 (nI (i + 1)) (sI τ 5 i (bi b))) (st _ (by simp [vcomp, h3, h0]))
  · intro τ ⟨hb, hv⟩
    obtain ⟨r5, -⟩ := hR.kept hb (fun a k hi => by simp [inMm] at hi; omega)
    apply h2
    simp +decide (disch := omega) only [lit, lit_neg, i_add, i_mul, i_sub, i_div, i_and, i_or, i_shl1, Nat.one_mul, i_shr1, i_bit1, i_lt, i_eq, i_in, i_cl, i_0, gI_sI, bi_0n, bi_1n, nz_bi, nz_0n, nz_1n, vn_0n, vn_1n, vn_bi, and_true, true_and, not_false_eq_true, not_true_eq_false, false_implies, true_implies, forall_const, implies_true, ite_true, ite_false, Bool.not_eq_true, Bool.not_eq_false, and_false, false_and, if_true, if_false, if_pos, true_or, or_true, false_or, or_false, r5, Nat.lt_irrefl]
    exact hq τ hb hv
/-! what a shown state holds -/
def Shown (M : Ms) (σ : Sg) (s c : Nat) : Prop := ∀ p, p < M 0 0 → gI σ 5 p = bi (val M s c p)
theorem sp_isg {M : Ms} {σ : Sg} {s c g : Nat} {Q : Int32 → Prop} (hW : WFm M) (hv : Shown M σ s c) (hg : g < 2 * M 0 0) (hq : Q (bi (sgv (val M s c) g))) : wp_X10_is (nI g) σ Q := sp_is hW.1 hv hg hq
theorem sp_isRight {M : Ms} {σ : Sg} {s c : Nat} {Q : Int32 → Prop} (hW : WFm M) (hR : RMm M σ) (hv : Shown M σ s c) (hq : Q (bi (rightB M s c))) : wp_X10_isRight σ Q := by
  have hW' := hW
  obtain ⟨w0, w1, w2, w3, -, -, -, -, wp, -, wa, -⟩ := hW
  obtain ⟨r5, -, -, -, -, r10, -, rp, ra, -⟩ := hR
  intro L4 h4
  refine up_loopS (L := fun i x => L4 x i) (I := fun i x => x = bi (allN i (fun i => sgv (val M s c) (M 5 i)))) (M 0 5) ?_ ?_ 0 _ (Nat.zero_le _) rfl
  · intro i x hi hx k
    subst hx
    apply h4
    have hg := wa i hi
    simp +decide (disch := omega) only [lit, lit_neg, i_add, i_mul, i_sub, i_div, i_and, i_or, i_shl1, Nat.one_mul, i_shr1, i_bit1, i_lt, i_eq, i_in, i_cl, i_0, gI_sI, bi_0n, bi_1n, nz_bi, nz_0n, nz_1n, vn_0n, vn_1n, vn_bi, and_true, true_and, not_false_eq_true, not_true_eq_false, false_implies, true_implies, forall_const, implies_true, ite_true, ite_false, Bool.not_eq_true, Bool.not_eq_false, and_false, false_and, if_true, if_false, if_pos, true_or, or_true, false_or, or_false, hi, r10, ra i hi, show i < 4 by omega]
    refine ⟨fun e => k _ (by simp [allN, e, bi, nI_0]), fun e => sp_isg hW' hv hg ?_⟩
    simp +decide (disch := omega) only [lit, lit_neg, i_add, i_mul, i_sub, i_div, i_and, i_or, i_shl1, Nat.one_mul, i_shr1, i_bit1, i_lt, i_eq, i_in, i_cl, i_0, gI_sI, bi_0n, bi_1n, nz_bi, nz_0n, nz_1n, vn_0n, vn_1n, vn_bi, and_true, true_and, not_false_eq_true, not_true_eq_false, false_implies, true_implies, forall_const, implies_true, ite_true, ite_false, Bool.not_eq_true, Bool.not_eq_false, and_false, false_and, if_true, if_false, if_pos, true_or, or_true, false_or, or_false]
    exact ⟨fun e2 => k _ (by simp [allN, e, e2, bi, nI_0]), fun e2 => k _ (by simp [allN, e, e2]; rfl)⟩
  · intro x hx
    subst hx
    apply h4
    simp +decide (disch := omega) only [lit, lit_neg, i_add, i_mul, i_sub, i_div, i_and, i_or, i_shl1, Nat.one_mul, i_shr1, i_bit1, i_lt, i_eq, i_in, i_cl, i_0, gI_sI, bi_0n, bi_1n, nz_bi, nz_0n, nz_1n, vn_0n, vn_1n, vn_bi, and_true, true_and, not_false_eq_true, not_true_eq_false, false_implies, true_implies, forall_const, implies_true, ite_true, ite_false, Bool.not_eq_true, Bool.not_eq_false, and_false, false_and, if_true, if_false, if_pos, true_or, or_true, false_or, or_false, r10, Nat.lt_irrefl]
    exact hq
theorem sp_states {M : Ms} {σ : Sg} {Q : Int32 → Prop} (hW : WFm M) (hR : RMm M σ) (hq : Q (nI (2 ^ M 0 1))) : wp_X10_states σ Q := by
  have := hW.2.1
  unfold wp_X10_states
  simp +decide (disch := omega) only [lit, lit_neg, i_add, i_mul, i_sub, i_div, i_and, i_or, i_shl1, Nat.one_mul, i_shr1, i_bit1, i_lt, i_eq, i_in, i_cl, i_0, gI_sI, bi_0n, bi_1n, nz_bi, nz_0n, nz_1n, vn_0n, vn_1n, vn_bi, and_true, true_and, not_false_eq_true, not_true_eq_false, false_implies, true_implies, forall_const, implies_true, ite_true, ite_false, Bool.not_eq_true, Bool.not_eq_false, and_false, false_and, if_true, if_false, if_pos, true_or, or_true, false_or, or_false, hR.2.1, i_1shl1]
  exact hq
theorem sp_ways {M : Ms} {σ : Sg} {Q : Int32 → Prop} (hW : WFm M) (hR : RMm M σ) (hq : Q (nI (2 ^ M 0 2))) : wp_X10_ways σ Q := by
  have := hW.2.2.1
  unfold wp_X10_ways
  simp +decide (disch := omega) only [lit, lit_neg, i_add, i_mul, i_sub, i_div, i_and, i_or, i_shl1, Nat.one_mul, i_shr1, i_bit1, i_lt, i_eq, i_in, i_cl, i_0, gI_sI, bi_0n, bi_1n, nz_bi, nz_0n, nz_1n, vn_0n, vn_1n, vn_bi, and_true, true_and, not_false_eq_true, not_true_eq_false, false_implies, true_implies, forall_const, implies_true, ite_true, ite_false, Bool.not_eq_true, Bool.not_eq_false, and_false, false_and, if_true, if_false, if_pos, true_or, or_true, false_or, or_false, hR.2.2.1, i_1shl1]
  exact hq
