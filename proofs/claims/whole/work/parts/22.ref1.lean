/-! the reference: its machine -/
def RMm (M : Ms) (σ : Sg) : Prop := gI σ 0 5 = nI (M 0 0) ∧ gI σ 0 6 = nI (M 0 1) ∧ gI σ 0 7 = nI (M 0 2) ∧ gI σ 0 8 = nI (M 0 3) ∧ gI σ 0 9 = e1 (M 0 4) ∧ gI σ 0 10 = nI (M 0 5) ∧ gI σ 0 11 = nI (M 0 6) ∧
  (∀ p, p < M 0 0 → gI σ 1 p = nI (M 1 p) ∧ gI σ 2 p = e1 (M 2 p) ∧ gI σ 3 p = e1 (M 3 p) ∧ (M 1 p ≠ 0 → gI σ 4 p = nI (M 4 p))) ∧
  (∀ i, i < M 0 5 → gI σ 6 i = nI (M 5 i)) ∧ (∀ i, i < M 0 6 → gI σ 7 i = nI (M 6 i))
theorem sp_is {σ : Sg} {g n : Nat} {W : Nat → Bool} {Q : Int32 → Prop} (hn : n ≤ 80) (hv : ∀ p, p < n → gI σ 5 p = bi (W p)) (hg : g < 2 * n) (hq : Q (bi (sgv W g))) : wp_X10_is (nI g) σ Q := by
  unfold wp_X10_is
  simp (disch := omega) only [lit, lit_neg, i_add, i_mul, i_sub, i_div, i_and, i_or, i_shl1, i_shr1, i_bit1, i_lt, i_eq, i_in, i_cl, i_0, gI_sI, bi_0n, bi_1n, nz_bi, nz_0n, nz_1n, vn_0n, vn_1n, vn_bi, and_true, true_and, not_false_eq_true, not_true_eq_false, false_implies, true_implies, forall_const, implies_true, ite_true, ite_false, Bool.not_eq_true, Bool.not_eq_false, Nat.not_lt, and_false, false_and, if_true, if_false, if_pos, true_or, or_true, false_or, or_false, hv (g / 2) (by omega)]
  refine ⟨by omega, ?_, ?_⟩
  · intro h
    have h2 : g % 2 = 1 := by omega
    simp only [sgv, h2] at hq
    cases hw : W (g / 2) <;> rw [hw] at hq <;> simp_all [bi]
  · intro h
    have h2 : g % 2 = 0 := by omega
    simp only [sgv, h2] at hq
    cases hw : W (g / 2) <;> rw [hw] at hq <;> simp_all [bi]
