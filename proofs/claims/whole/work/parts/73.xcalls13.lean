/-! the class: assume, fair -/
theorem xs_put6 {σ : Sg} {o a n : Nat} {x : Int32} {Q : Int32 → Sg → Prop} (h6 : isK wX o 6 = true) (ha : wR wX o 0 = a) (hA : isA wX a = true) (hK : isK wX a 20 = true) (hN2 : wN wX a ≤ 80) (hao : a ≠ o) (h1 : gI σ o 1 = nI n) (hn : n ≤ wN wX a) (hq1 : n = wN wX a → Q (nI 0) σ) (hq2 : n < wN wX a → Q (nI 1) (sI (sI σ a n x) o 1 (nI (n + 1)))) : wp_X6_put o x σ Q := by
  unfold wp_X6_put
  rw [h6, ha, hA, hK, h1]
  simp only [onB, cond_true]
  simp +decide (disch := omega) only [lit, lit_neg, i_add, i_mul, i_sub, i_div, i_and, i_or, i_shl1, Nat.one_mul, i_shr1, i_bit1, i_lt, i_eq, i_in, i_cl, i_0, gI_sI, bi_0n, bi_1n, nz_bi, nz_0n, nz_1n, vn_0n, vn_1n, vn_bi, and_true, true_and, not_false_eq_true, not_true_eq_false, false_implies, true_implies, forall_const, implies_true, ite_true, ite_false, Bool.not_eq_true, Bool.not_eq_false, and_false, false_and, if_true, if_false, if_pos, true_or, or_true, false_or, or_false, h1]
  refine ⟨by omega, fun _ => ⟨fun z => ⟨z, ?_⟩, fun z => hq1 (by omega)⟩⟩
  have := hq2 z
  rw [if_neg (fun q => hao q.1.symm), i_add]
  exact this
