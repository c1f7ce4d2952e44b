/-! the class: gate, next -/
theorem xs_isFull {M : Ms} {σ : Sg} {Q : Int32 → Prop} (hW : WFm M) (hm : XMm M σ) (hq : Q (bi (decide (M 0 0 = 80)))) : wp_X3_isFull σ Q := by
  have h80 := hW.1
  unfold wp_X3_isFull
  rw [hm.2.1]
  simp +decide (disch := omega) only [lit, lit_neg, i_add, i_mul, i_sub, i_div, i_and, i_or, i_shl1, Nat.one_mul, i_shr1, i_bit1, i_lt, i_eq, i_in, i_cl, i_0, gI_sI, bi_0n, bi_1n, nz_bi, nz_0n, nz_1n, vn_0n, vn_1n, vn_bi, and_true, true_and, not_false_eq_true, not_true_eq_false, false_implies, true_implies, forall_const, implies_true, ite_true, ite_false, Bool.not_eq_true, Bool.not_eq_false, and_false, false_and, if_true, if_false, if_pos, true_or, or_true, false_or, or_false]
  refine ⟨fun z => ?_, fun z => ?_⟩
  · rw [decide_eq_false (by omega)] at hq; exact hq
  · rw [decide_eq_true (by omega)] at hq; exact hq
theorem XMm_add {M : Ms} {σ : Sg} {kd x y : Nat} (hm : XMm M σ) (hpl : kd ≠ 0 → gI σ 5 (M 0 0) = nI (M 4 (M 0 0))) : XMm (addM M kd x y) (sI (sI (sI (sI σ 2 (M 0 0) (nI kd)) 3 (M 0 0) (e1 x)) 4 (M 0 0) (e1 y)) 1 10 (nI (M 0 0 + 1))) := by
  obtain ⟨h1, h2, h3, h4, h5, h6, h7, h8, h9, h10, h11⟩ := hm
  have ek : ∀ a k, a = 0 ∧ k ≠ 0 ∨ 4 ≤ a → addM M kd x y a k = M a k := fun a k z => by
    unfold addM
    rw [up_ne _ _ _ _ _ _ (by omega), up_ne _ _ _ _ _ _ (by omega), up_ne _ _ _ _ _ _ (by omega), up_ne _ _ _ _ _ _ (by omega)]
  have e00 : addM M kd x y 0 0 = M 0 0 + 1 := rfl
  have e1' : ∀ p, addM M kd x y 1 p = if p = M 0 0 then kd else M 1 p := fun p => by simp [addM, up_at]
  have e2' : ∀ p, addM M kd x y 2 p = if p = M 0 0 then x else M 2 p := fun p => by simp [addM, up_at]
  have e3' : ∀ p, addM M kd x y 3 p = if p = M 0 0 then y else M 3 p := fun p => by simp [addM, up_at]
  refine ⟨by rw [ek 0 4 (by omega)]; simpa [gI_sI] using h1, by rw [e00]; simp [gI_sI], by rw [ek 0 1 (by omega)]; simpa [gI_sI] using h3, by rw [ek 0 2 (by omega)]; simpa [gI_sI] using h4, by rw [ek 0 3 (by omega)]; simpa [gI_sI] using h5, by rw [ek 0 5 (by omega)]; simpa [gI_sI] using h6, by rw [ek 0 6 (by omega)]; simpa [gI_sI] using h7, fun p hp => ?_, fun j hj => ?_, fun i hi => ?_, fun i hi => ?_⟩
  · rw [e00] at hp
    rw [e1', e2', e3', ek 4 p (by omega)]
    simp only [gI_sI]
    by_cases e : p = M 0 0
    · subst e; simp; exact hpl
    · simp [e]; exact h8 p (by omega)
  · rw [ek 0 1 (by omega)] at hj
    rw [ek 7 j (by omega)]
    simpa [gI_sI] using h9 j hj
  · rw [ek 0 5 (by omega)] at hi
    rw [ek 5 i (by omega)]
    simpa [gI_sI] using h10 i hi
  · rw [ek 0 6 (by omega)] at hi
    rw [ek 6 i (by omega)]
    simpa [gI_sI] using h11 i hi
