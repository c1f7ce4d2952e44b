/-! the class: gate -/
theorem xp_gate {M : Ms} {σ : Sg} {x y : Int32} {Q : Int32 → Sg → Prop} (hW : WF M) (h : RX M σ) (hq : XDoes (op_gate x y M) Q) : wp_X9_gate x y σ Q := by
  have h80 := hW.1.1
  obtain ⟨o1, o2, o3, o4⟩ := h.ot
  have hm := h.1
  have hwf := (WF_gate hW x y).1
  unfold op_gate at hq hwf
  refine xs_hasSign hW.1 hm ?_
  simp +decide (disch := omega) only [lit, lit_neg, i_add, i_mul, i_sub, i_div, i_and, i_or, i_shl1, Nat.one_mul, i_shr1, i_bit1, i_lt, i_eq, i_in, i_cl, i_0, gI_sI, bi_0n, bi_1n, nz_bi, nz_0n, nz_1n, vn_0n, vn_1n, vn_bi, and_true, true_and, not_false_eq_true, not_true_eq_false, false_implies, true_implies, forall_const, implies_true, ite_true, ite_false, Bool.not_eq_true, Bool.not_eq_false, and_false, false_and, if_true, if_false, if_pos, true_or, or_true, false_or, or_false, neg_lit]
  refine ⟨fun z => ?_, fun z => xs_hasSign hW.1 hm ?_⟩
  · rw [if_pos (Or.inl z)] at hq
    exact xs_refuse hW.1 h (by decide) (by decide) hq
  · simp +decide (disch := omega) only [lit, lit_neg, i_add, i_mul, i_sub, i_div, i_and, i_or, i_shl1, Nat.one_mul, i_shr1, i_bit1, i_lt, i_eq, i_in, i_cl, i_0, gI_sI, bi_0n, bi_1n, nz_bi, nz_0n, nz_1n, vn_0n, vn_1n, vn_bi, and_true, true_and, not_false_eq_true, not_true_eq_false, false_implies, true_implies, forall_const, implies_true, ite_true, ite_false, Bool.not_eq_true, Bool.not_eq_false, and_false, false_and, if_true, if_false, if_pos, true_or, or_true, false_or, or_false, neg_lit]
    refine ⟨fun z2 => ?_, fun z2 => xs_isFull hW.1 hm ?_⟩
    · rw [if_pos (Or.inr z2)] at hq
      exact xs_refuse hW.1 h (by decide) (by decide) hq
    · rw [if_neg (by simp [z, z2])] at hq hwf
      obtain ⟨i, hi, hi2, rfl⟩ := inb_t z
      obtain ⟨j, hj, hj2, rfl⟩ := inb_t z2
      rw [cn_nI hi2, cn_nI hj2] at hq hwf
      simp +decide (disch := omega) only [lit, lit_neg, i_add, i_mul, i_sub, i_div, i_and, i_or, i_shl1, Nat.one_mul, i_shr1, i_bit1, i_lt, i_eq, i_in, i_cl, i_0, gI_sI, bi_0n, bi_1n, nz_bi, nz_0n, nz_1n, vn_0n, vn_1n, vn_bi, and_true, true_and, not_false_eq_true, not_true_eq_false, false_implies, true_implies, forall_const, implies_true, ite_true, ite_false, Bool.not_eq_true, Bool.not_eq_false, and_false, false_and, if_true, if_false, if_pos, true_or, or_true, false_or, or_false, neg_lit]
      refine ⟨fun z3 => ?_, fun z3 => ?_⟩
      · have z3 := of_decide_eq_false z3
        rw [if_neg z3] at hq hwf
        unfold wp_X3_addPart
        rw [hm.2.1]
        have r := XMm_add (kd := 0) (x := i + 1) (y := j + 1) hm (fun q => absurd rfl q)
        rw [e1_s, e1_s] at r
        simp +decide (disch := omega) only [lit, lit_neg, i_add, i_mul, i_sub, i_div, i_and, i_or, i_shl1, Nat.one_mul, i_shr1, i_bit1, i_lt, i_eq, i_in, i_cl, i_0, gI_sI, bi_0n, bi_1n, nz_bi, nz_0n, nz_1n, vn_0n, vn_1n, vn_bi, and_true, true_and, not_false_eq_true, not_true_eq_false, false_implies, true_implies, forall_const, implies_true, ite_true, ite_false, Bool.not_eq_true, Bool.not_eq_false, and_false, false_and, if_true, if_false, if_pos, true_or, or_true, false_or, or_false, show M 0 0 < 80 by omega, hm.2.1]
        refine ⟨by omega, fun _ => ?_⟩
        have q : ∀ a k, ¬ (a = 0 ∧ k = 0) → ¬ (1 ≤ a ∧ a ≤ 3) → addM M 0 (i + 1) (j + 1) a k = M a k := fun a k z z2 => by
          unfold addM
          rw [up_ne _ _ _ _ _ _ (by omega), up_ne _ _ _ _ _ _ (by omega), up_ne _ _ _ _ _ _ (by omega), up_ne _ _ _ _ _ _ (by omega)]
        have hb : But2 (fun a _ => 1 ≤ a ∧ a ≤ 4) (fun _ => False) σ (sI (sI (sI (sI σ 2 (M 0 0) (nI 0)) 3 (M 0 0) (nI i)) 4 (M 0 0) (nI j)) 1 10 (nI (M 0 0 + 1))) := (((But2.rf.up (by omega)).up (by omega)).up (by omega)).up (by omega)
        exact xs_anew (X := addM M 0 (i + 1) (j + 1)) hwf r (XRo_ag (M := M) (q _ _ (by omega) (by omega)) (fun k => q _ _ (by omega) (by omega)) (h.2.2.2.2.2.1.kept hb (fun a k _ _ => by omega))) (fun b b1 b2 => by rw [hb.1 _ _ (by omega), q _ _ (by omega) (by omega)]; exact o2 b b1 b2) (by rw [hb.1 _ _ (by omega), q _ _ (by omega) (by omega)]; exact o3) (by rw [hb.1 _ _ (by omega), q _ _ (by omega) (by omega)]; exact o4) (fun τ hτ _ => hq τ hτ)
      · have z3 := of_decide_eq_true z3
        rw [if_pos z3] at hq
        exact xs_refuse hW.1 h (by decide) (by decide) hq
