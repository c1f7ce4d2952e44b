/-! the class: input -/
theorem xp_input {M : Ms} {σ : Sg} {Q : Int32 → Sg → Prop} (hW : WF M) (h : RX M σ) (hq : XDoes (op_input M) Q) : wp_X9_input σ Q := by
  have h80 := hW.1.1
  have hni := hW.1.2.2.1
  obtain ⟨o1, o2, o3, o4⟩ := h.ot
  have hm := h.1
  have hwf := (WF_input hW).1
  unfold op_input at hq hwf
  refine xs_isFull hW.1 hm ?_
  rw [hm.2.2.2.1]
  simp +decide (disch := omega) only [lit, lit_neg, i_add, i_mul, i_sub, i_div, i_and, i_or, i_shl1, Nat.one_mul, i_shr1, i_bit1, i_lt, i_eq, i_in, i_cl, i_0, gI_sI, bi_0n, bi_1n, nz_bi, nz_0n, nz_1n, vn_0n, vn_1n, vn_bi, and_true, true_and, not_false_eq_true, not_true_eq_false, false_implies, true_implies, forall_const, implies_true, ite_true, ite_false, Bool.not_eq_true, Bool.not_eq_false, and_false, false_and, if_true, if_false, if_pos, true_or, or_true, false_or, or_false, neg_lit]
  refine ⟨fun z => ⟨fun z2 => ?_, fun z2 => ?_⟩, fun z => ?_⟩
  · have z := of_decide_eq_false z
    rw [if_neg (by omega)] at hq hwf
    unfold wp_X3_addInput wp_X3_addPart
    rw [hm.2.1]
    have q : ∀ a k, ¬ (a = 0 ∧ k = 2) → ¬ (a = 4 ∧ k = M 0 0) → inpM M a k = M a k := fun a k z z2 => by
      unfold inpM
      rw [up_ne _ _ _ _ _ _ (by omega), up_ne _ _ _ _ _ _ (by omega)]
    have b0 : inpM M 0 0 = M 0 0 := q 0 0 (by omega) (by omega)
    have b4 : inpM M 4 (M 0 0) = M 0 2 := by simp [inpM, up_at]
    have b2 : inpM M 0 2 = M 0 2 + 1 := rfl
    have hm1 : XMm (inpM M) (sI (sI σ 5 (M 0 0) (nI (M 0 2))) 1 12 (nI (M 0 2 + 1))) := by
      obtain ⟨h1, h2, h3, h4, h5, h6, h7, h8, h9, h10, h11⟩ := hm
      have g : ∀ a k, ¬ (a = 5 ∧ k = M 0 0) → ¬ (a = 1 ∧ k = 12) → gI (sI (sI σ 5 (M 0 0) (nI (M 0 2))) 1 12 (nI (M 0 2 + 1))) a k = gI σ a k := fun a k z z2 => by rw [gI_sI, if_neg z2, gI_sI, if_neg z]
      refine ⟨by rw [g _ _ (by omega) (by omega), q _ _ (by omega) (by omega)]; exact h1, by rw [g _ _ (by omega) (by omega), q _ _ (by omega) (by omega)]; exact h2, by rw [g _ _ (by omega) (by omega), q _ _ (by omega) (by omega)]; exact h3, by rw [b2]; simp [gI_sI], by rw [g _ _ (by omega) (by omega), q _ _ (by omega) (by omega)]; exact h5, by rw [g _ _ (by omega) (by omega), q _ _ (by omega) (by omega)]; exact h6, by rw [g _ _ (by omega) (by omega), q _ _ (by omega) (by omega)]; exact h7, fun p hp => ?_, fun j hj => ?_, fun i hi => ?_, fun i hi => ?_⟩
      · rw [b0] at hp
        rw [g _ _ (by omega) (by omega), g _ _ (by omega) (by omega), g _ _ (by omega) (by omega), g _ _ (by omega) (by omega), q _ _ (by omega) (by omega), q _ _ (by omega) (by omega), q _ _ (by omega) (by omega), q _ _ (by omega) (by omega)]; exact h8 p hp
      · rw [q _ _ (by omega) (by omega)] at hj
        rw [g _ _ (by omega) (by omega), q _ _ (by omega) (by omega)]; exact h9 j hj
      · rw [q _ _ (by omega) (by omega)] at hi
        rw [g _ _ (by omega) (by omega), q _ _ (by omega) (by omega)]; exact h10 i hi
      · rw [q _ _ (by omega) (by omega)] at hi
        rw [g _ _ (by omega) (by omega), q _ _ (by omega) (by omega)]; exact h11 i hi
    have hm2 := XMm_add (kd := 3) (x := 0) (y := 0) hm1 (fun _ => by rw [b0, b4]; simp [gI_sI])
    rw [b0] at hm2
    unfold wp_X3_hasPart
    simp +decide (disch := omega) only [lit, lit_neg, i_add, i_mul, i_sub, i_div, i_and, i_or, i_shl1, Nat.one_mul, i_shr1, i_bit1, i_lt, i_eq, i_in, i_cl, i_0, gI_sI, bi_0n, bi_1n, nz_bi, nz_0n, nz_1n, vn_0n, vn_1n, vn_bi, and_true, true_and, not_false_eq_true, not_true_eq_false, false_implies, true_implies, forall_const, implies_true, ite_true, ite_false, Bool.not_eq_true, Bool.not_eq_false, and_false, false_and, if_true, if_false, if_pos, true_or, or_true, false_or, or_false, show M 0 0 < 80 by omega, hm.2.1, show M 0 0 < M 0 0 + 1 by omega]
    refine ⟨by omega, fun _ => ?_⟩
    refine ⟨by omega, fun _ => ?_⟩
    rw [hm.2.2.2.1, i_add]
    have qa : ∀ a k, ¬ (a = 0 ∧ (k = 0 ∨ k = 2)) → ¬ (1 ≤ a ∧ a ≤ 4) → addM (inpM M) 3 0 0 a k = M a k := fun a k z z2 => by
      unfold addM
      rw [up_ne _ _ _ _ _ _ (by omega), up_ne _ _ _ _ _ _ (by omega), up_ne _ _ _ _ _ _ (by omega), up_ne _ _ _ _ _ _ (by omega), q _ _ (by omega) (by omega)]
    have hb : But2 (fun a _ => 1 ≤ a ∧ a ≤ 5) (fun _ => False) σ (sI (sI (sI (sI (sI (sI σ 2 (M 0 0) (nI 3)) 3 (M 0 0) (e1 0)) 4 (M 0 0) (e1 0)) 1 10 (nI (M 0 0 + 1))) 5 (M 0 0) (nI (M 0 2))) 1 12 (nI (M 0 2 + 1))) := (((((But2.rf.up (by omega)).up (by omega)).up (by omega)).up (by omega)).up (by omega)).up (by omega)
    refine xs_anew (X := addM (inpM M) 3 0 0) hwf (hm2.kept (S := fun _ _ => False) (fun a k _ => ?_) (fun _ _ _ z => z)) (XRo_ag (M := M) (qa _ _ (by omega) (by omega)) (fun k => qa _ _ (by omega) (by omega)) (h.2.2.2.2.2.1.kept hb (fun a k _ _ => by omega))) (fun b b1 b2 => by rw [hb.1 _ _ (by omega), qa _ _ (by omega) (by omega)]; exact o2 b b1 b2) (by rw [hb.1 _ _ (by omega), qa _ _ (by omega) (by omega)]; exact o3) (by rw [hb.1 _ _ (by omega), qa _ _ (by omega) (by omega)]; exact o4) (fun τ hτ _ => hq τ hτ)
    simp only [gI_sI]
    repeat' split
    all_goals first | rfl | omega
  · rw [if_pos (by omega)] at hq
    exact xs_refuse hW.1 h (by decide) (by decide) hq
  · have z := of_decide_eq_true z
    rw [if_pos (Or.inl z)] at hq
    exact xs_refuse hW.1 h (by decide) (by decide) hq
