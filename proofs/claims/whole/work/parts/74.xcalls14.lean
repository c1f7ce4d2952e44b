/-! the class: fair -/
theorem xp_fair {M : Ms} {σ : Sg} {x : Int32} {Q : Int32 → Sg → Prop} (hW : WF M) (h : RX M σ) (hq : XDoes (op_fair x M) Q) : wp_X9_fair x σ Q := by
  have has := hW.1.2.2.2.2.1
  obtain ⟨o1, o2, o3, o4⟩ := h.ot
  have hm := h.1
  have hwf := (WF_fair hW x).1
  unfold op_fair at hq hwf
  unfold wp_X9_fair wp_X9_addSign
  refine xs_hasSign hW.1 hm ?_
  simp +decide (disch := omega) only [lit, lit_neg, i_add, i_mul, i_sub, i_div, i_and, i_or, i_shl1, Nat.one_mul, i_shr1, i_bit1, i_lt, i_eq, i_in, i_cl, i_0, gI_sI, bi_0n, bi_1n, nz_bi, nz_0n, nz_1n, vn_0n, vn_1n, vn_bi, and_true, true_and, not_false_eq_true, not_true_eq_false, false_implies, true_implies, forall_const, implies_true, ite_true, ite_false, Bool.not_eq_true, Bool.not_eq_false, and_false, false_and, if_true, if_false, if_pos, true_or, or_true, false_or, or_false, neg_lit]
  refine ⟨fun z => ?_, fun z => ?_⟩
  · rw [if_pos z] at hq
    exact xs_refuse hW.1 h (by decide) (by decide) hq
  · rw [if_neg (by rw [z]; decide)] at hq hwf
    obtain ⟨j, hj, hj2, rfl⟩ := inb_t z
    rw [cn_nI hj2] at hq hwf
    rw [show isK wX 11 6 = true by decide]
    simp only [onB, cond_true]
    refine xs_put6 (o := 11) (a := 12) (n := M 0 6) (by decide) (by decide) (by decide) (by decide) (by decide) (by decide) hm.2.2.2.2.2.2.1 has (fun e => ?_) (fun e => ?_)
    · rw [if_pos (show M 0 6 = 3 from e)] at hq
      simp +decide (disch := omega) only [lit, lit_neg, i_add, i_mul, i_sub, i_div, i_and, i_or, i_shl1, Nat.one_mul, i_shr1, i_bit1, i_lt, i_eq, i_in, i_cl, i_0, gI_sI, bi_0n, bi_1n, nz_bi, nz_0n, nz_1n, vn_0n, vn_1n, vn_bi, and_true, true_and, not_false_eq_true, not_true_eq_false, false_implies, true_implies, forall_const, implies_true, ite_true, ite_false, Bool.not_eq_true, Bool.not_eq_false, and_false, false_and, if_true, if_false, if_pos, true_or, or_true, false_or, or_false, neg_lit]
      exact xs_refuse hW.1 h (by decide) (by decide) hq
    · have e : M 0 6 < 3 := e
      rw [if_neg (by omega)] at hq hwf
      have q : ∀ a k, ¬ (a = 6 ∧ k = M 0 6) → ¬ (a = 0 ∧ k = 6) → up (up M 6 (M 0 6) j) 0 6 (M 0 6 + 1) a k = M a k := fun a k z z2 => by rw [up_ne _ _ _ _ _ _ (by omega), up_ne _ _ _ _ _ _ (by omega)]
      have hb : But2 (fun a k => a = 11 ∨ a = 12) (fun _ => False) σ (sI (sI σ 12 (M 0 6) (nI j)) 11 1 (nI (M 0 6 + 1))) := (But2.rf.up (Or.inr rfl)).up (Or.inl rfl)
      have q5 : up (up M 6 (M 0 6) j) 0 6 (M 0 6 + 1) 0 6 = M 0 6 + 1 := rfl
      refine ⟨fun w => absurd w (by decide), fun _ => ?_⟩
      refine xs_anew (X := up (up M 6 (M 0 6) j) 0 6 (M 0 6 + 1)) hwf ?_ (XRo_ag (M := M) (q _ _ (by omega) (by omega)) (fun k => q _ _ (by omega) (by omega)) (h.2.2.2.2.2.1.kept hb (fun a k _ _ => by omega))) (fun b b1 b2 => by rw [hb.1 _ _ (by omega), q _ _ (by omega) (by omega)]; exact o2 b b1 b2) (by rw [hb.1 _ _ (by omega), q _ _ (by omega) (by omega)]; exact o3) (by rw [hb.1 _ _ (by omega), q _ _ (by omega) (by omega)]; exact o4) (fun τ hτ hk => ?_)
      · obtain ⟨h1, h2, h3, h4, h5, h6, h7, h8, h9, h10, h11⟩ := hm
        refine ⟨by rw [hb.1 _ _ (by omega), q _ _ (by omega) (by omega)]; exact h1, by rw [hb.1 _ _ (by omega), q _ _ (by omega) (by omega)]; exact h2, by rw [hb.1 _ _ (by omega), q _ _ (by omega) (by omega)]; exact h3, by rw [hb.1 _ _ (by omega), q _ _ (by omega) (by omega)]; exact h4, by rw [hb.1 _ _ (by omega), q _ _ (by omega) (by omega)]; exact h5, by rw [hb.1 _ _ (by omega), q _ _ (by omega) (by omega)]; exact h6, by rw [q5]; simp [gI_sI], fun p hp => ?_, fun k hj => ?_, fun k hi => ?_, fun k hi => ?_⟩
        · rw [q _ _ (by omega) (by omega)] at hp
          rw [hb.1 _ _ (by omega), hb.1 _ _ (by omega), hb.1 _ _ (by omega), hb.1 _ _ (by omega), q _ _ (by omega) (by omega), q _ _ (by omega) (by omega), q _ _ (by omega) (by omega), q _ _ (by omega) (by omega)]; exact h8 p hp
        · rw [q _ _ (by omega) (by omega)] at hj
          rw [hb.1 _ _ (by omega), q _ _ (by omega) (by omega)]; exact h9 k hj
        · rw [q _ _ (by omega) (by omega)] at hi
          rw [hb.1 _ _ (by omega), q _ _ (by omega) (by omega)]; exact h10 k hi
        · rw [q5] at hi
          simp only [gI_sI, up_at]
          by_cases e : k = M 0 6
          · subst e; simp
          · simp [e]; exact h11 k (by omega)
      · rw [hk 11 1 (by simp [inXm])]
        simp only [gI_sI, and_self, if_true]
        exact hq τ hτ
