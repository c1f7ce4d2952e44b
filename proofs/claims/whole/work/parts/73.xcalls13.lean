/-! the class: assume, fair -/
theorem xs_put6 {σ : Sg} {o a n : Nat} {x : Int32} {Q : Int32 → Sg → Prop} (h6 : isK wX o 6 = true) (ha : wR wX o 0 = a) (hA : isA wX a = true) (hK : isK wX a 20 = true) (hN2 : wN wX a ≤ 80) (hao : a ≠ o) (h1 : gI σ o 1 = nI n) (hn : n ≤ wN wX a) (hq1 : n = wN wX a → Q (nI 0) σ) (hq2 : n < wN wX a → Q (nI 1) (sI (sI σ a n x) o 1 (nI (n + 1)))) : wp_X6_put o x σ Q := by
  unfold wp_X6_put
  rw [h6, ha, hA, hK, h1]
  simp only [onB, cond_true]
  simp +decide (disch := omega) only [lit, lit_neg, i_add, i_mul, i_sub, i_div, i_and, i_or, i_shl1, Nat.one_mul, i_shr1, i_bit1, i_lt, i_eq, i_in, i_cl, i_0, gI_sI, bi_0n, bi_1n, nz_bi, nz_0n, nz_1n, vn_0n, vn_1n, vn_bi, and_true, true_and, not_false_eq_true, not_true_eq_false, false_implies, true_implies, forall_const, implies_true, ite_true, ite_false, Bool.not_eq_true, Bool.not_eq_false, and_false, false_and, if_true, if_false, if_pos, true_or, or_true, false_or, or_false, h1]
  refine ⟨by omega, fun _ => ⟨fun z => ⟨z, ?_⟩, fun z => hq1 (by omega)⟩⟩
  have := hq2 z
  rw [if_neg (fun q => hao q.1.symm), i_add]
  exact this
theorem xp_assume {M : Ms} {σ : Sg} {x : Int32} {Q : Int32 → Sg → Prop} (hW : WF M) (h : RX M σ) (hq : XDoes (op_assume x M) Q) : wp_X9_assume x σ Q := by
  have has := hW.1.2.2.2.1
  obtain ⟨o1, o2, o3, o4⟩ := h.ot
  have hm := h.1
  have hwf := (WF_assume hW x).1
  unfold op_assume at hq hwf
  unfold wp_X9_assume wp_X9_addSign
  refine xs_hasSign hW.1 hm ?_
  simp +decide (disch := omega) only [lit, lit_neg, i_add, i_mul, i_sub, i_div, i_and, i_or, i_shl1, Nat.one_mul, i_shr1, i_bit1, i_lt, i_eq, i_in, i_cl, i_0, gI_sI, bi_0n, bi_1n, nz_bi, nz_0n, nz_1n, vn_0n, vn_1n, vn_bi, and_true, true_and, not_false_eq_true, not_true_eq_false, false_implies, true_implies, forall_const, implies_true, ite_true, ite_false, Bool.not_eq_true, Bool.not_eq_false, and_false, false_and, if_true, if_false, if_pos, true_or, or_true, false_or, or_false, neg_lit]
  refine ⟨fun z => ?_, fun z => ?_⟩
  · rw [if_pos z] at hq
    exact xs_refuse hW.1 h (by decide) (by decide) hq
  · rw [if_neg (by rw [z]; decide)] at hq hwf
    obtain ⟨j, hj, hj2, rfl⟩ := inb_t z
    rw [cn_nI hj2] at hq hwf
    rw [show isK wX 9 6 = true by decide]
    simp only [onB, cond_true]
    refine xs_put6 (o := 9) (a := 10) (n := M 0 5) (by decide) (by decide) (by decide) (by decide) (by decide) (by decide) hm.2.2.2.2.2.1 has (fun e => ?_) (fun e => ?_)
    · rw [if_pos (show M 0 5 = 4 from e)] at hq
      simp +decide (disch := omega) only [lit, lit_neg, i_add, i_mul, i_sub, i_div, i_and, i_or, i_shl1, Nat.one_mul, i_shr1, i_bit1, i_lt, i_eq, i_in, i_cl, i_0, gI_sI, bi_0n, bi_1n, nz_bi, nz_0n, nz_1n, vn_0n, vn_1n, vn_bi, and_true, true_and, not_false_eq_true, not_true_eq_false, false_implies, true_implies, forall_const, implies_true, ite_true, ite_false, Bool.not_eq_true, Bool.not_eq_false, and_false, false_and, if_true, if_false, if_pos, true_or, or_true, false_or, or_false, neg_lit]
      exact xs_refuse hW.1 h (by decide) (by decide) hq
    · have e : M 0 5 < 4 := e
      rw [if_neg (by omega)] at hq hwf
      have q : ∀ a k, ¬ (a = 5 ∧ k = M 0 5) → ¬ (a = 0 ∧ k = 5) → up (up M 5 (M 0 5) j) 0 5 (M 0 5 + 1) a k = M a k := fun a k z z2 => by rw [up_ne _ _ _ _ _ _ (by omega), up_ne _ _ _ _ _ _ (by omega)]
      have hb : But2 (fun a k => a = 9 ∨ a = 10) (fun _ => False) σ (sI (sI σ 10 (M 0 5) (nI j)) 9 1 (nI (M 0 5 + 1))) := (But2.rf.up (Or.inr rfl)).up (Or.inl rfl)
      have q5 : up (up M 5 (M 0 5) j) 0 5 (M 0 5 + 1) 0 5 = M 0 5 + 1 := rfl
      refine ⟨fun w => absurd w (by decide), fun _ => ?_⟩
      refine xs_anew (X := up (up M 5 (M 0 5) j) 0 5 (M 0 5 + 1)) hwf ?_ (XRo_ag (M := M) (q _ _ (by omega) (by omega)) (fun k => q _ _ (by omega) (by omega)) (h.2.2.2.2.2.1.kept hb (fun a k _ _ => by omega))) (fun b b1 b2 => by rw [hb.1 _ _ (by omega), q _ _ (by omega) (by omega)]; exact o2 b b1 b2) (by rw [hb.1 _ _ (by omega), q _ _ (by omega) (by omega)]; exact o3) (by rw [hb.1 _ _ (by omega), q _ _ (by omega) (by omega)]; exact o4) (fun τ hτ hk => ?_)
      · obtain ⟨h1, h2, h3, h4, h5, h6, h7, h8, h9, h10, h11⟩ := hm
        refine ⟨by rw [hb.1 _ _ (by omega), q _ _ (by omega) (by omega)]; exact h1, by rw [hb.1 _ _ (by omega), q _ _ (by omega) (by omega)]; exact h2, by rw [hb.1 _ _ (by omega), q _ _ (by omega) (by omega)]; exact h3, by rw [hb.1 _ _ (by omega), q _ _ (by omega) (by omega)]; exact h4, by rw [hb.1 _ _ (by omega), q _ _ (by omega) (by omega)]; exact h5, by rw [q5]; simp [gI_sI], by rw [hb.1 _ _ (by omega), q _ _ (by omega) (by omega)]; exact h7, fun p hp => ?_, fun k hj => ?_, fun k hi => ?_, fun k hi => ?_⟩
        · rw [q _ _ (by omega) (by omega)] at hp
          rw [hb.1 _ _ (by omega), hb.1 _ _ (by omega), hb.1 _ _ (by omega), hb.1 _ _ (by omega), q _ _ (by omega) (by omega), q _ _ (by omega) (by omega), q _ _ (by omega) (by omega), q _ _ (by omega) (by omega)]; exact h8 p hp
        · rw [q _ _ (by omega) (by omega)] at hj
          rw [hb.1 _ _ (by omega), q _ _ (by omega) (by omega)]; exact h9 k hj
        · rw [q5] at hi
          simp only [gI_sI, up_at]
          by_cases e : k = M 0 5
          · subst e; simp
          · simp [e]; exact h10 k (by omega)
        · rw [q _ _ (by omega) (by omega)] at hi
          rw [hb.1 _ _ (by omega), q _ _ (by omega) (by omega)]; exact h11 k hi
      · rw [hk 9 1 (by simp [inXm])]
        simp only [gI_sI, and_self, if_true]
        exact hq τ hτ
