/-! the class: next -/
theorem xp_next {M : Ms} {σ : Sg} {x y : Int32} {Q : Int32 → Sg → Prop} (hW : WF M) (h : RX M σ) (hq : XDoes (op_next x y M) Q) : wp_X9_next x y σ Q := by
  have h80 := hW.1.1
  obtain ⟨o1, o2, o3, o4⟩ := h.ot
  have hm := h.1
  have hwf := (WF_next hW x y).1
  unfold op_next at hq hwf
  refine xs_hasPart hW.1 hm ?_
  simp +decide (disch := omega) only [lit, lit_neg, i_add, i_mul, i_sub, i_div, i_and, i_or, i_shl1, Nat.one_mul, i_shr1, i_bit1, i_lt, i_eq, i_in, i_cl, i_0, gI_sI, bi_0n, bi_1n, nz_bi, nz_0n, nz_1n, vn_0n, vn_1n, vn_bi, and_true, true_and, not_false_eq_true, not_true_eq_false, false_implies, true_implies, forall_const, implies_true, ite_true, ite_false, Bool.not_eq_true, Bool.not_eq_false, and_false, false_and, if_true, if_false, if_pos, true_or, or_true, false_or, or_false, neg_lit]
  refine ⟨fun z => ?_, fun z => xs_hasSign hW.1 hm ?_⟩
  · rw [if_pos (Or.inl z)] at hq
    exact xs_refuse hW.1 h (by decide) (by decide) hq
  · simp +decide (disch := omega) only [lit, lit_neg, i_add, i_mul, i_sub, i_div, i_and, i_or, i_shl1, Nat.one_mul, i_shr1, i_bit1, i_lt, i_eq, i_in, i_cl, i_0, gI_sI, bi_0n, bi_1n, nz_bi, nz_0n, nz_1n, vn_0n, vn_1n, vn_bi, and_true, true_and, not_false_eq_true, not_true_eq_false, false_implies, true_implies, forall_const, implies_true, ite_true, ite_false, Bool.not_eq_true, Bool.not_eq_false, and_false, false_and, if_true, if_false, if_pos, true_or, or_true, false_or, or_false, neg_lit]
    refine ⟨fun z2 => ?_, fun z2 => ?_⟩
    · rw [if_pos (Or.inr z2)] at hq
      exact xs_refuse hW.1 h (by decide) (by decide) hq
    · rw [if_neg (by simp [z, z2])] at hq hwf
      obtain ⟨i, hi, hi2, rfl⟩ := inb_t z
      obtain ⟨j, hj, hj2, rfl⟩ := inb_t z2
      rw [cn_nI hi2, cn_nI hj2] at hq hwf
      obtain ⟨m1, m2, m3, m4⟩ := hm.2.2.2.2.2.2.2.1 i hi
      have hk3 := (hW.1.2.2.2.2.2.2.2.2.1 i hi).1
      refine xs_part hW.1 hm hi ?_
      simp +decide (disch := omega) only [lit, lit_neg, i_add, i_mul, i_sub, i_div, i_and, i_or, i_shl1, Nat.one_mul, i_shr1, i_bit1, i_lt, i_eq, i_in, i_cl, i_0, gI_sI, bi_0n, bi_1n, nz_bi, nz_0n, nz_1n, vn_0n, vn_1n, vn_bi, and_true, true_and, not_false_eq_true, not_true_eq_false, false_implies, true_implies, forall_const, implies_true, ite_true, ite_false, Bool.not_eq_true, Bool.not_eq_false, and_false, false_and, if_true, if_false, if_pos, true_or, or_true, false_or, or_false, show i < 80 by omega, m1, neg_lit]
      refine ⟨fun z3 => ?_, fun z3 => ?_⟩
      · rw [if_neg (by omega)] at hq hwf
        refine xs_part hW.1 hm hi ?_
        simp +decide (disch := omega) only [lit, lit_neg, i_add, i_mul, i_sub, i_div, i_and, i_or, i_shl1, Nat.one_mul, i_shr1, i_bit1, i_lt, i_eq, i_in, i_cl, i_0, gI_sI, bi_0n, bi_1n, nz_bi, nz_0n, nz_1n, vn_0n, vn_1n, vn_bi, and_true, true_and, not_false_eq_true, not_true_eq_false, false_implies, true_implies, forall_const, implies_true, ite_true, ite_false, Bool.not_eq_true, Bool.not_eq_false, and_false, false_and, if_true, if_false, if_pos, true_or, or_true, false_or, or_false, show i < 80 by omega, m2]
        have q : ∀ a k, ¬ (a = 2 ∧ k = i) → up M 2 i (j + 1) a k = M a k := fun a k z => up_ne _ _ _ _ _ _ z
        have hb : But2 (fun a k => a = 3 ∧ k = i) (fun _ => False) σ (sI σ 3 i (nI j)) := But2.rf.up ⟨rfl, rfl⟩
        have g : ∀ a k, ¬ (a = 3 ∧ k = i) → gI (sI σ 3 i (nI j)) a k = gI σ a k := fun a k z => by rw [gI_sI, if_neg z]
        refine xs_anew (X := up M 2 i (j + 1)) hwf ?_ (XRo_ag (M := M) (q _ _ (by omega)) (fun k => q _ _ (by omega)) (h.2.2.2.2.2.1.kept hb (fun a k _ _ => by omega))) (fun b b1 b2 => by rw [g _ _ (by omega), q _ _ (by omega)]; exact o2 b b1 b2) (by rw [g _ _ (by omega), q _ _ (by omega)]; exact o3) (by rw [g _ _ (by omega), q _ _ (by omega)]; exact o4) (fun τ hτ _ => hq τ hτ)
        obtain ⟨h1, h2, h3, h4, h5, h6, h7, h8, h9, h10, h11⟩ := hm
        refine ⟨by rw [g _ _ (by omega), q _ _ (by omega)]; exact h1, by rw [g _ _ (by omega), q _ _ (by omega)]; exact h2, by rw [g _ _ (by omega), q _ _ (by omega)]; exact h3, by rw [g _ _ (by omega), q _ _ (by omega)]; exact h4, by rw [g _ _ (by omega), q _ _ (by omega)]; exact h5, by rw [g _ _ (by omega), q _ _ (by omega)]; exact h6, by rw [g _ _ (by omega), q _ _ (by omega)]; exact h7, fun p hp => ?_, fun k hj => ?_, fun k hi => ?_, fun k hi => ?_⟩
        · rw [q _ _ (by omega)] at hp
          obtain ⟨p1, p2, p3, p4⟩ := h8 p hp
          rw [g 2 _ (by omega), g 4 _ (by omega), g 5 _ (by omega), q 1 _ (by omega), q 3 _ (by omega), q 4 _ (by omega)]
          refine ⟨p1, ?_, p3, p4⟩
          rw [gI_sI, up_at]
          by_cases e : p = i
          · rw [if_pos ⟨rfl, e⟩, if_pos ⟨rfl, e⟩, e1_s]
          · rw [if_neg (by omega), if_neg (by omega)]; exact p2
        · rw [q _ _ (by omega)] at hj
          rw [g _ _ (by omega), q _ _ (by omega)]; exact h9 k hj
        · rw [q _ _ (by omega)] at hi
          rw [g _ _ (by omega), q _ _ (by omega)]; exact h10 k hi
        · rw [q _ _ (by omega)] at hi
          rw [g _ _ (by omega), q _ _ (by omega)]; exact h11 k hi
      · rw [if_pos (by omega)] at hq
        exact xs_refuse hW.1 h (by decide) (by decide) hq
