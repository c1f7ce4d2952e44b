/-! the class: at, the way -/
theorem xp_at {M : Ms} {σ : Sg} {x y w : Int32} {Q : Int32 → Sg → Prop} (hW : WFm M) (h : RX M σ) (hq : XDoes (op_at x y w M) Q) : wp_X9_at x y w σ Q := by
  have h16 := pow_le4 hW.2.2.1
  unfold op_at at hq
  refine xs_hasState hW h.1 ?_
  simp +decide (disch := omega) only [lit, lit_neg, i_add, i_mul, i_sub, i_div, i_and, i_or, i_shl1, Nat.one_mul, i_shr1, i_bit1, i_lt, i_eq, i_in, i_cl, i_0, gI_sI, bi_0n, bi_1n, nz_bi, nz_0n, nz_1n, vn_0n, vn_1n, vn_bi, and_true, true_and, not_false_eq_true, not_true_eq_false, false_implies, true_implies, forall_const, implies_true, ite_true, ite_false, Bool.not_eq_true, Bool.not_eq_false, and_false, false_and, if_true, if_false, if_pos, true_or, or_true, false_or, or_false, neg_lit]
  refine ⟨fun z => ?_, fun z => xs_hasChoices hW h.1 ?_⟩
  · rw [if_pos (Or.inl z)] at hq
    exact xs_refuse hW h (by decide) (by decide) hq
  · simp +decide (disch := omega) only [lit, lit_neg, i_add, i_mul, i_sub, i_div, i_and, i_or, i_shl1, Nat.one_mul, i_shr1, i_bit1, i_lt, i_eq, i_in, i_cl, i_0, gI_sI, bi_0n, bi_1n, nz_bi, nz_0n, nz_1n, vn_0n, vn_1n, vn_bi, and_true, true_and, not_false_eq_true, not_true_eq_false, false_implies, true_implies, forall_const, implies_true, ite_true, ite_false, Bool.not_eq_true, Bool.not_eq_false, and_false, false_and, if_true, if_false, if_pos, true_or, or_true, false_or, or_false, neg_lit]
    refine ⟨fun z2 => ?_, fun z2 => ?_⟩
    · rw [if_pos (Or.inr z2)] at hq
      exact xs_refuse hW h (by decide) (by decide) hq
    · rw [if_neg (by simp [z, z2]), in3] at hq
      obtain ⟨i, hi, hi2, rfl⟩ := inb_t z
      obtain ⟨j, hj, hj2, rfl⟩ := inb_t z2
      rw [cn_nI hi2, cn_nI hj2] at hq
      refine xs_evaluate hW h.1 hi (fun τ hb he => ?_)
      have h' := h.ev hW hb
      have hbl := bits_lt65 (f := rightB M i) h16
      have hbb := bits_lt65 (f := badB M i) h16
      refine ⟨fun y0 => xs_isRight hW h'.1 he hj ?_, fun y0 => ⟨fun y1 => xs_right hW h'.1 he ?_, fun y1 => ⟨fun y2 => xs_badLanes hW h'.1 he ?_, fun y2 => ?_⟩⟩⟩
      · rw [decide_eq_true (show w = 0 from y0), if_neg (by simp), if_pos (show w = 0 from y0)] at hq
        unfold toN at hq
        rw [bi_0n]
        refine ⟨fun q => ?_, fun q => xs_after hW h'.1 he hj ?_⟩
        · rw [if_neg (by rw [q]; decide)] at hq
          exact hq τ h'
        · rw [if_pos (by simpa using q), e1_s] at hq
          exact hq τ h'
      · rw [decide_eq_true (show w = 1 from y1), if_neg (by simp), if_neg (show ¬ w = 0 from y0), if_pos (show w = 1 from y1)] at hq
        simp +decide (disch := omega) only [lit, lit_neg, i_add, i_mul, i_sub, i_div, i_and, i_or, i_shl1, Nat.one_mul, i_shr1, i_bit1, i_lt, i_eq, i_in, i_cl, i_0, gI_sI, bi_0n, bi_1n, nz_bi, nz_0n, nz_1n, vn_0n, vn_1n, vn_bi, and_true, true_and, not_false_eq_true, not_true_eq_false, false_implies, true_implies, forall_const, implies_true, ite_true, ite_false, Bool.not_eq_true, Bool.not_eq_false, and_false, false_and, if_true, if_false, if_pos, true_or, or_true, false_or, or_false, show bitsN (2 ^ M 0 2) (rightB M i) < 2147483648 by omega, bitsN_bit, hj, decide_true, Bool.true_and]
        exact hq τ h'
      · rw [decide_eq_true (show w = 2 from y2), if_neg (by simp), if_neg (show ¬ w = 0 from y0), if_neg (show ¬ w = 1 from y1)] at hq
        unfold bdN
        simp +decide (disch := omega) only [lit, lit_neg, i_add, i_mul, i_sub, i_div, i_and, i_or, i_shl1, Nat.one_mul, i_shr1, i_bit1, i_lt, i_eq, i_in, i_cl, i_0, gI_sI, bi_0n, bi_1n, nz_bi, nz_0n, nz_1n, vn_0n, vn_1n, vn_bi, and_true, true_and, not_false_eq_true, not_true_eq_false, false_implies, true_implies, forall_const, implies_true, ite_true, ite_false, Bool.not_eq_true, Bool.not_eq_false, and_false, false_and, if_true, if_false, if_pos, true_or, or_true, false_or, or_false, show bitsN (2 ^ M 0 2) (badB M i) < 2147483648 by omega, bitsN_bit, hj, decide_true, Bool.true_and]
        exact hq τ h'
      · rw [decide_eq_false (show ¬ w = 0 from y0), decide_eq_false (show ¬ w = 1 from y1), decide_eq_false (show ¬ w = 2 from y2), if_pos (by simp)] at hq
        exact xs_refuse hW h' (by decide) (by decide) hq
theorem xs_hasWay {M : Ms} {σ : Sg} {Q : Int32 → Prop} (hP : WFp M) (h : XPr M σ) (hq : Q (bi (decide (M 0 9 = 2)))) : wp_X4_hasWay σ Q := by
  have h3 := hP.2.1
  unfold wp_X4_hasWay
  rw [h.2.1]
  simp +decide (disch := omega) only [lit, lit_neg, i_add, i_mul, i_sub, i_div, i_and, i_or, i_shl1, Nat.one_mul, i_shr1, i_bit1, i_lt, i_eq, i_in, i_cl, i_0, gI_sI, bi_0n, bi_1n, nz_bi, nz_0n, nz_1n, vn_0n, vn_1n, vn_bi, and_true, true_and, not_false_eq_true, not_true_eq_false, false_implies, true_implies, forall_const, implies_true, ite_true, ite_false, Bool.not_eq_true, Bool.not_eq_false, and_false, false_and, if_true, if_false, if_pos, true_or, or_true, false_or, or_false]
  exact ⟨fun z => by rw [decide_eq_true z] at hq; exact hq, fun z => by rw [decide_eq_false z] at hq; exact hq⟩
theorem ntr_le {M : Ms} (hP : WFp M) : M 0 11 ≤ 24 := by
  rcases Nat.eq_zero_or_pos (M 0 11) with z | z
  · omega
  · have := (hP.2.2.2.1 (M 0 11 - 1) (by omega)).2
    have := hP.1
    omega
theorem xs_waySteps {M : Ms} {σ : Sg} {Q : Int32 → Prop} (hP : WFp M) (h : XPr M σ) (hw : M 0 9 = 2) (hq : Q (nI (wayN M - 1))) : wp_X4_waySteps σ Q := by
  have hn := ntr_le hP
  unfold wp_X4_waySteps
  unfold wayN at hq
  rw [if_pos hw] at hq
  rw [h.1]
  rcases Nat.eq_zero_or_pos (M 0 11) with z | z
  · rw [z] at hq ⊢
    exact hq
  · rw [if_neg (by omega)] at hq
    simp +decide (disch := omega) only [lit, lit_neg, i_add, i_mul, i_sub, i_div, i_and, i_or, i_shl1, Nat.one_mul, i_shr1, i_bit1, i_lt, i_eq, i_in, i_cl, i_0, gI_sI, bi_0n, bi_1n, nz_bi, nz_0n, nz_1n, vn_0n, vn_1n, vn_bi, and_true, true_and, not_false_eq_true, not_true_eq_false, false_implies, true_implies, forall_const, implies_true, ite_true, ite_false, Bool.not_eq_true, Bool.not_eq_false, and_false, false_and, if_true, if_false, if_pos, true_or, or_true, false_or, or_false]
    rw [if_neg (by omega)]
    exact hq
theorem xs_stateOfWay {M : Ms} {σ : Sg} {i : Nat} {Q : Int32 → Prop} (hP : WFp M) (h : RX M σ) (hw : M 0 9 = 2) (hi : i < wayN M) (hq : Q (nI (waySt M i))) : wp_X4_stateOfWay (nI i) σ Q := by
  have hn := ntr_le hP
  unfold wp_X4_stateOfWay
  unfold wayN at hi
  rw [if_pos hw] at hi
  unfold waySt at hq
  rw [h.2.2.2.1.1, h.1.2.2.2.2.1]
  simp +decide (disch := omega) only [lit, lit_neg, i_add, i_mul, i_sub, i_div, i_and, i_or, i_shl1, Nat.one_mul, i_shr1, i_bit1, i_lt, i_eq, i_in, i_cl, i_0, gI_sI, bi_0n, bi_1n, nz_bi, nz_0n, nz_1n, vn_0n, vn_1n, vn_bi, and_true, true_and, not_false_eq_true, not_true_eq_false, false_implies, true_implies, forall_const, implies_true, ite_true, ite_false, Bool.not_eq_true, Bool.not_eq_false, and_false, false_and, if_true, if_false, if_pos, true_or, or_true, false_or, or_false]
  refine ⟨fun z => by rw [if_pos z] at hq; exact hq, fun z => ?_⟩
  rw [if_neg z] at hi hq
  simp +decide (disch := omega) only [lit, lit_neg, i_add, i_mul, i_sub, i_div, i_and, i_or, i_shl1, Nat.one_mul, i_shr1, i_bit1, i_lt, i_eq, i_in, i_cl, i_0, gI_sI, bi_0n, bi_1n, nz_bi, nz_0n, nz_1n, vn_0n, vn_1n, vn_bi, and_true, true_and, not_false_eq_true, not_true_eq_false, false_implies, true_implies, forall_const, implies_true, ite_true, ite_false, Bool.not_eq_true, Bool.not_eq_false, and_false, false_and, if_true, if_false, if_pos, true_or, or_true, false_or, or_false]
  refine xs_trouble hP h.2.2.2.1 (by omega) ?_
  rw [if_pos (by omega)]
  exact hq
theorem xp_way {M : Ms} {σ : Sg} {Q : Int32 → Sg → Prop} (hW : WFm M) (hP : WFp M) (h : RX M σ) (hq : XDoes (op_way M) Q) : wp_X9_way σ Q := by
  unfold op_way at hq
  refine xs_hasWay hP h.2.2.2.1 ?_
  simp +decide (disch := omega) only [lit, lit_neg, i_add, i_mul, i_sub, i_div, i_and, i_or, i_shl1, Nat.one_mul, i_shr1, i_bit1, i_lt, i_eq, i_in, i_cl, i_0, gI_sI, bi_0n, bi_1n, nz_bi, nz_0n, nz_1n, vn_0n, vn_1n, vn_bi, and_true, true_and, not_false_eq_true, not_true_eq_false, false_implies, true_implies, forall_const, implies_true, ite_true, ite_false, Bool.not_eq_true, Bool.not_eq_false, and_false, false_and, if_true, if_false, if_pos, true_or, or_true, false_or, or_false, neg_lit]
  refine ⟨fun z => ?_, fun z => ?_⟩
  · rw [if_pos (wayN_0 (of_decide_eq_false z))] at hq
    exact xs_refuse hW h (by decide) (by decide) hq
  · have z := of_decide_eq_true z
    rw [if_neg (by unfold wayN; rw [if_pos z]; split <;> omega)] at hq
    exact xs_waySteps hP h.2.2.2.1 z (hq σ h)
theorem xp_wayState {M : Ms} {σ : Sg} {x : Int32} {Q : Int32 → Sg → Prop} (hW : WFm M) (hP : WFp M) (h : RX M σ) (hq : XDoes (op_wayState x M) Q) : wp_X9_wayState x σ Q := by
  have hle := wayN_le hP
  unfold op_wayState at hq
  refine xs_hasWay hP h.2.2.2.1 ?_
  rw [bi_0, show (-2 : Int32) = -(nI 2) from rfl, show (-3 : Int32) = -(nI 3) from rfl]
  refine ⟨fun z => ?_, fun z => ?_⟩
  · rw [if_pos (wayN_0 (of_decide_eq_false z))] at hq
    exact xs_refuse hW h (by decide) (by decide) hq
  · have z : M 0 9 = 2 := by
      by_cases e : M 0 9 = 2
      · exact e
      · exact absurd (decide_eq_false e) z
    have hw : wayN M ≠ 0 := by unfold wayN; rw [if_pos z]; split <;> omega
    rw [if_neg hw] at hq
    refine ⟨fun z2 => ?_, fun z2 => ?_⟩
    · rw [i_0, lt0_toInt] at z2
      unfold inb at hq
      rw [if_pos (decide_eq_false (by omega))] at hq
      exact xs_refuse hW h (by decide) (by decide) hq
    · obtain ⟨j, hj, rfl⟩ := i_dec z2
      rw [inb_n hj, cn_nI hj] at hq
      refine xs_waySteps hP h.2.2.2.1 z ?_
      rw [i_lt (by omega) hj]
      refine ⟨fun z3 => ?_, fun z3 => ?_⟩
      · rw [if_pos (decide_eq_false (by omega))] at hq
        exact xs_refuse hW h (by decide) (by decide) hq
      · rw [decide_eq_true (show j < wayN M by omega), if_neg (by decide)] at hq
        exact xs_stateOfWay hP h z (by omega) (hq σ h)
theorem xp_wayChoice {M : Ms} {σ : Sg} {x : Int32} {Q : Int32 → Sg → Prop} (hW : WFm M) (hP : WFp M) (h : RX M σ) (hq : XDoes (op_wayChoice x M) Q) : wp_X9_wayChoice x σ Q := by
  have hle := wayN_le hP
  have h256 := pow_le8 hW.2.1
  unfold op_wayChoice at hq
  refine xs_hasWay hP h.2.2.2.1 ?_
  rw [bi_0, show (-2 : Int32) = -(nI 2) from rfl, show (-3 : Int32) = -(nI 3) from rfl]
  refine ⟨fun z => ?_, fun z => ?_⟩
  · rw [if_pos (wayN_0 (of_decide_eq_false z))] at hq
    exact xs_refuse hW h (by decide) (by decide) hq
  · have z : M 0 9 = 2 := by
      by_cases e : M 0 9 = 2
      · exact e
      · exact absurd (decide_eq_false e) z
    have hw : wayN M ≠ 0 := by unfold wayN; rw [if_pos z]; split <;> omega
    rw [if_neg hw] at hq
    refine ⟨fun z2 => ?_, fun z2 => ?_⟩
    · rw [i_0, lt0_toInt] at z2
      unfold inb at hq
      rw [if_pos (decide_eq_false (by omega))] at hq
      exact xs_refuse hW h (by decide) (by decide) hq
    · obtain ⟨j, hj, rfl⟩ := i_dec z2
      rw [inb_n hj, cn_nI hj] at hq
      refine xs_waySteps hP h.2.2.2.1 z ?_
      rw [i_lt (by omega) hj]
      refine ⟨fun z3 => ?_, fun z3 => ?_⟩
      · rw [if_pos (decide_eq_false (by omega))] at hq
        exact xs_refuse hW h (by decide) (by decide) hq
      · rw [decide_eq_true (show j < wayN M by omega), if_neg (by decide)] at hq
        have hs := waySt_lt hW hP j (by omega)
        refine xs_stateOfWay hP h z (by omega) (xs_evaluate hW h.1 hs (fun τ hb he => ?_))
        have h' := h.ev hW hb
        refine xs_waySteps hP h'.2.2.2.1 z ?_
        rw [i_lt (by omega) (by omega)]
        refine ⟨fun z4 => ?_, fun z4 => ?_⟩
        · have hs2 := waySt_lt hW hP (j + 1) (by omega)
          rw [show (1 : Int32) = nI 1 from rfl, i_add]
          refine xs_stateOfWay hP h' z (by omega) (xs_leastTo hW h'.1 he (by omega) ?_)
          have := hq τ h'
          unfold wayCh at this
          rw [lst_congr (g := fun c => rightB M (waySt M j) c && decide (nxtN M (waySt M j) c = waySt M (j + 1))) (fun c _ => by
            show (if j = wayN M - 1 then _ else _) = _
            rw [if_neg (by omega)]
            unfold toN
            cases hr : rightB M (waySt M j) c
            · rw [if_neg (by decide), decide_eq_false (by omega), Bool.false_and]
            · rw [if_pos rfl, Bool.true_and]
              exact decide_eq_decide.mpr (by omega))] at this
          exact this
        · refine xs_leastBad hW h'.1 he ?_
          have := hq τ h'
          unfold wayCh at this
          rw [lst_congr (g := badB M (waySt M j)) (fun c _ => by
            show (if j = wayN M - 1 then _ else _) = _
            rw [if_pos (by omega)])] at this
          exact this
